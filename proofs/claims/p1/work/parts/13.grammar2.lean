theorem dX2_copy_0 : decode cX2_copy 0 = .ok (.aload_n 0, 1) := by decide +kernel
theorem dX2_copy_1 : decode cX2_copy 1 = .ok (.aload_n 1, 1) := by decide +kernel
theorem dX2_copy_2 : decode cX2_copy 2 = .ok (.getfield 9, 3) := by decide +kernel
theorem dX2_copy_5 : decode cX2_copy 5 = .ok (.putfield 9, 3) := by decide +kernel
theorem dX2_copy_8 : decode cX2_copy 8 = .ok (.aload_n 0, 1) := by decide +kernel
theorem dX2_copy_9 : decode cX2_copy 9 = .ok (.aload_n 1, 1) := by decide +kernel
theorem dX2_copy_10 : decode cX2_copy 10 = .ok (.getfield 15, 3) := by decide +kernel
theorem dX2_copy_13 : decode cX2_copy 13 = .ok (.putfield 15, 3) := by decide +kernel
theorem dX2_copy_16 : decode cX2_copy 16 = .ok (.aload_n 0, 1) := by decide +kernel
theorem dX2_copy_17 : decode cX2_copy 17 = .ok (.aload_n 1, 1) := by decide +kernel
theorem dX2_copy_18 : decode cX2_copy 18 = .ok (.getfield 18, 3) := by decide +kernel
theorem dX2_copy_21 : decode cX2_copy 21 = .ok (.putfield 18, 3) := by decide +kernel
theorem dX2_copy_24 : decode cX2_copy 24 = .ok (.aload_n 0, 1) := by decide +kernel
theorem dX2_copy_25 : decode cX2_copy 25 = .ok (.aload_n 1, 1) := by decide +kernel
theorem dX2_copy_26 : decode cX2_copy 26 = .ok (.getfield 21, 3) := by decide +kernel
theorem dX2_copy_29 : decode cX2_copy 29 = .ok (.putfield 21, 3) := by decide +kernel
theorem dX2_copy_32 : decode cX2_copy 32 = .ok (.aload_n 0, 1) := by decide +kernel
theorem dX2_copy_33 : decode cX2_copy 33 = .ok (.aload_n 1, 1) := by decide +kernel
theorem dX2_copy_34 : decode cX2_copy 34 = .ok (.getfield 24, 3) := by decide +kernel
theorem dX2_copy_37 : decode cX2_copy 37 = .ok (.putfield 24, 3) := by decide +kernel
theorem dX2_copy_40 : decode cX2_copy 40 = .ok (.aload_n 1, 1) := by decide +kernel
theorem dX2_copy_41 : decode cX2_copy 41 = .ok (.getfield 27, 3) := by decide +kernel
theorem dX2_copy_44 : decode cX2_copy 44 = .ok (.iconst 0, 1) := by decide +kernel
theorem dX2_copy_45 : decode cX2_copy 45 = .ok (.aload_n 0, 1) := by decide +kernel
theorem dX2_copy_46 : decode cX2_copy 46 = .ok (.getfield 27, 3) := by decide +kernel
theorem dX2_copy_49 : decode cX2_copy 49 = .ok (.iconst 0, 1) := by decide +kernel
theorem dX2_copy_50 : decode cX2_copy 50 = .ok (.bipush 24, 2) := by decide +kernel
theorem dX2_copy_52 : decode cX2_copy 52 = .ok (.invokestatic 61, 3) := by decide +kernel
theorem wm_971 : (Jvm.Cond.methodLink "GrownKinds$Grammar" (61 : Nat) ({ cls := "java/lang/System", name := "arraycopy", desc := "(Ljava/lang/Object;ILjava/lang/Object;II)V" } : Jvm.MethodName)) ∈ gT := gT_in (List.mem_of_getElem? (i := 971) (by decide +kernel)) (by decide +kernel)
theorem wm_973 : (Jvm.Cond.native ({ cls := "java/lang/System", name := "arraycopy", desc := "(Ljava/lang/Object;ILjava/lang/Object;II)V" } : Jvm.MethodName)) ∈ gT := gT_in (List.mem_of_getElem? (i := 973) (by decide +kernel)) (by decide +kernel)
theorem wm_972 : (Jvm.Cond.static ({ cls := "java/lang/System", name := "arraycopy", desc := "(Ljava/lang/Object;ILjava/lang/Object;II)V" } : Jvm.MethodName)) ∈ gT := gT_in (List.mem_of_getElem? (i := 972) (by decide +kernel)) (by decide +kernel)
theorem wm_194 : (Jvm.Cond.initialized "java/lang/System") ∈ gT := gT_in (List.mem_of_getElem? (i := 194) (by decide +kernel)) (by decide +kernel)
theorem dX2_copy_55 : decode cX2_copy 55 = .ok (.aload_n 1, 1) := by decide +kernel
theorem dX2_copy_56 : decode cX2_copy 56 = .ok (.getfield 31, 3) := by decide +kernel
theorem dX2_copy_59 : decode cX2_copy 59 = .ok (.iconst 0, 1) := by decide +kernel
theorem dX2_copy_60 : decode cX2_copy 60 = .ok (.aload_n 0, 1) := by decide +kernel
theorem dX2_copy_61 : decode cX2_copy 61 = .ok (.getfield 31, 3) := by decide +kernel
theorem dX2_copy_64 : decode cX2_copy 64 = .ok (.iconst 0, 1) := by decide +kernel
theorem dX2_copy_65 : decode cX2_copy 65 = .ok (.bipush 24, 2) := by decide +kernel
theorem dX2_copy_67 : decode cX2_copy 67 = .ok (.invokestatic 61, 3) := by decide +kernel
theorem dX2_copy_70 : decode cX2_copy 70 = .ok (.aload_n 1, 1) := by decide +kernel
theorem dX2_copy_71 : decode cX2_copy 71 = .ok (.getfield 34, 3) := by decide +kernel
theorem dX2_copy_74 : decode cX2_copy 74 = .ok (.iconst 0, 1) := by decide +kernel
theorem dX2_copy_75 : decode cX2_copy 75 = .ok (.aload_n 0, 1) := by decide +kernel
theorem dX2_copy_76 : decode cX2_copy 76 = .ok (.getfield 34, 3) := by decide +kernel
theorem dX2_copy_79 : decode cX2_copy 79 = .ok (.iconst 0, 1) := by decide +kernel
theorem dX2_copy_80 : decode cX2_copy 80 = .ok (.bipush 24, 2) := by decide +kernel
theorem dX2_copy_82 : decode cX2_copy 82 = .ok (.invokestatic 61, 3) := by decide +kernel
theorem dX2_copy_85 : decode cX2_copy 85 = .ok (.aload_n 1, 1) := by decide +kernel
theorem dX2_copy_86 : decode cX2_copy 86 = .ok (.getfield 37, 3) := by decide +kernel
theorem dX2_copy_89 : decode cX2_copy 89 = .ok (.iconst 0, 1) := by decide +kernel
theorem dX2_copy_90 : decode cX2_copy 90 = .ok (.aload_n 0, 1) := by decide +kernel
theorem dX2_copy_91 : decode cX2_copy 91 = .ok (.getfield 37, 3) := by decide +kernel
theorem dX2_copy_94 : decode cX2_copy 94 = .ok (.iconst 0, 1) := by decide +kernel
theorem dX2_copy_95 : decode cX2_copy 95 = .ok (.bipush 24, 2) := by decide +kernel
theorem dX2_copy_97 : decode cX2_copy 97 = .ok (.invokestatic 61, 3) := by decide +kernel
theorem dX2_copy_100 : decode cX2_copy 100 = .ok (.aload_n 1, 1) := by decide +kernel
theorem dX2_copy_101 : decode cX2_copy 101 = .ok (.getfield 40, 3) := by decide +kernel
theorem dX2_copy_104 : decode cX2_copy 104 = .ok (.iconst 0, 1) := by decide +kernel
theorem dX2_copy_105 : decode cX2_copy 105 = .ok (.aload_n 0, 1) := by decide +kernel
theorem dX2_copy_106 : decode cX2_copy 106 = .ok (.getfield 40, 3) := by decide +kernel
theorem dX2_copy_109 : decode cX2_copy 109 = .ok (.iconst 0, 1) := by decide +kernel
theorem dX2_copy_110 : decode cX2_copy 110 = .ok (.bipush 24, 2) := by decide +kernel
theorem dX2_copy_112 : decode cX2_copy 112 = .ok (.invokestatic 61, 3) := by decide +kernel
theorem dX2_copy_115 : decode cX2_copy 115 = .ok (.aload_n 1, 1) := by decide +kernel
theorem dX2_copy_116 : decode cX2_copy 116 = .ok (.getfield 43, 3) := by decide +kernel
theorem dX2_copy_119 : decode cX2_copy 119 = .ok (.iconst 0, 1) := by decide +kernel
theorem dX2_copy_120 : decode cX2_copy 120 = .ok (.aload_n 0, 1) := by decide +kernel
theorem dX2_copy_121 : decode cX2_copy 121 = .ok (.getfield 43, 3) := by decide +kernel
theorem dX2_copy_124 : decode cX2_copy 124 = .ok (.iconst 0, 1) := by decide +kernel
theorem dX2_copy_125 : decode cX2_copy 125 = .ok (.bipush 30, 2) := by decide +kernel
theorem dX2_copy_127 : decode cX2_copy 127 = .ok (.invokestatic 61, 3) := by decide +kernel
theorem dX2_copy_130 : decode cX2_copy 130 = .ok (.aload_n 1, 1) := by decide +kernel
theorem dX2_copy_131 : decode cX2_copy 131 = .ok (.getfield 46, 3) := by decide +kernel
theorem dX2_copy_134 : decode cX2_copy 134 = .ok (.iconst 0, 1) := by decide +kernel
theorem dX2_copy_135 : decode cX2_copy 135 = .ok (.aload_n 0, 1) := by decide +kernel
theorem dX2_copy_136 : decode cX2_copy 136 = .ok (.getfield 46, 3) := by decide +kernel
theorem dX2_copy_139 : decode cX2_copy 139 = .ok (.iconst 0, 1) := by decide +kernel
theorem dX2_copy_140 : decode cX2_copy 140 = .ok (.sipush 300, 3) := by decide +kernel
theorem dX2_copy_143 : decode cX2_copy 143 = .ok (.invokestatic 61, 3) := by decide +kernel
theorem dX2_copy_146 : decode cX2_copy 146 = .ok (.aload_n 1, 1) := by decide +kernel
theorem dX2_copy_147 : decode cX2_copy 147 = .ok (.getfield 49, 3) := by decide +kernel
theorem dX2_copy_150 : decode cX2_copy 150 = .ok (.iconst 0, 1) := by decide +kernel
theorem dX2_copy_151 : decode cX2_copy 151 = .ok (.aload_n 0, 1) := by decide +kernel
theorem dX2_copy_152 : decode cX2_copy 152 = .ok (.getfield 49, 3) := by decide +kernel
theorem dX2_copy_155 : decode cX2_copy 155 = .ok (.iconst 0, 1) := by decide +kernel
theorem dX2_copy_156 : decode cX2_copy 156 = .ok (.bipush 30, 2) := by decide +kernel
theorem dX2_copy_158 : decode cX2_copy 158 = .ok (.invokestatic 61, 3) := by decide +kernel
theorem dX2_copy_161 : decode cX2_copy 161 = .ok (.aload_n 1, 1) := by decide +kernel
theorem dX2_copy_162 : decode cX2_copy 162 = .ok (.getfield 52, 3) := by decide +kernel
theorem dX2_copy_165 : decode cX2_copy 165 = .ok (.iconst 0, 1) := by decide +kernel
theorem dX2_copy_166 : decode cX2_copy 166 = .ok (.aload_n 0, 1) := by decide +kernel
theorem dX2_copy_167 : decode cX2_copy 167 = .ok (.getfield 52, 3) := by decide +kernel
theorem dX2_copy_170 : decode cX2_copy 170 = .ok (.iconst 0, 1) := by decide +kernel
theorem dX2_copy_171 : decode cX2_copy 171 = .ok (.bipush 54, 2) := by decide +kernel
theorem dX2_copy_173 : decode cX2_copy 173 = .ok (.invokestatic 61, 3) := by decide +kernel
theorem dX2_copy_176 : decode cX2_copy 176 = .ok (.return_, 1) := by decide +kernel
theorem dX1_stop_0 : decode cX1_stop 0 = .ok (.aload_n 0, 1) := by decide +kernel
theorem dX1_stop_1 : decode cX1_stop 1 = .ok (.iconst 0, 1) := by decide +kernel
theorem dX1_stop_2 : decode cX1_stop 2 = .ok (.putfield 9, 3) := by decide +kernel
theorem dX1_stop_5 : decode cX1_stop 5 = .ok (.return_, 1) := by decide +kernel
theorem dX3_findEmpty_0 : decode cX3_findEmpty 0 = .ok (.aload_n 0, 1) := by decide +kernel
theorem dX3_findEmpty_1 : decode cX3_findEmpty 1 = .ok (.iconst 0, 1) := by decide +kernel
theorem dX3_findEmpty_2 : decode cX3_findEmpty 2 = .ok (.putfield 9, 3) := by decide +kernel
theorem dX3_findEmpty_5 : decode cX3_findEmpty 5 = .ok (.aload_n 0, 1) := by decide +kernel
theorem dX3_findEmpty_6 : decode cX3_findEmpty 6 = .ok (.iconst 0, 1) := by decide +kernel
theorem dX3_findEmpty_7 : decode cX3_findEmpty 7 = .ok (.putfield 15, 3) := by decide +kernel
theorem dX3_findEmpty_10 : decode cX3_findEmpty 10 = .ok (.iconst 1, 1) := by decide +kernel
theorem dX3_findEmpty_11 : decode cX3_findEmpty 11 = .ok (.istore_n 1, 1) := by decide +kernel
theorem dX3_findEmpty_12 : decode cX3_findEmpty 12 = .ok (.iconst 0, 1) := by decide +kernel
theorem dX3_findEmpty_13 : decode cX3_findEmpty 13 = .ok (.istore_n 2, 1) := by decide +kernel
theorem dX3_findEmpty_14 : decode cX3_findEmpty 14 = .ok (.iload_n 2, 1) := by decide +kernel
theorem dX3_findEmpty_15 : decode cX3_findEmpty 15 = .ok (.bipush 54, 2) := by decide +kernel
theorem dX3_findEmpty_17 : decode cX3_findEmpty 17 = .ok (.if_icmp .gt 142, 3) := by decide +kernel
theorem dX3_findEmpty_20 : decode cX3_findEmpty 20 = .ok (.iload_n 1, 1) := by decide +kernel
theorem dX3_findEmpty_21 : decode cX3_findEmpty 21 = .ok (.ifCond .eq 138, 3) := by decide +kernel
theorem dX3_findEmpty_24 : decode cX3_findEmpty 24 = .ok (.aload_n 0, 1) := by decide +kernel
theorem dX3_findEmpty_25 : decode cX3_findEmpty 25 = .ok (.getfield 9, 3) := by decide +kernel
theorem dX3_findEmpty_28 : decode cX3_findEmpty 28 = .ok (.istore_n 3, 1) := by decide +kernel
theorem dX3_findEmpty_29 : decode cX3_findEmpty 29 = .ok (.aload_n 0, 1) := by decide +kernel
theorem dX3_findEmpty_30 : decode cX3_findEmpty 30 = .ok (.getfield 15, 3) := by decide +kernel
theorem dX3_findEmpty_33 : decode cX3_findEmpty 33 = .ok (.istore 4, 2) := by decide +kernel
theorem dX3_findEmpty_35 : decode cX3_findEmpty 35 = .ok (.aload_n 0, 1) := by decide +kernel
theorem dX3_findEmpty_36 : decode cX3_findEmpty 36 = .ok (.getfield 37, 3) := by decide +kernel
theorem dX3_findEmpty_39 : decode cX3_findEmpty 39 = .ok (.getfield 44, 3) := by decide +kernel
theorem wm_226 : (Jvm.Cond.fieldLink "GrownKinds$Leaning" (44 : Nat) "GrownKinds$Grammar" "parts" "I") ∈ gT := gT_in (List.mem_of_getElem? (i := 226) (by decide +kernel)) (by decide +kernel)
theorem dX3_findEmpty_42 : decode cX3_findEmpty 42 = .ok (.iconst 1, 1) := by decide +kernel
theorem dX3_findEmpty_43 : decode cX3_findEmpty 43 = .ok (.isub, 1) := by decide +kernel
theorem dX3_findEmpty_44 : decode cX3_findEmpty 44 = .ok (.istore 5, 2) := by decide +kernel
theorem dX3_findEmpty_46 : decode cX3_findEmpty 46 = .ok (.iload 5, 2) := by decide +kernel
theorem dX3_findEmpty_48 : decode cX3_findEmpty 48 = .ok (.ifCond .lt 35, 3) := by decide +kernel
theorem dX3_findEmpty_83 : decode cX3_findEmpty 83 = .ok (.iconst 0, 1) := by decide +kernel
theorem dX3_findEmpty_84 : decode cX3_findEmpty 84 = .ok (.istore 5, 2) := by decide +kernel
theorem dX3_findEmpty_86 : decode cX3_findEmpty 86 = .ok (.iload 5, 2) := by decide +kernel
theorem dX3_findEmpty_88 : decode cX3_findEmpty 88 = .ok (.aload_n 0, 1) := by decide +kernel
theorem dX3_findEmpty_89 : decode cX3_findEmpty 89 = .ok (.getfield 37, 3) := by decide +kernel
theorem dX3_findEmpty_92 : decode cX3_findEmpty 92 = .ok (.getfield 53, 3) := by decide +kernel
theorem wm_218 : (Jvm.Cond.fieldLink "GrownKinds$Leaning" (53 : Nat) "GrownKinds$Grammar" "kinds" "I") ∈ gT := gT_in (List.mem_of_getElem? (i := 218) (by decide +kernel)) (by decide +kernel)
theorem dX3_findEmpty_95 : decode cX3_findEmpty 95 = .ok (.if_icmp .ge 35, 3) := by decide +kernel
theorem dX3_findEmpty_130 : decode cX3_findEmpty 130 = .ok (.iload_n 3, 1) := by decide +kernel
theorem dX3_findEmpty_131 : decode cX3_findEmpty 131 = .ok (.aload_n 0, 1) := by decide +kernel
theorem dX3_findEmpty_132 : decode cX3_findEmpty 132 = .ok (.getfield 9, 3) := by decide +kernel
theorem dX3_findEmpty_135 : decode cX3_findEmpty 135 = .ok (.if_icmp .ne 12, 3) := by decide +kernel
theorem dX3_findEmpty_138 : decode cX3_findEmpty 138 = .ok (.iload 4, 2) := by decide +kernel
theorem dX3_findEmpty_140 : decode cX3_findEmpty 140 = .ok (.aload_n 0, 1) := by decide +kernel
theorem dX3_findEmpty_141 : decode cX3_findEmpty 141 = .ok (.getfield 15, 3) := by decide +kernel
theorem dX3_findEmpty_144 : decode cX3_findEmpty 144 = .ok (.if_icmp .eq 7, 3) := by decide +kernel
theorem dX3_findEmpty_151 : decode cX3_findEmpty 151 = .ok (.iconst 0, 1) := by decide +kernel
theorem dX3_findEmpty_152 : decode cX3_findEmpty 152 = .ok (.istore_n 1, 1) := by decide +kernel
theorem dX3_findEmpty_153 : decode cX3_findEmpty 153 = .ok (.iinc 2 1, 3) := by decide +kernel
theorem dX3_findEmpty_156 : decode cX3_findEmpty 156 = .ok (.goto (-142), 3) := by decide +kernel
theorem dX3_findEmpty_159 : decode cX3_findEmpty 159 = .ok (.return_, 1) := by decide +kernel
theorem dX3_study_0 : decode cX3_study 0 = .ok (.aload_n 0, 1) := by decide +kernel
theorem dX3_study_1 : decode cX3_study 1 = .ok (.invokevirtual 41, 3) := by decide +kernel
theorem wm_894 : (Jvm.Cond.methodLink "GrownKinds$Leaning" (41 : Nat) ({ cls := "GrownKinds$Leaning", name := "findEmpty", desc := "()V" } : Jvm.MethodName)) ∈ gT := gT_in (List.mem_of_getElem? (i := 894) (by decide +kernel)) (by decide +kernel)
theorem wm_896 : (Jvm.Cond.instanceMethod ({ cls := "GrownKinds$Leaning", name := "findEmpty", desc := "()V" } : Jvm.MethodName)) ∈ gT := gT_in (List.mem_of_getElem? (i := 896) (by decide +kernel)) (by decide +kernel)
theorem wm_18 : Cond.selects "GrownKinds$Leaning" ⟨"GrownKinds$Leaning", "findEmpty", "()V"⟩ ⟨"GrownKinds$Leaning", "findEmpty", "()V"⟩ ∈ gT := gT_in (List.mem_of_getElem? (i := 18) (by decide +kernel)) (by decide +kernel)
theorem wm_897 : (Jvm.Cond.code ({ cls := "GrownKinds$Leaning", name := "findEmpty", desc := "()V" } : Jvm.MethodName) prog_5_method_4_code (6 : Nat) (Option.none : Option Jvm.ClassFile.FieldType)) ∈ gT := gT_in (List.mem_of_getElem? (i := 897) (by decide +kernel)) (by decide +kernel)
theorem dX3_study_4 : decode cX3_study 4 = .ok (.aload_n 0, 1) := by decide +kernel
theorem dX3_study_5 : decode cX3_study 5 = .ok (.getfield 37, 3) := by decide +kernel
theorem dX3_study_8 : decode cX3_study 8 = .ok (.getfield 44, 3) := by decide +kernel
theorem dX3_study_11 : decode cX3_study 11 = .ok (.iconst 1, 1) := by decide +kernel
theorem dX3_study_12 : decode cX3_study 12 = .ok (.isub, 1) := by decide +kernel
theorem dX3_study_13 : decode cX3_study 13 = .ok (.istore_n 1, 1) := by decide +kernel
theorem dX3_study_14 : decode cX3_study 14 = .ok (.iload_n 1, 1) := by decide +kernel
theorem dX3_study_15 : decode cX3_study 15 = .ok (.ifCond .lt 14, 3) := by decide +kernel
theorem dX3_study_29 : decode cX3_study 29 = .ok (.iconst 0, 1) := by decide +kernel
theorem dX3_study_30 : decode cX3_study 30 = .ok (.istore_n 1, 1) := by decide +kernel
theorem dX3_study_31 : decode cX3_study 31 = .ok (.iload_n 1, 1) := by decide +kernel
theorem dX3_study_32 : decode cX3_study 32 = .ok (.aload_n 0, 1) := by decide +kernel
theorem dX3_study_33 : decode cX3_study 33 = .ok (.getfield 37, 3) := by decide +kernel
theorem dX3_study_36 : decode cX3_study 36 = .ok (.getfield 53, 3) := by decide +kernel
theorem dX3_study_39 : decode cX3_study 39 = .ok (.if_icmp .ge 50, 3) := by decide +kernel
theorem dX3_study_89 : decode cX3_study 89 = .ok (.return_, 1) := by decide +kernel
theorem dX0_take_0 : decode cX0_take 0 = .ok (.aload_n 0, 1) := by decide +kernel
theorem dX0_take_1 : decode cX0_take 1 = .ok (.iload_n 1, 1) := by decide +kernel
theorem dX0_take_2 : decode cX0_take 2 = .ok (.putfield 9, 3) := by decide +kernel
theorem dX0_take_5 : decode cX0_take 5 = .ok (.iconst 0, 1) := by decide +kernel
theorem dX0_take_6 : decode cX0_take 6 = .ok (.istore_n 2, 1) := by decide +kernel
theorem dX0_take_7 : decode cX0_take 7 = .ok (.iload_n 2, 1) := by decide +kernel
theorem dX0_take_8 : decode cX0_take 8 = .ok (.aload_n 0, 1) := by decide +kernel
theorem dX0_take_9 : decode cX0_take 9 = .ok (.getfield 31, 3) := by decide +kernel
theorem dX0_take_12 : decode cX0_take 12 = .ok (.getfield 38, 3) := by decide +kernel
theorem wm_227 : (Jvm.Cond.fieldLink "GrownKinds$Census" (38 : Nat) "GrownKinds$Grammar" "parts" "I") ∈ gT := gT_in (List.mem_of_getElem? (i := 227) (by decide +kernel)) (by decide +kernel)
theorem dX0_take_15 : decode cX0_take 15 = .ok (.if_icmp .ge 29, 3) := by decide +kernel
theorem dX0_take_44 : decode cX0_take 44 = .ok (.iconst 0, 1) := by decide +kernel
theorem dX0_take_45 : decode cX0_take 45 = .ok (.istore_n 2, 1) := by decide +kernel
theorem dX0_take_46 : decode cX0_take 46 = .ok (.iload_n 2, 1) := by decide +kernel
theorem dX0_take_47 : decode cX0_take 47 = .ok (.aload_n 0, 1) := by decide +kernel
theorem dX0_take_48 : decode cX0_take 48 = .ok (.getfield 31, 3) := by decide +kernel
theorem dX0_take_51 : decode cX0_take 51 = .ok (.getfield 43, 3) := by decide +kernel
theorem wm_212 : (Jvm.Cond.fieldLink "GrownKinds$Census" (43 : Nat) "GrownKinds$Grammar" "most" "I") ∈ gT := gT_in (List.mem_of_getElem? (i := 212) (by decide +kernel)) (by decide +kernel)
theorem dX0_take_54 : decode cX0_take 54 = .ok (.if_icmp .gt 107, 3) := by decide +kernel
theorem dX0_take_57 : decode cX0_take 57 = .ok (.iconst 0, 1) := by decide +kernel
theorem dX0_take_58 : decode cX0_take 58 = .ok (.istore_n 3, 1) := by decide +kernel
theorem dX0_take_59 : decode cX0_take 59 = .ok (.iload_n 3, 1) := by decide +kernel
theorem dX0_take_60 : decode cX0_take 60 = .ok (.aload_n 0, 1) := by decide +kernel
theorem dX0_take_61 : decode cX0_take 61 = .ok (.getfield 31, 3) := by decide +kernel
theorem dX0_take_64 : decode cX0_take 64 = .ok (.getfield 46, 3) := by decide +kernel
theorem wm_231 : (Jvm.Cond.fieldLink "GrownKinds$Census" (46 : Nat) "GrownKinds$Grammar" "steps" "I") ∈ gT := gT_in (List.mem_of_getElem? (i := 231) (by decide +kernel)) (by decide +kernel)
theorem dX0_take_67 : decode cX0_take 67 = .ok (.if_icmp .ge 88, 3) := by decide +kernel
theorem dX0_take_155 : decode cX0_take 155 = .ok (.iinc 2 1, 3) := by decide +kernel
theorem dX0_take_158 : decode cX0_take 158 = .ok (.goto (-112), 3) := by decide +kernel
theorem dX0_take_161 : decode cX0_take 161 = .ok (.return_, 1) := by decide +kernel
theorem dX4_forget_0 : decode cX4_forget 0 = .ok (.aload_n 0, 1) := by decide +kernel
theorem dX4_forget_1 : decode cX4_forget 1 = .ok (.iconst 0, 1) := by decide +kernel
theorem dX4_forget_2 : decode cX4_forget 2 = .ok (.putfield 9, 3) := by decide +kernel
theorem dX4_forget_5 : decode cX4_forget 5 = .ok (.aload_n 0, 1) := by decide +kernel
theorem dX4_forget_6 : decode cX4_forget 6 = .ok (.getfield 15, 3) := by decide +kernel
theorem dX4_forget_9 : decode cX4_forget 9 = .ok (.iconst 0, 1) := by decide +kernel
theorem dX4_forget_10 : decode cX4_forget 10 = .ok (.invokestatic 40, 3) := by decide +kernel
theorem wm_1089 : (Jvm.Cond.methodLink "GrownKinds$Ledger" (40 : Nat) ({ cls := "java/util/Arrays", name := "fill", desc := "([ZZ)V" } : Jvm.MethodName)) ∈ gT := gT_in (List.mem_of_getElem? (i := 1089) (by decide +kernel)) (by decide +kernel)
theorem wm_1090 : (Jvm.Cond.static ({ cls := "java/util/Arrays", name := "fill", desc := "([ZZ)V" } : Jvm.MethodName)) ∈ gT := gT_in (List.mem_of_getElem? (i := 1090) (by decide +kernel)) (by decide +kernel)
theorem wm_1091 : (Jvm.Cond.code ({ cls := "java/util/Arrays", name := "fill", desc := "([ZZ)V" } : Jvm.MethodName) prog_22_method_111_code (4 : Nat) (Option.none : Option Jvm.ClassFile.FieldType)) ∈ gT := gT_in (List.mem_of_getElem? (i := 1091) (by decide +kernel)) (by decide +kernel)
theorem dX4_forget_13 : decode cX4_forget 13 = .ok (.aload_n 0, 1) := by decide +kernel
theorem dX4_forget_14 : decode cX4_forget 14 = .ok (.getfield 19, 3) := by decide +kernel
theorem dX4_forget_17 : decode cX4_forget 17 = .ok (.iconst 0, 1) := by decide +kernel
theorem dX4_forget_18 : decode cX4_forget 18 = .ok (.invokestatic 40, 3) := by decide +kernel
theorem dX4_forget_21 : decode cX4_forget 21 = .ok (.return_, 1) := by decide +kernel
theorem dX7_forget_0 : decode cX7_forget 0 = .ok (.aload_n 0, 1) := by decide +kernel
theorem dX7_forget_1 : decode cX7_forget 1 = .ok (.getfield 9, 3) := by decide +kernel
theorem dX7_forget_4 : decode cX7_forget 4 = .ok (.iconst 0, 1) := by decide +kernel
theorem dX7_forget_5 : decode cX7_forget 5 = .ok (.invokestatic 42, 3) := by decide +kernel
theorem wm_1096 : (Jvm.Cond.methodLink "GrownKinds$Roll" (42 : Nat) ({ cls := "java/util/Arrays", name := "fill", desc := "([ZZ)V" } : Jvm.MethodName)) ∈ gT := gT_in (List.mem_of_getElem? (i := 1096) (by decide +kernel)) (by decide +kernel)
theorem dX7_forget_8 : decode cX7_forget 8 = .ok (.return_, 1) := by decide +kernel
theorem dX11_settle_0 : decode cX11_settle 0 = .ok (.aload_n 0, 1) := by decide +kernel
theorem dX11_settle_1 : decode cX11_settle 1 = .ok (.dup, 1) := by decide +kernel
theorem dX11_settle_2 : decode cX11_settle 2 = .ok (.getfield 111, 3) := by decide +kernel
theorem dX11_settle_5 : decode cX11_settle 5 = .ok (.iconst 1, 1) := by decide +kernel
theorem dX11_settle_6 : decode cX11_settle 6 = .ok (.iadd, 1) := by decide +kernel
theorem dX11_settle_7 : decode cX11_settle 7 = .ok (.putfield 111, 3) := by decide +kernel
theorem dX11_settle_10 : decode cX11_settle 10 = .ok (.aload_n 0, 1) := by decide +kernel
theorem dX11_settle_11 : decode cX11_settle 11 = .ok (.getfield 97, 3) := by decide +kernel
theorem dX11_settle_14 : decode cX11_settle 14 = .ok (.invokevirtual 143, 3) := by decide +kernel
theorem wm_978 : (Jvm.Cond.methodLink "GrownKinds" (143 : Nat) ({ cls := "GrownKinds$Dealer", name := "stop", desc := "()V" } : Jvm.MethodName)) ∈ gT := gT_in (List.mem_of_getElem? (i := 978) (by decide +kernel)) (by decide +kernel)
theorem wm_979 : (Jvm.Cond.instanceMethod ({ cls := "GrownKinds$Dealer", name := "stop", desc := "()V" } : Jvm.MethodName)) ∈ gT := gT_in (List.mem_of_getElem? (i := 979) (by decide +kernel)) (by decide +kernel)
theorem wm_980 : (Jvm.Cond.selects "GrownKinds$Dealer" ({ cls := "GrownKinds$Dealer", name := "stop", desc := "()V" } : Jvm.MethodName) ({ cls := "GrownKinds$Dealer", name := "stop", desc := "()V" } : Jvm.MethodName)) ∈ gT := gT_in (List.mem_of_getElem? (i := 980) (by decide +kernel)) (by decide +kernel)
theorem wm_981 : (Jvm.Cond.code ({ cls := "GrownKinds$Dealer", name := "stop", desc := "()V" } : Jvm.MethodName) prog_3_method_4_code (1 : Nat) (Option.none : Option Jvm.ClassFile.FieldType)) ∈ gT := gT_in (List.mem_of_getElem? (i := 981) (by decide +kernel)) (by decide +kernel)
theorem dX11_settle_17 : decode cX11_settle 17 = .ok (.aload_n 0, 1) := by decide +kernel
theorem dX11_settle_18 : decode cX11_settle 18 = .ok (.getfield 42, 3) := by decide +kernel
theorem dX11_settle_21 : decode cX11_settle 21 = .ok (.invokevirtual 146, 3) := by decide +kernel
theorem wm_982 : (Jvm.Cond.methodLink "GrownKinds" (146 : Nat) ({ cls := "GrownKinds$Leaning", name := "study", desc := "()V" } : Jvm.MethodName)) ∈ gT := gT_in (List.mem_of_getElem? (i := 982) (by decide +kernel)) (by decide +kernel)
theorem wm_891 : (Jvm.Cond.instanceMethod ({ cls := "GrownKinds$Leaning", name := "study", desc := "()V" } : Jvm.MethodName)) ∈ gT := gT_in (List.mem_of_getElem? (i := 891) (by decide +kernel)) (by decide +kernel)
theorem wm_892 : (Jvm.Cond.selects "GrownKinds$Leaning" ({ cls := "GrownKinds$Leaning", name := "study", desc := "()V" } : Jvm.MethodName) ({ cls := "GrownKinds$Leaning", name := "study", desc := "()V" } : Jvm.MethodName)) ∈ gT := gT_in (List.mem_of_getElem? (i := 892) (by decide +kernel)) (by decide +kernel)
theorem wm_893 : (Jvm.Cond.code ({ cls := "GrownKinds$Leaning", name := "study", desc := "()V" } : Jvm.MethodName) prog_5_method_2_code (2 : Nat) (Option.none : Option Jvm.ClassFile.FieldType)) ∈ gT := gT_in (List.mem_of_getElem? (i := 893) (by decide +kernel)) (by decide +kernel)
theorem dX11_settle_24 : decode cX11_settle 24 = .ok (.aload_n 0, 1) := by decide +kernel
theorem dX11_settle_25 : decode cX11_settle 25 = .ok (.getfield 51, 3) := by decide +kernel
theorem dX11_settle_28 : decode cX11_settle 28 = .ok (.iconst (-1), 1) := by decide +kernel
theorem dX11_settle_29 : decode cX11_settle 29 = .ok (.invokevirtual 149, 3) := by decide +kernel
theorem wm_983 : (Jvm.Cond.methodLink "GrownKinds" (149 : Nat) ({ cls := "GrownKinds$Census", name := "take", desc := "(I)V" } : Jvm.MethodName)) ∈ gT := gT_in (List.mem_of_getElem? (i := 983) (by decide +kernel)) (by decide +kernel)
theorem wm_984 : (Jvm.Cond.instanceMethod ({ cls := "GrownKinds$Census", name := "take", desc := "(I)V" } : Jvm.MethodName)) ∈ gT := gT_in (List.mem_of_getElem? (i := 984) (by decide +kernel)) (by decide +kernel)
theorem wm_985 : (Jvm.Cond.selects "GrownKinds$Census" ({ cls := "GrownKinds$Census", name := "take", desc := "(I)V" } : Jvm.MethodName) ({ cls := "GrownKinds$Census", name := "take", desc := "(I)V" } : Jvm.MethodName)) ∈ gT := gT_in (List.mem_of_getElem? (i := 985) (by decide +kernel)) (by decide +kernel)
theorem wm_986 : (Jvm.Cond.code ({ cls := "GrownKinds$Census", name := "take", desc := "(I)V" } : Jvm.MethodName) prog_2_method_2_code (6 : Nat) (Option.none : Option Jvm.ClassFile.FieldType)) ∈ gT := gT_in (List.mem_of_getElem? (i := 986) (by decide +kernel)) (by decide +kernel)
theorem dX11_settle_32 : decode cX11_settle 32 = .ok (.aload_n 0, 1) := by decide +kernel
theorem dX11_settle_33 : decode cX11_settle 33 = .ok (.getfield 60, 3) := by decide +kernel
theorem dX11_settle_36 : decode cX11_settle 36 = .ok (.invokevirtual 152, 3) := by decide +kernel
theorem wm_1085 : (Jvm.Cond.methodLink "GrownKinds" (152 : Nat) ({ cls := "GrownKinds$Ledger", name := "forget", desc := "()V" } : Jvm.MethodName)) ∈ gT := gT_in (List.mem_of_getElem? (i := 1085) (by decide +kernel)) (by decide +kernel)
theorem wm_1086 : (Jvm.Cond.instanceMethod ({ cls := "GrownKinds$Ledger", name := "forget", desc := "()V" } : Jvm.MethodName)) ∈ gT := gT_in (List.mem_of_getElem? (i := 1086) (by decide +kernel)) (by decide +kernel)
theorem wm_1087 : (Jvm.Cond.selects "GrownKinds$Ledger" ({ cls := "GrownKinds$Ledger", name := "forget", desc := "()V" } : Jvm.MethodName) ({ cls := "GrownKinds$Ledger", name := "forget", desc := "()V" } : Jvm.MethodName)) ∈ gT := gT_in (List.mem_of_getElem? (i := 1087) (by decide +kernel)) (by decide +kernel)
theorem wm_1088 : (Jvm.Cond.code ({ cls := "GrownKinds$Ledger", name := "forget", desc := "()V" } : Jvm.MethodName) prog_6_method_2_code (1 : Nat) (Option.none : Option Jvm.ClassFile.FieldType)) ∈ gT := gT_in (List.mem_of_getElem? (i := 1088) (by decide +kernel)) (by decide +kernel)
theorem dX11_settle_39 : decode cX11_settle 39 = .ok (.aload_n 0, 1) := by decide +kernel
theorem dX11_settle_40 : decode cX11_settle 40 = .ok (.getfield 88, 3) := by decide +kernel
theorem dX11_settle_43 : decode cX11_settle 43 = .ok (.invokevirtual 155, 3) := by decide +kernel
theorem wm_1092 : (Jvm.Cond.methodLink "GrownKinds" (155 : Nat) ({ cls := "GrownKinds$Roll", name := "forget", desc := "()V" } : Jvm.MethodName)) ∈ gT := gT_in (List.mem_of_getElem? (i := 1092) (by decide +kernel)) (by decide +kernel)
theorem wm_1093 : (Jvm.Cond.instanceMethod ({ cls := "GrownKinds$Roll", name := "forget", desc := "()V" } : Jvm.MethodName)) ∈ gT := gT_in (List.mem_of_getElem? (i := 1093) (by decide +kernel)) (by decide +kernel)
theorem wm_1094 : (Jvm.Cond.selects "GrownKinds$Roll" ({ cls := "GrownKinds$Roll", name := "forget", desc := "()V" } : Jvm.MethodName) ({ cls := "GrownKinds$Roll", name := "forget", desc := "()V" } : Jvm.MethodName)) ∈ gT := gT_in (List.mem_of_getElem? (i := 1094) (by decide +kernel)) (by decide +kernel)
theorem wm_1095 : (Jvm.Cond.code ({ cls := "GrownKinds$Roll", name := "forget", desc := "()V" } : Jvm.MethodName) prog_9_method_2_code (1 : Nat) (Option.none : Option Jvm.ClassFile.FieldType)) ∈ gT := gT_in (List.mem_of_getElem? (i := 1095) (by decide +kernel)) (by decide +kernel)
theorem dX11_settle_46 : decode cX11_settle 46 = .ok (.return_, 1) := by decide +kernel
theorem dX11_grammar_0 : decode cX11_grammar 0 = .ok (.aload_n 0, 1) := by decide +kernel
theorem dX11_grammar_1 : decode cX11_grammar 1 = .ok (.getfield 29, 3) := by decide +kernel
theorem dX11_grammar_4 : decode cX11_grammar 4 = .ok (.aload_n 0, 1) := by decide +kernel
theorem dX11_grammar_5 : decode cX11_grammar 5 = .ok (.getfield 9, 3) := by decide +kernel
theorem dX11_grammar_8 : decode cX11_grammar 8 = .ok (.aload_n 0, 1) := by decide +kernel
theorem dX11_grammar_9 : decode cX11_grammar 9 = .ok (.getfield 13, 3) := by decide +kernel
theorem dX11_grammar_12 : decode cX11_grammar 12 = .ok (.invokevirtual 124, 3) := by decide +kernel
theorem wm_740 : (Jvm.Cond.methodLink "GrownKinds" (124 : Nat) ({ cls := "GrownKinds$Reader", name := "read", desc := "([BI)I" } : Jvm.MethodName)) ∈ gT := gT_in (List.mem_of_getElem? (i := 740) (by decide +kernel)) (by decide +kernel)
theorem wm_741 : (Jvm.Cond.instanceMethod ({ cls := "GrownKinds$Reader", name := "read", desc := "([BI)I" } : Jvm.MethodName)) ∈ gT := gT_in (List.mem_of_getElem? (i := 741) (by decide +kernel)) (by decide +kernel)
theorem wm_742 : (Jvm.Cond.selects "GrownKinds$Reader" ({ cls := "GrownKinds$Reader", name := "read", desc := "([BI)I" } : Jvm.MethodName) ({ cls := "GrownKinds$Reader", name := "read", desc := "([BI)I" } : Jvm.MethodName)) ∈ gT := gT_in (List.mem_of_getElem? (i := 742) (by decide +kernel)) (by decide +kernel)
theorem wm_743 : (Jvm.Cond.code ({ cls := "GrownKinds$Reader", name := "read", desc := "([BI)I" } : Jvm.MethodName) prog_7_method_2_code (4 : Nat) (Option.some Jvm.ClassFile.FieldType.int)) ∈ gT := gT_in (List.mem_of_getElem? (i := 743) (by decide +kernel)) (by decide +kernel)
theorem dX11_grammar_15 : decode cX11_grammar 15 = .ok (.istore_n 1, 1) := by decide +kernel
theorem dX11_grammar_16 : decode cX11_grammar 16 = .ok (.aload_n 0, 1) := by decide +kernel
theorem dX11_grammar_17 : decode cX11_grammar 17 = .ok (.iconst 0, 1) := by decide +kernel
theorem dX11_grammar_18 : decode cX11_grammar 18 = .ok (.putfield 13, 3) := by decide +kernel
theorem dX11_grammar_21 : decode cX11_grammar 21 = .ok (.aload_n 0, 1) := by decide +kernel
theorem dX11_grammar_22 : decode cX11_grammar 22 = .ok (.aload_n 0, 1) := by decide +kernel
theorem dX11_grammar_23 : decode cX11_grammar 23 = .ok (.getfield 29, 3) := by decide +kernel
theorem dX11_grammar_26 : decode cX11_grammar 26 = .ok (.getfield 128, 3) := by decide +kernel
theorem wm_354 : (Jvm.Cond.fieldLink "GrownKinds" (128 : Nat) "GrownKinds$Reader" "fault" "I") ∈ gT := gT_in (List.mem_of_getElem? (i := 354) (by decide +kernel)) (by decide +kernel)
theorem dX11_grammar_29 : decode cX11_grammar 29 = .ok (.putfield 33, 3) := by decide +kernel
theorem dX11_grammar_32 : decode cX11_grammar 32 = .ok (.aload_n 0, 1) := by decide +kernel
theorem dX11_grammar_33 : decode cX11_grammar 33 = .ok (.aload_n 0, 1) := by decide +kernel
theorem dX11_grammar_34 : decode cX11_grammar 34 = .ok (.getfield 29, 3) := by decide +kernel
theorem dX11_grammar_37 : decode cX11_grammar 37 = .ok (.getfield 131, 3) := by decide +kernel
theorem wm_356 : (Jvm.Cond.fieldLink "GrownKinds" (131 : Nat) "GrownKinds$Reader" "place" "I") ∈ gT := gT_in (List.mem_of_getElem? (i := 356) (by decide +kernel)) (by decide +kernel)
theorem dX11_grammar_40 : decode cX11_grammar 40 = .ok (.putfield 36, 3) := by decide +kernel
theorem dX11_grammar_43 : decode cX11_grammar 43 = .ok (.aload_n 0, 1) := by decide +kernel
theorem dX11_grammar_44 : decode cX11_grammar 44 = .ok (.getfield 33, 3) := by decide +kernel
theorem dX11_grammar_47 : decode cX11_grammar 47 = .ok (.ifCond .eq 6, 3) := by decide +kernel
theorem dX11_grammar_53 : decode cX11_grammar 53 = .ok (.aload_n 0, 1) := by decide +kernel
theorem dX11_grammar_54 : decode cX11_grammar 54 = .ok (.getfield 20, 3) := by decide +kernel
theorem dX11_grammar_57 : decode cX11_grammar 57 = .ok (.aload_n 0, 1) := by decide +kernel
theorem dX11_grammar_58 : decode cX11_grammar 58 = .ok (.getfield 29, 3) := by decide +kernel
theorem dX11_grammar_61 : decode cX11_grammar 61 = .ok (.getfield 134, 3) := by decide +kernel
theorem wm_352 : (Jvm.Cond.fieldLink "GrownKinds" (134 : Nat) "GrownKinds$Reader" "made" "LGrownKinds$Grammar;") ∈ gT := gT_in (List.mem_of_getElem? (i := 352) (by decide +kernel)) (by decide +kernel)
theorem dX11_grammar_64 : decode cX11_grammar 64 = .ok (.invokevirtual 137, 3) := by decide +kernel
theorem wm_967 : (Jvm.Cond.methodLink "GrownKinds" (137 : Nat) ({ cls := "GrownKinds$Grammar", name := "copy", desc := "(LGrownKinds$Grammar;)V" } : Jvm.MethodName)) ∈ gT := gT_in (List.mem_of_getElem? (i := 967) (by decide +kernel)) (by decide +kernel)
theorem wm_968 : (Jvm.Cond.instanceMethod ({ cls := "GrownKinds$Grammar", name := "copy", desc := "(LGrownKinds$Grammar;)V" } : Jvm.MethodName)) ∈ gT := gT_in (List.mem_of_getElem? (i := 968) (by decide +kernel)) (by decide +kernel)
theorem wm_969 : (Jvm.Cond.selects "GrownKinds$Grammar" ({ cls := "GrownKinds$Grammar", name := "copy", desc := "(LGrownKinds$Grammar;)V" } : Jvm.MethodName) ({ cls := "GrownKinds$Grammar", name := "copy", desc := "(LGrownKinds$Grammar;)V" } : Jvm.MethodName)) ∈ gT := gT_in (List.mem_of_getElem? (i := 969) (by decide +kernel)) (by decide +kernel)
theorem wm_970 : (Jvm.Cond.code ({ cls := "GrownKinds$Grammar", name := "copy", desc := "(LGrownKinds$Grammar;)V" } : Jvm.MethodName) prog_4_method_3_code (2 : Nat) (Option.none : Option Jvm.ClassFile.FieldType)) ∈ gT := gT_in (List.mem_of_getElem? (i := 970) (by decide +kernel)) (by decide +kernel)
theorem dX11_grammar_67 : decode cX11_grammar 67 = .ok (.aload_n 0, 1) := by decide +kernel
theorem dX11_grammar_68 : decode cX11_grammar 68 = .ok (.iconst 0, 1) := by decide +kernel
theorem dX11_grammar_69 : decode cX11_grammar 69 = .ok (.putfield 108, 3) := by decide +kernel
theorem dX11_grammar_72 : decode cX11_grammar 72 = .ok (.aload_n 0, 1) := by decide +kernel
theorem dX11_grammar_73 : decode cX11_grammar 73 = .ok (.invokevirtual 140, 3) := by decide +kernel
theorem wm_974 : (Jvm.Cond.methodLink "GrownKinds" (140 : Nat) ({ cls := "GrownKinds", name := "settle", desc := "()V" } : Jvm.MethodName)) ∈ gT := gT_in (List.mem_of_getElem? (i := 974) (by decide +kernel)) (by decide +kernel)
theorem wm_976 : (Jvm.Cond.instanceMethod ({ cls := "GrownKinds", name := "settle", desc := "()V" } : Jvm.MethodName)) ∈ gT := gT_in (List.mem_of_getElem? (i := 976) (by decide +kernel)) (by decide +kernel)
theorem wm_29 : Cond.selects "GrownKinds" ⟨"GrownKinds", "settle", "()V"⟩ ⟨"GrownKinds", "settle", "()V"⟩ ∈ gT := gT_in (List.mem_of_getElem? (i := 29) (by decide +kernel)) (by decide +kernel)
theorem wm_977 : (Jvm.Cond.code ({ cls := "GrownKinds", name := "settle", desc := "()V" } : Jvm.MethodName) prog_1_method_6_code (1 : Nat) (Option.none : Option Jvm.ClassFile.FieldType)) ∈ gT := gT_in (List.mem_of_getElem? (i := 977) (by decide +kernel)) (by decide +kernel)
theorem dX11_grammar_76 : decode cX11_grammar 76 = .ok (.iload_n 1, 1) := by decide +kernel
theorem dX11_grammar_77 : decode cX11_grammar 77 = .ok (.ireturn, 1) := by decide +kernel
set_option maxHeartbeats 4000000 in
set_option maxRecDepth 100000 in
theorem qX2_copy (l : Launch) {D : va_G} {cy : Nat → ClassId} {b n : Nat} (hn : 105 ≤ n) {E : Nat → va_E} {f19 : Nat → Int32} {f21 : Nat → Int32} (h2 : E 2 = Z2 b cy) (h3 : E 3 = Z3 b cy) (h4 : E 4 = Z4 b cy) (h5 : E 5 = Z5 b cy) (h6 : E 6 = Z6 b cy) (h7 : E 7 = Z7 b cy) (h8 : E 8 = Z8 b cy) (h9 : E 9 = Z9 b cy) (h10 : E 10 = Z10 b cy) (h11 : E 11 = Z11 b cy) (h13 : E 13 = Z13 b cy) (h14 : E 14 = Z14 b cy) (h15 : E 15 = Z15 b cy) (h16 : E 16 = Z16 b cy) (h17 : E 17 = Z17 b cy) (h18 : E 18 = Z18 b cy) (h19 : E 19 = .inl (cy 1, 30, .inl f19)) (h20 : E 20 = Z20 b cy) (h21 : E 21 = .inl (cy 1, 30, .inl f21)) (h22 : E 22 = Z22 b cy)   : gV l yX2_copy cX2_copy 2 1 0 0 D cy b n E [.ref (b + 2), .ref (b + 13)] (fun u => u.1 = n ∧ (∀ j, j ≠ 2 → j ≠ 3 → j ≠ 4 → j ≠ 5 → j ≠ 6 → j ≠ 7 → j ≠ 8 → j ≠ 9 → j ≠ 10 → j ≠ 11 → u.2 j = E j) ∧ u.2 2 = .inr (2, [.int 0, .int 0, .int 0, .int 0, .int 0, .ref (b + 3), .ref (b + 4), .ref (b + 5), .ref (b + 6), .ref (b + 7), .ref (b + 8), .ref (b + 9), .ref (b + 10), .ref (b + 11)]) ∧ (∃ f : Nat → Int32, u.2 3 = .inl (cy 1, 24, .inl f)) ∧ (∃ f : Nat → Int32, u.2 4 = .inl (cy 1, 24, .inl f)) ∧ (∃ f : Nat → Int32, u.2 5 = .inl (cy 1, 24, .inl f)) ∧ (∃ f : Nat → Int32, u.2 6 = .inl (cy 1, 24, .inl f)) ∧ (∃ f : Nat → Int32, u.2 7 = .inl (cy 1, 24, .inl f)) ∧ (∃ f : Nat → Int32, u.2 8 = .inl (cy 1, 30, .inl f)) ∧ (∃ f : Nat → Int32, u.2 9 = .inl (cy 1, 300, .inl f)) ∧ (∃ f : Nat → Int32, u.2 10 = .inl (cy 1, 30, .inl f)) ∧ (∃ f : Nat → Int32, u.2 11 = .inl (cy 1, 54, .inl f))) := by
  refine gV_of (by decide) (Nat.le_of_ble_eq_true rfl) ?_
  intro p e s m args below meth c S hr hlk hin hsz ls hl hG
  have hx := S.1
  have hb := S.2.1
  have hl : lv_has ls 2 [(0, .ref (b + 2)), (1, .ref (b + 13))] := hl
  refine lv_aload_n hx hb dX2_copy_0 rfl (lv_at hl 0 rfl) ?_
  refine lv_aload_n hx hb dX2_copy_1 rfl (lv_at hl 1 rfl) ?_
  refine g_get S hG 13 0 h13 cpX2 wm_211 dX2_copy_2 rfl (by omega) (by decide) ?_
  refine g_put (fs' := [.int 0, .int 0, .int 0, .int 0, .int 0, .ref (b + 3), .ref (b + 4), .ref (b + 5), .ref (b + 6), .ref (b + 7), .ref (b + 8), .ref (b + 9), .ref (b + 10), .ref (b + 11)]) S hG 2 0 h2 cpX2 wm_211 dX2_copy_5 rfl (by omega) (by decide) (Nat.le_of_ble_eq_true rfl) rfl rfl rfl (fun H locs hG => ?_)
  refine lv_aload_n hx hb dX2_copy_8 rfl (lv_at hl 0 rfl) ?_
  refine lv_aload_n hx hb dX2_copy_9 rfl (lv_at hl 1 rfl) ?_
  refine g_get S hG 13 1 h13 cpX2 wm_217 dX2_copy_10 rfl (by omega) (by decide) ?_
  refine g_put (fs' := [.int 0, .int 0, .int 0, .int 0, .int 0, .ref (b + 3), .ref (b + 4), .ref (b + 5), .ref (b + 6), .ref (b + 7), .ref (b + 8), .ref (b + 9), .ref (b + 10), .ref (b + 11)]) S hG 2 1 rfl cpX2 wm_217 dX2_copy_13 rfl (by omega) (by decide) (Nat.le_of_ble_eq_true rfl) rfl rfl rfl (fun H locs hG => ?_)
  refine lv_aload_n hx hb dX2_copy_16 rfl (lv_at hl 0 rfl) ?_
  refine lv_aload_n hx hb dX2_copy_17 rfl (lv_at hl 1 rfl) ?_
  refine g_get S hG 13 2 h13 cpX2 wm_222 dX2_copy_18 rfl (by omega) (by decide) ?_
  refine g_put (fs' := [.int 0, .int 0, .int 0, .int 0, .int 0, .ref (b + 3), .ref (b + 4), .ref (b + 5), .ref (b + 6), .ref (b + 7), .ref (b + 8), .ref (b + 9), .ref (b + 10), .ref (b + 11)]) S hG 2 2 rfl cpX2 wm_222 dX2_copy_21 rfl (by omega) (by decide) (Nat.le_of_ble_eq_true rfl) rfl rfl rfl (fun H locs hG => ?_)
  refine lv_aload_n hx hb dX2_copy_24 rfl (lv_at hl 0 rfl) ?_
  refine lv_aload_n hx hb dX2_copy_25 rfl (lv_at hl 1 rfl) ?_
  refine g_get S hG 13 3 h13 cpX2 wm_225 dX2_copy_26 rfl (by omega) (by decide) ?_
  refine g_put (fs' := [.int 0, .int 0, .int 0, .int 0, .int 0, .ref (b + 3), .ref (b + 4), .ref (b + 5), .ref (b + 6), .ref (b + 7), .ref (b + 8), .ref (b + 9), .ref (b + 10), .ref (b + 11)]) S hG 2 3 rfl cpX2 wm_225 dX2_copy_29 rfl (by omega) (by decide) (Nat.le_of_ble_eq_true rfl) rfl rfl rfl (fun H locs hG => ?_)
  refine lv_aload_n hx hb dX2_copy_32 rfl (lv_at hl 0 rfl) ?_
  refine lv_aload_n hx hb dX2_copy_33 rfl (lv_at hl 1 rfl) ?_
  refine g_get S hG 13 4 h13 cpX2 wm_230 dX2_copy_34 rfl (by omega) (by decide) ?_
  refine g_put (fs' := [.int 0, .int 0, .int 0, .int 0, .int 0, .ref (b + 3), .ref (b + 4), .ref (b + 5), .ref (b + 6), .ref (b + 7), .ref (b + 8), .ref (b + 9), .ref (b + 10), .ref (b + 11)]) S hG 2 4 rfl cpX2 wm_230 dX2_copy_37 rfl (by omega) (by decide) (Nat.le_of_ble_eq_true rfl) rfl rfl rfl (fun H locs hG => ?_)
  refine lv_aload_n hx hb dX2_copy_40 rfl (lv_at hl 1 rfl) ?_
  refine g_get S hG 13 5 h13 cpX2 wm_233 dX2_copy_41 rfl (by omega) (by decide) ?_
  refine lv_iconst (v := 0) hx hb dX2_copy_44 (by decide) ?_
  refine lv_aload_n hx hb dX2_copy_45 rfl (lv_at hl 0 rfl) ?_
  refine g_get S hG 2 5 rfl cpX2 wm_233 dX2_copy_46 rfl (by omega) (by decide) ?_
  refine lv_iconst (v := 0) hx hb dX2_copy_49 (by decide) ?_
  refine lv_bipush (v := 24) hx hb dX2_copy_50 (by decide) ?_
  refine g_copyi S hG 14 3 h14 h3 (by omega) (by omega) ⟨wm_971, wm_973, wm_972, wm_194⟩ hl.1 (by decide) (by decide) (by decide) (by decide) (by decide) ⟨Nat.le_of_ble_eq_true rfl, Nat.le_of_ble_eq_true rfl⟩ dX2_copy_52 (fun H locs hG => ?_)
  refine lv_aload_n hx hb dX2_copy_55 rfl (lv_at hl 1 rfl) ?_
  refine g_get S hG 13 6 h13 cpX2 wm_239 dX2_copy_56 rfl (by omega) (by decide) ?_
  refine lv_iconst (v := 0) hx hb dX2_copy_59 (by decide) ?_
  refine lv_aload_n hx hb dX2_copy_60 rfl (lv_at hl 0 rfl) ?_
  refine g_get S hG 2 6 rfl cpX2 wm_239 dX2_copy_61 rfl (by omega) (by decide) ?_
  refine lv_iconst (v := 0) hx hb dX2_copy_64 (by decide) ?_
  refine lv_bipush (v := 24) hx hb dX2_copy_65 (by decide) ?_
  refine g_copyi S hG 15 4 h15 h4 (by omega) (by omega) ⟨wm_971, wm_973, wm_972, wm_194⟩ hl.1 (by decide) (by decide) (by decide) (by decide) (by decide) ⟨Nat.le_of_ble_eq_true rfl, Nat.le_of_ble_eq_true rfl⟩ dX2_copy_67 (fun H locs hG => ?_)
  refine lv_aload_n hx hb dX2_copy_70 rfl (lv_at hl 1 rfl) ?_
  refine g_get S hG 13 7 h13 cpX2 wm_246 dX2_copy_71 rfl (by omega) (by decide) ?_
  refine lv_iconst (v := 0) hx hb dX2_copy_74 (by decide) ?_
  refine lv_aload_n hx hb dX2_copy_75 rfl (lv_at hl 0 rfl) ?_
  refine g_get S hG 2 7 rfl cpX2 wm_246 dX2_copy_76 rfl (by omega) (by decide) ?_
  refine lv_iconst (v := 0) hx hb dX2_copy_79 (by decide) ?_
  refine lv_bipush (v := 24) hx hb dX2_copy_80 (by decide) ?_
  refine g_copyi S hG 16 5 h16 h5 (by omega) (by omega) ⟨wm_971, wm_973, wm_972, wm_194⟩ hl.1 (by decide) (by decide) (by decide) (by decide) (by decide) ⟨Nat.le_of_ble_eq_true rfl, Nat.le_of_ble_eq_true rfl⟩ dX2_copy_82 (fun H locs hG => ?_)
  refine lv_aload_n hx hb dX2_copy_85 rfl (lv_at hl 1 rfl) ?_
  refine g_get S hG 13 8 h13 cpX2 wm_253 dX2_copy_86 rfl (by omega) (by decide) ?_
  refine lv_iconst (v := 0) hx hb dX2_copy_89 (by decide) ?_
  refine lv_aload_n hx hb dX2_copy_90 rfl (lv_at hl 0 rfl) ?_
  refine g_get S hG 2 8 rfl cpX2 wm_253 dX2_copy_91 rfl (by omega) (by decide) ?_
  refine lv_iconst (v := 0) hx hb dX2_copy_94 (by decide) ?_
  refine lv_bipush (v := 24) hx hb dX2_copy_95 (by decide) ?_
  refine g_copyi S hG 17 6 h17 h6 (by omega) (by omega) ⟨wm_971, wm_973, wm_972, wm_194⟩ hl.1 (by decide) (by decide) (by decide) (by decide) (by decide) ⟨Nat.le_of_ble_eq_true rfl, Nat.le_of_ble_eq_true rfl⟩ dX2_copy_97 (fun H locs hG => ?_)
  refine lv_aload_n hx hb dX2_copy_100 rfl (lv_at hl 1 rfl) ?_
  refine g_get S hG 13 9 h13 cpX2 wm_259 dX2_copy_101 rfl (by omega) (by decide) ?_
  refine lv_iconst (v := 0) hx hb dX2_copy_104 (by decide) ?_
  refine lv_aload_n hx hb dX2_copy_105 rfl (lv_at hl 0 rfl) ?_
  refine g_get S hG 2 9 rfl cpX2 wm_259 dX2_copy_106 rfl (by omega) (by decide) ?_
  refine lv_iconst (v := 0) hx hb dX2_copy_109 (by decide) ?_
  refine lv_bipush (v := 24) hx hb dX2_copy_110 (by decide) ?_
  refine g_copyi S hG 18 7 h18 h7 (by omega) (by omega) ⟨wm_971, wm_973, wm_972, wm_194⟩ hl.1 (by decide) (by decide) (by decide) (by decide) (by decide) ⟨Nat.le_of_ble_eq_true rfl, Nat.le_of_ble_eq_true rfl⟩ dX2_copy_112 (fun H locs hG => ?_)
  refine lv_aload_n hx hb dX2_copy_115 rfl (lv_at hl 1 rfl) ?_
  refine g_get S hG 13 10 h13 cpX2 wm_261 dX2_copy_116 rfl (by omega) (by decide) ?_
  refine lv_iconst (v := 0) hx hb dX2_copy_119 (by decide) ?_
  refine lv_aload_n hx hb dX2_copy_120 rfl (lv_at hl 0 rfl) ?_
  refine g_get S hG 2 10 rfl cpX2 wm_261 dX2_copy_121 rfl (by omega) (by decide) ?_
  refine lv_iconst (v := 0) hx hb dX2_copy_124 (by decide) ?_
  refine lv_bipush (v := 30) hx hb dX2_copy_125 (by decide) ?_
  refine g_copyi S hG 19 8 h19 h8 (by omega) (by omega) ⟨wm_971, wm_973, wm_972, wm_194⟩ hl.1 (by decide) (by decide) (by decide) (by decide) (by decide) ⟨Nat.le_of_ble_eq_true rfl, Nat.le_of_ble_eq_true rfl⟩ dX2_copy_127 (fun H locs hG => ?_)
  refine lv_aload_n hx hb dX2_copy_130 rfl (lv_at hl 1 rfl) ?_
  refine g_get S hG 13 11 h13 cpX2 wm_268 dX2_copy_131 rfl (by omega) (by decide) ?_
  refine lv_iconst (v := 0) hx hb dX2_copy_134 (by decide) ?_
  refine lv_aload_n hx hb dX2_copy_135 rfl (lv_at hl 0 rfl) ?_
  refine g_get S hG 2 11 rfl cpX2 wm_268 dX2_copy_136 rfl (by omega) (by decide) ?_
  refine lv_iconst (v := 0) hx hb dX2_copy_139 (by decide) ?_
  refine lv_sipush (v := 300) hx hb dX2_copy_140 (by decide) ?_
  refine g_copyi S hG 20 9 h20 h9 (by omega) (by omega) ⟨wm_971, wm_973, wm_972, wm_194⟩ hl.1 (by decide) (by decide) (by decide) (by decide) (by decide) ⟨Nat.le_of_ble_eq_true rfl, Nat.le_of_ble_eq_true rfl⟩ dX2_copy_143 (fun H locs hG => ?_)
  refine lv_aload_n hx hb dX2_copy_146 rfl (lv_at hl 1 rfl) ?_
  refine g_get S hG 13 12 h13 cpX2 wm_270 dX2_copy_147 rfl (by omega) (by decide) ?_
  refine lv_iconst (v := 0) hx hb dX2_copy_150 (by decide) ?_
  refine lv_aload_n hx hb dX2_copy_151 rfl (lv_at hl 0 rfl) ?_
  refine g_get S hG 2 12 rfl cpX2 wm_270 dX2_copy_152 rfl (by omega) (by decide) ?_
  refine lv_iconst (v := 0) hx hb dX2_copy_155 (by decide) ?_
  refine lv_bipush (v := 30) hx hb dX2_copy_156 (by decide) ?_
  refine g_copyi S hG 21 10 h21 h10 (by omega) (by omega) ⟨wm_971, wm_973, wm_972, wm_194⟩ hl.1 (by decide) (by decide) (by decide) (by decide) (by decide) ⟨Nat.le_of_ble_eq_true rfl, Nat.le_of_ble_eq_true rfl⟩ dX2_copy_158 (fun H locs hG => ?_)
  refine lv_aload_n hx hb dX2_copy_161 rfl (lv_at hl 1 rfl) ?_
  refine g_get S hG 13 13 h13 cpX2 wm_272 dX2_copy_162 rfl (by omega) (by decide) ?_
  refine lv_iconst (v := 0) hx hb dX2_copy_165 (by decide) ?_
  refine lv_aload_n hx hb dX2_copy_166 rfl (lv_at hl 0 rfl) ?_
  refine g_get S hG 2 13 rfl cpX2 wm_272 dX2_copy_167 rfl (by omega) (by decide) ?_
  refine lv_iconst (v := 0) hx hb dX2_copy_170 (by decide) ?_
  refine lv_bipush (v := 54) hx hb dX2_copy_171 (by decide) ?_
  refine g_copyi S hG 22 11 h22 h11 (by omega) (by omega) ⟨wm_971, wm_973, wm_972, wm_194⟩ hl.1 (by decide) (by decide) (by decide) (by decide) (by decide) ⟨Nat.le_of_ble_eq_true rfl, Nat.le_of_ble_eq_true rfl⟩ dX2_copy_173 (fun H locs hG => ?_)
  exact g_vret S hr hlk hG (by omega) dX2_copy_176 ⟨Nat.le_of_ble_eq_true rfl, Nat.le_of_ble_eq_true rfl⟩ ⟨rfl, fun j hj2 hj3 hj4 hj5 hj6 hj7 hj8 hj9 hj10 hj11 => (upE_n (by omega)).trans ((upE_n (by omega)).trans ((upE_n (by omega)).trans ((upE_n (by omega)).trans ((upE_n (by omega)).trans ((upE_n (by omega)).trans ((upE_n (by omega)).trans ((upE_n (by omega)).trans ((upE_n (by omega)).trans ((upE_n (by omega)).trans ((upE_n (by omega)).trans ((upE_n (by omega)).trans ((upE_n (by omega)).trans ((upE_n (by omega)).trans (rfl)))))))))))))), rfl, ⟨_, rfl⟩, ⟨_, rfl⟩, ⟨_, rfl⟩, ⟨_, rfl⟩, ⟨_, rfl⟩, ⟨_, rfl⟩, ⟨_, rfl⟩, ⟨_, rfl⟩, ⟨_, rfl⟩⟩
set_option maxHeartbeats 4000000 in
set_option maxRecDepth 100000 in
theorem qX1_stop (l : Launch) {D : va_G} {cy : Nat → ClassId} {b n : Nat} (hn : 105 ≤ n) {E : Nat → va_E}  (h80 : E 80 = Z80 b cy)   : gV l yX1_stop cX1_stop 1 0 0 0 D cy b n E [.ref (b + 80)] (fun u => u.1 = n ∧ (∀ j, j ≠ 80 → u.2 j = E j) ∧ u.2 80 = .inr (1, [.ref (b + 40), .int 0, .int 0, .int 0, .int 0, .int 0, .int 0])) := by
  refine gV_of (by decide) (Nat.le_of_ble_eq_true rfl) ?_
  intro p e s m args below meth c S hr hlk hin hsz ls hl hG
  have hx := S.1
  have hb := S.2.1
  have hl : lv_has ls 1 [(0, .ref (b + 80))] := hl
  refine lv_aload_n hx hb dX1_stop_0 rfl (lv_at hl 0 rfl) ?_
  refine lv_iconst (v := 0) hx hb dX1_stop_1 (by decide) ?_
  refine g_put (fs' := [.ref (b + 40), .int 0, .int 0, .int 0, .int 0, .int 0, .int 0]) S hG 80 1 h80 cpX1 wm_644 dX1_stop_2 rfl (by omega) (by decide) (Nat.le_of_ble_eq_true rfl) rfl rfl rfl (fun H locs hG => ?_)
  exact g_vret S hr hlk hG (by omega) dX1_stop_5 ⟨Nat.le_of_ble_eq_true rfl, Nat.le_of_ble_eq_true rfl⟩ ⟨rfl, fun j hj80 => (upE_n (by omega)).trans (rfl), rfl⟩
set_option maxHeartbeats 4000000 in
set_option maxRecDepth 100000 in
theorem qX3_findEmpty (l : Launch) {D : va_G} {cy : Nat → ClassId} {b n : Nat} (hn : 105 ≤ n) {E : Nat → va_E}  (h2 : E 2 = Z2 b cy) (h33 : E 33 = Z33 b cy)   : gV l yX3_findEmpty cX3_findEmpty 6 0 0 0 D cy b n E [.ref (b + 33)] (fun u => u.1 = n ∧ (∀ j, j ≠ 33 → u.2 j = E j) ∧ u.2 33 = .inr (3, [.ref (b + 2), .int 0, .int 0, .ref (b + 34), .ref (b + 35), .ref (b + 36), .ref (b + 37), .ref (b + 38), .ref (b + 39)])) := by
  refine gV_of (by decide) (Nat.le_of_ble_eq_true rfl) ?_
  intro p e s m args below meth c S hr hlk hin hsz ls hl hG
  have hx := S.1
  have hb := S.2.1
  have hl : lv_has ls 6 [(0, .ref (b + 33))] := hl
  refine lv_aload_n hx hb dX3_findEmpty_0 rfl (lv_at hl 0 rfl) ?_
  refine lv_iconst (v := 0) hx hb dX3_findEmpty_1 (by decide) ?_
  refine g_put (fs' := [.ref (b + 2), .int 0, .int 0, .ref (b + 34), .ref (b + 35), .ref (b + 36), .ref (b + 37), .ref (b + 38), .ref (b + 39)]) S hG 33 1 h33 cpX3 wm_319 dX3_findEmpty_2 rfl (by omega) (by decide) (Nat.le_of_ble_eq_true rfl) rfl rfl rfl (fun H locs hG => ?_)
  refine lv_aload_n hx hb dX3_findEmpty_5 rfl (lv_at hl 0 rfl) ?_
  refine lv_iconst (v := 0) hx hb dX3_findEmpty_6 (by decide) ?_
  refine g_put (fs' := [.ref (b + 2), .int 0, .int 0, .ref (b + 34), .ref (b + 35), .ref (b + 36), .ref (b + 37), .ref (b + 38), .ref (b + 39)]) S hG 33 2 rfl cpX3 wm_320 dX3_findEmpty_7 rfl (by omega) (by decide) (Nat.le_of_ble_eq_true rfl) rfl rfl rfl (fun H locs hG => ?_)
  refine lv_iconst (v := 1) hx hb dX3_findEmpty_10 (by decide) ?_
  refine lv_istore_n (lv' := [(1, .int 1), (0, .ref (b + 33))]) hx hb dX3_findEmpty_11 rfl hl (by decide) rfl (fun ls hl => ?_)
  refine lv_iconst (v := 0) hx hb dX3_findEmpty_12 (by decide) ?_
  refine lv_istore_n (lv' := [(2, .int 0), (1, .int 1), (0, .ref (b + 33))]) hx hb dX3_findEmpty_13 rfl hl (by decide) rfl (fun ls hl => ?_)
  refine lv_iload_n hx hb dX3_findEmpty_14 rfl (lv_at hl 0 rfl) ?_
  refine lv_bipush (v := 54) hx hb dX3_findEmpty_15 (by decide) ?_
  refine lv_icmp_gt (tgt := 159) hx hb dX3_findEmpty_17 (by decide) (fun c_1 => absurd c_1 (by decide)) (fun c_1 => ?_)
  refine lv_iload_n hx hb dX3_findEmpty_20 rfl (lv_at hl 1 rfl) ?_
  refine lv_if_eq (tgt := 159) hx hb dX3_findEmpty_21 (by decide) (fun c_2 => absurd c_2 (by decide)) (fun c_2 => ?_)
  refine lv_aload_n hx hb dX3_findEmpty_24 rfl (lv_at hl 2 rfl) ?_
  refine g_get S hG 33 1 rfl cpX3 wm_319 dX3_findEmpty_25 rfl (by omega) (by decide) ?_
  refine lv_istore_n (lv' := [(3, .int 0), (2, .int 0), (1, .int 1), (0, .ref (b + 33))]) hx hb dX3_findEmpty_28 rfl hl (by decide) rfl (fun ls hl => ?_)
  refine lv_aload_n hx hb dX3_findEmpty_29 rfl (lv_at hl 3 rfl) ?_
  refine g_get S hG 33 2 rfl cpX3 wm_320 dX3_findEmpty_30 rfl (by omega) (by decide) ?_
  refine lv_istore (lv' := [(4, .int 0), (3, .int 0), (2, .int 0), (1, .int 1), (0, .ref (b + 33))]) hx hb dX3_findEmpty_33 hl (by decide) rfl (fun ls hl => ?_)
  refine lv_aload_n hx hb dX3_findEmpty_35 rfl (lv_at hl 4 rfl) ?_
  refine g_get S hG 33 0 rfl cpX3 wm_318 dX3_findEmpty_36 rfl (by omega) (by decide) ?_
  refine g_get S hG 2 3 h2 cpX2 wm_226 dX3_findEmpty_39 rfl (by omega) (by decide) ?_
  refine lv_iconst (v := 1) hx hb dX3_findEmpty_42 (by decide) ?_
  refine lv_isub hx hb dX3_findEmpty_43 ?_
  refine lv_topi (fun x_3 ex_3 => ?_)
  obtain rfl : x_3 = (-1) := ex_3.trans (by decide)
  refine lv_istore (lv' := [(5, .int (-1)), (4, .int 0), (3, .int 0), (2, .int 0), (1, .int 1), (0, .ref (b + 33))]) hx hb dX3_findEmpty_44 hl (by decide) rfl (fun ls hl => ?_)
  refine lv_iload hx hb dX3_findEmpty_46 (lv_at hl 0 rfl) ?_
  refine lv_if_lt (tgt := 83) hx hb dX3_findEmpty_48 (by decide) (fun c_4 => ?_) (fun c_4 => absurd c_4 (by decide))
  refine lv_iconst (v := 0) hx hb dX3_findEmpty_83 (by decide) ?_
  refine lv_istore (lv' := [(5, .int 0), (4, .int 0), (3, .int 0), (2, .int 0), (1, .int 1), (0, .ref (b + 33))]) hx hb dX3_findEmpty_84 hl (by decide) rfl (fun ls hl => ?_)
  refine lv_iload hx hb dX3_findEmpty_86 (lv_at hl 0 rfl) ?_
  refine lv_aload_n hx hb dX3_findEmpty_88 rfl (lv_at hl 5 rfl) ?_
  refine g_get S hG 33 0 rfl cpX3 wm_318 dX3_findEmpty_89 rfl (by omega) (by decide) ?_
  refine g_get S hG 2 1 h2 cpX2 wm_218 dX3_findEmpty_92 rfl (by omega) (by decide) ?_
  refine lv_icmp_ge (tgt := 130) hx hb dX3_findEmpty_95 (by decide) (fun c_5 => ?_) (fun c_5 => absurd c_5 (by decide))
  refine lv_iload_n hx hb dX3_findEmpty_130 rfl (lv_at hl 2 rfl) ?_
  refine lv_aload_n hx hb dX3_findEmpty_131 rfl (lv_at hl 5 rfl) ?_
  refine g_get S hG 33 1 rfl cpX3 wm_319 dX3_findEmpty_132 rfl (by omega) (by decide) ?_
  refine lv_icmp_ne (tgt := 147) hx hb dX3_findEmpty_135 (by decide) (fun c_6 => absurd c_6 (by decide)) (fun c_6 => ?_)
  refine lv_iload hx hb dX3_findEmpty_138 (lv_at hl 1 rfl) ?_
  refine lv_aload_n hx hb dX3_findEmpty_140 rfl (lv_at hl 5 rfl) ?_
  refine g_get S hG 33 2 rfl cpX3 wm_320 dX3_findEmpty_141 rfl (by omega) (by decide) ?_
  refine lv_icmp_eq (tgt := 151) hx hb dX3_findEmpty_144 (by decide) (fun c_7 => ?_) (fun c_7 => absurd c_7 (by decide))
  refine lv_iconst (v := 0) hx hb dX3_findEmpty_151 (by decide) ?_
  refine lv_istore_n (lv' := [(1, .int 0), (5, .int 0), (4, .int 0), (3, .int 0), (2, .int 0), (0, .ref (b + 33))]) hx hb dX3_findEmpty_152 rfl hl (by decide) rfl (fun ls hl => ?_)
  refine lv_iinc (v := 1) (lv' := [(2, .int 1), (1, .int 0), (5, .int 0), (4, .int 0), (3, .int 0), (0, .ref (b + 33))]) hx hb dX3_findEmpty_153 hl (k := 4) rfl (by decide) (by decide) rfl (fun ls hl => ?_)
  refine lv_goto (tgt := 14) hx hb dX3_findEmpty_156 (by decide) ?_
  refine lv_iload_n hx hb dX3_findEmpty_14 rfl (lv_at hl 0 rfl) ?_
  refine lv_bipush (v := 54) hx hb dX3_findEmpty_15 (by decide) ?_
  refine lv_icmp_gt (tgt := 159) hx hb dX3_findEmpty_17 (by decide) (fun c_8 => absurd c_8 (by decide)) (fun c_8 => ?_)
  refine lv_iload_n hx hb dX3_findEmpty_20 rfl (lv_at hl 1 rfl) ?_
  refine lv_if_eq (tgt := 159) hx hb dX3_findEmpty_21 (by decide) (fun c_9 => ?_) (fun c_9 => absurd c_9 (by decide))
  exact g_vret S hr hlk hG (by omega) dX3_findEmpty_159 ⟨Nat.le_of_ble_eq_true rfl, Nat.le_of_ble_eq_true rfl⟩ ⟨rfl, fun j hj33 => (upE_n (by omega)).trans ((upE_n (by omega)).trans (rfl)), rfl⟩
theorem wV_3_41 : gWV "GrownKinds$Leaning" 41 yX3_findEmpty cX3_findEmpty 6 none := ⟨wm_894, wm_896, wm_18, wm_179, wm_897, by decide +kernel, by decide +kernel⟩
set_option maxHeartbeats 4000000 in
set_option maxRecDepth 100000 in
theorem qX3_study (l : Launch) {D : va_G} {cy : Nat → ClassId} {b n : Nat} (hn : 105 ≤ n) {E : Nat → va_E}  (h2 : E 2 = Z2 b cy) (h33 : E 33 = Z33 b cy)   : gV l yX3_study cX3_study 2 1 0 0 D cy b n E [.ref (b + 33)] (fun u => u.1 = n ∧ (∀ j, j ≠ 33 → u.2 j = E j) ∧ u.2 33 = .inr (3, [.ref (b + 2), .int 0, .int 0, .ref (b + 34), .ref (b + 35), .ref (b + 36), .ref (b + 37), .ref (b + 38), .ref (b + 39)])) := by
  refine gV_of (by decide) (Nat.le_of_ble_eq_true rfl) ?_
  intro p e s m args below meth c S hr hlk hin hsz ls hl hG
  have hx := S.1
  have hb := S.2.1
  have hl : lv_has ls 2 [(0, .ref (b + 33))] := hl
  refine lv_aload_n hx hb dX3_study_0 rfl (lv_at hl 0 rfl) ?_
  refine g_vv (As := []) (rest := []) S hG (by omega) (qX3_findEmpty l hn (by exact h2) (by exact h33) ) wV_3_41 h33 cpX3 (by omega) dX3_study_1 rfl hl.1 (ar := 0) (by decide +kernel) rfl ⟨Nat.le_of_ble_eq_true rfl, Nat.le_of_ble_eq_true rfl, Nat.le_of_ble_eq_true rfl, Nat.le_of_ble_eq_true rfl⟩ (Nat.le_of_ble_eq_true rfl) (fun u_E_1 H locs hp_2 hG => ?_)
  obtain ⟨n_E_1, E_1⟩ := u_E_1
  dsimp only at hp_2 hG
  obtain ⟨en_4, hlo_3, g_5⟩ := hp_2
  have hG := gW_eq2 hG en_4 rfl
  refine lv_aload_n hx hb dX3_study_4 rfl (lv_at hl 0 rfl) ?_
  refine g_get S hG 33 0 g_5 cpX3 wm_318 dX3_study_5 rfl (by omega) (by decide) ?_
  refine g_get S hG 2 3 ((hlo_3 2 (by decide) ).trans h2) cpX2 wm_226 dX3_study_8 rfl (by omega) (by decide) ?_
  refine lv_iconst (v := 1) hx hb dX3_study_11 (by decide) ?_
  refine lv_isub hx hb dX3_study_12 ?_
  refine lv_topi (fun x_6 ex_6 => ?_)
  obtain rfl : x_6 = (-1) := ex_6.trans (by decide)
  refine lv_istore_n (lv' := [(1, .int (-1)), (0, .ref (b + 33))]) hx hb dX3_study_13 rfl hl (by decide) rfl (fun ls hl => ?_)
  refine lv_iload_n hx hb dX3_study_14 rfl (lv_at hl 0 rfl) ?_
  refine lv_if_lt (tgt := 29) hx hb dX3_study_15 (by decide) (fun c_7 => ?_) (fun c_7 => absurd c_7 (by decide))
  refine lv_iconst (v := 0) hx hb dX3_study_29 (by decide) ?_
  refine lv_istore_n (lv' := [(1, .int 0), (0, .ref (b + 33))]) hx hb dX3_study_30 rfl hl (by decide) rfl (fun ls hl => ?_)
  refine lv_iload_n hx hb dX3_study_31 rfl (lv_at hl 0 rfl) ?_
  refine lv_aload_n hx hb dX3_study_32 rfl (lv_at hl 1 rfl) ?_
  refine g_get S hG 33 0 g_5 cpX3 wm_318 dX3_study_33 rfl (by omega) (by decide) ?_
  refine g_get S hG 2 1 ((hlo_3 2 (by decide) ).trans h2) cpX2 wm_218 dX3_study_36 rfl (by omega) (by decide) ?_
  refine lv_icmp_ge (tgt := 89) hx hb dX3_study_39 (by decide) (fun c_8 => ?_) (fun c_8 => absurd c_8 (by decide))
  exact g_vret S hr hlk hG (by omega) dX3_study_89 ⟨Nat.le_of_ble_eq_true rfl, Nat.le_of_ble_eq_true rfl⟩ ⟨rfl, fun j hj33 => (hlo_3 j (by omega) ).trans (rfl), g_5⟩
set_option maxHeartbeats 4000000 in
set_option maxRecDepth 100000 in
theorem qX0_take (l : Launch) {D : va_G} {cy : Nat → ClassId} {b n : Nat} (hn : 105 ≤ n) {E : Nat → va_E}  (h2 : E 2 = Z2 b cy) (h40 : E 40 = Z40 b cy)   : gV l yX0_take cX0_take 6 0 0 0 D cy b n E [.ref (b + 40), .int (-1)] (fun u => u.1 = n ∧ (∀ j, j ≠ 40 → u.2 j = E j) ∧ u.2 40 = .inr (0, [.ref (b + 2), .int (-1), .ref (b + 41), .ref (b + 42), .ref (b + 43), .ref (b + 44), .ref (b + 45), .ref (b + 46)])) := by
  refine gV_of (by decide) (Nat.le_of_ble_eq_true rfl) ?_
  intro p e s m args below meth c S hr hlk hin hsz ls hl hG
  have hx := S.1
  have hb := S.2.1
  have hl : lv_has ls 6 [(0, .ref (b + 40)), (1, .int (-1))] := hl
  refine lv_aload_n hx hb dX0_take_0 rfl (lv_at hl 0 rfl) ?_
  refine lv_iload_n hx hb dX0_take_1 rfl (lv_at hl 1 rfl) ?_
  refine g_put (fs' := [.ref (b + 2), .int (-1), .ref (b + 41), .ref (b + 42), .ref (b + 43), .ref (b + 44), .ref (b + 45), .ref (b + 46)]) S hG 40 1 h40 cpX0 wm_403 dX0_take_2 rfl (by omega) (by decide) (Nat.le_of_ble_eq_true rfl) rfl rfl rfl (fun H locs hG => ?_)
  refine lv_iconst (v := 0) hx hb dX0_take_5 (by decide) ?_
  refine lv_istore_n (lv' := [(2, .int 0), (0, .ref (b + 40)), (1, .int (-1))]) hx hb dX0_take_6 rfl hl (by decide) rfl (fun ls hl => ?_)
  refine lv_iload_n hx hb dX0_take_7 rfl (lv_at hl 0 rfl) ?_
  refine lv_aload_n hx hb dX0_take_8 rfl (lv_at hl 1 rfl) ?_
  refine g_get S hG 40 0 rfl cpX0 wm_402 dX0_take_9 rfl (by omega) (by decide) ?_
  refine g_get S hG 2 3 h2 cpX2 wm_227 dX0_take_12 rfl (by omega) (by decide) ?_
  refine lv_icmp_ge (tgt := 44) hx hb dX0_take_15 (by decide) (fun c_1 => ?_) (fun c_1 => absurd c_1 (by decide))
  refine lv_iconst (v := 0) hx hb dX0_take_44 (by decide) ?_
  refine lv_istore_n (lv' := [(2, .int 0), (0, .ref (b + 40)), (1, .int (-1))]) hx hb dX0_take_45 rfl hl (by decide) rfl (fun ls hl => ?_)
  refine lv_iload_n hx hb dX0_take_46 rfl (lv_at hl 0 rfl) ?_
  refine lv_aload_n hx hb dX0_take_47 rfl (lv_at hl 1 rfl) ?_
  refine g_get S hG 40 0 rfl cpX0 wm_402 dX0_take_48 rfl (by omega) (by decide) ?_
  refine g_get S hG 2 0 h2 cpX2 wm_212 dX0_take_51 rfl (by omega) (by decide) ?_
  refine lv_icmp_gt (tgt := 161) hx hb dX0_take_54 (by decide) (fun c_2 => absurd c_2 (by decide)) (fun c_2 => ?_)
  refine lv_iconst (v := 0) hx hb dX0_take_57 (by decide) ?_
  refine lv_istore_n (lv' := [(3, .int 0), (2, .int 0), (0, .ref (b + 40)), (1, .int (-1))]) hx hb dX0_take_58 rfl hl (by decide) rfl (fun ls hl => ?_)
  refine lv_iload_n hx hb dX0_take_59 rfl (lv_at hl 0 rfl) ?_
  refine lv_aload_n hx hb dX0_take_60 rfl (lv_at hl 2 rfl) ?_
  refine g_get S hG 40 0 rfl cpX0 wm_402 dX0_take_61 rfl (by omega) (by decide) ?_
  refine g_get S hG 2 4 h2 cpX2 wm_231 dX0_take_64 rfl (by omega) (by decide) ?_
  refine lv_icmp_ge (tgt := 155) hx hb dX0_take_67 (by decide) (fun c_3 => ?_) (fun c_3 => absurd c_3 (by decide))
  refine lv_iinc (v := 1) (lv' := [(2, .int 1), (3, .int 0), (0, .ref (b + 40)), (1, .int (-1))]) hx hb dX0_take_155 hl (k := 1) rfl (by decide) (by decide) rfl (fun ls hl => ?_)
  refine lv_goto (tgt := 46) hx hb dX0_take_158 (by decide) ?_
  refine lv_iload_n hx hb dX0_take_46 rfl (lv_at hl 0 rfl) ?_
  refine lv_aload_n hx hb dX0_take_47 rfl (lv_at hl 2 rfl) ?_
  refine g_get S hG 40 0 rfl cpX0 wm_402 dX0_take_48 rfl (by omega) (by decide) ?_
  refine g_get S hG 2 0 h2 cpX2 wm_212 dX0_take_51 rfl (by omega) (by decide) ?_
  refine lv_icmp_gt (tgt := 161) hx hb dX0_take_54 (by decide) (fun c_4 => ?_) (fun c_4 => absurd c_4 (by decide))
  exact g_vret S hr hlk hG (by omega) dX0_take_161 ⟨Nat.le_of_ble_eq_true rfl, Nat.le_of_ble_eq_true rfl⟩ ⟨rfl, fun j hj40 => (upE_n (by omega)).trans (rfl), rfl⟩
theorem wS_4_40 : gWS "GrownKinds$Ledger" 40 yJ7_fill_49daa cJ7_fill_49daa 4 none := ⟨wm_1089, wm_1090, wm_188, wm_1091, by decide +kernel, by decide +kernel⟩
set_option maxHeartbeats 4000000 in
set_option maxRecDepth 100000 in
theorem qX4_forget (l : Launch) {D : va_G} {cy : Nat → ClassId} {b n : Nat} (hn : 105 ≤ n) {E : Nat → va_E}  (h47 : E 47 = Z47 b cy) (h55 : E 55 = Z55 b cy) (h56 : E 56 = Z56 b cy)   : gV l yX4_forget cX4_forget 1 1 0 0 D cy b n E [.ref (b + 47)] (fun u => u.1 = n ∧ (∀ j, j ≠ 47 → j ≠ 55 → j ≠ 56 → u.2 j = E j) ∧ u.2 47 = .inr (4, [.ref (b + 2), .ref (b + 48), .int 0, .ref (b + 55), .ref (b + 56), .ref (b + 57), .ref (b + 58), .ref (b + 59)]) ∧ (∃ f : Nat → Int32, u.2 55 = .inl (cy 3, 26, .inl f)) ∧ (∃ f : Nat → Int32, u.2 56 = .inl (cy 3, 60, .inl f))) := by
  refine gV_of (by decide) (Nat.le_of_ble_eq_true rfl) ?_
  intro p e s m args below meth c S hr hlk hin hsz ls hl hG
  have hx := S.1
  have hb := S.2.1
  have hl : lv_has ls 1 [(0, .ref (b + 47))] := hl
  refine lv_aload_n hx hb dX4_forget_0 rfl (lv_at hl 0 rfl) ?_
  refine lv_iconst (v := 0) hx hb dX4_forget_1 (by decide) ?_
  refine g_put (fs' := [.ref (b + 2), .ref (b + 48), .int 0, .ref (b + 55), .ref (b + 56), .ref (b + 57), .ref (b + 58), .ref (b + 59)]) S hG 47 2 h47 cpX4 wm_436 dX4_forget_2 rfl (by omega) (by decide) (Nat.le_of_ble_eq_true rfl) rfl rfl rfl (fun H locs hG => ?_)
  refine lv_aload_n hx hb dX4_forget_5 rfl (lv_at hl 0 rfl) ?_
  refine g_get S hG 47 3 rfl cpX4 wm_437 dX4_forget_6 rfl (by omega) (by decide) ?_
  refine lv_iconst (v := 0) hx hb dX4_forget_9 (by decide) ?_
  refine g_sv (As := [.ref (b + 55), .int 0]) (rest := []) S hG (by omega) (qJ7_fill_49daa l (j := 55) (N := 26) (by omega) (by decide) (by exact h55) 0) wS_4_40 dX4_forget_10 rfl hl.1 (ar := 2) (by decide +kernel) rfl ⟨Nat.le_of_ble_eq_true rfl, Nat.le_of_ble_eq_true rfl, Nat.le_of_ble_eq_true rfl, Nat.le_of_ble_eq_true rfl⟩ (Nat.le_of_ble_eq_true rfl) (fun u_E_1 H locs hp_2 hG => ?_)
  obtain ⟨n_E_1, E_1⟩ := u_E_1
  dsimp only at hp_2 hG
  obtain ⟨nhp_2, rfl⟩ := hp_2
  have hG := gW_eq2 hG nhp_2 rfl
  refine lv_aload_n hx hb dX4_forget_13 rfl (lv_at hl 0 rfl) ?_
  refine g_get S hG 47 4 rfl cpX4 wm_438 dX4_forget_14 rfl (by omega) (by decide) ?_
  refine lv_iconst (v := 0) hx hb dX4_forget_17 (by decide) ?_
  refine g_sv (As := [.ref (b + 56), .int 0]) (rest := []) S hG (by omega) (qJ7_fill_49daa l (j := 56) (N := 60) (by omega) (by decide) (by exact h56) 0) wS_4_40 dX4_forget_18 rfl hl.1 (ar := 2) (by decide +kernel) rfl ⟨Nat.le_of_ble_eq_true rfl, Nat.le_of_ble_eq_true rfl, Nat.le_of_ble_eq_true rfl, Nat.le_of_ble_eq_true rfl⟩ (Nat.le_of_ble_eq_true rfl) (fun u_E_3 H locs hp_4 hG => ?_)
  obtain ⟨n_E_3, E_3⟩ := u_E_3
  dsimp only at hp_4 hG
  obtain ⟨nhp_4, rfl⟩ := hp_4
  have hG := gW_eq2 hG nhp_4 rfl
  exact g_vret S hr hlk hG (by omega) dX4_forget_21 ⟨Nat.le_of_ble_eq_true rfl, Nat.le_of_ble_eq_true rfl⟩ ⟨rfl, fun j hj47 hj55 hj56 => (upE_n (by omega)).trans ((upE_n (by omega)).trans ((upE_n (by omega)).trans (rfl))), rfl, ⟨_, rfl⟩, ⟨_, rfl⟩⟩
theorem wS_7_42 : gWS "GrownKinds$Roll" 42 yJ7_fill_49daa cJ7_fill_49daa 4 none := ⟨wm_1096, wm_1090, wm_188, wm_1091, by decide +kernel, by decide +kernel⟩
set_option maxHeartbeats 4000000 in
set_option maxRecDepth 100000 in
theorem qX7_forget (l : Launch) {D : va_G} {cy : Nat → ClassId} {b n : Nat} (hn : 105 ≤ n) {E : Nat → va_E}  (h73 : E 73 = Z73 b cy) (h74 : E 74 = Z74 b cy)   : gV l yX7_forget cX7_forget 1 1 0 0 D cy b n E [.ref (b + 73)] (fun u => u.1 = n ∧ (∀ j, j ≠ 74 → u.2 j = E j) ∧ (∃ f : Nat → Int32, u.2 74 = .inl (cy 3, 48, .inl f))) := by
  refine gV_of (by decide) (Nat.le_of_ble_eq_true rfl) ?_
  intro p e s m args below meth c S hr hlk hin hsz ls hl hG
  have hx := S.1
  have hb := S.2.1
  have hl : lv_has ls 1 [(0, .ref (b + 73))] := hl
  refine lv_aload_n hx hb dX7_forget_0 rfl (lv_at hl 0 rfl) ?_
  refine g_get S hG 73 1 h73 cpX7 wm_605 dX7_forget_1 rfl (by omega) (by decide) ?_
  refine lv_iconst (v := 0) hx hb dX7_forget_4 (by decide) ?_
  refine g_sv (As := [.ref (b + 74), .int 0]) (rest := []) S hG (by omega) (qJ7_fill_49daa l (j := 74) (N := 48) (by omega) (by decide) (by exact h74) 0) wS_7_42 dX7_forget_5 rfl hl.1 (ar := 2) (by decide +kernel) rfl ⟨Nat.le_of_ble_eq_true rfl, Nat.le_of_ble_eq_true rfl, Nat.le_of_ble_eq_true rfl, Nat.le_of_ble_eq_true rfl⟩ (Nat.le_of_ble_eq_true rfl) (fun u_E_1 H locs hp_2 hG => ?_)
  obtain ⟨n_E_1, E_1⟩ := u_E_1
  dsimp only at hp_2 hG
  obtain ⟨nhp_2, rfl⟩ := hp_2
  have hG := gW_eq2 hG nhp_2 rfl
  exact g_vret S hr hlk hG (by omega) dX7_forget_8 ⟨Nat.le_of_ble_eq_true rfl, Nat.le_of_ble_eq_true rfl⟩ ⟨rfl, fun j hj74 => (upE_n (by omega)).trans (rfl), ⟨_, rfl⟩⟩
theorem wV_11_143 : gWV "GrownKinds" 143 yX1_stop cX1_stop 1 none := ⟨wm_978, wm_979, wm_980, wm_186, wm_981, by decide +kernel, by decide +kernel⟩
theorem wV_11_146 : gWV "GrownKinds" 146 yX3_study cX3_study 2 none := ⟨wm_982, wm_891, wm_892, wm_179, wm_893, by decide +kernel, by decide +kernel⟩
theorem wV_11_149 : gWV "GrownKinds" 149 yX0_take cX0_take 6 none := ⟨wm_983, wm_984, wm_985, wm_180, wm_986, by decide +kernel, by decide +kernel⟩
theorem wV_11_152 : gWV "GrownKinds" 152 yX4_forget cX4_forget 1 none := ⟨wm_1085, wm_1086, wm_1087, wm_181, wm_1088, by decide +kernel, by decide +kernel⟩
theorem wV_11_155 : gWV "GrownKinds" 155 yX7_forget cX7_forget 1 none := ⟨wm_1092, wm_1093, wm_1094, wm_185, wm_1095, by decide +kernel, by decide +kernel⟩
set_option maxHeartbeats 4000000 in
set_option maxRecDepth 100000 in
theorem qX11_settle (l : Launch) {D : va_G} {cy : Nat → ClassId} {b n : Nat} (hn : 105 ≤ n) {E : Nat → va_E}  (h0 : E 0 = Z0 b cy) (h2 : E 2 = Z2 b cy) (h33 : E 33 = Z33 b cy) (h40 : E 40 = Z40 b cy) (h47 : E 47 = Z47 b cy) (h55 : E 55 = Z55 b cy) (h56 : E 56 = Z56 b cy) (h73 : E 73 = Z73 b cy) (h74 : E 74 = Z74 b cy) (h80 : E 80 = Z80 b cy)   : gV l yX11_settle cX11_settle 1 2 0 0 D cy b n E [.ref (b + 0)] (fun u => u.1 = n ∧ (∀ j, j ≠ 0 → j ≠ 33 → j ≠ 40 → j ≠ 47 → j ≠ 55 → j ≠ 56 → j ≠ 74 → j ≠ 80 → u.2 j = E j) ∧ u.2 0 = .inr (11, [.ref (b + 1), .int 0, .ref (b + 2), .ref (b + 12), .int 0, .int (-1), .ref (b + 33), .ref (b + 40), .ref (b + 47), .ref (b + 60), .ref (b + 67), .ref (b + 73), .ref (b + 80), .ref (b + 81), .ref (b + 82), .int 0, .int 1, .int (-1), .int (-1)]) ∧ u.2 33 = .inr (3, [.ref (b + 2), .int 0, .int 0, .ref (b + 34), .ref (b + 35), .ref (b + 36), .ref (b + 37), .ref (b + 38), .ref (b + 39)]) ∧ u.2 40 = .inr (0, [.ref (b + 2), .int (-1), .ref (b + 41), .ref (b + 42), .ref (b + 43), .ref (b + 44), .ref (b + 45), .ref (b + 46)]) ∧ u.2 47 = .inr (4, [.ref (b + 2), .ref (b + 48), .int 0, .ref (b + 55), .ref (b + 56), .ref (b + 57), .ref (b + 58), .ref (b + 59)]) ∧ (∃ f : Nat → Int32, u.2 55 = .inl (cy 3, 26, .inl f)) ∧ (∃ f : Nat → Int32, u.2 56 = .inl (cy 3, 60, .inl f)) ∧ (∃ f : Nat → Int32, u.2 74 = .inl (cy 3, 48, .inl f)) ∧ u.2 80 = .inr (1, [.ref (b + 40), .int 0, .int 0, .int 0, .int 0, .int 0, .int 0])) := by
  refine gV_of (by decide) (Nat.le_of_ble_eq_true rfl) ?_
  intro p e s m args below meth c S hr hlk hin hsz ls hl hG
  have hx := S.1
  have hb := S.2.1
  have hl : lv_has ls 1 [(0, .ref (b + 0))] := hl
  refine lv_aload_n hx hb dX11_settle_0 rfl (lv_at hl 0 rfl) ?_
  refine lv_dup hx hb dX11_settle_1 rfl ?_
  refine g_get S hG 0 16 h0 cpX11 wm_682 dX11_settle_2 rfl (by omega) (by decide) ?_
  refine lv_iconst (v := 1) hx hb dX11_settle_5 (by decide) ?_
  refine lv_iadd hx hb dX11_settle_6 ?_
  refine lv_topi (fun x_1 ex_1 => ?_)
  obtain rfl : x_1 = 1 := ex_1.trans (by decide)
  refine g_put (fs' := [.ref (b + 1), .int 0, .ref (b + 2), .ref (b + 12), .int 0, .int (-1), .ref (b + 33), .ref (b + 40), .ref (b + 47), .ref (b + 60), .ref (b + 67), .ref (b + 73), .ref (b + 80), .ref (b + 81), .ref (b + 82), .int 0, .int 1, .int (-1), .int (-1)]) S hG 0 16 h0 cpX11 wm_682 dX11_settle_7 rfl (by omega) (by decide) (Nat.le_of_ble_eq_true rfl) rfl rfl rfl (fun H locs hG => ?_)
  refine lv_aload_n hx hb dX11_settle_10 rfl (lv_at hl 0 rfl) ?_
  refine g_get S hG 0 12 rfl cpX11 wm_678 dX11_settle_11 rfl (by omega) (by decide) ?_
  refine g_vv (As := []) (rest := []) S hG (by omega) (qX1_stop l hn (by exact h80) ) wV_11_143 h80 cpX1 (by omega) dX11_settle_14 rfl hl.1 (ar := 0) (by decide +kernel) rfl ⟨Nat.le_of_ble_eq_true rfl, Nat.le_of_ble_eq_true rfl, Nat.le_of_ble_eq_true rfl, Nat.le_of_ble_eq_true rfl⟩ (Nat.le_of_ble_eq_true rfl) (fun u_E_2 H locs hp_3 hG => ?_)
  obtain ⟨n_E_2, E_2⟩ := u_E_2
  dsimp only at hp_3 hG
  obtain ⟨en_5, hlo_4, g_6⟩ := hp_3
  have hG := gW_eq2 hG en_5 rfl
  refine lv_aload_n hx hb dX11_settle_17 rfl (lv_at hl 0 rfl) ?_
  refine g_get S hG 0 6 ((hlo_4 0 (by decide) ).trans rfl) cpX11 wm_672 dX11_settle_18 rfl (by omega) (by decide) ?_
  refine g_vv (As := []) (rest := []) S hG (by omega) (qX3_study l hn (by exact ((hlo_4 2 (by decide) ).trans h2)) (by exact ((hlo_4 33 (by decide) ).trans h33)) ) wV_11_146 ((hlo_4 33 (by decide) ).trans h33) cpX3 (by omega) dX11_settle_21 rfl hl.1 (ar := 0) (by decide +kernel) rfl ⟨Nat.le_of_ble_eq_true rfl, Nat.le_of_ble_eq_true rfl, Nat.le_of_ble_eq_true rfl, Nat.le_of_ble_eq_true rfl⟩ (Nat.le_of_ble_eq_true rfl) (fun u_E_7 H locs hp_8 hG => ?_)
  obtain ⟨n_E_7, E_7⟩ := u_E_7
  dsimp only at hp_8 hG
  obtain ⟨en_10, hlo_9, g_11⟩ := hp_8
  have hG := gW_eq2 hG en_10 rfl
  refine lv_aload_n hx hb dX11_settle_24 rfl (lv_at hl 0 rfl) ?_
  refine g_get S hG 0 7 ((hlo_9 0 (by decide) ).trans ((hlo_4 0 (by decide) ).trans rfl)) cpX11 wm_673 dX11_settle_25 rfl (by omega) (by decide) ?_
  refine lv_iconst (v := (-1)) hx hb dX11_settle_28 (by decide) ?_
  refine g_vv (As := [.int (-1)]) (rest := []) S hG (by omega) (qX0_take l hn (by exact ((hlo_9 2 (by decide) ).trans ((hlo_4 2 (by decide) ).trans h2))) (by exact ((hlo_9 40 (by decide) ).trans ((hlo_4 40 (by decide) ).trans h40))) ) wV_11_149 ((hlo_9 40 (by decide) ).trans ((hlo_4 40 (by decide) ).trans h40)) cpX0 (by omega) dX11_settle_29 rfl hl.1 (ar := 1) (by decide +kernel) rfl ⟨Nat.le_of_ble_eq_true rfl, Nat.le_of_ble_eq_true rfl, Nat.le_of_ble_eq_true rfl, Nat.le_of_ble_eq_true rfl⟩ (Nat.le_of_ble_eq_true rfl) (fun u_E_12 H locs hp_13 hG => ?_)
  obtain ⟨n_E_12, E_12⟩ := u_E_12
  dsimp only at hp_13 hG
  obtain ⟨en_15, hlo_14, g_16⟩ := hp_13
  have hG := gW_eq2 hG en_15 rfl
  refine lv_aload_n hx hb dX11_settle_32 rfl (lv_at hl 0 rfl) ?_
  refine g_get S hG 0 8 ((hlo_14 0 (by decide) ).trans ((hlo_9 0 (by decide) ).trans ((hlo_4 0 (by decide) ).trans rfl))) cpX11 wm_674 dX11_settle_33 rfl (by omega) (by decide) ?_
  refine g_vv (As := []) (rest := []) S hG (by omega) (qX4_forget l hn (by exact ((hlo_14 47 (by decide) ).trans ((hlo_9 47 (by decide) ).trans ((hlo_4 47 (by decide) ).trans h47)))) (by exact ((hlo_14 55 (by decide) ).trans ((hlo_9 55 (by decide) ).trans ((hlo_4 55 (by decide) ).trans h55)))) (by exact ((hlo_14 56 (by decide) ).trans ((hlo_9 56 (by decide) ).trans ((hlo_4 56 (by decide) ).trans h56)))) ) wV_11_152 ((hlo_14 47 (by decide) ).trans ((hlo_9 47 (by decide) ).trans ((hlo_4 47 (by decide) ).trans h47))) cpX4 (by omega) dX11_settle_36 rfl hl.1 (ar := 0) (by decide +kernel) rfl ⟨Nat.le_of_ble_eq_true rfl, Nat.le_of_ble_eq_true rfl, Nat.le_of_ble_eq_true rfl, Nat.le_of_ble_eq_true rfl⟩ (Nat.le_of_ble_eq_true rfl) (fun u_E_17 H locs hp_18 hG => ?_)
  obtain ⟨n_E_17, E_17⟩ := u_E_17
  dsimp only at hp_18 hG
  obtain ⟨en_20, hlo_19, g_21, ⟨F_23, g_22⟩, ⟨F_25, g_24⟩⟩ := hp_18
  have hG := gW_eq2 hG en_20 rfl
  refine lv_aload_n hx hb dX11_settle_39 rfl (lv_at hl 0 rfl) ?_
  refine g_get S hG 0 11 ((hlo_19 0 (by decide) (by decide) (by decide) ).trans ((hlo_14 0 (by decide) ).trans ((hlo_9 0 (by decide) ).trans ((hlo_4 0 (by decide) ).trans rfl)))) cpX11 wm_677 dX11_settle_40 rfl (by omega) (by decide) ?_
  refine g_vv (As := []) (rest := []) S hG (by omega) (qX7_forget l hn (by exact ((hlo_19 73 (by decide) (by decide) (by decide) ).trans ((hlo_14 73 (by decide) ).trans ((hlo_9 73 (by decide) ).trans ((hlo_4 73 (by decide) ).trans h73))))) (by exact ((hlo_19 74 (by decide) (by decide) (by decide) ).trans ((hlo_14 74 (by decide) ).trans ((hlo_9 74 (by decide) ).trans ((hlo_4 74 (by decide) ).trans h74))))) ) wV_11_155 ((hlo_19 73 (by decide) (by decide) (by decide) ).trans ((hlo_14 73 (by decide) ).trans ((hlo_9 73 (by decide) ).trans ((hlo_4 73 (by decide) ).trans h73)))) cpX7 (by omega) dX11_settle_43 rfl hl.1 (ar := 0) (by decide +kernel) rfl ⟨Nat.le_of_ble_eq_true rfl, Nat.le_of_ble_eq_true rfl, Nat.le_of_ble_eq_true rfl, Nat.le_of_ble_eq_true rfl⟩ (Nat.le_of_ble_eq_true rfl) (fun u_E_26 H locs hp_27 hG => ?_)
  obtain ⟨n_E_26, E_26⟩ := u_E_26
  dsimp only at hp_27 hG
  obtain ⟨en_29, hlo_28, ⟨F_31, g_30⟩⟩ := hp_27
  have hG := gW_eq2 hG en_29 rfl
  exact g_vret S hr hlk hG (by omega) dX11_settle_46 ⟨Nat.le_of_ble_eq_true rfl, Nat.le_of_ble_eq_true rfl⟩ ⟨rfl, fun j hj0 hj33 hj40 hj47 hj55 hj56 hj74 hj80 => (hlo_28 j (by omega) ).trans ((hlo_19 j (by omega) (by omega) (by omega) ).trans ((hlo_14 j (by omega) ).trans ((hlo_9 j (by omega) ).trans ((hlo_4 j (by omega) ).trans ((upE_n (by omega)).trans (rfl)))))), ((hlo_28 0 (by decide) ).trans ((hlo_19 0 (by decide) (by decide) (by decide) ).trans ((hlo_14 0 (by decide) ).trans ((hlo_9 0 (by decide) ).trans ((hlo_4 0 (by decide) ).trans rfl))))), ((hlo_28 33 (by decide) ).trans ((hlo_19 33 (by decide) (by decide) (by decide) ).trans ((hlo_14 33 (by decide) ).trans g_11))), ((hlo_28 40 (by decide) ).trans ((hlo_19 40 (by decide) (by decide) (by decide) ).trans g_16)), ((hlo_28 47 (by decide) ).trans g_21), ⟨_, ((hlo_28 55 (by decide) ).trans g_22)⟩, ⟨_, ((hlo_28 56 (by decide) ).trans g_24)⟩, ⟨_, g_30⟩, ((hlo_28 80 (by decide) ).trans ((hlo_19 80 (by decide) (by decide) (by decide) ).trans ((hlo_14 80 (by decide) ).trans ((hlo_9 80 (by decide) ).trans g_6))))⟩
theorem wV_11_124 : gWV "GrownKinds" 124 yX5_read cX5_read 4 (some .int) := ⟨wm_740, wm_741, wm_742, wm_178, wm_743, by decide +kernel, by decide +kernel⟩
theorem wV_11_137 : gWV "GrownKinds" 137 yX2_copy cX2_copy 2 none := ⟨wm_967, wm_968, wm_969, wm_177, wm_970, by decide +kernel, by decide +kernel⟩
theorem wV_11_140 : gWV "GrownKinds" 140 yX11_settle cX11_settle 1 none := ⟨wm_974, wm_976, wm_29, wm_176, wm_977, by decide +kernel, by decide +kernel⟩
set_option maxHeartbeats 4000000 in
set_option maxRecDepth 100000 in
theorem qX11_grammar (l : Launch) {D : va_G} {cy : Nat → ClassId} {b n : Nat} (hn : 105 ≤ n) {E : Nat → va_E}  (h0 : E 0 = Z0 b cy) (h2 : E 2 = Z2 b cy) (h3 : E 3 = Z3 b cy) (h4 : E 4 = Z4 b cy) (h5 : E 5 = Z5 b cy) (h6 : E 6 = Z6 b cy) (h7 : E 7 = Z7 b cy) (h8 : E 8 = Z8 b cy) (h9 : E 9 = Z9 b cy) (h10 : E 10 = Z10 b cy) (h11 : E 11 = Z11 b cy) (h12 : E 12 = Z12 b cy) (h13 : E 13 = Z13 b cy) (h14 : E 14 = Z14 b cy) (h15 : E 15 = Z15 b cy) (h16 : E 16 = Z16 b cy) (h17 : E 17 = Z17 b cy) (h18 : E 18 = Z18 b cy) (h19 : E 19 = Z19 b cy) (h20 : E 20 = Z20 b cy) (h21 : E 21 = Z21 b cy) (h22 : E 22 = Z22 b cy) (h33 : E 33 = Z33 b cy) (h40 : E 40 = Z40 b cy) (h47 : E 47 = Z47 b cy) (h55 : E 55 = Z55 b cy) (h56 : E 56 = Z56 b cy) (h73 : E 73 = Z73 b cy) (h74 : E 74 = Z74 b cy) (h80 : E 80 = Z80 b cy)   : gI l yX11_grammar cX11_grammar 2 (some .int) 3 0 0 D cy b n E [.ref (b + 0)] (fun r u => r = 0 ∧ u.1 = n ∧ ∀ j, 83 ≤ j → u.2 j = E j) := by
  refine gI_of (by decide) (Nat.le_of_ble_eq_true rfl) ?_
  intro p e s m args below meth c S hr hlk hin hsz ls hl hG
  have hx := S.1
  have hb := S.2.1
  have hl : lv_has ls 2 [(0, .ref (b + 0))] := hl
  refine lv_aload_n hx hb dX11_grammar_0 rfl (lv_at hl 0 rfl) ?_
  refine g_get S hG 0 3 h0 cpX11 wm_669 dX11_grammar_1 rfl (by omega) (by decide) ?_
  refine lv_aload_n hx hb dX11_grammar_4 rfl (lv_at hl 0 rfl) ?_
  refine g_get S hG 0 0 h0 cpX11 wm_666 dX11_grammar_5 rfl (by omega) (by decide) ?_
  refine lv_aload_n hx hb dX11_grammar_8 rfl (lv_at hl 0 rfl) ?_
  refine g_get S hG 0 1 h0 cpX11 wm_667 dX11_grammar_9 rfl (by omega) (by decide) ?_
  refine g_vi (As := [.ref (b + 1), .int 0]) (rest := []) S hG (by omega) (qX5_read l hn (by exact h12) (by exact h13) (by exact h19) (by exact h21) ) wV_11_124 h12 cpX5 (by omega) dX11_grammar_12 rfl hl.1 (ar := 2) (by decide +kernel) rfl ⟨Nat.le_of_ble_eq_true rfl, Nat.le_of_ble_eq_true rfl, Nat.le_of_ble_eq_true rfl, Nat.le_of_ble_eq_true rfl⟩ (Nat.le_of_ble_eq_true rfl) (fun r_3 u_E_1 H locs hp_2 hG => ?_)
  obtain ⟨n_E_1, E_1⟩ := u_E_1
  dsimp only at hp_2 hG
  obtain ⟨rfl, en_5, hlo_4, g_6, g_7, ⟨F_9, g_8⟩, ⟨F_11, g_10⟩⟩ := hp_2
  have hG := gW_eq2 hG en_5 rfl
  refine lv_istore_n (lv' := [(1, .int 0), (0, .ref (b + 0))]) hx hb dX11_grammar_15 rfl hl (by decide) rfl (fun ls hl => ?_)
  refine lv_aload_n hx hb dX11_grammar_16 rfl (lv_at hl 1 rfl) ?_
  refine lv_iconst (v := 0) hx hb dX11_grammar_17 (by decide) ?_
  refine g_put (fs' := [.ref (b + 1), .int 0, .ref (b + 2), .ref (b + 12), .int 0, .int (-1), .ref (b + 33), .ref (b + 40), .ref (b + 47), .ref (b + 60), .ref (b + 67), .ref (b + 73), .ref (b + 80), .ref (b + 81), .ref (b + 82), .int 0, .int 0, .int (-1), .int (-1)]) S hG 0 1 ((hlo_4 0 (by decide) (by decide) (by decide) (by decide) ).trans h0) cpX11 wm_667 dX11_grammar_18 rfl (by omega) (by decide) (Nat.le_of_ble_eq_true rfl) rfl rfl rfl (fun H locs hG => ?_)
  refine lv_aload_n hx hb dX11_grammar_21 rfl (lv_at hl 1 rfl) ?_
  refine lv_aload_n hx hb dX11_grammar_22 rfl (lv_at hl 1 rfl) ?_
  refine g_get S hG 0 3 rfl cpX11 wm_669 dX11_grammar_23 rfl (by omega) (by decide) ?_
  refine g_get S hG 12 1 g_6 cpX5 wm_354 dX11_grammar_26 rfl (by omega) (by decide) ?_
  refine g_put (fs' := [.ref (b + 1), .int 0, .ref (b + 2), .ref (b + 12), .int 0, .int (-1), .ref (b + 33), .ref (b + 40), .ref (b + 47), .ref (b + 60), .ref (b + 67), .ref (b + 73), .ref (b + 80), .ref (b + 81), .ref (b + 82), .int 0, .int 0, .int (-1), .int (-1)]) S hG 0 4 rfl cpX11 wm_670 dX11_grammar_29 rfl (by omega) (by decide) (Nat.le_of_ble_eq_true rfl) rfl rfl rfl (fun H locs hG => ?_)
  refine lv_aload_n hx hb dX11_grammar_32 rfl (lv_at hl 1 rfl) ?_
  refine lv_aload_n hx hb dX11_grammar_33 rfl (lv_at hl 1 rfl) ?_
  refine g_get S hG 0 3 rfl cpX11 wm_669 dX11_grammar_34 rfl (by omega) (by decide) ?_
  refine g_get S hG 12 2 g_6 cpX5 wm_356 dX11_grammar_37 rfl (by omega) (by decide) ?_
  refine g_put (fs' := [.ref (b + 1), .int 0, .ref (b + 2), .ref (b + 12), .int 0, .int (-1), .ref (b + 33), .ref (b + 40), .ref (b + 47), .ref (b + 60), .ref (b + 67), .ref (b + 73), .ref (b + 80), .ref (b + 81), .ref (b + 82), .int 0, .int 0, .int (-1), .int (-1)]) S hG 0 5 rfl cpX11 wm_671 dX11_grammar_40 rfl (by omega) (by decide) (Nat.le_of_ble_eq_true rfl) rfl rfl rfl (fun H locs hG => ?_)
  refine lv_aload_n hx hb dX11_grammar_43 rfl (lv_at hl 1 rfl) ?_
  refine g_get S hG 0 4 rfl cpX11 wm_670 dX11_grammar_44 rfl (by omega) (by decide) ?_
  refine lv_if_eq (tgt := 53) hx hb dX11_grammar_47 (by decide) (fun c_12 => ?_) (fun c_12 => absurd c_12 (by decide))
  refine lv_aload_n hx hb dX11_grammar_53 rfl (lv_at hl 1 rfl) ?_
  refine g_get S hG 0 2 rfl cpX11 wm_668 dX11_grammar_54 rfl (by omega) (by decide) ?_
  refine lv_aload_n hx hb dX11_grammar_57 rfl (lv_at hl 1 rfl) ?_
  refine g_get S hG 0 3 rfl cpX11 wm_669 dX11_grammar_58 rfl (by omega) (by decide) ?_
  refine g_get S hG 12 0 g_6 cpX5 wm_352 dX11_grammar_61 rfl (by omega) (by decide) ?_
  refine g_vv (As := [.ref (b + 13)]) (rest := []) S hG (by omega) (qX2_copy l hn (by exact ((hlo_4 2 (by decide) (by decide) (by decide) (by decide) ).trans h2)) (by exact ((hlo_4 3 (by decide) (by decide) (by decide) (by decide) ).trans h3)) (by exact ((hlo_4 4 (by decide) (by decide) (by decide) (by decide) ).trans h4)) (by exact ((hlo_4 5 (by decide) (by decide) (by decide) (by decide) ).trans h5)) (by exact ((hlo_4 6 (by decide) (by decide) (by decide) (by decide) ).trans h6)) (by exact ((hlo_4 7 (by decide) (by decide) (by decide) (by decide) ).trans h7)) (by exact ((hlo_4 8 (by decide) (by decide) (by decide) (by decide) ).trans h8)) (by exact ((hlo_4 9 (by decide) (by decide) (by decide) (by decide) ).trans h9)) (by exact ((hlo_4 10 (by decide) (by decide) (by decide) (by decide) ).trans h10)) (by exact ((hlo_4 11 (by decide) (by decide) (by decide) (by decide) ).trans h11)) (by exact g_7) (by exact ((hlo_4 14 (by decide) (by decide) (by decide) (by decide) ).trans h14)) (by exact ((hlo_4 15 (by decide) (by decide) (by decide) (by decide) ).trans h15)) (by exact ((hlo_4 16 (by decide) (by decide) (by decide) (by decide) ).trans h16)) (by exact ((hlo_4 17 (by decide) (by decide) (by decide) (by decide) ).trans h17)) (by exact ((hlo_4 18 (by decide) (by decide) (by decide) (by decide) ).trans h18)) (by exact g_8) (by exact ((hlo_4 20 (by decide) (by decide) (by decide) (by decide) ).trans h20)) (by exact g_10) (by exact ((hlo_4 22 (by decide) (by decide) (by decide) (by decide) ).trans h22)) ) wV_11_137 ((hlo_4 2 (by decide) (by decide) (by decide) (by decide) ).trans h2) cpX2 (by omega) dX11_grammar_64 rfl hl.1 (ar := 1) (by decide +kernel) rfl ⟨Nat.le_of_ble_eq_true rfl, Nat.le_of_ble_eq_true rfl, Nat.le_of_ble_eq_true rfl, Nat.le_of_ble_eq_true rfl⟩ (Nat.le_of_ble_eq_true rfl) (fun u_E_13 H locs hp_14 hG => ?_)
  obtain ⟨n_E_13, E_13⟩ := u_E_13
  dsimp only at hp_14 hG
  obtain ⟨en_16, hlo_15, g_17, ⟨F_19, g_18⟩, ⟨F_21, g_20⟩, ⟨F_23, g_22⟩, ⟨F_25, g_24⟩, ⟨F_27, g_26⟩, ⟨F_29, g_28⟩, ⟨F_31, g_30⟩, ⟨F_33, g_32⟩, ⟨F_35, g_34⟩⟩ := hp_14
  have hG := gW_eq2 hG en_16 rfl
  refine lv_aload_n hx hb dX11_grammar_67 rfl (lv_at hl 1 rfl) ?_
  refine lv_iconst (v := 0) hx hb dX11_grammar_68 (by decide) ?_
  refine g_put (fs' := [.ref (b + 1), .int 0, .ref (b + 2), .ref (b + 12), .int 0, .int (-1), .ref (b + 33), .ref (b + 40), .ref (b + 47), .ref (b + 60), .ref (b + 67), .ref (b + 73), .ref (b + 80), .ref (b + 81), .ref (b + 82), .int 0, .int 0, .int (-1), .int (-1)]) S hG 0 15 ((hlo_15 0 (by decide) (by decide) (by decide) (by decide) (by decide) (by decide) (by decide) (by decide) (by decide) (by decide) ).trans rfl) cpX11 wm_681 dX11_grammar_69 rfl (by omega) (by decide) (Nat.le_of_ble_eq_true rfl) rfl rfl rfl (fun H locs hG => ?_)
  refine lv_aload_n hx hb dX11_grammar_72 rfl (lv_at hl 1 rfl) ?_
  refine g_vv (As := []) (rest := []) S hG (by omega) (qX11_settle l hn (by exact rfl) (by exact g_17) (by exact ((hlo_15 33 (by decide) (by decide) (by decide) (by decide) (by decide) (by decide) (by decide) (by decide) (by decide) (by decide) ).trans ((hlo_4 33 (by decide) (by decide) (by decide) (by decide) ).trans h33))) (by exact ((hlo_15 40 (by decide) (by decide) (by decide) (by decide) (by decide) (by decide) (by decide) (by decide) (by decide) (by decide) ).trans ((hlo_4 40 (by decide) (by decide) (by decide) (by decide) ).trans h40))) (by exact ((hlo_15 47 (by decide) (by decide) (by decide) (by decide) (by decide) (by decide) (by decide) (by decide) (by decide) (by decide) ).trans ((hlo_4 47 (by decide) (by decide) (by decide) (by decide) ).trans h47))) (by exact ((hlo_15 55 (by decide) (by decide) (by decide) (by decide) (by decide) (by decide) (by decide) (by decide) (by decide) (by decide) ).trans ((hlo_4 55 (by decide) (by decide) (by decide) (by decide) ).trans h55))) (by exact ((hlo_15 56 (by decide) (by decide) (by decide) (by decide) (by decide) (by decide) (by decide) (by decide) (by decide) (by decide) ).trans ((hlo_4 56 (by decide) (by decide) (by decide) (by decide) ).trans h56))) (by exact ((hlo_15 73 (by decide) (by decide) (by decide) (by decide) (by decide) (by decide) (by decide) (by decide) (by decide) (by decide) ).trans ((hlo_4 73 (by decide) (by decide) (by decide) (by decide) ).trans h73))) (by exact ((hlo_15 74 (by decide) (by decide) (by decide) (by decide) (by decide) (by decide) (by decide) (by decide) (by decide) (by decide) ).trans ((hlo_4 74 (by decide) (by decide) (by decide) (by decide) ).trans h74))) (by exact ((hlo_15 80 (by decide) (by decide) (by decide) (by decide) (by decide) (by decide) (by decide) (by decide) (by decide) (by decide) ).trans ((hlo_4 80 (by decide) (by decide) (by decide) (by decide) ).trans h80))) ) wV_11_140 rfl cpX11 (by omega) dX11_grammar_73 rfl hl.1 (ar := 0) (by decide +kernel) rfl ⟨Nat.le_of_ble_eq_true rfl, Nat.le_of_ble_eq_true rfl, Nat.le_of_ble_eq_true rfl, Nat.le_of_ble_eq_true rfl⟩ (Nat.le_of_ble_eq_true rfl) (fun u_E_36 H locs hp_37 hG => ?_)
  obtain ⟨n_E_36, E_36⟩ := u_E_36
  dsimp only at hp_37 hG
  obtain ⟨en_39, hlo_38, g_40, g_41, g_42, g_43, ⟨F_45, g_44⟩, ⟨F_47, g_46⟩, ⟨F_49, g_48⟩, g_50⟩ := hp_37
  have hG := gW_eq2 hG en_39 rfl
  refine lv_iload_n hx hb dX11_grammar_76 rfl (lv_at hl 0 rfl) ?_
  exact g_iret S hr hlk hG (by omega) dX11_grammar_77 ⟨Nat.le_of_ble_eq_true rfl, Nat.le_of_ble_eq_true rfl⟩ ⟨rfl, rfl, fun j hj => (hlo_38 j (by omega) (by omega) (by omega) (by omega) (by omega) (by omega) (by omega) (by omega) ).trans ((upE_n (by omega)).trans ((hlo_15 j (by omega) (by omega) (by omega) (by omega) (by omega) (by omega) (by omega) (by omega) (by omega) (by omega) ).trans ((upE_n (by omega)).trans ((upE_n (by omega)).trans ((upE_n (by omega)).trans ((hlo_4 j (by omega) (by omega) (by omega) (by omega) ).trans (rfl)))))))⟩
