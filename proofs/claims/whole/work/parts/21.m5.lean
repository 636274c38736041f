theorem dX12_wordOf_0 : decode cX12_wordOf 0 = .ok (.iload_n 0, 1) := by decide +kernel
theorem dX12_wordOf_1 : decode cX12_wordOf 1 = .ok (.tableswitch 78 0 8 #[51, 54, 57, 60, 63, 66, 69, 72, 75], 51) := by decide +kernel
theorem dX12_wordOf_52 : decode cX12_wordOf 52 = .ok (.ldc 127, 2) := by decide +kernel
theorem dX12_wordOf_54 : decode cX12_wordOf 54 = .ok (.areturn, 1) := by decide +kernel
theorem dX12_wordOf_55 : decode cX12_wordOf 55 = .ok (.ldc 129, 2) := by decide +kernel
theorem dX12_wordOf_57 : decode cX12_wordOf 57 = .ok (.areturn, 1) := by decide +kernel
theorem dX12_wordOf_58 : decode cX12_wordOf 58 = .ok (.ldc 131, 2) := by decide +kernel
theorem dX12_wordOf_60 : decode cX12_wordOf 60 = .ok (.areturn, 1) := by decide +kernel
theorem dX12_wordOf_61 : decode cX12_wordOf 61 = .ok (.ldc 133, 2) := by decide +kernel
theorem dX12_wordOf_63 : decode cX12_wordOf 63 = .ok (.areturn, 1) := by decide +kernel
theorem dX12_wordOf_64 : decode cX12_wordOf 64 = .ok (.ldc 135, 2) := by decide +kernel
theorem dX12_wordOf_66 : decode cX12_wordOf 66 = .ok (.areturn, 1) := by decide +kernel
theorem dX12_wordOf_67 : decode cX12_wordOf 67 = .ok (.ldc 137, 2) := by decide +kernel
theorem dX12_wordOf_69 : decode cX12_wordOf 69 = .ok (.areturn, 1) := by decide +kernel
theorem dX12_wordOf_70 : decode cX12_wordOf 70 = .ok (.ldc 139, 2) := by decide +kernel
theorem dX12_wordOf_72 : decode cX12_wordOf 72 = .ok (.areturn, 1) := by decide +kernel
theorem dX12_wordOf_73 : decode cX12_wordOf 73 = .ok (.ldc 141, 2) := by decide +kernel
theorem dX12_wordOf_75 : decode cX12_wordOf 75 = .ok (.areturn, 1) := by decide +kernel
theorem dX12_wordOf_76 : decode cX12_wordOf 76 = .ok (.ldc 143, 2) := by decide +kernel
theorem dX12_wordOf_78 : decode cX12_wordOf 78 = .ok (.areturn, 1) := by decide +kernel
theorem dX12_wordOf_79 : decode cX12_wordOf 79 = .ok (.ldc 145, 2) := by decide +kernel
theorem dX12_wordOf_81 : decode cX12_wordOf 81 = .ok (.areturn, 1) := by decide +kernel
theorem dX12_isWord_0 : decode cX12_isWord 0 = .ok (.iload_n 1, 1) := by decide +kernel
theorem dX12_isWord_1 : decode cX12_isWord 1 = .ok (.invokestatic 147, 3) := by decide +kernel
theorem wm_1867 : (Jvm.Cond.methodLink "GrownKindsModel" (147 : Nat) ({ cls := "GrownKindsModel", name := "wordOf", desc := "(I)Ljava/lang/String;" } : Jvm.MethodName)) ∈ gT := gT_in (List.mem_of_getElem? (i := 1867) (by decide +kernel)) (by decide +kernel)
theorem wm_1868 : (Jvm.Cond.static ({ cls := "GrownKindsModel", name := "wordOf", desc := "(I)Ljava/lang/String;" } : Jvm.MethodName)) ∈ gT := gT_in (List.mem_of_getElem? (i := 1868) (by decide +kernel)) (by decide +kernel)
theorem wm_1869 : (Jvm.Cond.code ({ cls := "GrownKindsModel", name := "wordOf", desc := "(I)Ljava/lang/String;" } : Jvm.MethodName) prog_14_method_13_code (1 : Nat) (Option.some (Jvm.ClassFile.FieldType.object "java/lang/String"))) ∈ gT := gT_in (List.mem_of_getElem? (i := 1869) (by decide +kernel)) (by decide +kernel)
theorem dX12_isWord_4 : decode cX12_isWord 4 = .ok (.astore_n 2, 1) := by decide +kernel
theorem dX12_isWord_5 : decode cX12_isWord 5 = .ok (.aload_n 0, 1) := by decide +kernel
theorem dX12_isWord_6 : decode cX12_isWord 6 = .ok (.getfield 114, 3) := by decide +kernel
theorem dX12_isWord_9 : decode cX12_isWord 9 = .ok (.iconst 1, 1) := by decide +kernel
theorem dX12_isWord_10 : decode cX12_isWord 10 = .ok (.if_icmp .ne 19, 3) := by decide +kernel
theorem dX12_isWord_29 : decode cX12_isWord 29 = .ok (.iconst 0, 1) := by decide +kernel
theorem dX12_isWord_30 : decode cX12_isWord 30 = .ok (.ireturn, 1) := by decide +kernel
theorem dX12_isWord_13 : decode cX12_isWord 13 = .ok (.aload_n 0, 1) := by decide +kernel
theorem dX12_isWord_14 : decode cX12_isWord 14 = .ok (.getfield 101, 3) := by decide +kernel
theorem dX12_isWord_17 : decode cX12_isWord 17 = .ok (.aload_n 0, 1) := by decide +kernel
theorem dX12_isWord_18 : decode cX12_isWord 18 = .ok (.getfield 108, 3) := by decide +kernel
theorem dX12_isWord_21 : decode cX12_isWord 21 = .ok (.isub, 1) := by decide +kernel
theorem dX12_isWord_22 : decode cX12_isWord 22 = .ok (.aload_n 2, 1) := by decide +kernel
theorem dX12_isWord_23 : decode cX12_isWord 23 = .ok (.invokevirtual 151, 3) := by decide +kernel
theorem wm_1880 : (Jvm.Cond.methodLink "GrownKindsModel" (151 : Nat) ({ cls := "java/lang/String", name := "length", desc := "()I" } : Jvm.MethodName)) ∈ gT := gT_in (List.mem_of_getElem? (i := 1880) (by decide +kernel)) (by decide +kernel)
theorem wm_777 : (Jvm.Cond.instanceMethod ({ cls := "java/lang/String", name := "length", desc := "()I" } : Jvm.MethodName)) ∈ gT := gT_in (List.mem_of_getElem? (i := 777) (by decide +kernel)) (by decide +kernel)
theorem wm_778 : (Jvm.Cond.selects "java/lang/String" ({ cls := "java/lang/String", name := "length", desc := "()I" } : Jvm.MethodName) ({ cls := "java/lang/String", name := "length", desc := "()I" } : Jvm.MethodName)) ∈ gT := gT_in (List.mem_of_getElem? (i := 778) (by decide +kernel)) (by decide +kernel)
theorem wm_191 : (Jvm.Cond.initialized "java/lang/String") ∈ gT := gT_in (List.mem_of_getElem? (i := 191) (by decide +kernel)) (by decide +kernel)
theorem wm_779 : (Jvm.Cond.code ({ cls := "java/lang/String", name := "length", desc := "()I" } : Jvm.MethodName) prog_18_method_54_code (1 : Nat) (Option.some Jvm.ClassFile.FieldType.int)) ∈ gT := gT_in (List.mem_of_getElem? (i := 779) (by decide +kernel)) (by decide +kernel)
theorem dJ0_length_8abf5_0 : decode cJ0_length_8abf5 0 = .ok (.aload_n 0, 1) := by decide +kernel
theorem dJ0_length_8abf5_1 : decode cJ0_length_8abf5 1 = .ok (.getfield 9, 3) := by decide +kernel
theorem wm_2450 : (Jvm.Cond.fieldLink "java/lang/String" (9 : Nat) "java/lang/String" "value" "[B") ∈ gT := gT_in (List.mem_of_getElem? (i := 2450) (by decide +kernel)) (by decide +kernel)
theorem dJ0_length_8abf5_4 : decode cJ0_length_8abf5 4 = .ok (.arraylength, 1) := by decide +kernel
theorem dJ0_length_8abf5_5 : decode cJ0_length_8abf5 5 = .ok (.aload_n 0, 1) := by decide +kernel
theorem dJ0_length_8abf5_6 : decode cJ0_length_8abf5 6 = .ok (.invokevirtual 335, 3) := by decide +kernel
theorem wm_780 : (Jvm.Cond.methodLink "java/lang/String" (335 : Nat) ({ cls := "java/lang/String", name := "coder", desc := "()B" } : Jvm.MethodName)) ∈ gT := gT_in (List.mem_of_getElem? (i := 780) (by decide +kernel)) (by decide +kernel)
theorem wm_781 : (Jvm.Cond.instanceMethod ({ cls := "java/lang/String", name := "coder", desc := "()B" } : Jvm.MethodName)) ∈ gT := gT_in (List.mem_of_getElem? (i := 781) (by decide +kernel)) (by decide +kernel)
theorem wm_782 : (Jvm.Cond.selects "java/lang/String" ({ cls := "java/lang/String", name := "coder", desc := "()B" } : Jvm.MethodName) ({ cls := "java/lang/String", name := "coder", desc := "()B" } : Jvm.MethodName)) ∈ gT := gT_in (List.mem_of_getElem? (i := 782) (by decide +kernel)) (by decide +kernel)
theorem wm_783 : (Jvm.Cond.code ({ cls := "java/lang/String", name := "coder", desc := "()B" } : Jvm.MethodName) prog_18_method_152_code (1 : Nat) (Option.some Jvm.ClassFile.FieldType.byte)) ∈ gT := gT_in (List.mem_of_getElem? (i := 783) (by decide +kernel)) (by decide +kernel)
theorem dJ0_coder_7d493_0 : decode cJ0_coder_7d493 0 = .ok (.getstatic 38, 3) := by decide +kernel
theorem wm_784 : (Jvm.Cond.fieldLink "java/lang/String" (38 : Nat) "java/lang/String" "COMPACT_STRINGS" "Z") ∈ gT := gT_in (List.mem_of_getElem? (i := 784) (by decide +kernel)) (by decide +kernel)
theorem dJ0_coder_7d493_3 : decode cJ0_coder_7d493 3 = .ok (.ifCond .eq 10, 3) := by decide +kernel
theorem dJ0_coder_7d493_6 : decode cJ0_coder_7d493 6 = .ok (.aload_n 0, 1) := by decide +kernel
theorem dJ0_coder_7d493_7 : decode cJ0_coder_7d493 7 = .ok (.getfield 15, 3) := by decide +kernel
theorem wm_2451 : (Jvm.Cond.fieldLink "java/lang/String" (15 : Nat) "java/lang/String" "coder" "B") ∈ gT := gT_in (List.mem_of_getElem? (i := 2451) (by decide +kernel)) (by decide +kernel)
theorem dJ0_coder_7d493_10 : decode cJ0_coder_7d493 10 = .ok (.goto 4, 3) := by decide +kernel
theorem dJ0_coder_7d493_14 : decode cJ0_coder_7d493 14 = .ok (.ireturn, 1) := by decide +kernel
theorem dJ0_length_8abf5_9 : decode cJ0_length_8abf5 9 = .ok (.ishr, 1) := by decide +kernel
theorem dJ0_length_8abf5_10 : decode cJ0_length_8abf5 10 = .ok (.ireturn, 1) := by decide +kernel
theorem dX12_isWord_26 : decode cX12_isWord 26 = .ok (.if_icmp .eq 5, 3) := by decide +kernel
theorem dX12_isWord_31 : decode cX12_isWord 31 = .ok (.iconst 0, 1) := by decide +kernel
theorem dX12_isWord_32 : decode cX12_isWord 32 = .ok (.istore_n 3, 1) := by decide +kernel
theorem dX12_isWord_33 : decode cX12_isWord 33 = .ok (.iload_n 3, 1) := by decide +kernel
theorem dX12_isWord_34 : decode cX12_isWord 34 = .ok (.aload_n 2, 1) := by decide +kernel
theorem dX12_isWord_35 : decode cX12_isWord 35 = .ok (.invokevirtual 151, 3) := by decide +kernel
theorem dX12_isWord_38 : decode cX12_isWord 38 = .ok (.if_icmp .ge 30, 3) := by decide +kernel
theorem dX12_isWord_41 : decode cX12_isWord 41 = .ok (.aload_n 0, 1) := by decide +kernel
theorem dX12_isWord_42 : decode cX12_isWord 42 = .ok (.getfield 22, 3) := by decide +kernel
theorem dX12_isWord_45 : decode cX12_isWord 45 = .ok (.aload_n 0, 1) := by decide +kernel
theorem dX12_isWord_46 : decode cX12_isWord 46 = .ok (.getfield 108, 3) := by decide +kernel
theorem dX12_isWord_49 : decode cX12_isWord 49 = .ok (.iload_n 3, 1) := by decide +kernel
theorem dX12_isWord_50 : decode cX12_isWord 50 = .ok (.iadd, 1) := by decide +kernel
theorem dX12_isWord_51 : decode cX12_isWord 51 = .ok (.iaload, 1) := by decide +kernel
theorem dX12_isWord_52 : decode cX12_isWord 52 = .ok (.aload_n 2, 1) := by decide +kernel
theorem dX12_isWord_53 : decode cX12_isWord 53 = .ok (.iload_n 3, 1) := by decide +kernel
theorem dX12_isWord_54 : decode cX12_isWord 54 = .ok (.invokevirtual 157, 3) := by decide +kernel
theorem wm_1881 : (Jvm.Cond.methodLink "GrownKindsModel" (157 : Nat) ({ cls := "java/lang/String", name := "charAt", desc := "(I)C" } : Jvm.MethodName)) ∈ gT := gT_in (List.mem_of_getElem? (i := 1881) (by decide +kernel)) (by decide +kernel)
theorem wm_787 : (Jvm.Cond.instanceMethod ({ cls := "java/lang/String", name := "charAt", desc := "(I)C" } : Jvm.MethodName)) ∈ gT := gT_in (List.mem_of_getElem? (i := 787) (by decide +kernel)) (by decide +kernel)
theorem wm_788 : (Jvm.Cond.selects "java/lang/String" ({ cls := "java/lang/String", name := "charAt", desc := "(I)C" } : Jvm.MethodName) ({ cls := "java/lang/String", name := "charAt", desc := "(I)C" } : Jvm.MethodName)) ∈ gT := gT_in (List.mem_of_getElem? (i := 788) (by decide +kernel)) (by decide +kernel)
theorem wm_789 : (Jvm.Cond.code ({ cls := "java/lang/String", name := "charAt", desc := "(I)C" } : Jvm.MethodName) prog_18_method_56_code (2 : Nat) (Option.some Jvm.ClassFile.FieldType.char)) ∈ gT := gT_in (List.mem_of_getElem? (i := 789) (by decide +kernel)) (by decide +kernel)
theorem dJ0_charAt_5068e_0 : decode cJ0_charAt_5068e 0 = .ok (.aload_n 0, 1) := by decide +kernel
theorem dJ0_charAt_5068e_1 : decode cJ0_charAt_5068e 1 = .ok (.invokevirtual 492, 3) := by decide +kernel
theorem wm_790 : (Jvm.Cond.methodLink "java/lang/String" (492 : Nat) ({ cls := "java/lang/String", name := "isLatin1", desc := "()Z" } : Jvm.MethodName)) ∈ gT := gT_in (List.mem_of_getElem? (i := 790) (by decide +kernel)) (by decide +kernel)
theorem wm_791 : (Jvm.Cond.instanceMethod ({ cls := "java/lang/String", name := "isLatin1", desc := "()Z" } : Jvm.MethodName)) ∈ gT := gT_in (List.mem_of_getElem? (i := 791) (by decide +kernel)) (by decide +kernel)
theorem wm_792 : (Jvm.Cond.selects "java/lang/String" ({ cls := "java/lang/String", name := "isLatin1", desc := "()Z" } : Jvm.MethodName) ({ cls := "java/lang/String", name := "isLatin1", desc := "()Z" } : Jvm.MethodName)) ∈ gT := gT_in (List.mem_of_getElem? (i := 792) (by decide +kernel)) (by decide +kernel)
theorem wm_793 : (Jvm.Cond.code ({ cls := "java/lang/String", name := "isLatin1", desc := "()Z" } : Jvm.MethodName) prog_18_method_154_code (1 : Nat) (Option.some Jvm.ClassFile.FieldType.boolean)) ∈ gT := gT_in (List.mem_of_getElem? (i := 793) (by decide +kernel)) (by decide +kernel)
theorem dJ0_isLatin1_aae02_0 : decode cJ0_isLatin1_aae02 0 = .ok (.getstatic 38, 3) := by decide +kernel
theorem dJ0_isLatin1_aae02_3 : decode cJ0_isLatin1_aae02 3 = .ok (.ifCond .eq 14, 3) := by decide +kernel
theorem dJ0_isLatin1_aae02_6 : decode cJ0_isLatin1_aae02 6 = .ok (.aload_n 0, 1) := by decide +kernel
theorem dJ0_isLatin1_aae02_7 : decode cJ0_isLatin1_aae02 7 = .ok (.getfield 15, 3) := by decide +kernel
theorem dJ0_isLatin1_aae02_10 : decode cJ0_isLatin1_aae02 10 = .ok (.ifCond .ne 7, 3) := by decide +kernel
theorem dJ0_isLatin1_aae02_13 : decode cJ0_isLatin1_aae02 13 = .ok (.iconst 1, 1) := by decide +kernel
theorem dJ0_isLatin1_aae02_14 : decode cJ0_isLatin1_aae02 14 = .ok (.goto 4, 3) := by decide +kernel
theorem dJ0_isLatin1_aae02_18 : decode cJ0_isLatin1_aae02 18 = .ok (.ireturn, 1) := by decide +kernel
theorem dJ0_charAt_5068e_4 : decode cJ0_charAt_5068e 4 = .ok (.ifCond .eq 12, 3) := by decide +kernel
theorem dJ0_charAt_5068e_7 : decode cJ0_charAt_5068e 7 = .ok (.aload_n 0, 1) := by decide +kernel
theorem dJ0_charAt_5068e_8 : decode cJ0_charAt_5068e 8 = .ok (.getfield 9, 3) := by decide +kernel
theorem dJ0_charAt_5068e_11 : decode cJ0_charAt_5068e 11 = .ok (.iload_n 1, 1) := by decide +kernel
theorem dJ0_charAt_5068e_12 : decode cJ0_charAt_5068e 12 = .ok (.invokestatic 495, 3) := by decide +kernel
theorem wm_794 : (Jvm.Cond.methodLink "java/lang/String" (495 : Nat) ({ cls := "java/lang/StringLatin1", name := "charAt", desc := "([BI)C" } : Jvm.MethodName)) ∈ gT := gT_in (List.mem_of_getElem? (i := 794) (by decide +kernel)) (by decide +kernel)
theorem wm_795 : (Jvm.Cond.static ({ cls := "java/lang/StringLatin1", name := "charAt", desc := "([BI)C" } : Jvm.MethodName)) ∈ gT := gT_in (List.mem_of_getElem? (i := 795) (by decide +kernel)) (by decide +kernel)
theorem wm_192 : (Jvm.Cond.initialized "java/lang/StringLatin1") ∈ gT := gT_in (List.mem_of_getElem? (i := 192) (by decide +kernel)) (by decide +kernel)
theorem wm_796 : (Jvm.Cond.code ({ cls := "java/lang/StringLatin1", name := "charAt", desc := "([BI)C" } : Jvm.MethodName) prog_19_method_2_code (2 : Nat) (Option.some Jvm.ClassFile.FieldType.char)) ∈ gT := gT_in (List.mem_of_getElem? (i := 796) (by decide +kernel)) (by decide +kernel)
theorem dJ1_charAt_3b067_0 : decode cJ1_charAt_3b067 0 = .ok (.iload_n 1, 1) := by decide +kernel
theorem dJ1_charAt_3b067_1 : decode cJ1_charAt_3b067 1 = .ok (.aload_n 0, 1) := by decide +kernel
theorem dJ1_charAt_3b067_2 : decode cJ1_charAt_3b067 2 = .ok (.arraylength, 1) := by decide +kernel
theorem dJ1_charAt_3b067_3 : decode cJ1_charAt_3b067 3 = .ok (.invokestatic 9, 3) := by decide +kernel
theorem wm_797 : (Jvm.Cond.methodLink "java/lang/StringLatin1" (9 : Nat) ({ cls := "java/lang/String", name := "checkIndex", desc := "(II)V" } : Jvm.MethodName)) ∈ gT := gT_in (List.mem_of_getElem? (i := 797) (by decide +kernel)) (by decide +kernel)
theorem wm_798 : (Jvm.Cond.static ({ cls := "java/lang/String", name := "checkIndex", desc := "(II)V" } : Jvm.MethodName)) ∈ gT := gT_in (List.mem_of_getElem? (i := 798) (by decide +kernel)) (by decide +kernel)
theorem wm_799 : (Jvm.Cond.code ({ cls := "java/lang/String", name := "checkIndex", desc := "(II)V" } : Jvm.MethodName) prog_18_method_155_code (2 : Nat) (Option.none : Option Jvm.ClassFile.FieldType)) ∈ gT := gT_in (List.mem_of_getElem? (i := 799) (by decide +kernel)) (by decide +kernel)
theorem dJ0_checkIndex_df160_0 : decode cJ0_checkIndex_df160 0 = .ok (.iload_n 0, 1) := by decide +kernel
theorem dJ0_checkIndex_df160_1 : decode cJ0_checkIndex_df160 1 = .ok (.iload_n 1, 1) := by decide +kernel
theorem dJ0_checkIndex_df160_2 : decode cJ0_checkIndex_df160 2 = .ok (.getstatic 1053, 3) := by decide +kernel
theorem wm_800 : (Jvm.Cond.fieldLink "java/lang/String" (1053 : Nat) "jdk/internal/util/Preconditions" "SIOOBE_FORMATTER" "Ljava/util/function/BiFunction;") ∈ gT := gT_in (List.mem_of_getElem? (i := 800) (by decide +kernel)) (by decide +kernel)
theorem dJ0_checkIndex_df160_5 : decode cJ0_checkIndex_df160 5 = .ok (.invokestatic 1059, 3) := by decide +kernel
theorem wm_802 : (Jvm.Cond.methodLink "java/lang/String" (1059 : Nat) ({ cls := "jdk/internal/util/Preconditions", name := "checkIndex", desc := "(IILjava/util/function/BiFunction;)I" } : Jvm.MethodName)) ∈ gT := gT_in (List.mem_of_getElem? (i := 802) (by decide +kernel)) (by decide +kernel)
theorem wm_803 : (Jvm.Cond.static ({ cls := "jdk/internal/util/Preconditions", name := "checkIndex", desc := "(IILjava/util/function/BiFunction;)I" } : Jvm.MethodName)) ∈ gT := gT_in (List.mem_of_getElem? (i := 803) (by decide +kernel)) (by decide +kernel)
theorem wm_193 : (Jvm.Cond.initialized "jdk/internal/util/Preconditions") ∈ gT := gT_in (List.mem_of_getElem? (i := 193) (by decide +kernel)) (by decide +kernel)
theorem wm_804 : (Jvm.Cond.code ({ cls := "jdk/internal/util/Preconditions", name := "checkIndex", desc := "(IILjava/util/function/BiFunction;)I" } : Jvm.MethodName) prog_23_method_11_code (3 : Nat) (Option.some Jvm.ClassFile.FieldType.int)) ∈ gT := gT_in (List.mem_of_getElem? (i := 804) (by decide +kernel)) (by decide +kernel)
theorem dJ3_checkIndex_8e157_0 : decode cJ3_checkIndex_8e157 0 = .ok (.iload_n 0, 1) := by decide +kernel
theorem dJ3_checkIndex_8e157_1 : decode cJ3_checkIndex_8e157 1 = .ok (.ifCond .lt 8, 3) := by decide +kernel
theorem dJ3_checkIndex_8e157_4 : decode cJ3_checkIndex_8e157 4 = .ok (.iload_n 0, 1) := by decide +kernel
theorem dJ3_checkIndex_8e157_5 : decode cJ3_checkIndex_8e157 5 = .ok (.iload_n 1, 1) := by decide +kernel
theorem dJ3_checkIndex_8e157_6 : decode cJ3_checkIndex_8e157 6 = .ok (.if_icmp .lt 10, 3) := by decide +kernel
theorem dJ3_checkIndex_8e157_16 : decode cJ3_checkIndex_8e157 16 = .ok (.iload_n 0, 1) := by decide +kernel
theorem dJ3_checkIndex_8e157_17 : decode cJ3_checkIndex_8e157 17 = .ok (.ireturn, 1) := by decide +kernel
theorem dJ0_checkIndex_df160_8 : decode cJ0_checkIndex_df160 8 = .ok (.pop, 1) := by decide +kernel
theorem dJ0_checkIndex_df160_9 : decode cJ0_checkIndex_df160 9 = .ok (.return_, 1) := by decide +kernel
theorem dJ1_charAt_3b067_6 : decode cJ1_charAt_3b067 6 = .ok (.aload_n 0, 1) := by decide +kernel
theorem dJ1_charAt_3b067_7 : decode cJ1_charAt_3b067 7 = .ok (.iload_n 1, 1) := by decide +kernel
theorem dJ1_charAt_3b067_8 : decode cJ1_charAt_3b067 8 = .ok (.baload, 1) := by decide +kernel
theorem dJ1_charAt_3b067_9 : decode cJ1_charAt_3b067 9 = .ok (.sipush 255, 3) := by decide +kernel
theorem dJ1_charAt_3b067_12 : decode cJ1_charAt_3b067 12 = .ok (.iand, 1) := by decide +kernel
theorem dJ1_charAt_3b067_13 : decode cJ1_charAt_3b067 13 = .ok (.i2c, 1) := by decide +kernel
theorem dJ1_charAt_3b067_14 : decode cJ1_charAt_3b067 14 = .ok (.ireturn, 1) := by decide +kernel
theorem dJ0_charAt_5068e_15 : decode cJ0_charAt_5068e 15 = .ok (.ireturn, 1) := by decide +kernel
theorem dX12_isWord_57 : decode cX12_isWord 57 = .ok (.if_icmp .eq 5, 3) := by decide +kernel
theorem dX12_isWord_62 : decode cX12_isWord 62 = .ok (.iinc 3 1, 3) := by decide +kernel
theorem dX12_isWord_65 : decode cX12_isWord 65 = .ok (.goto (-32), 3) := by decide +kernel
theorem dX12_isWord_60 : decode cX12_isWord 60 = .ok (.iconst 0, 1) := by decide +kernel
theorem dX12_isWord_61 : decode cX12_isWord 61 = .ok (.ireturn, 1) := by decide +kernel
theorem dX12_isWord_68 : decode cX12_isWord 68 = .ok (.iconst 1, 1) := by decide +kernel
theorem dX12_isWord_69 : decode cX12_isWord 69 = .ok (.ireturn, 1) := by decide +kernel
theorem dX12_key_0 : decode cX12_key 0 = .ok (.iconst 0, 1) := by decide +kernel
theorem dX12_key_1 : decode cX12_key 1 = .ok (.istore_n 1, 1) := by decide +kernel
theorem dX12_key_2 : decode cX12_key 2 = .ok (.iload_n 1, 1) := by decide +kernel
theorem dX12_key_3 : decode cX12_key 3 = .ok (.bipush 10, 2) := by decide +kernel
theorem dX12_key_5 : decode cX12_key 5 = .ok (.if_icmp .ge 19, 3) := by decide +kernel
theorem dX12_key_8 : decode cX12_key 8 = .ok (.aload_n 0, 1) := by decide +kernel
theorem dX12_key_9 : decode cX12_key 9 = .ok (.iload_n 1, 1) := by decide +kernel
theorem dX12_key_10 : decode cX12_key 10 = .ok (.invokevirtual 161, 3) := by decide +kernel
theorem wm_1863 : (Jvm.Cond.methodLink "GrownKindsModel" (161 : Nat) ({ cls := "GrownKindsModel", name := "isWord", desc := "(I)Z" } : Jvm.MethodName)) ∈ gT := gT_in (List.mem_of_getElem? (i := 1863) (by decide +kernel)) (by decide +kernel)
theorem wm_1865 : (Jvm.Cond.instanceMethod ({ cls := "GrownKindsModel", name := "isWord", desc := "(I)Z" } : Jvm.MethodName)) ∈ gT := gT_in (List.mem_of_getElem? (i := 1865) (by decide +kernel)) (by decide +kernel)
theorem wm_92 : Cond.selects "GrownKindsModel" ⟨"GrownKindsModel", "isWord", "(I)Z"⟩ ⟨"GrownKindsModel", "isWord", "(I)Z"⟩ ∈ gT := gT_in (List.mem_of_getElem? (i := 92) (by decide +kernel)) (by decide +kernel)
theorem wm_1866 : (Jvm.Cond.code ({ cls := "GrownKindsModel", name := "isWord", desc := "(I)Z" } : Jvm.MethodName) prog_14_method_14_code (4 : Nat) (Option.some Jvm.ClassFile.FieldType.boolean)) ∈ gT := gT_in (List.mem_of_getElem? (i := 1866) (by decide +kernel)) (by decide +kernel)
theorem dX12_key_13 : decode cX12_key 13 = .ok (.ifCond .eq 5, 3) := by decide +kernel
theorem dX12_key_18 : decode cX12_key 18 = .ok (.iinc 1 1, 3) := by decide +kernel
theorem dX12_key_21 : decode cX12_key 21 = .ok (.goto (-19), 3) := by decide +kernel
theorem dX12_key_16 : decode cX12_key 16 = .ok (.iload_n 1, 1) := by decide +kernel
theorem dX12_key_17 : decode cX12_key 17 = .ok (.ireturn, 1) := by decide +kernel
theorem dX12_key_24 : decode cX12_key 24 = .ok (.iconst (-1), 1) := by decide +kernel
theorem dX12_key_25 : decode cX12_key 25 = .ok (.ireturn, 1) := by decide +kernel
theorem dX12_needsWord_0 : decode cX12_needsWord 0 = .ok (.aload_n 0, 1) := by decide +kernel
theorem dX12_needsWord_1 : decode cX12_needsWord 1 = .ok (.iload_n 1, 1) := by decide +kernel
theorem dX12_needsWord_2 : decode cX12_needsWord 2 = .ok (.invokevirtual 161, 3) := by decide +kernel
theorem dX12_needsWord_5 : decode cX12_needsWord 5 = .ok (.ifCond .ne 9, 3) := by decide +kernel
theorem dX12_needsWord_14 : decode cX12_needsWord 14 = .ok (.aload_n 0, 1) := by decide +kernel
theorem dX12_needsWord_15 : decode cX12_needsWord 15 = .ok (.getfield 120, 3) := by decide +kernel
theorem dX12_needsWord_18 : decode cX12_needsWord 18 = .ok (.ifCond .ne 7, 3) := by decide +kernel
theorem dX12_needsWord_25 : decode cX12_needsWord 25 = .ok (.return_, 1) := by decide +kernel
theorem dX12_needsWord_21 : decode cX12_needsWord 21 = .ok (.aload_n 0, 1) := by decide +kernel
theorem dX12_needsWord_22 : decode cX12_needsWord 22 = .ok (.invokevirtual 173, 3) := by decide +kernel
theorem dX12_needsWord_8 : decode cX12_needsWord 8 = .ok (.aload_n 0, 1) := by decide +kernel
theorem dX12_needsWord_9 : decode cX12_needsWord 9 = .ok (.iconst 1, 1) := by decide +kernel
theorem dX12_needsWord_10 : decode cX12_needsWord 10 = .ok (.invokevirtual 169, 3) := by decide +kernel
theorem dX12_needsWord_13 : decode cX12_needsWord 13 = .ok (.pop, 1) := by decide +kernel
theorem dX12_readsName_0 : decode cX12_readsName 0 = .ok (.aload_n 0, 1) := by decide +kernel
theorem dX12_readsName_1 : decode cX12_readsName 1 = .ok (.getfield 114, 3) := by decide +kernel
theorem dX12_readsName_4 : decode cX12_readsName 4 = .ok (.iconst 1, 1) := by decide +kernel
theorem dX12_readsName_5 : decode cX12_readsName 5 = .ok (.if_icmp .ne 10, 3) := by decide +kernel
theorem dX12_readsName_15 : decode cX12_readsName 15 = .ok (.aload_n 0, 1) := by decide +kernel
theorem dX12_readsName_16 : decode cX12_readsName 16 = .ok (.iconst 1, 1) := by decide +kernel
theorem dX12_readsName_17 : decode cX12_readsName 17 = .ok (.invokevirtual 169, 3) := by decide +kernel
theorem dX12_readsName_20 : decode cX12_readsName 20 = .ok (.pop, 1) := by decide +kernel
theorem dX12_readsName_21 : decode cX12_readsName 21 = .ok (.return_, 1) := by decide +kernel
theorem dX12_readsName_8 : decode cX12_readsName 8 = .ok (.aload_n 0, 1) := by decide +kernel
theorem dX12_readsName_9 : decode cX12_readsName 9 = .ok (.invokevirtual 183, 3) := by decide +kernel
theorem wm_1890 : (Jvm.Cond.methodLink "GrownKindsModel" (183 : Nat) ({ cls := "GrownKindsModel", name := "key", desc := "()I" } : Jvm.MethodName)) ∈ gT := gT_in (List.mem_of_getElem? (i := 1890) (by decide +kernel)) (by decide +kernel)
theorem wm_1892 : (Jvm.Cond.instanceMethod ({ cls := "GrownKindsModel", name := "key", desc := "()I" } : Jvm.MethodName)) ∈ gT := gT_in (List.mem_of_getElem? (i := 1892) (by decide +kernel)) (by decide +kernel)
theorem wm_95 : Cond.selects "GrownKindsModel" ⟨"GrownKindsModel", "key", "()I"⟩ ⟨"GrownKindsModel", "key", "()I"⟩ ∈ gT := gT_in (List.mem_of_getElem? (i := 95) (by decide +kernel)) (by decide +kernel)
theorem wm_1893 : (Jvm.Cond.code ({ cls := "GrownKindsModel", name := "key", desc := "()I" } : Jvm.MethodName) prog_14_method_15_code (2 : Nat) (Option.some Jvm.ClassFile.FieldType.int)) ∈ gT := gT_in (List.mem_of_getElem? (i := 1893) (by decide +kernel)) (by decide +kernel)
theorem dX12_readsName_12 : decode cX12_readsName 12 = .ok (.ifCond .lt 10, 3) := by decide +kernel
theorem dX12_readsName_22 : decode cX12_readsName 22 = .ok (.aload_n 0, 1) := by decide +kernel
theorem dX12_readsName_23 : decode cX12_readsName 23 = .ok (.getfield 101, 3) := by decide +kernel
theorem dX12_readsName_26 : decode cX12_readsName 26 = .ok (.aload_n 0, 1) := by decide +kernel
theorem dX12_readsName_27 : decode cX12_readsName 27 = .ok (.getfield 108, 3) := by decide +kernel
theorem dX12_readsName_30 : decode cX12_readsName 30 = .ok (.isub, 1) := by decide +kernel
theorem dX12_readsName_31 : decode cX12_readsName 31 = .ok (.bipush 8, 2) := by decide +kernel
theorem dX12_readsName_33 : decode cX12_readsName 33 = .ok (.if_icmp .gt 10, 3) := by decide +kernel
theorem dX12_readsName_43 : decode cX12_readsName 43 = .ok (.aload_n 0, 1) := by decide +kernel
theorem dX12_readsName_44 : decode cX12_readsName 44 = .ok (.iconst 2, 1) := by decide +kernel
theorem dX12_readsName_45 : decode cX12_readsName 45 = .ok (.invokevirtual 169, 3) := by decide +kernel
theorem dX12_readsName_48 : decode cX12_readsName 48 = .ok (.pop, 1) := by decide +kernel
theorem dX12_readsName_49 : decode cX12_readsName 49 = .ok (.return_, 1) := by decide +kernel
theorem dX12_readsName_36 : decode cX12_readsName 36 = .ok (.aload_n 0, 1) := by decide +kernel
theorem dX12_readsName_37 : decode cX12_readsName 37 = .ok (.invokevirtual 186, 3) := by decide +kernel
theorem wm_1894 : (Jvm.Cond.methodLink "GrownKindsModel" (186 : Nat) ({ cls := "GrownKindsModel", name := "named", desc := "()I" } : Jvm.MethodName)) ∈ gT := gT_in (List.mem_of_getElem? (i := 1894) (by decide +kernel)) (by decide +kernel)
theorem wm_1896 : (Jvm.Cond.instanceMethod ({ cls := "GrownKindsModel", name := "named", desc := "()I" } : Jvm.MethodName)) ∈ gT := gT_in (List.mem_of_getElem? (i := 1896) (by decide +kernel)) (by decide +kernel)
theorem wm_96 : Cond.selects "GrownKindsModel" ⟨"GrownKindsModel", "named", "()I"⟩ ⟨"GrownKindsModel", "named", "()I"⟩ ∈ gT := gT_in (List.mem_of_getElem? (i := 96) (by decide +kernel)) (by decide +kernel)
theorem wm_1897 : (Jvm.Cond.code ({ cls := "GrownKindsModel", name := "named", desc := "()I" } : Jvm.MethodName) prog_14_method_16_code (4 : Nat) (Option.some Jvm.ClassFile.FieldType.int)) ∈ gT := gT_in (List.mem_of_getElem? (i := 1897) (by decide +kernel)) (by decide +kernel)
theorem dX12_readsName_40 : decode cX12_readsName 40 = .ok (.ifCond .lt 10, 3) := by decide +kernel
theorem dX12_readsName_50 : decode cX12_readsName 50 = .ok (.aload_n 0, 1) := by decide +kernel
theorem dX12_readsName_51 : decode cX12_readsName 51 = .ok (.getfield 15, 3) := by decide +kernel
theorem dX12_readsName_54 : decode cX12_readsName 54 = .ok (.iconst 0, 1) := by decide +kernel
theorem dX12_readsName_55 : decode cX12_readsName 55 = .ok (.iaload, 1) := by decide +kernel
theorem dX12_readsName_56 : decode cX12_readsName 56 = .ok (.bipush 6, 2) := by decide +kernel
theorem dX12_readsName_58 : decode cX12_readsName 58 = .ok (.if_icmp .ne 10, 3) := by decide +kernel
theorem dX12_readsName_68 : decode cX12_readsName 68 = .ok (.aload_n 0, 1) := by decide +kernel
theorem dX12_readsName_69 : decode cX12_readsName 69 = .ok (.getfield 15, 3) := by decide +kernel
theorem dX12_readsName_72 : decode cX12_readsName 72 = .ok (.iconst 0, 1) := by decide +kernel
theorem dX12_readsName_73 : decode cX12_readsName 73 = .ok (.iaload, 1) := by decide +kernel
theorem dX12_readsName_74 : decode cX12_readsName 74 = .ok (.istore_n 1, 1) := by decide +kernel
theorem dX12_readsName_75 : decode cX12_readsName 75 = .ok (.aload_n 0, 1) := by decide +kernel
theorem dX12_readsName_76 : decode cX12_readsName 76 = .ok (.getfield 32, 3) := by decide +kernel
theorem dX12_readsName_79 : decode cX12_readsName 79 = .ok (.iload_n 1, 1) := by decide +kernel
theorem dX12_readsName_80 : decode cX12_readsName 80 = .ok (.aload_n 0, 1) := by decide +kernel
theorem dX12_readsName_81 : decode cX12_readsName 81 = .ok (.getfield 101, 3) := by decide +kernel
theorem dX12_readsName_84 : decode cX12_readsName 84 = .ok (.aload_n 0, 1) := by decide +kernel
theorem dX12_readsName_85 : decode cX12_readsName 85 = .ok (.getfield 108, 3) := by decide +kernel
theorem dX12_readsName_88 : decode cX12_readsName 88 = .ok (.isub, 1) := by decide +kernel
theorem dX12_readsName_89 : decode cX12_readsName 89 = .ok (.iastore, 1) := by decide +kernel
theorem dX12_readsName_90 : decode cX12_readsName 90 = .ok (.iconst 0, 1) := by decide +kernel
theorem dX12_readsName_91 : decode cX12_readsName 91 = .ok (.istore_n 2, 1) := by decide +kernel
theorem dX12_readsName_92 : decode cX12_readsName 92 = .ok (.iload_n 2, 1) := by decide +kernel
theorem dX12_readsName_93 : decode cX12_readsName 93 = .ok (.aload_n 0, 1) := by decide +kernel
theorem dX12_readsName_94 : decode cX12_readsName 94 = .ok (.getfield 32, 3) := by decide +kernel
theorem dX12_readsName_97 : decode cX12_readsName 97 = .ok (.iload_n 1, 1) := by decide +kernel
theorem dX12_readsName_98 : decode cX12_readsName 98 = .ok (.iaload, 1) := by decide +kernel
theorem dX12_readsName_99 : decode cX12_readsName 99 = .ok (.if_icmp .ge 31, 3) := by decide +kernel
theorem dX12_readsName_102 : decode cX12_readsName 102 = .ok (.aload_n 0, 1) := by decide +kernel
theorem dX12_readsName_103 : decode cX12_readsName 103 = .ok (.getfield 29, 3) := by decide +kernel
theorem dX12_readsName_106 : decode cX12_readsName 106 = .ok (.bipush 8, 2) := by decide +kernel
theorem dX12_readsName_108 : decode cX12_readsName 108 = .ok (.iload_n 1, 1) := by decide +kernel
theorem dX12_readsName_109 : decode cX12_readsName 109 = .ok (.imul, 1) := by decide +kernel
theorem dX12_readsName_110 : decode cX12_readsName 110 = .ok (.iload_n 2, 1) := by decide +kernel
theorem dX12_readsName_111 : decode cX12_readsName 111 = .ok (.iadd, 1) := by decide +kernel
theorem dX12_readsName_112 : decode cX12_readsName 112 = .ok (.aload_n 0, 1) := by decide +kernel
theorem dX12_readsName_113 : decode cX12_readsName 113 = .ok (.getfield 22, 3) := by decide +kernel
theorem dX12_readsName_116 : decode cX12_readsName 116 = .ok (.aload_n 0, 1) := by decide +kernel
theorem dX12_readsName_117 : decode cX12_readsName 117 = .ok (.getfield 108, 3) := by decide +kernel
theorem dX12_readsName_120 : decode cX12_readsName 120 = .ok (.iload_n 2, 1) := by decide +kernel
theorem dX12_readsName_121 : decode cX12_readsName 121 = .ok (.iadd, 1) := by decide +kernel
theorem dX12_readsName_122 : decode cX12_readsName 122 = .ok (.iaload, 1) := by decide +kernel
theorem dX12_readsName_123 : decode cX12_readsName 123 = .ok (.iastore, 1) := by decide +kernel
theorem dX12_readsName_124 : decode cX12_readsName 124 = .ok (.iinc 2 1, 3) := by decide +kernel
theorem dX12_readsName_127 : decode cX12_readsName 127 = .ok (.goto (-35), 3) := by decide +kernel
theorem dX12_readsName_130 : decode cX12_readsName 130 = .ok (.aload_n 0, 1) := by decide +kernel
theorem dX12_readsName_131 : decode cX12_readsName 131 = .ok (.getfield 15, 3) := by decide +kernel
theorem dX12_readsName_134 : decode cX12_readsName 134 = .ok (.iconst 0, 1) := by decide +kernel
theorem dX12_readsName_135 : decode cX12_readsName 135 = .ok (.dup2, 1) := by decide +kernel
theorem dX12_readsName_136 : decode cX12_readsName 136 = .ok (.iaload, 1) := by decide +kernel
theorem dX12_readsName_137 : decode cX12_readsName 137 = .ok (.iconst 1, 1) := by decide +kernel
theorem dX12_readsName_138 : decode cX12_readsName 138 = .ok (.iadd, 1) := by decide +kernel
theorem dX12_readsName_139 : decode cX12_readsName 139 = .ok (.iastore, 1) := by decide +kernel
theorem dX12_readsName_140 : decode cX12_readsName 140 = .ok (.aload_n 0, 1) := by decide +kernel
theorem dX12_readsName_141 : decode cX12_readsName 141 = .ok (.invokevirtual 173, 3) := by decide +kernel
theorem dX12_readsName_144 : decode cX12_readsName 144 = .ok (.return_, 1) := by decide +kernel
theorem dX12_readsName_61 : decode cX12_readsName 61 = .ok (.aload_n 0, 1) := by decide +kernel
theorem dX12_readsName_62 : decode cX12_readsName 62 = .ok (.iconst 3, 1) := by decide +kernel
theorem dX12_readsName_63 : decode cX12_readsName 63 = .ok (.invokevirtual 169, 3) := by decide +kernel
theorem dX12_readsName_66 : decode cX12_readsName 66 = .ok (.pop, 1) := by decide +kernel
theorem dX12_readsName_67 : decode cX12_readsName 67 = .ok (.return_, 1) := by decide +kernel
theorem dX12_readsHead_0 : decode cX12_readsHead 0 = .ok (.aload_n 0, 1) := by decide +kernel
theorem dX12_readsHead_1 : decode cX12_readsHead 1 = .ok (.iconst 0, 1) := by decide +kernel
theorem dX12_readsHead_2 : decode cX12_readsHead 2 = .ok (.invokevirtual 176, 3) := by decide +kernel
theorem wm_1859 : (Jvm.Cond.methodLink "GrownKindsModel" (176 : Nat) ({ cls := "GrownKindsModel", name := "needsWord", desc := "(I)V" } : Jvm.MethodName)) ∈ gT := gT_in (List.mem_of_getElem? (i := 1859) (by decide +kernel)) (by decide +kernel)
theorem wm_1861 : (Jvm.Cond.instanceMethod ({ cls := "GrownKindsModel", name := "needsWord", desc := "(I)V" } : Jvm.MethodName)) ∈ gT := gT_in (List.mem_of_getElem? (i := 1861) (by decide +kernel)) (by decide +kernel)
theorem wm_91 : Cond.selects "GrownKindsModel" ⟨"GrownKindsModel", "needsWord", "(I)V"⟩ ⟨"GrownKindsModel", "needsWord", "(I)V"⟩ ∈ gT := gT_in (List.mem_of_getElem? (i := 91) (by decide +kernel)) (by decide +kernel)
theorem wm_1862 : (Jvm.Cond.code ({ cls := "GrownKindsModel", name := "needsWord", desc := "(I)V" } : Jvm.MethodName) prog_14_method_19_code (2 : Nat) (Option.none : Option Jvm.ClassFile.FieldType)) ∈ gT := gT_in (List.mem_of_getElem? (i := 1862) (by decide +kernel)) (by decide +kernel)
theorem dX12_readsHead_5 : decode cX12_readsHead 5 = .ok (.aload_n 0, 1) := by decide +kernel
theorem dX12_readsHead_6 : decode cX12_readsHead 6 = .ok (.getfield 120, 3) := by decide +kernel
theorem dX12_readsHead_9 : decode cX12_readsHead 9 = .ok (.ifCond .ne 8, 3) := by decide +kernel
theorem dX12_readsHead_12 : decode cX12_readsHead 12 = .ok (.aload_n 0, 1) := by decide +kernel
theorem dX12_readsHead_13 : decode cX12_readsHead 13 = .ok (.iconst 1, 1) := by decide +kernel
theorem dX12_readsHead_14 : decode cX12_readsHead 14 = .ok (.invokevirtual 176, 3) := by decide +kernel
theorem dX12_readsHead_17 : decode cX12_readsHead 17 = .ok (.aload_n 0, 1) := by decide +kernel
theorem dX12_readsHead_18 : decode cX12_readsHead 18 = .ok (.getfield 120, 3) := by decide +kernel
theorem dX12_readsHead_21 : decode cX12_readsHead 21 = .ok (.ifCond .eq 4, 3) := by decide +kernel
theorem dX12_readsHead_25 : decode cX12_readsHead 25 = .ok (.aload_n 0, 1) := by decide +kernel
theorem dX12_readsHead_26 : decode cX12_readsHead 26 = .ok (.getfield 114, 3) := by decide +kernel
theorem dX12_readsHead_29 : decode cX12_readsHead 29 = .ok (.iconst 2, 1) := by decide +kernel
theorem dX12_readsHead_30 : decode cX12_readsHead 30 = .ok (.if_icmp .eq 10, 3) := by decide +kernel
theorem dX12_readsHead_40 : decode cX12_readsHead 40 = .ok (.aload_n 0, 1) := by decide +kernel
theorem dX12_readsHead_41 : decode cX12_readsHead 41 = .ok (.getfield 111, 3) := by decide +kernel
theorem dX12_readsHead_44 : decode cX12_readsHead 44 = .ok (.bipush 8, 2) := by decide +kernel
theorem dX12_readsHead_46 : decode cX12_readsHead 46 = .ok (.if_icmp .lt 10, 3) := by decide +kernel
theorem dX12_readsHead_56 : decode cX12_readsHead 56 = .ok (.aload_n 0, 1) := by decide +kernel
theorem dX12_readsHead_57 : decode cX12_readsHead 57 = .ok (.getfield 15, 3) := by decide +kernel
theorem dX12_readsHead_60 : decode cX12_readsHead 60 = .ok (.iconst 1, 1) := by decide +kernel
theorem dX12_readsHead_61 : decode cX12_readsHead 61 = .ok (.aload_n 0, 1) := by decide +kernel
theorem dX12_readsHead_62 : decode cX12_readsHead 62 = .ok (.getfield 111, 3) := by decide +kernel
theorem dX12_readsHead_65 : decode cX12_readsHead 65 = .ok (.iastore, 1) := by decide +kernel
theorem dX12_readsHead_66 : decode cX12_readsHead 66 = .ok (.aload_n 0, 1) := by decide +kernel
theorem dX12_readsHead_67 : decode cX12_readsHead 67 = .ok (.invokevirtual 173, 3) := by decide +kernel
theorem dX12_readsHead_70 : decode cX12_readsHead 70 = .ok (.iconst 1, 1) := by decide +kernel
theorem dX12_readsHead_71 : decode cX12_readsHead 71 = .ok (.istore_n 1, 1) := by decide +kernel
theorem dX12_readsHead_72 : decode cX12_readsHead 72 = .ok (.iload_n 1, 1) := by decide +kernel
theorem dX12_readsHead_73 : decode cX12_readsHead 73 = .ok (.ifCond .eq 31, 3) := by decide +kernel
theorem dX12_readsHead_76 : decode cX12_readsHead 76 = .ok (.aload_n 0, 1) := by decide +kernel
theorem dX12_readsHead_77 : decode cX12_readsHead 77 = .ok (.invokevirtual 180, 3) := by decide +kernel
theorem wm_1886 : (Jvm.Cond.methodLink "GrownKindsModel" (180 : Nat) ({ cls := "GrownKindsModel", name := "readsName", desc := "()V" } : Jvm.MethodName)) ∈ gT := gT_in (List.mem_of_getElem? (i := 1886) (by decide +kernel)) (by decide +kernel)
theorem wm_1888 : (Jvm.Cond.instanceMethod ({ cls := "GrownKindsModel", name := "readsName", desc := "()V" } : Jvm.MethodName)) ∈ gT := gT_in (List.mem_of_getElem? (i := 1888) (by decide +kernel)) (by decide +kernel)
theorem wm_94 : Cond.selects "GrownKindsModel" ⟨"GrownKindsModel", "readsName", "()V"⟩ ⟨"GrownKindsModel", "readsName", "()V"⟩ ∈ gT := gT_in (List.mem_of_getElem? (i := 94) (by decide +kernel)) (by decide +kernel)
theorem wm_1889 : (Jvm.Cond.code ({ cls := "GrownKindsModel", name := "readsName", desc := "()V" } : Jvm.MethodName) prog_14_method_21_code (3 : Nat) (Option.none : Option Jvm.ClassFile.FieldType)) ∈ gT := gT_in (List.mem_of_getElem? (i := 1889) (by decide +kernel)) (by decide +kernel)
theorem dX12_readsHead_80 : decode cX12_readsHead 80 = .ok (.aload_n 0, 1) := by decide +kernel
theorem dX12_readsHead_81 : decode cX12_readsHead 81 = .ok (.getfield 120, 3) := by decide +kernel
theorem dX12_readsHead_84 : decode cX12_readsHead 84 = .ok (.ifCond .ne 15, 3) := by decide +kernel
theorem dX12_readsHead_99 : decode cX12_readsHead 99 = .ok (.iconst 0, 1) := by decide +kernel
theorem dX12_readsHead_100 : decode cX12_readsHead 100 = .ok (.istore_n 1, 1) := by decide +kernel
theorem dX12_readsHead_101 : decode cX12_readsHead 101 = .ok (.goto (-29), 3) := by decide +kernel
theorem dX12_readsHead_87 : decode cX12_readsHead 87 = .ok (.aload_n 0, 1) := by decide +kernel
theorem dX12_readsHead_88 : decode cX12_readsHead 88 = .ok (.getfield 114, 3) := by decide +kernel
theorem dX12_readsHead_91 : decode cX12_readsHead 91 = .ok (.iconst 1, 1) := by decide +kernel
theorem dX12_readsHead_92 : decode cX12_readsHead 92 = .ok (.if_icmp .ne 7, 3) := by decide +kernel
theorem dX12_readsHead_95 : decode cX12_readsHead 95 = .ok (.iconst 1, 1) := by decide +kernel
theorem dX12_readsHead_96 : decode cX12_readsHead 96 = .ok (.goto 4, 3) := by decide +kernel
theorem dX12_readsHead_104 : decode cX12_readsHead 104 = .ok (.return_, 1) := by decide +kernel
theorem dX12_readsHead_49 : decode cX12_readsHead 49 = .ok (.aload_n 0, 1) := by decide +kernel
theorem dX12_readsHead_50 : decode cX12_readsHead 50 = .ok (.iconst 2, 1) := by decide +kernel
theorem dX12_readsHead_51 : decode cX12_readsHead 51 = .ok (.invokevirtual 169, 3) := by decide +kernel
theorem dX12_readsHead_54 : decode cX12_readsHead 54 = .ok (.pop, 1) := by decide +kernel
theorem dX12_readsHead_55 : decode cX12_readsHead 55 = .ok (.return_, 1) := by decide +kernel
theorem dX12_readsHead_33 : decode cX12_readsHead 33 = .ok (.aload_n 0, 1) := by decide +kernel
theorem dX12_readsHead_34 : decode cX12_readsHead 34 = .ok (.iconst 1, 1) := by decide +kernel
theorem dX12_readsHead_35 : decode cX12_readsHead 35 = .ok (.invokevirtual 169, 3) := by decide +kernel
theorem dX12_readsHead_38 : decode cX12_readsHead 38 = .ok (.pop, 1) := by decide +kernel
theorem dX12_readsHead_39 : decode cX12_readsHead 39 = .ok (.return_, 1) := by decide +kernel
theorem dX12_readsHead_24 : decode cX12_readsHead 24 = .ok (.return_, 1) := by decide +kernel
theorem dX12_readsExpr_0 : decode cX12_readsExpr 0 = .ok (.iconst 1, 1) := by decide +kernel
theorem dX12_readsExpr_1 : decode cX12_readsExpr 1 = .ok (.istore_n 3, 1) := by decide +kernel
theorem dX12_readsExpr_2 : decode cX12_readsExpr 2 = .ok (.iconst (-1), 1) := by decide +kernel
theorem dX12_readsExpr_3 : decode cX12_readsExpr 3 = .ok (.istore 4, 2) := by decide +kernel
theorem dX12_readsExpr_5 : decode cX12_readsExpr 5 = .ok (.iload_n 3, 1) := by decide +kernel
theorem dX12_readsExpr_6 : decode cX12_readsExpr 6 = .ok (.ifCond .eq 197, 3) := by decide +kernel
theorem dX12_readsExpr_9 : decode cX12_readsExpr 9 = .ok (.aload_n 0, 1) := by decide +kernel
theorem dX12_readsExpr_10 : decode cX12_readsExpr 10 = .ok (.iload_n 2, 1) := by decide +kernel
theorem dX12_readsExpr_11 : decode cX12_readsExpr 11 = .ok (.aload_n 0, 1) := by decide +kernel
theorem dX12_readsExpr_12 : decode cX12_readsExpr 12 = .ok (.getfield 15, 3) := by decide +kernel
theorem dX12_readsExpr_15 : decode cX12_readsExpr 15 = .ok (.sipush 198, 3) := by decide +kernel
theorem dX12_readsExpr_18 : decode cX12_readsExpr 18 = .ok (.iload_n 1, 1) := by decide +kernel
theorem dX12_readsExpr_19 : decode cX12_readsExpr 19 = .ok (.iadd, 1) := by decide +kernel
theorem dX12_readsExpr_20 : decode cX12_readsExpr 20 = .ok (.iaload, 1) := by decide +kernel
theorem dX12_readsExpr_21 : decode cX12_readsExpr 21 = .ok (.bipush 10, 2) := by decide +kernel
theorem dX12_readsExpr_23 : decode cX12_readsExpr 23 = .ok (.if_icmp .ne 7, 3) := by decide +kernel
theorem dX12_readsExpr_30 : decode cX12_readsExpr 30 = .ok (.iconst 0, 1) := by decide +kernel
theorem dX12_readsExpr_26 : decode cX12_readsExpr 26 = .ok (.iconst 1, 1) := by decide +kernel
theorem dX12_readsExpr_27 : decode cX12_readsExpr 27 = .ok (.goto 4, 3) := by decide +kernel
theorem dX12_readsExpr_31 : decode cX12_readsExpr 31 = .ok (.invokevirtual 196, 3) := by decide +kernel
theorem wm_1914 : (Jvm.Cond.methodLink "GrownKindsModel" (196 : Nat) ({ cls := "GrownKindsModel", name := "readsPart", desc := "(IZ)I" } : Jvm.MethodName)) ∈ gT := gT_in (List.mem_of_getElem? (i := 1914) (by decide +kernel)) (by decide +kernel)
theorem wm_1916 : (Jvm.Cond.instanceMethod ({ cls := "GrownKindsModel", name := "readsPart", desc := "(IZ)I" } : Jvm.MethodName)) ∈ gT := gT_in (List.mem_of_getElem? (i := 1916) (by decide +kernel)) (by decide +kernel)
theorem wm_101 : Cond.selects "GrownKindsModel" ⟨"GrownKindsModel", "readsPart", "(IZ)I"⟩ ⟨"GrownKindsModel", "readsPart", "(IZ)I"⟩ ∈ gT := gT_in (List.mem_of_getElem? (i := 101) (by decide +kernel)) (by decide +kernel)
theorem wm_1917 : (Jvm.Cond.code ({ cls := "GrownKindsModel", name := "readsPart", desc := "(IZ)I" } : Jvm.MethodName) prog_14_method_24_code (8 : Nat) (Option.some Jvm.ClassFile.FieldType.int)) ∈ gT := gT_in (List.mem_of_getElem? (i := 1917) (by decide +kernel)) (by decide +kernel)
theorem dX12_readsExpr_34 : decode cX12_readsExpr 34 = .ok (.istore 5, 2) := by decide +kernel
theorem dX12_readsExpr_36 : decode cX12_readsExpr 36 = .ok (.aload_n 0, 1) := by decide +kernel
theorem dX12_readsExpr_37 : decode cX12_readsExpr 37 = .ok (.getfield 120, 3) := by decide +kernel
theorem dX12_readsExpr_40 : decode cX12_readsExpr 40 = .ok (.ifCond .eq 4, 3) := by decide +kernel
theorem dX12_readsExpr_44 : decode cX12_readsExpr 44 = .ok (.aload_n 0, 1) := by decide +kernel
theorem dX12_readsExpr_45 : decode cX12_readsExpr 45 = .ok (.getfield 15, 3) := by decide +kernel
theorem dX12_readsExpr_48 : decode cX12_readsExpr 48 = .ok (.iconst 5, 1) := by decide +kernel
theorem dX12_readsExpr_49 : decode cX12_readsExpr 49 = .ok (.iaload, 1) := by decide +kernel
theorem dX12_readsExpr_50 : decode cX12_readsExpr 50 = .ok (.istore 6, 2) := by decide +kernel
theorem dX12_readsExpr_52 : decode cX12_readsExpr 52 = .ok (.aload_n 0, 1) := by decide +kernel
theorem dX12_readsExpr_53 : decode cX12_readsExpr 53 = .ok (.getfield 15, 3) := by decide +kernel
theorem dX12_readsExpr_56 : decode cX12_readsExpr 56 = .ok (.iconst 5, 1) := by decide +kernel
theorem dX12_readsExpr_57 : decode cX12_readsExpr 57 = .ok (.dup2, 1) := by decide +kernel
theorem dX12_readsExpr_58 : decode cX12_readsExpr 58 = .ok (.iaload, 1) := by decide +kernel
theorem dX12_readsExpr_59 : decode cX12_readsExpr 59 = .ok (.iconst 1, 1) := by decide +kernel
theorem dX12_readsExpr_60 : decode cX12_readsExpr 60 = .ok (.iadd, 1) := by decide +kernel
theorem dX12_readsExpr_61 : decode cX12_readsExpr 61 = .ok (.iastore, 1) := by decide +kernel
theorem dX12_readsExpr_62 : decode cX12_readsExpr 62 = .ok (.aload_n 0, 1) := by decide +kernel
theorem dX12_readsExpr_63 : decode cX12_readsExpr 63 = .ok (.getfield 15, 3) := by decide +kernel
theorem dX12_readsExpr_66 : decode cX12_readsExpr 66 = .ok (.bipush 120, 2) := by decide +kernel
theorem dX12_readsExpr_68 : decode cX12_readsExpr 68 = .ok (.iload 6, 2) := by decide +kernel
theorem dX12_readsExpr_70 : decode cX12_readsExpr 70 = .ok (.iadd, 1) := by decide +kernel
theorem dX12_readsExpr_71 : decode cX12_readsExpr 71 = .ok (.iload 5, 2) := by decide +kernel
theorem dX12_readsExpr_73 : decode cX12_readsExpr 73 = .ok (.iastore, 1) := by decide +kernel
theorem dX12_readsExpr_74 : decode cX12_readsExpr 74 = .ok (.aload_n 0, 1) := by decide +kernel
theorem dX12_readsExpr_75 : decode cX12_readsExpr 75 = .ok (.getfield 15, 3) := by decide +kernel
theorem dX12_readsExpr_78 : decode cX12_readsExpr 78 = .ok (.iload 4, 2) := by decide +kernel
theorem dX12_readsExpr_80 : decode cX12_readsExpr 80 = .ok (.ifCond .ge 11, 3) := by decide +kernel
theorem dX12_readsExpr_91 : decode cX12_readsExpr 91 = .ok (.sipush 144, 3) := by decide +kernel
theorem dX12_readsExpr_94 : decode cX12_readsExpr 94 = .ok (.iload 4, 2) := by decide +kernel
theorem dX12_readsExpr_96 : decode cX12_readsExpr 96 = .ok (.iadd, 1) := by decide +kernel
theorem dX12_readsExpr_83 : decode cX12_readsExpr 83 = .ok (.sipush 168, 3) := by decide +kernel
theorem dX12_readsExpr_86 : decode cX12_readsExpr 86 = .ok (.iload_n 1, 1) := by decide +kernel
theorem dX12_readsExpr_87 : decode cX12_readsExpr 87 = .ok (.iadd, 1) := by decide +kernel
theorem dX12_readsExpr_88 : decode cX12_readsExpr 88 = .ok (.goto 9, 3) := by decide +kernel
theorem dX12_readsExpr_97 : decode cX12_readsExpr 97 = .ok (.iload 6, 2) := by decide +kernel
theorem dX12_readsExpr_99 : decode cX12_readsExpr 99 = .ok (.iastore, 1) := by decide +kernel
theorem dX12_readsExpr_100 : decode cX12_readsExpr 100 = .ok (.aload_n 0, 1) := by decide +kernel
theorem dX12_readsExpr_101 : decode cX12_readsExpr 101 = .ok (.getfield 15, 3) := by decide +kernel
theorem dX12_readsExpr_104 : decode cX12_readsExpr 104 = .ok (.sipush 198, 3) := by decide +kernel
theorem dX12_readsExpr_107 : decode cX12_readsExpr 107 = .ok (.iload_n 1, 1) := by decide +kernel
theorem dX12_readsExpr_108 : decode cX12_readsExpr 108 = .ok (.iadd, 1) := by decide +kernel
theorem dX12_readsExpr_109 : decode cX12_readsExpr 109 = .ok (.dup2, 1) := by decide +kernel
theorem dX12_readsExpr_110 : decode cX12_readsExpr 110 = .ok (.iaload, 1) := by decide +kernel
theorem dX12_readsExpr_111 : decode cX12_readsExpr 111 = .ok (.iconst 1, 1) := by decide +kernel
theorem dX12_readsExpr_112 : decode cX12_readsExpr 112 = .ok (.iadd, 1) := by decide +kernel
theorem dX12_readsExpr_113 : decode cX12_readsExpr 113 = .ok (.iastore, 1) := by decide +kernel
theorem dX12_readsExpr_114 : decode cX12_readsExpr 114 = .ok (.iload 6, 2) := by decide +kernel
theorem dX12_readsExpr_116 : decode cX12_readsExpr 116 = .ok (.istore 4, 2) := by decide +kernel
theorem dX12_readsExpr_118 : decode cX12_readsExpr 118 = .ok (.aload_n 0, 1) := by decide +kernel
theorem dX12_readsExpr_119 : decode cX12_readsExpr 119 = .ok (.getfield 120, 3) := by decide +kernel
theorem dX12_readsExpr_122 : decode cX12_readsExpr 122 = .ok (.ifCond .ne 49, 3) := by decide +kernel
theorem dX12_readsExpr_125 : decode cX12_readsExpr 125 = .ok (.aload_n 0, 1) := by decide +kernel
theorem dX12_readsExpr_126 : decode cX12_readsExpr 126 = .ok (.iconst 5, 1) := by decide +kernel
theorem dX12_readsExpr_127 : decode cX12_readsExpr 127 = .ok (.invokevirtual 161, 3) := by decide +kernel
theorem dX12_readsExpr_130 : decode cX12_readsExpr 130 = .ok (.ifCond .eq 41, 3) := by decide +kernel
theorem dX12_readsExpr_133 : decode cX12_readsExpr 133 = .ok (.aload_n 0, 1) := by decide +kernel
theorem dX12_readsExpr_134 : decode cX12_readsExpr 134 = .ok (.invokevirtual 173, 3) := by decide +kernel
theorem dX12_readsExpr_137 : decode cX12_readsExpr 137 = .ok (.aload_n 0, 1) := by decide +kernel
theorem dX12_readsExpr_138 : decode cX12_readsExpr 138 = .ok (.iload_n 2, 1) := by decide +kernel
theorem dX12_readsExpr_139 : decode cX12_readsExpr 139 = .ok (.iconst 0, 1) := by decide +kernel
theorem dX12_readsExpr_140 : decode cX12_readsExpr 140 = .ok (.invokevirtual 196, 3) := by decide +kernel
theorem dX12_readsExpr_143 : decode cX12_readsExpr 143 = .ok (.istore 7, 2) := by decide +kernel
theorem dX12_readsExpr_145 : decode cX12_readsExpr 145 = .ok (.aload_n 0, 1) := by decide +kernel
theorem dX12_readsExpr_146 : decode cX12_readsExpr 146 = .ok (.getfield 120, 3) := by decide +kernel
theorem dX12_readsExpr_149 : decode cX12_readsExpr 149 = .ok (.ifCond .ne 19, 3) := by decide +kernel
theorem dX12_readsExpr_168 : decode cX12_readsExpr 168 = .ok (.goto (-50), 3) := by decide +kernel
theorem dX12_readsExpr_152 : decode cX12_readsExpr 152 = .ok (.aload_n 0, 1) := by decide +kernel
theorem dX12_readsExpr_153 : decode cX12_readsExpr 153 = .ok (.getfield 15, 3) := by decide +kernel
theorem dX12_readsExpr_156 : decode cX12_readsExpr 156 = .ok (.bipush 96, 2) := by decide +kernel
theorem dX12_readsExpr_158 : decode cX12_readsExpr 158 = .ok (.iload 5, 2) := by decide +kernel
theorem dX12_readsExpr_160 : decode cX12_readsExpr 160 = .ok (.iadd, 1) := by decide +kernel
theorem dX12_readsExpr_161 : decode cX12_readsExpr 161 = .ok (.iload 7, 2) := by decide +kernel
theorem dX12_readsExpr_163 : decode cX12_readsExpr 163 = .ok (.iastore, 1) := by decide +kernel
theorem dX12_readsExpr_164 : decode cX12_readsExpr 164 = .ok (.iload 7, 2) := by decide +kernel
theorem dX12_readsExpr_166 : decode cX12_readsExpr 166 = .ok (.istore 5, 2) := by decide +kernel
theorem dX12_readsExpr_171 : decode cX12_readsExpr 171 = .ok (.aload_n 0, 1) := by decide +kernel
theorem dX12_readsExpr_172 : decode cX12_readsExpr 172 = .ok (.getfield 120, 3) := by decide +kernel
theorem dX12_readsExpr_175 : decode cX12_readsExpr 175 = .ok (.ifCond .ne 15, 3) := by decide +kernel
theorem dX12_readsExpr_190 : decode cX12_readsExpr 190 = .ok (.iconst 0, 1) := by decide +kernel
theorem dX12_readsExpr_191 : decode cX12_readsExpr 191 = .ok (.istore_n 3, 1) := by decide +kernel
theorem dX12_readsExpr_192 : decode cX12_readsExpr 192 = .ok (.iload_n 3, 1) := by decide +kernel
theorem dX12_readsExpr_193 : decode cX12_readsExpr 193 = .ok (.ifCond .eq 7, 3) := by decide +kernel
theorem dX12_readsExpr_200 : decode cX12_readsExpr 200 = .ok (.goto (-195), 3) := by decide +kernel
theorem dX12_readsExpr_178 : decode cX12_readsExpr 178 = .ok (.aload_n 0, 1) := by decide +kernel
theorem dX12_readsExpr_179 : decode cX12_readsExpr 179 = .ok (.iconst 4, 1) := by decide +kernel
theorem dX12_readsExpr_180 : decode cX12_readsExpr 180 = .ok (.invokevirtual 161, 3) := by decide +kernel
theorem dX12_readsExpr_183 : decode cX12_readsExpr 183 = .ok (.ifCond .eq 7, 3) := by decide +kernel
theorem dX12_readsExpr_186 : decode cX12_readsExpr 186 = .ok (.iconst 1, 1) := by decide +kernel
theorem dX12_readsExpr_187 : decode cX12_readsExpr 187 = .ok (.goto 4, 3) := by decide +kernel
theorem dX12_readsExpr_196 : decode cX12_readsExpr 196 = .ok (.aload_n 0, 1) := by decide +kernel
theorem dX12_readsExpr_197 : decode cX12_readsExpr 197 = .ok (.invokevirtual 173, 3) := by decide +kernel
theorem dX12_readsExpr_43 : decode cX12_readsExpr 43 = .ok (.return_, 1) := by decide +kernel
theorem dX12_readsExpr_203 : decode cX12_readsExpr 203 = .ok (.return_, 1) := by decide +kernel
theorem dX12_readsIn_0 : decode cX12_readsIn 0 = .ok (.aload_n 0, 1) := by decide +kernel
theorem dX12_readsIn_1 : decode cX12_readsIn 1 = .ok (.getfield 15, 3) := by decide +kernel
theorem dX12_readsIn_4 : decode cX12_readsIn 4 = .ok (.bipush 24, 2) := by decide +kernel
theorem dX12_readsIn_6 : decode cX12_readsIn 6 = .ok (.iload_n 1, 1) := by decide +kernel
theorem dX12_readsIn_7 : decode cX12_readsIn 7 = .ok (.iadd, 1) := by decide +kernel
theorem dX12_readsIn_8 : decode cX12_readsIn 8 = .ok (.iload_n 2, 1) := by decide +kernel
theorem dX12_readsIn_9 : decode cX12_readsIn 9 = .ok (.iastore, 1) := by decide +kernel
theorem dX12_readsIn_10 : decode cX12_readsIn 10 = .ok (.aload_n 0, 1) := by decide +kernel
theorem dX12_readsIn_11 : decode cX12_readsIn 11 = .ok (.getfield 114, 3) := by decide +kernel
theorem dX12_readsIn_14 : decode cX12_readsIn 14 = .ok (.iconst 2, 1) := by decide +kernel
theorem dX12_readsIn_15 : decode cX12_readsIn 15 = .ok (.if_icmp .ne 42, 3) := by decide +kernel
theorem dX12_readsIn_18 : decode cX12_readsIn 18 = .ok (.aload_n 0, 1) := by decide +kernel
theorem dX12_readsIn_19 : decode cX12_readsIn 19 = .ok (.getfield 111, 3) := by decide +kernel
theorem dX12_readsIn_22 : decode cX12_readsIn 22 = .ok (.i2l, 1) := by decide +kernel
theorem dX12_readsIn_23 : decode cX12_readsIn 23 = .ok (.lconst 1, 1) := by decide +kernel
theorem dX12_readsIn_24 : decode cX12_readsIn 24 = .ok (.ldc2_w 211, 3) := by decide +kernel
theorem dX12_readsIn_27 : decode cX12_readsIn 27 = .ok (.invokestatic 97, 3) := by decide +kernel
theorem dX12_readsIn_30 : decode cX12_readsIn 30 = .ok (.ifCond .ne 10, 3) := by decide +kernel
theorem dX12_readsIn_40 : decode cX12_readsIn 40 = .ok (.aload_n 0, 1) := by decide +kernel
theorem dX12_readsIn_41 : decode cX12_readsIn 41 = .ok (.getfield 15, 3) := by decide +kernel
theorem dX12_readsIn_44 : decode cX12_readsIn 44 = .ok (.bipush 48, 2) := by decide +kernel
theorem dX12_readsIn_46 : decode cX12_readsIn 46 = .ok (.iload_n 1, 1) := by decide +kernel
theorem dX12_readsIn_47 : decode cX12_readsIn 47 = .ok (.iadd, 1) := by decide +kernel
theorem dX12_readsIn_48 : decode cX12_readsIn 48 = .ok (.aload_n 0, 1) := by decide +kernel
theorem dX12_readsIn_49 : decode cX12_readsIn 49 = .ok (.getfield 111, 3) := by decide +kernel
theorem dX12_readsIn_52 : decode cX12_readsIn 52 = .ok (.iastore, 1) := by decide +kernel
theorem dX12_readsIn_53 : decode cX12_readsIn 53 = .ok (.aload_n 0, 1) := by decide +kernel
theorem dX12_readsIn_54 : decode cX12_readsIn 54 = .ok (.invokevirtual 173, 3) := by decide +kernel
theorem dX12_readsIn_33 : decode cX12_readsIn 33 = .ok (.aload_n 0, 1) := by decide +kernel
theorem dX12_readsIn_34 : decode cX12_readsIn 34 = .ok (.iconst 2, 1) := by decide +kernel
theorem dX12_readsIn_35 : decode cX12_readsIn 35 = .ok (.invokevirtual 169, 3) := by decide +kernel
theorem dX12_readsIn_38 : decode cX12_readsIn 38 = .ok (.pop, 1) := by decide +kernel
theorem dX12_readsIn_39 : decode cX12_readsIn 39 = .ok (.return_, 1) := by decide +kernel
theorem dX12_readsIn_57 : decode cX12_readsIn 57 = .ok (.aload_n 0, 1) := by decide +kernel
theorem dX12_readsIn_58 : decode cX12_readsIn 58 = .ok (.getfield 15, 3) := by decide +kernel
theorem dX12_readsIn_61 : decode cX12_readsIn 61 = .ok (.bipush 72, 2) := by decide +kernel
theorem dX12_readsIn_63 : decode cX12_readsIn 63 = .ok (.iload_n 1, 1) := by decide +kernel
theorem dX12_readsIn_64 : decode cX12_readsIn 64 = .ok (.iadd, 1) := by decide +kernel
theorem dX12_readsIn_65 : decode cX12_readsIn 65 = .ok (.aload_n 0, 1) := by decide +kernel
theorem dX12_readsIn_66 : decode cX12_readsIn 66 = .ok (.iload_n 3, 1) := by decide +kernel
theorem dX12_readsIn_67 : decode cX12_readsIn 67 = .ok (.iconst 1, 1) := by decide +kernel
theorem dX12_readsIn_68 : decode cX12_readsIn 68 = .ok (.iadd, 1) := by decide +kernel
theorem dX12_readsIn_69 : decode cX12_readsIn 69 = .ok (.iconst 0, 1) := by decide +kernel
theorem dX12_readsIn_70 : decode cX12_readsIn 70 = .ok (.invokevirtual 196, 3) := by decide +kernel
theorem dX12_readsIn_73 : decode cX12_readsIn 73 = .ok (.iastore, 1) := by decide +kernel
theorem dX12_readsIn_74 : decode cX12_readsIn 74 = .ok (.return_, 1) := by decide +kernel
theorem dX12_readsPart_0 : decode cX12_readsPart 0 = .ok (.aload_n 0, 1) := by decide +kernel
theorem dX12_readsPart_1 : decode cX12_readsPart 1 = .ok (.getfield 114, 3) := by decide +kernel
theorem dX12_readsPart_4 : decode cX12_readsPart 4 = .ok (.iconst 1, 1) := by decide +kernel
theorem dX12_readsPart_5 : decode cX12_readsPart 5 = .ok (.if_icmp .ne 10, 3) := by decide +kernel
theorem dX12_readsPart_15 : decode cX12_readsPart 15 = .ok (.iconst (-1), 1) := by decide +kernel
theorem dX12_readsPart_8 : decode cX12_readsPart 8 = .ok (.aload_n 0, 1) := by decide +kernel
theorem dX12_readsPart_9 : decode cX12_readsPart 9 = .ok (.invokevirtual 183, 3) := by decide +kernel
theorem dX12_readsPart_12 : decode cX12_readsPart 12 = .ok (.goto 4, 3) := by decide +kernel
theorem dX12_readsPart_16 : decode cX12_readsPart 16 = .ok (.istore_n 3, 1) := by decide +kernel
theorem dX12_readsPart_17 : decode cX12_readsPart 17 = .ok (.aload_n 0, 1) := by decide +kernel
theorem dX12_readsPart_18 : decode cX12_readsPart 18 = .ok (.getfield 114, 3) := by decide +kernel
theorem dX12_readsPart_21 : decode cX12_readsPart 21 = .ok (.iconst 1, 1) := by decide +kernel
theorem dX12_readsPart_22 : decode cX12_readsPart 22 = .ok (.if_icmp .ne 14, 3) := by decide +kernel
theorem dX12_readsPart_36 : decode cX12_readsPart 36 = .ok (.iconst (-1), 1) := by decide +kernel
theorem dX12_readsPart_25 : decode cX12_readsPart 25 = .ok (.iload_n 3, 1) := by decide +kernel
theorem dX12_readsPart_26 : decode cX12_readsPart 26 = .ok (.ifCond .ge 10, 3) := by decide +kernel
theorem dX12_readsPart_29 : decode cX12_readsPart 29 = .ok (.aload_n 0, 1) := by decide +kernel
theorem dX12_readsPart_30 : decode cX12_readsPart 30 = .ok (.invokevirtual 186, 3) := by decide +kernel
theorem dX12_readsPart_33 : decode cX12_readsPart 33 = .ok (.goto 4, 3) := by decide +kernel
theorem dX12_readsPart_37 : decode cX12_readsPart 37 = .ok (.istore 4, 2) := by decide +kernel
theorem dX12_readsPart_39 : decode cX12_readsPart 39 = .ok (.aload_n 0, 1) := by decide +kernel
theorem dX12_readsPart_40 : decode cX12_readsPart 40 = .ok (.bipush 40, 2) := by decide +kernel
theorem dX12_readsPart_42 : decode cX12_readsPart 42 = .ok (.invokevirtual 165, 3) := by decide +kernel
theorem dX12_readsPart_45 : decode cX12_readsPart 45 = .ok (.istore 5, 2) := by decide +kernel
theorem dX12_readsPart_47 : decode cX12_readsPart 47 = .ok (.iload 5, 2) := by decide +kernel
theorem dX12_readsPart_49 : decode cX12_readsPart 49 = .ok (.ifCond .ne 8, 3) := by decide +kernel
theorem dX12_readsPart_57 : decode cX12_readsPart 57 = .ok (.iconst 1, 1) := by decide +kernel
theorem dX12_readsPart_58 : decode cX12_readsPart 58 = .ok (.goto 4, 3) := by decide +kernel
theorem dX12_readsPart_52 : decode cX12_readsPart 52 = .ok (.iload_n 3, 1) := by decide +kernel
theorem dX12_readsPart_53 : decode cX12_readsPart 53 = .ok (.iconst 5, 1) := by decide +kernel
theorem dX12_readsPart_54 : decode cX12_readsPart 54 = .ok (.if_icmp .le 7, 3) := by decide +kernel
theorem dX12_readsPart_61 : decode cX12_readsPart 61 = .ok (.iconst 0, 1) := by decide +kernel
theorem dX12_readsPart_62 : decode cX12_readsPart 62 = .ok (.istore 6, 2) := by decide +kernel
theorem dX12_readsPart_64 : decode cX12_readsPart 64 = .ok (.aload_n 0, 1) := by decide +kernel
theorem dX12_readsPart_65 : decode cX12_readsPart 65 = .ok (.getfield 114, 3) := by decide +kernel
theorem dX12_readsPart_68 : decode cX12_readsPart 68 = .ok (.iconst 1, 1) := by decide +kernel
theorem dX12_readsPart_69 : decode cX12_readsPart 69 = .ok (.if_icmp .eq 8, 3) := by decide +kernel
theorem dX12_readsPart_77 : decode cX12_readsPart 77 = .ok (.iload_n 3, 1) := by decide +kernel
theorem dX12_readsPart_78 : decode cX12_readsPart 78 = .ok (.i2l, 1) := by decide +kernel
theorem dX12_readsPart_79 : decode cX12_readsPart 79 = .ok (.lconst 0, 1) := by decide +kernel
theorem dX12_readsPart_80 : decode cX12_readsPart 80 = .ok (.lconst 1, 1) := by decide +kernel
theorem dX12_readsPart_81 : decode cX12_readsPart 81 = .ok (.invokestatic 97, 3) := by decide +kernel
theorem dX12_readsPart_84 : decode cX12_readsPart 84 = .ok (.ifCond .ne 17, 3) := by decide +kernel
theorem dX12_readsPart_101 : decode cX12_readsPart 101 = .ok (.aload_n 0, 1) := by decide +kernel
theorem dX12_readsPart_102 : decode cX12_readsPart 102 = .ok (.iconst 1, 1) := by decide +kernel
theorem dX12_readsPart_103 : decode cX12_readsPart 103 = .ok (.invokevirtual 169, 3) := by decide +kernel
theorem dX12_readsPart_106 : decode cX12_readsPart 106 = .ok (.ireturn, 1) := by decide +kernel
theorem dX12_readsPart_87 : decode cX12_readsPart 87 = .ok (.iload_n 3, 1) := by decide +kernel
theorem dX12_readsPart_88 : decode cX12_readsPart 88 = .ok (.i2l, 1) := by decide +kernel
theorem dX12_readsPart_89 : decode cX12_readsPart 89 = .ok (.ldc2_w 200, 3) := by decide +kernel
theorem wm_1918 : (Jvm.Cond.constantLong "GrownKindsModel" (200 : Nat) (4 : Int64)) ∈ gT := gT_in (List.mem_of_getElem? (i := 1918) (by decide +kernel)) (by decide +kernel)
theorem dX12_readsPart_92 : decode cX12_readsPart 92 = .ok (.ldc2_w 202, 3) := by decide +kernel
theorem wm_1919 : (Jvm.Cond.constantLong "GrownKindsModel" (202 : Nat) (5 : Int64)) ∈ gT := gT_in (List.mem_of_getElem? (i := 1919) (by decide +kernel)) (by decide +kernel)
theorem dX12_readsPart_95 : decode cX12_readsPart 95 = .ok (.invokestatic 97, 3) := by decide +kernel
theorem dX12_readsPart_98 : decode cX12_readsPart 98 = .ok (.ifCond .eq 9, 3) := by decide +kernel
theorem dX12_readsPart_107 : decode cX12_readsPart 107 = .ok (.aload_n 0, 1) := by decide +kernel
theorem dX12_readsPart_108 : decode cX12_readsPart 108 = .ok (.getfield 114, 3) := by decide +kernel
theorem dX12_readsPart_111 : decode cX12_readsPart 111 = .ok (.iconst 1, 1) := by decide +kernel
theorem dX12_readsPart_112 : decode cX12_readsPart 112 = .ok (.if_icmp .ne 18, 3) := by decide +kernel
theorem dX12_readsPart_115 : decode cX12_readsPart 115 = .ok (.iload_n 3, 1) := by decide +kernel
theorem dX12_readsPart_116 : decode cX12_readsPart 116 = .ok (.ifCond .ge 14, 3) := by decide +kernel
theorem dX12_readsPart_119 : decode cX12_readsPart 119 = .ok (.iload 4, 2) := by decide +kernel
theorem dX12_readsPart_121 : decode cX12_readsPart 121 = .ok (.ifCond .ge 9, 3) := by decide +kernel
theorem dX12_readsPart_124 : decode cX12_readsPart 124 = .ok (.aload_n 0, 1) := by decide +kernel
theorem dX12_readsPart_125 : decode cX12_readsPart 125 = .ok (.iconst 2, 1) := by decide +kernel
theorem dX12_readsPart_126 : decode cX12_readsPart 126 = .ok (.invokevirtual 169, 3) := by decide +kernel
theorem dX12_readsPart_129 : decode cX12_readsPart 129 = .ok (.ireturn, 1) := by decide +kernel
theorem dX12_readsPart_130 : decode cX12_readsPart 130 = .ok (.iload_n 2, 1) := by decide +kernel
theorem dX12_readsPart_131 : decode cX12_readsPart 131 = .ok (.ifCond .ne 25, 3) := by decide +kernel
theorem dX12_readsPart_156 : decode cX12_readsPart 156 = .ok (.aload_n 0, 1) := by decide +kernel
theorem dX12_readsPart_157 : decode cX12_readsPart 157 = .ok (.iconst 3, 1) := by decide +kernel
theorem dX12_readsPart_158 : decode cX12_readsPart 158 = .ok (.invokevirtual 169, 3) := by decide +kernel
theorem dX12_readsPart_161 : decode cX12_readsPart 161 = .ok (.ireturn, 1) := by decide +kernel
theorem dX12_readsPart_134 : decode cX12_readsPart 134 = .ok (.aload_n 0, 1) := by decide +kernel
theorem dX12_readsPart_135 : decode cX12_readsPart 135 = .ok (.getfield 15, 3) := by decide +kernel
theorem dX12_readsPart_138 : decode cX12_readsPart 138 = .ok (.iconst 2, 1) := by decide +kernel
theorem dX12_readsPart_139 : decode cX12_readsPart 139 = .ok (.iaload, 1) := by decide +kernel
theorem dX12_readsPart_140 : decode cX12_readsPart 140 = .ok (.bipush 24, 2) := by decide +kernel
theorem dX12_readsPart_142 : decode cX12_readsPart 142 = .ok (.if_icmp .eq 14, 3) := by decide +kernel
theorem dX12_readsPart_145 : decode cX12_readsPart 145 = .ok (.iload 6, 2) := by decide +kernel
theorem dX12_readsPart_147 : decode cX12_readsPart 147 = .ok (.ifCond .eq 15, 3) := by decide +kernel
theorem dX12_readsPart_150 : decode cX12_readsPart 150 = .ok (.iload_n 1, 1) := by decide +kernel
theorem dX12_readsPart_151 : decode cX12_readsPart 151 = .ok (.bipush 6, 2) := by decide +kernel
theorem dX12_readsPart_153 : decode cX12_readsPart 153 = .ok (.if_icmp .ne 9, 3) := by decide +kernel
theorem dX12_readsPart_162 : decode cX12_readsPart 162 = .ok (.aload_n 0, 1) := by decide +kernel
theorem dX12_readsPart_163 : decode cX12_readsPart 163 = .ok (.getfield 15, 3) := by decide +kernel
theorem dX12_readsPart_166 : decode cX12_readsPart 166 = .ok (.iconst 2, 1) := by decide +kernel
theorem dX12_readsPart_167 : decode cX12_readsPart 167 = .ok (.iaload, 1) := by decide +kernel
theorem dX12_readsPart_168 : decode cX12_readsPart 168 = .ok (.istore 7, 2) := by decide +kernel
theorem dX12_readsPart_170 : decode cX12_readsPart 170 = .ok (.aload_n 0, 1) := by decide +kernel
theorem dX12_readsPart_171 : decode cX12_readsPart 171 = .ok (.getfield 15, 3) := by decide +kernel
theorem dX12_readsPart_174 : decode cX12_readsPart 174 = .ok (.iconst 2, 1) := by decide +kernel
theorem dX12_readsPart_175 : decode cX12_readsPart 175 = .ok (.dup2, 1) := by decide +kernel
theorem dX12_readsPart_176 : decode cX12_readsPart 176 = .ok (.iaload, 1) := by decide +kernel
theorem dX12_readsPart_177 : decode cX12_readsPart 177 = .ok (.iconst 1, 1) := by decide +kernel
theorem dX12_readsPart_178 : decode cX12_readsPart 178 = .ok (.iadd, 1) := by decide +kernel
theorem dX12_readsPart_179 : decode cX12_readsPart 179 = .ok (.iastore, 1) := by decide +kernel
theorem dX12_readsPart_180 : decode cX12_readsPart 180 = .ok (.aload_n 0, 1) := by decide +kernel
theorem dX12_readsPart_181 : decode cX12_readsPart 181 = .ok (.invokevirtual 173, 3) := by decide +kernel
theorem dX12_readsPart_184 : decode cX12_readsPart 184 = .ok (.iload 5, 2) := by decide +kernel
theorem dX12_readsPart_186 : decode cX12_readsPart 186 = .ok (.ifCond .eq 58, 3) := by decide +kernel
theorem dX12_readsPart_244 : decode cX12_readsPart 244 = .ok (.iload_n 3, 1) := by decide +kernel
theorem dX12_readsPart_245 : decode cX12_readsPart 245 = .ok (.ifCond .ge 29, 3) := by decide +kernel
theorem dX12_readsPart_274 : decode cX12_readsPart 274 = .ok (.iload_n 3, 1) := by decide +kernel
theorem dX12_readsPart_275 : decode cX12_readsPart 275 = .ok (.iconst 3, 1) := by decide +kernel
theorem dX12_readsPart_276 : decode cX12_readsPart 276 = .ok (.if_icmp .ne 17, 3) := by decide +kernel
theorem dX12_readsPart_293 : decode cX12_readsPart 293 = .ok (.iload_n 3, 1) := by decide +kernel
theorem dX12_readsPart_294 : decode cX12_readsPart 294 = .ok (.iconst 2, 1) := by decide +kernel
theorem dX12_readsPart_295 : decode cX12_readsPart 295 = .ok (.if_icmp .ne 12, 3) := by decide +kernel
theorem dX12_readsPart_307 : decode cX12_readsPart 307 = .ok (.aload_n 0, 1) := by decide +kernel
theorem dX12_readsPart_308 : decode cX12_readsPart 308 = .ok (.iload 7, 2) := by decide +kernel
theorem dX12_readsPart_310 : decode cX12_readsPart 310 = .ok (.iload_n 3, 1) := by decide +kernel
theorem dX12_readsPart_311 : decode cX12_readsPart 311 = .ok (.iconst 3, 1) := by decide +kernel
theorem dX12_readsPart_312 : decode cX12_readsPart 312 = .ok (.isub, 1) := by decide +kernel
theorem dX12_readsPart_313 : decode cX12_readsPart 313 = .ok (.iload_n 1, 1) := by decide +kernel
theorem dX12_readsPart_314 : decode cX12_readsPart 314 = .ok (.invokevirtual 207, 3) := by decide +kernel
theorem wm_1924 : (Jvm.Cond.methodLink "GrownKindsModel" (207 : Nat) ({ cls := "GrownKindsModel", name := "readsIn", desc := "(III)V" } : Jvm.MethodName)) ∈ gT := gT_in (List.mem_of_getElem? (i := 1924) (by decide +kernel)) (by decide +kernel)
theorem wm_1926 : (Jvm.Cond.instanceMethod ({ cls := "GrownKindsModel", name := "readsIn", desc := "(III)V" } : Jvm.MethodName)) ∈ gT := gT_in (List.mem_of_getElem? (i := 1926) (by decide +kernel)) (by decide +kernel)
theorem wm_103 : Cond.selects "GrownKindsModel" ⟨"GrownKindsModel", "readsIn", "(III)V"⟩ ⟨"GrownKindsModel", "readsIn", "(III)V"⟩ ∈ gT := gT_in (List.mem_of_getElem? (i := 103) (by decide +kernel)) (by decide +kernel)
theorem wm_1927 : (Jvm.Cond.code ({ cls := "GrownKindsModel", name := "readsIn", desc := "(III)V" } : Jvm.MethodName) prog_14_method_26_code (4 : Nat) (Option.none : Option Jvm.ClassFile.FieldType)) ∈ gT := gT_in (List.mem_of_getElem? (i := 1927) (by decide +kernel)) (by decide +kernel)
theorem dX12_readsPart_298 : decode cX12_readsPart 298 = .ok (.aload_n 0, 1) := by decide +kernel
theorem dX12_readsPart_299 : decode cX12_readsPart 299 = .ok (.iload 7, 2) := by decide +kernel
theorem dX12_readsPart_301 : decode cX12_readsPart 301 = .ok (.invokevirtual 204, 3) := by decide +kernel
theorem wm_1920 : (Jvm.Cond.methodLink "GrownKindsModel" (204 : Nat) ({ cls := "GrownKindsModel", name := "readsAtom", desc := "(I)V" } : Jvm.MethodName)) ∈ gT := gT_in (List.mem_of_getElem? (i := 1920) (by decide +kernel)) (by decide +kernel)
theorem wm_1922 : (Jvm.Cond.instanceMethod ({ cls := "GrownKindsModel", name := "readsAtom", desc := "(I)V" } : Jvm.MethodName)) ∈ gT := gT_in (List.mem_of_getElem? (i := 1922) (by decide +kernel)) (by decide +kernel)
theorem wm_102 : Cond.selects "GrownKindsModel" ⟨"GrownKindsModel", "readsAtom", "(I)V"⟩ ⟨"GrownKindsModel", "readsAtom", "(I)V"⟩ ∈ gT := gT_in (List.mem_of_getElem? (i := 102) (by decide +kernel)) (by decide +kernel)
theorem wm_1923 : (Jvm.Cond.code ({ cls := "GrownKindsModel", name := "readsAtom", desc := "(I)V" } : Jvm.MethodName) prog_14_method_25_code (2 : Nat) (Option.none : Option Jvm.ClassFile.FieldType)) ∈ gT := gT_in (List.mem_of_getElem? (i := 1923) (by decide +kernel)) (by decide +kernel)
theorem dX12_readsPart_304 : decode cX12_readsPart 304 = .ok (.goto 13, 3) := by decide +kernel
theorem dX12_readsPart_279 : decode cX12_readsPart 279 = .ok (.aload_n 0, 1) := by decide +kernel
theorem dX12_readsPart_280 : decode cX12_readsPart 280 = .ok (.getfield 15, 3) := by decide +kernel
theorem dX12_readsPart_283 : decode cX12_readsPart 283 = .ok (.bipush 24, 2) := by decide +kernel
theorem dX12_readsPart_285 : decode cX12_readsPart 285 = .ok (.iload 7, 2) := by decide +kernel
theorem dX12_readsPart_287 : decode cX12_readsPart 287 = .ok (.iadd, 1) := by decide +kernel
theorem dX12_readsPart_288 : decode cX12_readsPart 288 = .ok (.iconst 1, 1) := by decide +kernel
theorem dX12_readsPart_289 : decode cX12_readsPart 289 = .ok (.iastore, 1) := by decide +kernel
theorem dX12_readsPart_290 : decode cX12_readsPart 290 = .ok (.goto 27, 3) := by decide +kernel
theorem dX12_readsPart_248 : decode cX12_readsPart 248 = .ok (.aload_n 0, 1) := by decide +kernel
theorem dX12_readsPart_249 : decode cX12_readsPart 249 = .ok (.getfield 15, 3) := by decide +kernel
theorem dX12_readsPart_252 : decode cX12_readsPart 252 = .ok (.bipush 24, 2) := by decide +kernel
theorem dX12_readsPart_254 : decode cX12_readsPart 254 = .ok (.iload 7, 2) := by decide +kernel
theorem dX12_readsPart_256 : decode cX12_readsPart 256 = .ok (.iadd, 1) := by decide +kernel
theorem dX12_readsPart_257 : decode cX12_readsPart 257 = .ok (.iconst 2, 1) := by decide +kernel
theorem dX12_readsPart_258 : decode cX12_readsPart 258 = .ok (.iastore, 1) := by decide +kernel
theorem dX12_readsPart_259 : decode cX12_readsPart 259 = .ok (.aload_n 0, 1) := by decide +kernel
theorem dX12_readsPart_260 : decode cX12_readsPart 260 = .ok (.getfield 15, 3) := by decide +kernel
theorem dX12_readsPart_263 : decode cX12_readsPart 263 = .ok (.bipush 48, 2) := by decide +kernel
theorem dX12_readsPart_265 : decode cX12_readsPart 265 = .ok (.iload 7, 2) := by decide +kernel
theorem dX12_readsPart_267 : decode cX12_readsPart 267 = .ok (.iadd, 1) := by decide +kernel
theorem dX12_readsPart_268 : decode cX12_readsPart 268 = .ok (.iload 4, 2) := by decide +kernel
theorem dX12_readsPart_270 : decode cX12_readsPart 270 = .ok (.iastore, 1) := by decide +kernel
theorem dX12_readsPart_271 : decode cX12_readsPart 271 = .ok (.goto 46, 3) := by decide +kernel
theorem dX12_readsPart_189 : decode cX12_readsPart 189 = .ok (.aload_n 0, 1) := by decide +kernel
theorem dX12_readsPart_190 : decode cX12_readsPart 190 = .ok (.getfield 15, 3) := by decide +kernel
theorem dX12_readsPart_193 : decode cX12_readsPart 193 = .ok (.bipush 24, 2) := by decide +kernel
theorem dX12_readsPart_195 : decode cX12_readsPart 195 = .ok (.iload 7, 2) := by decide +kernel
theorem dX12_readsPart_197 : decode cX12_readsPart 197 = .ok (.iadd, 1) := by decide +kernel
theorem dX12_readsPart_198 : decode cX12_readsPart 198 = .ok (.bipush 7, 2) := by decide +kernel
theorem dX12_readsPart_200 : decode cX12_readsPart 200 = .ok (.iastore, 1) := by decide +kernel
theorem dX12_readsPart_201 : decode cX12_readsPart 201 = .ok (.aload_n 0, 1) := by decide +kernel
theorem dX12_readsPart_202 : decode cX12_readsPart 202 = .ok (.getfield 15, 3) := by decide +kernel
theorem dX12_readsPart_205 : decode cX12_readsPart 205 = .ok (.bipush 48, 2) := by decide +kernel
theorem dX12_readsPart_207 : decode cX12_readsPart 207 = .ok (.iload 7, 2) := by decide +kernel
theorem dX12_readsPart_209 : decode cX12_readsPart 209 = .ok (.iadd, 1) := by decide +kernel
theorem dX12_readsPart_210 : decode cX12_readsPart 210 = .ok (.bipush 6, 2) := by decide +kernel
theorem dX12_readsPart_212 : decode cX12_readsPart 212 = .ok (.iload 7, 2) := by decide +kernel
theorem dX12_readsPart_214 : decode cX12_readsPart 214 = .ok (.iadd, 1) := by decide +kernel
theorem dX12_readsPart_215 : decode cX12_readsPart 215 = .ok (.iastore, 1) := by decide +kernel
theorem dX12_readsPart_216 : decode cX12_readsPart 216 = .ok (.aload_n 0, 1) := by decide +kernel
theorem dX12_readsPart_217 : decode cX12_readsPart 217 = .ok (.bipush 6, 2) := by decide +kernel
theorem dX12_readsPart_219 : decode cX12_readsPart 219 = .ok (.iload 7, 2) := by decide +kernel
theorem dX12_readsPart_221 : decode cX12_readsPart 221 = .ok (.iadd, 1) := by decide +kernel
theorem dX12_readsPart_222 : decode cX12_readsPart 222 = .ok (.iload_n 1, 1) := by decide +kernel
theorem dX12_readsPart_223 : decode cX12_readsPart 223 = .ok (.iconst 1, 1) := by decide +kernel
theorem dX12_readsPart_224 : decode cX12_readsPart 224 = .ok (.iadd, 1) := by decide +kernel
theorem dX12_readsPart_225 : decode cX12_readsPart 225 = .ok (.invokevirtual 192, 3) := by decide +kernel
theorem wm_1910 : (Jvm.Cond.methodLink "GrownKindsModel" (192 : Nat) ({ cls := "GrownKindsModel", name := "readsExpr", desc := "(II)V" } : Jvm.MethodName)) ∈ gT := gT_in (List.mem_of_getElem? (i := 1910) (by decide +kernel)) (by decide +kernel)
theorem wm_1912 : (Jvm.Cond.instanceMethod ({ cls := "GrownKindsModel", name := "readsExpr", desc := "(II)V" } : Jvm.MethodName)) ∈ gT := gT_in (List.mem_of_getElem? (i := 1912) (by decide +kernel)) (by decide +kernel)
theorem wm_100 : Cond.selects "GrownKindsModel" ⟨"GrownKindsModel", "readsExpr", "(II)V"⟩ ⟨"GrownKindsModel", "readsExpr", "(II)V"⟩ ∈ gT := gT_in (List.mem_of_getElem? (i := 100) (by decide +kernel)) (by decide +kernel)
theorem wm_1913 : (Jvm.Cond.code ({ cls := "GrownKindsModel", name := "readsExpr", desc := "(II)V" } : Jvm.MethodName) prog_14_method_23_code (8 : Nat) (Option.none : Option Jvm.ClassFile.FieldType)) ∈ gT := gT_in (List.mem_of_getElem? (i := 1913) (by decide +kernel)) (by decide +kernel)
theorem dX12_readsPart_228 : decode cX12_readsPart 228 = .ok (.aload_n 0, 1) := by decide +kernel
theorem dX12_readsPart_229 : decode cX12_readsPart 229 = .ok (.getfield 120, 3) := by decide +kernel
theorem dX12_readsPart_232 : decode cX12_readsPart 232 = .ok (.ifCond .ne 85, 3) := by decide +kernel
theorem dX12_readsPart_235 : decode cX12_readsPart 235 = .ok (.aload_n 0, 1) := by decide +kernel
theorem dX12_readsPart_236 : decode cX12_readsPart 236 = .ok (.bipush 41, 2) := by decide +kernel
theorem dX12_readsPart_238 : decode cX12_readsPart 238 = .ok (.invokevirtual 188, 3) := by decide +kernel
theorem wm_1902 : (Jvm.Cond.methodLink "GrownKindsModel" (188 : Nat) ({ cls := "GrownKindsModel", name := "needs", desc := "(C)V" } : Jvm.MethodName)) ∈ gT := gT_in (List.mem_of_getElem? (i := 1902) (by decide +kernel)) (by decide +kernel)
theorem wm_1904 : (Jvm.Cond.instanceMethod ({ cls := "GrownKindsModel", name := "needs", desc := "(C)V" } : Jvm.MethodName)) ∈ gT := gT_in (List.mem_of_getElem? (i := 1904) (by decide +kernel)) (by decide +kernel)
theorem wm_98 : Cond.selects "GrownKindsModel" ⟨"GrownKindsModel", "needs", "(C)V"⟩ ⟨"GrownKindsModel", "needs", "(C)V"⟩ ∈ gT := gT_in (List.mem_of_getElem? (i := 98) (by decide +kernel)) (by decide +kernel)
theorem wm_1905 : (Jvm.Cond.code ({ cls := "GrownKindsModel", name := "needs", desc := "(C)V" } : Jvm.MethodName) prog_14_method_18_code (2 : Nat) (Option.none : Option Jvm.ClassFile.FieldType)) ∈ gT := gT_in (List.mem_of_getElem? (i := 1905) (by decide +kernel)) (by decide +kernel)
theorem dX12_readsPart_241 : decode cX12_readsPart 241 = .ok (.goto 76, 3) := by decide +kernel
theorem dX12_readsPart_317 : decode cX12_readsPart 317 = .ok (.aload_n 0, 1) := by decide +kernel
theorem dX12_readsPart_318 : decode cX12_readsPart 318 = .ok (.getfield 120, 3) := by decide +kernel
theorem dX12_readsPart_321 : decode cX12_readsPart 321 = .ok (.ifCond .eq 7, 3) := by decide +kernel
theorem dX12_readsPart_328 : decode cX12_readsPart 328 = .ok (.iload 7, 2) := by decide +kernel
theorem dX12_readsPart_330 : decode cX12_readsPart 330 = .ok (.ireturn, 1) := by decide +kernel
theorem dX12_readsPart_324 : decode cX12_readsPart 324 = .ok (.iconst (-1), 1) := by decide +kernel
theorem dX12_readsPart_325 : decode cX12_readsPart 325 = .ok (.goto 5, 3) := by decide +kernel
theorem dX12_readsPart_72 : decode cX12_readsPart 72 = .ok (.iload 5, 2) := by decide +kernel
theorem dX12_readsPart_74 : decode cX12_readsPart 74 = .ok (.ifCond .eq 27, 3) := by decide +kernel
theorem dX12_readsKind_0 : decode cX12_readsKind 0 = .ok (.aload_n 0, 1) := by decide +kernel
theorem dX12_readsKind_1 : decode cX12_readsKind 1 = .ok (.getfield 114, 3) := by decide +kernel
theorem dX12_readsKind_4 : decode cX12_readsKind 4 = .ok (.iconst 1, 1) := by decide +kernel
theorem dX12_readsKind_5 : decode cX12_readsKind 5 = .ok (.if_icmp .ne 10, 3) := by decide +kernel
theorem dX12_readsKind_15 : decode cX12_readsKind 15 = .ok (.aload_n 0, 1) := by decide +kernel
theorem dX12_readsKind_16 : decode cX12_readsKind 16 = .ok (.iconst 1, 1) := by decide +kernel
theorem dX12_readsKind_17 : decode cX12_readsKind 17 = .ok (.invokevirtual 169, 3) := by decide +kernel
theorem dX12_readsKind_20 : decode cX12_readsKind 20 = .ok (.pop, 1) := by decide +kernel
theorem dX12_readsKind_21 : decode cX12_readsKind 21 = .ok (.return_, 1) := by decide +kernel
theorem dX12_readsKind_8 : decode cX12_readsKind 8 = .ok (.aload_n 0, 1) := by decide +kernel
theorem dX12_readsKind_9 : decode cX12_readsKind 9 = .ok (.invokevirtual 183, 3) := by decide +kernel
theorem dX12_readsKind_12 : decode cX12_readsKind 12 = .ok (.ifCond .lt 10, 3) := by decide +kernel
theorem dX12_readsKind_22 : decode cX12_readsKind 22 = .ok (.aload_n 0, 1) := by decide +kernel
theorem dX12_readsKind_23 : decode cX12_readsKind 23 = .ok (.invokevirtual 186, 3) := by decide +kernel
theorem dX12_readsKind_26 : decode cX12_readsKind 26 = .ok (.istore_n 1, 1) := by decide +kernel
theorem dX12_readsKind_27 : decode cX12_readsKind 27 = .ok (.iload_n 1, 1) := by decide +kernel
theorem dX12_readsKind_28 : decode cX12_readsKind 28 = .ok (.ifCond .lt 16, 3) := by decide +kernel
theorem dX12_readsKind_44 : decode cX12_readsKind 44 = .ok (.aload_n 0, 1) := by decide +kernel
theorem dX12_readsKind_45 : decode cX12_readsKind 45 = .ok (.iconst 2, 1) := by decide +kernel
theorem dX12_readsKind_46 : decode cX12_readsKind 46 = .ok (.invokevirtual 169, 3) := by decide +kernel
theorem dX12_readsKind_49 : decode cX12_readsKind 49 = .ok (.pop, 1) := by decide +kernel
theorem dX12_readsKind_50 : decode cX12_readsKind 50 = .ok (.return_, 1) := by decide +kernel
theorem dX12_readsKind_31 : decode cX12_readsKind 31 = .ok (.aload_n 0, 1) := by decide +kernel
theorem dX12_readsKind_32 : decode cX12_readsKind 32 = .ok (.getfield 15, 3) := by decide +kernel
theorem dX12_readsKind_35 : decode cX12_readsKind 35 = .ok (.sipush 198, 3) := by decide +kernel
theorem dX12_readsKind_38 : decode cX12_readsKind 38 = .ok (.iload_n 1, 1) := by decide +kernel
theorem dX12_readsKind_39 : decode cX12_readsKind 39 = .ok (.iadd, 1) := by decide +kernel
theorem dX12_readsKind_40 : decode cX12_readsKind 40 = .ok (.iaload, 1) := by decide +kernel
theorem dX12_readsKind_41 : decode cX12_readsKind 41 = .ok (.ifCond .le 10, 3) := by decide +kernel
theorem dX12_readsKind_51 : decode cX12_readsKind 51 = .ok (.aload_n 0, 1) := by decide +kernel
theorem dX12_readsKind_52 : decode cX12_readsKind 52 = .ok (.invokevirtual 173, 3) := by decide +kernel
theorem dX12_readsKind_55 : decode cX12_readsKind 55 = .ok (.aload_n 0, 1) := by decide +kernel
theorem dX12_readsKind_56 : decode cX12_readsKind 56 = .ok (.bipush 61, 2) := by decide +kernel
theorem dX12_readsKind_58 : decode cX12_readsKind 58 = .ok (.invokevirtual 188, 3) := by decide +kernel
theorem dX12_readsKind_61 : decode cX12_readsKind 61 = .ok (.aload_n 0, 1) := by decide +kernel
theorem dX12_readsKind_62 : decode cX12_readsKind 62 = .ok (.getfield 120, 3) := by decide +kernel
theorem dX12_readsKind_65 : decode cX12_readsKind 65 = .ok (.ifCond .ne 9, 3) := by decide +kernel
theorem dX12_readsKind_74 : decode cX12_readsKind 74 = .ok (.return_, 1) := by decide +kernel
theorem dX12_readsKind_68 : decode cX12_readsKind 68 = .ok (.aload_n 0, 1) := by decide +kernel
theorem dX12_readsKind_69 : decode cX12_readsKind 69 = .ok (.iload_n 1, 1) := by decide +kernel
theorem dX12_readsKind_70 : decode cX12_readsKind 70 = .ok (.iconst 0, 1) := by decide +kernel
theorem dX12_readsKind_71 : decode cX12_readsKind 71 = .ok (.invokevirtual 192, 3) := by decide +kernel
theorem dX12_grammar_0 : decode cX12_grammar 0 = .ok (.iconst 0, 1) := by decide +kernel
theorem dX12_grammar_1 : decode cX12_grammar 1 = .ok (.istore_n 1, 1) := by decide +kernel
theorem dX12_grammar_2 : decode cX12_grammar 2 = .ok (.iload_n 1, 1) := by decide +kernel
theorem dX12_grammar_3 : decode cX12_grammar 3 = .ok (.sipush 228, 3) := by decide +kernel
theorem dX12_grammar_6 : decode cX12_grammar 6 = .ok (.if_icmp .ge 21, 3) := by decide +kernel
theorem dX12_grammar_9 : decode cX12_grammar 9 = .ok (.aload_n 0, 1) := by decide +kernel
theorem dX12_grammar_10 : decode cX12_grammar 10 = .ok (.getfield 19, 3) := by decide +kernel
theorem dX12_grammar_13 : decode cX12_grammar 13 = .ok (.iload_n 1, 1) := by decide +kernel
theorem dX12_grammar_14 : decode cX12_grammar 14 = .ok (.aload_n 0, 1) := by decide +kernel
theorem dX12_grammar_15 : decode cX12_grammar 15 = .ok (.getfield 15, 3) := by decide +kernel
theorem dX12_grammar_18 : decode cX12_grammar 18 = .ok (.iload_n 1, 1) := by decide +kernel
theorem dX12_grammar_19 : decode cX12_grammar 19 = .ok (.iaload, 1) := by decide +kernel
theorem dX12_grammar_20 : decode cX12_grammar 20 = .ok (.iastore, 1) := by decide +kernel
theorem dX12_grammar_21 : decode cX12_grammar 21 = .ok (.iinc 1 1, 3) := by decide +kernel
theorem dX12_grammar_24 : decode cX12_grammar 24 = .ok (.goto (-22), 3) := by decide +kernel
theorem dX12_grammar_27 : decode cX12_grammar 27 = .ok (.aload_n 0, 1) := by decide +kernel
theorem dX12_grammar_28 : decode cX12_grammar 28 = .ok (.invokevirtual 91, 3) := by decide +kernel
theorem dX12_grammar_31 : decode cX12_grammar 31 = .ok (.aload_n 0, 1) := by decide +kernel
theorem dX12_grammar_32 : decode cX12_grammar 32 = .ok (.iconst 0, 1) := by decide +kernel
theorem dX12_grammar_33 : decode cX12_grammar 33 = .ok (.putfield 101, 3) := by decide +kernel
theorem dX12_grammar_36 : decode cX12_grammar 36 = .ok (.aload_n 0, 1) := by decide +kernel
theorem dX12_grammar_37 : decode cX12_grammar 37 = .ok (.iconst 0, 1) := by decide +kernel
theorem dX12_grammar_38 : decode cX12_grammar 38 = .ok (.putfield 120, 3) := by decide +kernel
theorem dX12_grammar_41 : decode cX12_grammar 41 = .ok (.aload_n 0, 1) := by decide +kernel
theorem dX12_grammar_42 : decode cX12_grammar 42 = .ok (.invokevirtual 173, 3) := by decide +kernel
theorem dX12_grammar_45 : decode cX12_grammar 45 = .ok (.aload_n 0, 1) := by decide +kernel
theorem dX12_grammar_46 : decode cX12_grammar 46 = .ok (.getfield 120, 3) := by decide +kernel
theorem dX12_grammar_49 : decode cX12_grammar 49 = .ok (.ifCond .ne 56, 3) := by decide +kernel
theorem dX12_grammar_52 : decode cX12_grammar 52 = .ok (.aload_n 0, 1) := by decide +kernel
theorem dX12_grammar_53 : decode cX12_grammar 53 = .ok (.getfield 114, 3) := by decide +kernel
theorem dX12_grammar_56 : decode cX12_grammar 56 = .ok (.ifCond .eq 49, 3) := by decide +kernel
theorem dX12_grammar_59 : decode cX12_grammar 59 = .ok (.aload_n 0, 1) := by decide +kernel
theorem dX12_grammar_60 : decode cX12_grammar 60 = .ok (.getfield 15, 3) := by decide +kernel
theorem dX12_grammar_63 : decode cX12_grammar 63 = .ok (.iconst 3, 1) := by decide +kernel
theorem dX12_grammar_64 : decode cX12_grammar 64 = .ok (.iaload, 1) := by decide +kernel
theorem dX12_grammar_65 : decode cX12_grammar 65 = .ok (.ifCond .ne 10, 3) := by decide +kernel
theorem dX12_grammar_75 : decode cX12_grammar 75 = .ok (.aload_n 0, 1) := by decide +kernel
theorem dX12_grammar_76 : decode cX12_grammar 76 = .ok (.invokevirtual 216, 3) := by decide +kernel
theorem wm_1898 : (Jvm.Cond.methodLink "GrownKindsModel" (216 : Nat) ({ cls := "GrownKindsModel", name := "readsKind", desc := "()V" } : Jvm.MethodName)) ∈ gT := gT_in (List.mem_of_getElem? (i := 1898) (by decide +kernel)) (by decide +kernel)
theorem wm_1900 : (Jvm.Cond.instanceMethod ({ cls := "GrownKindsModel", name := "readsKind", desc := "()V" } : Jvm.MethodName)) ∈ gT := gT_in (List.mem_of_getElem? (i := 1900) (by decide +kernel)) (by decide +kernel)
theorem wm_97 : Cond.selects "GrownKindsModel" ⟨"GrownKindsModel", "readsKind", "()V"⟩ ⟨"GrownKindsModel", "readsKind", "()V"⟩ ∈ gT := gT_in (List.mem_of_getElem? (i := 97) (by decide +kernel)) (by decide +kernel)
theorem wm_1901 : (Jvm.Cond.code ({ cls := "GrownKindsModel", name := "readsKind", desc := "()V" } : Jvm.MethodName) prog_14_method_22_code (2 : Nat) (Option.none : Option Jvm.ClassFile.FieldType)) ∈ gT := gT_in (List.mem_of_getElem? (i := 1901) (by decide +kernel)) (by decide +kernel)
theorem dX12_grammar_68 : decode cX12_grammar 68 = .ok (.aload_n 0, 1) := by decide +kernel
theorem dX12_grammar_69 : decode cX12_grammar 69 = .ok (.invokevirtual 213, 3) := by decide +kernel
theorem wm_1855 : (Jvm.Cond.methodLink "GrownKindsModel" (213 : Nat) ({ cls := "GrownKindsModel", name := "readsHead", desc := "()V" } : Jvm.MethodName)) ∈ gT := gT_in (List.mem_of_getElem? (i := 1855) (by decide +kernel)) (by decide +kernel)
theorem wm_1857 : (Jvm.Cond.instanceMethod ({ cls := "GrownKindsModel", name := "readsHead", desc := "()V" } : Jvm.MethodName)) ∈ gT := gT_in (List.mem_of_getElem? (i := 1857) (by decide +kernel)) (by decide +kernel)
theorem wm_90 : Cond.selects "GrownKindsModel" ⟨"GrownKindsModel", "readsHead", "()V"⟩ ⟨"GrownKindsModel", "readsHead", "()V"⟩ ∈ gT := gT_in (List.mem_of_getElem? (i := 90) (by decide +kernel)) (by decide +kernel)
theorem wm_1858 : (Jvm.Cond.code ({ cls := "GrownKindsModel", name := "readsHead", desc := "()V" } : Jvm.MethodName) prog_14_method_20_code (2 : Nat) (Option.none : Option Jvm.ClassFile.FieldType)) ∈ gT := gT_in (List.mem_of_getElem? (i := 1858) (by decide +kernel)) (by decide +kernel)
theorem dX12_grammar_72 : decode cX12_grammar 72 = .ok (.goto 7, 3) := by decide +kernel
theorem dX12_grammar_79 : decode cX12_grammar 79 = .ok (.aload_n 0, 1) := by decide +kernel
theorem dX12_grammar_80 : decode cX12_grammar 80 = .ok (.getfield 120, 3) := by decide +kernel
theorem dX12_grammar_83 : decode cX12_grammar 83 = .ok (.ifCond .ne (-38), 3) := by decide +kernel
theorem dX12_grammar_86 : decode cX12_grammar 86 = .ok (.aload_n 0, 1) := by decide +kernel
theorem dX12_grammar_87 : decode cX12_grammar 87 = .ok (.bipush 59, 2) := by decide +kernel
theorem dX12_grammar_89 : decode cX12_grammar 89 = .ok (.invokevirtual 188, 3) := by decide +kernel
theorem dX12_grammar_92 : decode cX12_grammar 92 = .ok (.aload_n 0, 1) := by decide +kernel
theorem dX12_grammar_93 : decode cX12_grammar 93 = .ok (.getfield 15, 3) := by decide +kernel
theorem dX12_grammar_96 : decode cX12_grammar 96 = .ok (.iconst 3, 1) := by decide +kernel
theorem dX12_grammar_97 : decode cX12_grammar 97 = .ok (.dup2, 1) := by decide +kernel
theorem dX12_grammar_98 : decode cX12_grammar 98 = .ok (.iaload, 1) := by decide +kernel
theorem dX12_grammar_99 : decode cX12_grammar 99 = .ok (.iconst 1, 1) := by decide +kernel
theorem dX12_grammar_100 : decode cX12_grammar 100 = .ok (.iadd, 1) := by decide +kernel
theorem dX12_grammar_101 : decode cX12_grammar 101 = .ok (.iastore, 1) := by decide +kernel
theorem dX12_grammar_102 : decode cX12_grammar 102 = .ok (.goto (-57), 3) := by decide +kernel
theorem dX12_grammar_105 : decode cX12_grammar 105 = .ok (.aload_n 0, 1) := by decide +kernel
theorem dX12_grammar_106 : decode cX12_grammar 106 = .ok (.getfield 120, 3) := by decide +kernel
theorem dX12_grammar_109 : decode cX12_grammar 109 = .ok (.ifCond .ne 28, 3) := by decide +kernel
theorem dX12_grammar_112 : decode cX12_grammar 112 = .ok (.aload_n 0, 1) := by decide +kernel
theorem dX12_grammar_113 : decode cX12_grammar 113 = .ok (.invokevirtual 219, 3) := by decide +kernel
theorem wm_1929 : (Jvm.Cond.methodLink "GrownKindsModel" (219 : Nat) ({ cls := "GrownKindsModel", name := "wrongKind", desc := "()I" } : Jvm.MethodName)) ∈ gT := gT_in (List.mem_of_getElem? (i := 1929) (by decide +kernel)) (by decide +kernel)
theorem wm_1931 : (Jvm.Cond.instanceMethod ({ cls := "GrownKindsModel", name := "wrongKind", desc := "()I" } : Jvm.MethodName)) ∈ gT := gT_in (List.mem_of_getElem? (i := 1931) (by decide +kernel)) (by decide +kernel)
theorem wm_104 : Cond.selects "GrownKindsModel" ⟨"GrownKindsModel", "wrongKind", "()I"⟩ ⟨"GrownKindsModel", "wrongKind", "()I"⟩ ∈ gT := gT_in (List.mem_of_getElem? (i := 104) (by decide +kernel)) (by decide +kernel)
theorem wm_1932 : (Jvm.Cond.code ({ cls := "GrownKindsModel", name := "wrongKind", desc := "()I" } : Jvm.MethodName) prog_14_method_48_code (5 : Nat) (Option.some Jvm.ClassFile.FieldType.int)) ∈ gT := gT_in (List.mem_of_getElem? (i := 1932) (by decide +kernel)) (by decide +kernel)
theorem dX12_grammar_116 : decode cX12_grammar 116 = .ok (.ifCond .lt 21, 3) := by decide +kernel
theorem dX12_grammar_119 : decode cX12_grammar 119 = .ok (.aload_n 0, 1) := by decide +kernel
theorem dX12_grammar_120 : decode cX12_grammar 120 = .ok (.iconst 1, 1) := by decide +kernel
theorem dX12_grammar_121 : decode cX12_grammar 121 = .ok (.putfield 120, 3) := by decide +kernel
theorem dX12_grammar_124 : decode cX12_grammar 124 = .ok (.aload_n 0, 1) := by decide +kernel
theorem dX12_grammar_125 : decode cX12_grammar 125 = .ok (.iconst 4, 1) := by decide +kernel
theorem dX12_grammar_126 : decode cX12_grammar 126 = .ok (.putfield 124, 3) := by decide +kernel
theorem dX12_grammar_129 : decode cX12_grammar 129 = .ok (.aload_n 0, 1) := by decide +kernel
theorem dX12_grammar_130 : decode cX12_grammar 130 = .ok (.aload_n 0, 1) := by decide +kernel
theorem dX12_grammar_131 : decode cX12_grammar 131 = .ok (.invokevirtual 219, 3) := by decide +kernel
theorem dX12_grammar_134 : decode cX12_grammar 134 = .ok (.putfield 25, 3) := by decide +kernel
theorem dX12_grammar_137 : decode cX12_grammar 137 = .ok (.aload_n 0, 1) := by decide +kernel
theorem dX12_grammar_138 : decode cX12_grammar 138 = .ok (.iconst 0, 1) := by decide +kernel
theorem dX12_grammar_139 : decode cX12_grammar 139 = .ok (.putfield 94, 3) := by decide +kernel
theorem dX12_grammar_142 : decode cX12_grammar 142 = .ok (.aload_n 0, 1) := by decide +kernel
theorem dX12_grammar_143 : decode cX12_grammar 143 = .ok (.getfield 120, 3) := by decide +kernel
theorem dX12_grammar_146 : decode cX12_grammar 146 = .ok (.ifCond .eq 33, 3) := by decide +kernel
theorem dX12_grammar_179 : decode cX12_grammar 179 = .ok (.aload_n 0, 1) := by decide +kernel
theorem dX12_grammar_180 : decode cX12_grammar 180 = .ok (.iconst 0, 1) := by decide +kernel
theorem dX12_grammar_181 : decode cX12_grammar 181 = .ok (.putfield 124, 3) := by decide +kernel
theorem dX12_grammar_184 : decode cX12_grammar 184 = .ok (.aload_n 0, 1) := by decide +kernel
theorem dX12_grammar_185 : decode cX12_grammar 185 = .ok (.iconst (-1), 1) := by decide +kernel
theorem dX12_grammar_186 : decode cX12_grammar 186 = .ok (.putfield 25, 3) := by decide +kernel
theorem dX12_grammar_189 : decode cX12_grammar 189 = .ok (.aload_n 0, 1) := by decide +kernel
theorem dX12_grammar_190 : decode cX12_grammar 190 = .ok (.iconst 0, 1) := by decide +kernel
theorem dX12_grammar_191 : decode cX12_grammar 191 = .ok (.putfield 222, 3) := by decide +kernel
theorem dX12_grammar_194 : decode cX12_grammar 194 = .ok (.aload_n 0, 1) := by decide +kernel
theorem dX12_grammar_195 : decode cX12_grammar 195 = .ok (.getfield 15, 3) := by decide +kernel
theorem dX12_grammar_198 : decode cX12_grammar 198 = .ok (.iconst 3, 1) := by decide +kernel
theorem dX12_grammar_199 : decode cX12_grammar 199 = .ok (.iaload, 1) := by decide +kernel
theorem dX12_grammar_200 : decode cX12_grammar 200 = .ok (.ireturn, 1) := by decide +kernel
theorem dX12_grammar_149 : decode cX12_grammar 149 = .ok (.iconst 0, 1) := by decide +kernel
theorem dX12_grammar_150 : decode cX12_grammar 150 = .ok (.istore_n 1, 1) := by decide +kernel
theorem dX12_grammar_151 : decode cX12_grammar 151 = .ok (.iload_n 1, 1) := by decide +kernel
theorem dX12_grammar_152 : decode cX12_grammar 152 = .ok (.sipush 228, 3) := by decide +kernel
theorem dX12_grammar_155 : decode cX12_grammar 155 = .ok (.if_icmp .ge 21, 3) := by decide +kernel
theorem dX12_grammar_158 : decode cX12_grammar 158 = .ok (.aload_n 0, 1) := by decide +kernel
theorem dX12_grammar_159 : decode cX12_grammar 159 = .ok (.getfield 15, 3) := by decide +kernel
theorem dX12_grammar_162 : decode cX12_grammar 162 = .ok (.iload_n 1, 1) := by decide +kernel
theorem dX12_grammar_163 : decode cX12_grammar 163 = .ok (.aload_n 0, 1) := by decide +kernel
theorem dX12_grammar_164 : decode cX12_grammar 164 = .ok (.getfield 19, 3) := by decide +kernel
theorem dX12_grammar_167 : decode cX12_grammar 167 = .ok (.iload_n 1, 1) := by decide +kernel
theorem dX12_grammar_168 : decode cX12_grammar 168 = .ok (.iaload, 1) := by decide +kernel
theorem dX12_grammar_169 : decode cX12_grammar 169 = .ok (.iastore, 1) := by decide +kernel
theorem dX12_grammar_170 : decode cX12_grammar 170 = .ok (.iinc 1 1, 3) := by decide +kernel
theorem dX12_grammar_173 : decode cX12_grammar 173 = .ok (.goto (-22), 3) := by decide +kernel
theorem dX12_grammar_176 : decode cX12_grammar 176 = .ok (.bipush (-4), 2) := by decide +kernel
theorem dX12_grammar_178 : decode cX12_grammar 178 = .ok (.ireturn, 1) := by decide +kernel
def mX12_wordOf (a1 : Int) : Option (Int) := gd (inI a1) <| if a1 = 0 then (some (10)) else (if a1 = 1 then (some (11)) else (if a1 = 2 then (some (12)) else (if a1 = 3 then (some (13)) else (if a1 = 4 then (some (14)) else (if a1 = 5 then (some (15)) else (if a1 = 6 then (some (16)) else (if a1 = 7 then (some (17)) else (if a1 = 8 then (some (18)) else (some (19))))))))))
set_option maxHeartbeats 4000000 in
set_option maxRecDepth 100000 in
theorem vX12_wordOf (l : Launch) {D : va_G} {cy : Nat → ClassId} {b n : Nat} (hn : 102 ≤ n) {X : Nat → va_E} {S0 : St} (a1 : Int) {o1 : Int} (hM : mX12_wordOf a1 = some o1) : gR l yX12_wordOf cX12_wordOf 1 (some (.object "java/lang/String")) 0 0 0 D cy b n (enc b cy X S0) [.int (iI a1)] (fun r u => r = cy (10 + o1.toNat) ∧ u = (n, enc b cy X S0)) := by
  refine gR_of (by decide) (Nat.le_of_ble_eq_true rfl) ?_
  intro p e s m args below meth c S hr hlk hin hsz ls hl hG
  have hx := S.1
  have hb := S.2.1
  have hl : lv_has ls 1 [(0, .int (iI a1))] := hl
  replace hG : gW D cy b n s s.heap [] (enc b cy X S0) := hG
  obtain ⟨H, eH⟩ : ∃ H, H = s.heap := ⟨_, rfl⟩
  obtain ⟨locs, elocs⟩ : ∃ locs : List Loc, locs = [] := ⟨_, rfl⟩
  rw [← eH, ← elocs] at hG
  rw [← eH, ← elocs]
  clear eH elocs
  unfold mX12_wordOf at hM
  refine lv_iload_n hx hb dX12_wordOf_0 rfl (lv_at hl 0 rfl) ?_
  obtain ⟨hg_1, hM⟩ := gd_some hM
  rcases (show a1 = 0 ∨ a1 = 1 ∨ a1 = 2 ∨ a1 = 3 ∨ a1 = 4 ∨ a1 = 5 ∨ a1 = 6 ∨ a1 = 7 ∨ a1 = 8 ∨ (a1 < 0 ∨ 8 < a1) by omega) with hs_2 | hs_2 | hs_2 | hs_2 | hs_2 | hs_2 | hs_2 | hs_2 | hs_2 | hs_2
  · replace hM := ifp hM hs_2
    refine gi_tsI (off := 51) (tgt := 52) hx hb 0 dX12_wordOf_1 hg_1 (by omega) (by omega) (by rfl) (by decide) ?_
    refine va_ldcS (own := "GrownKindsModel") (index := 127) (tx := "grammar") hx hb S.2.2.2.1 (hG.1.2.1.2.1 10 _ rfl).1 dX12_wordOf_52 ?_
    cases hM
    exact g_aret S hr (Or.inl ⟨_, rfl⟩) hlk hG hsz dX12_wordOf_54 ⟨Nat.le_of_ble_eq_true rfl, Nat.le_of_ble_eq_true rfl⟩ ⟨rfl, rfl⟩
  · replace hM := ifn hM (by omega)
    replace hM := ifp hM hs_2
    refine gi_tsI (off := 54) (tgt := 55) hx hb 1 dX12_wordOf_1 hg_1 (by omega) (by omega) (by rfl) (by decide) ?_
    refine va_ldcS (own := "GrownKindsModel") (index := 129) (tx := "most") hx hb S.2.2.2.1 (hG.1.2.1.2.1 11 _ rfl).1 dX12_wordOf_55 ?_
    cases hM
    exact g_aret S hr (Or.inl ⟨_, rfl⟩) hlk hG hsz dX12_wordOf_57 ⟨Nat.le_of_ble_eq_true rfl, Nat.le_of_ble_eq_true rfl⟩ ⟨rfl, rfl⟩
  · replace hM := ifn hM (by omega)
    replace hM := ifn hM (by omega)
    replace hM := ifp hM hs_2
    refine gi_tsI (off := 57) (tgt := 58) hx hb 2 dX12_wordOf_1 hg_1 (by omega) (by omega) (by rfl) (by decide) ?_
    refine va_ldcS (own := "GrownKindsModel") (index := 131) (tx := "atom") hx hb S.2.2.2.1 (hG.1.2.1.2.1 12 _ rfl).1 dX12_wordOf_58 ?_
    cases hM
    exact g_aret S hr (Or.inl ⟨_, rfl⟩) hlk hG hsz dX12_wordOf_60 ⟨Nat.le_of_ble_eq_true rfl, Nat.le_of_ble_eq_true rfl⟩ ⟨rfl, rfl⟩
  · replace hM := ifn hM (by omega)
    replace hM := ifn hM (by omega)
    replace hM := ifn hM (by omega)
    replace hM := ifp hM hs_2
    refine gi_tsI (off := 60) (tgt := 61) hx hb 3 dX12_wordOf_1 hg_1 (by omega) (by omega) (by rfl) (by decide) ?_
    refine va_ldcS (own := "GrownKindsModel") (index := 133) (tx := "unit") hx hb S.2.2.2.1 (hG.1.2.1.2.1 13 _ rfl).1 dX12_wordOf_61 ?_
    cases hM
    exact g_aret S hr (Or.inl ⟨_, rfl⟩) hlk hG hsz dX12_wordOf_63 ⟨Nat.le_of_ble_eq_true rfl, Nat.le_of_ble_eq_true rfl⟩ ⟨rfl, rfl⟩
  · replace hM := ifn hM (by omega)
    replace hM := ifn hM (by omega)
    replace hM := ifn hM (by omega)
    replace hM := ifn hM (by omega)
    replace hM := ifp hM hs_2
    refine gi_tsI (off := 63) (tgt := 64) hx hb 4 dX12_wordOf_1 hg_1 (by omega) (by omega) (by rfl) (by decide) ?_
    refine va_ldcS (own := "GrownKindsModel") (index := 135) (tx := "or") hx hb S.2.2.2.1 (hG.1.2.1.2.1 14 _ rfl).1 dX12_wordOf_64 ?_
    cases hM
    exact g_aret S hr (Or.inl ⟨_, rfl⟩) hlk hG hsz dX12_wordOf_66 ⟨Nat.le_of_ble_eq_true rfl, Nat.le_of_ble_eq_true rfl⟩ ⟨rfl, rfl⟩
  · replace hM := ifn hM (by omega)
    replace hM := ifn hM (by omega)
    replace hM := ifn hM (by omega)
    replace hM := ifn hM (by omega)
    replace hM := ifn hM (by omega)
    replace hM := ifp hM hs_2
    refine gi_tsI (off := 66) (tgt := 67) hx hb 5 dX12_wordOf_1 hg_1 (by omega) (by omega) (by rfl) (by decide) ?_
    refine va_ldcS (own := "GrownKindsModel") (index := 137) (tx := "with") hx hb S.2.2.2.1 (hG.1.2.1.2.1 15 _ rfl).1 dX12_wordOf_67 ?_
    cases hM
    exact g_aret S hr (Or.inl ⟨_, rfl⟩) hlk hG hsz dX12_wordOf_69 ⟨Nat.le_of_ble_eq_true rfl, Nat.le_of_ble_eq_true rfl⟩ ⟨rfl, rfl⟩
  · replace hM := ifn hM (by omega)
    replace hM := ifn hM (by omega)
    replace hM := ifn hM (by omega)
    replace hM := ifn hM (by omega)
    replace hM := ifn hM (by omega)
    replace hM := ifn hM (by omega)
    replace hM := ifp hM hs_2
    refine gi_tsI (off := 69) (tgt := 70) hx hb 6 dX12_wordOf_1 hg_1 (by omega) (by omega) (by rfl) (by decide) ?_
    refine va_ldcS (own := "GrownKindsModel") (index := 139) (tx := "row") hx hb S.2.2.2.1 (hG.1.2.1.2.1 16 _ rfl).1 dX12_wordOf_70 ?_
    cases hM
    exact g_aret S hr (Or.inl ⟨_, rfl⟩) hlk hG hsz dX12_wordOf_72 ⟨Nat.le_of_ble_eq_true rfl, Nat.le_of_ble_eq_true rfl⟩ ⟨rfl, rfl⟩
  · replace hM := ifn hM (by omega)
    replace hM := ifn hM (by omega)
    replace hM := ifn hM (by omega)
    replace hM := ifn hM (by omega)
    replace hM := ifn hM (by omega)
    replace hM := ifn hM (by omega)
    replace hM := ifn hM (by omega)
    replace hM := ifp hM hs_2
    refine gi_tsI (off := 72) (tgt := 73) hx hb 7 dX12_wordOf_1 hg_1 (by omega) (by omega) (by rfl) (by decide) ?_
    refine va_ldcS (own := "GrownKindsModel") (index := 141) (tx := "bag") hx hb S.2.2.2.1 (hG.1.2.1.2.1 17 _ rfl).1 dX12_wordOf_73 ?_
    cases hM
    exact g_aret S hr (Or.inl ⟨_, rfl⟩) hlk hG hsz dX12_wordOf_75 ⟨Nat.le_of_ble_eq_true rfl, Nat.le_of_ble_eq_true rfl⟩ ⟨rfl, rfl⟩
  · replace hM := ifn hM (by omega)
    replace hM := ifn hM (by omega)
    replace hM := ifn hM (by omega)
    replace hM := ifn hM (by omega)
    replace hM := ifn hM (by omega)
    replace hM := ifn hM (by omega)
    replace hM := ifn hM (by omega)
    replace hM := ifn hM (by omega)
    replace hM := ifp hM hs_2
    refine gi_tsI (off := 75) (tgt := 76) hx hb 8 dX12_wordOf_1 hg_1 (by omega) (by omega) (by rfl) (by decide) ?_
    refine va_ldcS (own := "GrownKindsModel") (index := 143) (tx := "set") hx hb S.2.2.2.1 (hG.1.2.1.2.1 18 _ rfl).1 dX12_wordOf_76 ?_
    cases hM
    exact g_aret S hr (Or.inl ⟨_, rfl⟩) hlk hG hsz dX12_wordOf_78 ⟨Nat.le_of_ble_eq_true rfl, Nat.le_of_ble_eq_true rfl⟩ ⟨rfl, rfl⟩
  · replace hM := ifn hM (by omega)
    replace hM := ifn hM (by omega)
    replace hM := ifn hM (by omega)
    replace hM := ifn hM (by omega)
    replace hM := ifn hM (by omega)
    replace hM := ifn hM (by omega)
    replace hM := ifn hM (by omega)
    replace hM := ifn hM (by omega)
    replace hM := ifn hM (by omega)
    refine gi_tsO (tgt := 79) hx hb dX12_wordOf_1 hg_1 hs_2 (by decide) ?_
    refine va_ldcS (own := "GrownKindsModel") (index := 145) (tx := "ring") hx hb S.2.2.2.1 (hG.1.2.1.2.1 19 _ rfl).1 dX12_wordOf_79 ?_
    cases hM
    exact g_aret S hr (Or.inl ⟨_, rfl⟩) hlk hG hsz dX12_wordOf_81 ⟨Nat.le_of_ble_eq_true rfl, Nat.le_of_ble_eq_true rfl⟩ ⟨rfl, rfl⟩
theorem wS_12_147 : gWS "GrownKindsModel" 147 yX12_wordOf cX12_wordOf 1 (some (.object "java/lang/String")) := ⟨wm_1867, wm_1868, wm_188, wm_1869, by decide +kernel, by decide +kernel⟩
theorem wV_12_151 : gWV "GrownKindsModel" 151 yJ0_length_8abf5 cJ0_length_8abf5 1 (some .int) := ⟨wm_1880, wm_777, wm_778, wm_191, wm_779, by decide +kernel, by decide +kernel⟩
theorem wV_java_lang_String_335 : gWV "java/lang/String" 335 yJ0_coder_7d493 cJ0_coder_7d493 1 (some .byte) := ⟨wm_780, wm_781, wm_782, wm_191, wm_783, by decide +kernel, by decide +kernel⟩
def mJ0_coder_7d493 (bs : List Int32)  : Option (Int) := some (0)
set_option maxHeartbeats 4000000 in
set_option maxRecDepth 100000 in
theorem vJ0_coder_7d493 (l : Launch) {D : va_G} {cy : Nat → ClassId} {b n : Nat} (hn : 102 ≤ n) {X : Nat → va_E} {S0 : St} {si : Nat} {bs : List Int32} (hsi : isS si bs)  {o1 : Int} (hM : mJ0_coder_7d493 bs  = some o1) : gI l yJ0_coder_7d493 cJ0_coder_7d493 1 (some .byte) 0 0 0 D cy b n (enc b cy X S0) [.ref (cy (10 + si))] (fun r u => r = iI o1 ∧ u = (n, enc b cy X S0)) := by
  refine gI_of (by decide) (Nat.le_of_ble_eq_true rfl) ?_
  intro p e s m args below meth c S hr hlk hin hsz ls hl hG
  have hx := S.1
  have hb := S.2.1
  have hl : lv_has ls 1 [(0, .ref (cy (10 + si)))] := hl
  replace hG : gW D cy b n s s.heap [] (enc b cy X S0) := hG
  obtain ⟨H, eH⟩ : ∃ H, H = s.heap := ⟨_, rfl⟩
  obtain ⟨locs, elocs⟩ : ∃ locs : List Loc, locs = [] := ⟨_, rfl⟩
  rw [← eH, ← elocs] at hG
  rw [← eH, ← elocs]
  clear eH elocs
  unfold mJ0_coder_7d493 at hM
  refine g_gcs S hG wm_784 dJ0_coder_7d493_0 ?_
  refine gi_if_eq (tgt := 13) hx hb dJ0_coder_7d493_3 (by decide) (by decide) (fun c_1 => absurd c_1 (by decide)) (fun _ => ?_)
  refine lv_aload_n hx hb dJ0_coder_7d493_6 rfl (lv_at hl 0 rfl) ?_
  refine g_scod S hG hsi wm_2451 dJ0_coder_7d493_7 ?_
  refine lv_goto (tgt := 14) hx hb dJ0_coder_7d493_10 (by decide) ?_
  cases hM
  exact g_tret S hr hlk hG hsz dJ0_coder_7d493_14 ⟨Nat.le_of_ble_eq_true rfl, Nat.le_of_ble_eq_true rfl⟩ (nar_b (by decide)) ⟨rfl, rfl⟩
def mJ0_length_8abf5 (bs : List Int32)  : Option (Int) := bd1 (mJ0_coder_7d493 bs) fun r_2 => some ((shr ((bs.length : Nat) : Int) r_2))
set_option maxHeartbeats 4000000 in
set_option maxRecDepth 100000 in
theorem vJ0_length_8abf5 (l : Launch) {D : va_G} {cy : Nat → ClassId} {b n : Nat} (hn : 102 ≤ n) {X : Nat → va_E} {S0 : St} {si : Nat} {bs : List Int32} (hsi : isS si bs)  {o1 : Int} (hM : mJ0_length_8abf5 bs  = some o1) : gI l yJ0_length_8abf5 cJ0_length_8abf5 1 (some .int) 1 0 0 D cy b n (enc b cy X S0) [.ref (cy (10 + si))] (fun r u => r = iI o1 ∧ u = (n, enc b cy X S0)) := by
  refine gI_of (by decide) (Nat.le_of_ble_eq_true rfl) ?_
  intro p e s m args below meth c S hr hlk hin hsz ls hl hG
  have hx := S.1
  have hb := S.2.1
  have hl : lv_has ls 1 [(0, .ref (cy (10 + si)))] := hl
  replace hG : gW D cy b n s s.heap [] (enc b cy X S0) := hG
  obtain ⟨H, eH⟩ : ∃ H, H = s.heap := ⟨_, rfl⟩
  obtain ⟨locs, elocs⟩ : ∃ locs : List Loc, locs = [] := ⟨_, rfl⟩
  rw [← eH, ← elocs] at hG
  rw [← eH, ← elocs]
  clear eH elocs
  unfold mJ0_length_8abf5 at hM
  refine lv_aload_n hx hb dJ0_length_8abf5_0 rfl (lv_at hl 0 rfl) ?_
  refine g_sval S hG hsi wm_2450 dJ0_length_8abf5_1 ?_
  refine g_slen S hG hsi dJ0_length_8abf5_4 ?_
  refine lv_aload_n hx hb dJ0_length_8abf5_5 rfl (lv_at hl 0 rfl) ?_
  obtain ⟨r_2, hc_1, hM⟩ := bd1_some hM
  refine g_viS (As := []) (rest := [.int (iI ((bs.length : Nat) : Int))]) S hG hsz (vJ0_coder_7d493 l hn hsi   hc_1) wV_java_lang_String_335 hsi rfl dJ0_length_8abf5_6 rfl hl.1 (ar := 0) (by decide +kernel) rfl ⟨Nat.le_of_ble_eq_true rfl, Nat.le_of_ble_eq_true rfl, Nat.le_of_ble_eq_true rfl, Nat.le_of_ble_eq_true rfl⟩ (Nat.le_of_ble_eq_true rfl) (fun rv uu H locs hp hG => ?_)
  obtain ⟨rfl, rfl⟩ := hp
  replace hG : gW D cy b n s H locs (enc b cy X S0) := hG
  refine gi_shr hx hb dJ0_length_8abf5_9 ?_
  cases hM
  exact g_iret S hr hlk hG hsz dJ0_length_8abf5_10 ⟨Nat.le_of_ble_eq_true rfl, Nat.le_of_ble_eq_true rfl⟩ ⟨rfl, rfl⟩
theorem wV_12_157 : gWV "GrownKindsModel" 157 yJ0_charAt_5068e cJ0_charAt_5068e 2 (some .char) := ⟨wm_1881, wm_787, wm_788, wm_191, wm_789, by decide +kernel, by decide +kernel⟩
theorem wV_java_lang_String_492 : gWV "java/lang/String" 492 yJ0_isLatin1_aae02 cJ0_isLatin1_aae02 1 (some .boolean) := ⟨wm_790, wm_791, wm_792, wm_191, wm_793, by decide +kernel, by decide +kernel⟩
def mJ0_isLatin1_aae02 (bs : List Int32)  : Option (Int) := some (1)
set_option maxHeartbeats 4000000 in
set_option maxRecDepth 100000 in
theorem vJ0_isLatin1_aae02 (l : Launch) {D : va_G} {cy : Nat → ClassId} {b n : Nat} (hn : 102 ≤ n) {X : Nat → va_E} {S0 : St} {si : Nat} {bs : List Int32} (hsi : isS si bs)  {o1 : Int} (hM : mJ0_isLatin1_aae02 bs  = some o1) : gI l yJ0_isLatin1_aae02 cJ0_isLatin1_aae02 1 (some .boolean) 0 0 0 D cy b n (enc b cy X S0) [.ref (cy (10 + si))] (fun r u => r = iI o1 ∧ u = (n, enc b cy X S0)) := by
  refine gI_of (by decide) (Nat.le_of_ble_eq_true rfl) ?_
  intro p e s m args below meth c S hr hlk hin hsz ls hl hG
  have hx := S.1
  have hb := S.2.1
  have hl : lv_has ls 1 [(0, .ref (cy (10 + si)))] := hl
  replace hG : gW D cy b n s s.heap [] (enc b cy X S0) := hG
  obtain ⟨H, eH⟩ : ∃ H, H = s.heap := ⟨_, rfl⟩
  obtain ⟨locs, elocs⟩ : ∃ locs : List Loc, locs = [] := ⟨_, rfl⟩
  rw [← eH, ← elocs] at hG
  rw [← eH, ← elocs]
  clear eH elocs
  unfold mJ0_isLatin1_aae02 at hM
  refine g_gcs S hG wm_784 dJ0_isLatin1_aae02_0 ?_
  refine gi_if_eq (tgt := 17) hx hb dJ0_isLatin1_aae02_3 (by decide) (by decide) (fun c_1 => absurd c_1 (by decide)) (fun _ => ?_)
  refine lv_aload_n hx hb dJ0_isLatin1_aae02_6 rfl (lv_at hl 0 rfl) ?_
  refine g_scod S hG hsi wm_2451 dJ0_isLatin1_aae02_7 ?_
  refine gi_if_ne (tgt := 17) hx hb dJ0_isLatin1_aae02_10 (by decide) (by decide) (fun c_2 => absurd c_2 (by decide)) (fun _ => ?_)
  refine lv_iconst (v := iI 1) hx hb dJ0_isLatin1_aae02_13 (by decide) ?_
  refine lv_goto (tgt := 18) hx hb dJ0_isLatin1_aae02_14 (by decide) ?_
  cases hM
  exact g_zret S hr hlk hG hsz dJ0_isLatin1_aae02_18 ⟨Nat.le_of_ble_eq_true rfl, Nat.le_of_ble_eq_true rfl⟩ (nar_z (by decide)) ⟨rfl, rfl⟩
theorem wS_java_lang_String_495 : gWS "java/lang/String" 495 yJ1_charAt_3b067 cJ1_charAt_3b067 2 (some .char) := ⟨wm_794, wm_795, wm_192, wm_796, by decide +kernel, by decide +kernel⟩
theorem wS_java_lang_StringLatin1_9 : gWS "java/lang/StringLatin1" 9 yJ0_checkIndex_df160 cJ0_checkIndex_df160 2 none := ⟨wm_797, wm_798, wm_191, wm_799, by decide +kernel, by decide +kernel⟩
theorem wS_java_lang_String_1059 : gWS "java/lang/String" 1059 yJ3_checkIndex_8e157 cJ3_checkIndex_8e157 3 (some .int) := ⟨wm_802, wm_803, wm_193, wm_804, by decide +kernel, by decide +kernel⟩
def mJ3_checkIndex_8e157_o (a1 : Int) (a2 : Int) : Option (Int) := gd (inI a1) <| if a1 < 0 then (none) else (gd (inI a2) <| if a1 < a2 then (some (a1)) else (none))
set_option maxHeartbeats 4000000 in
set_option maxRecDepth 100000 in
theorem vJ3_checkIndex_8e157_o (l : Launch) {D : va_G} {cy : Nat → ClassId} {b n : Nat} (hn : 102 ≤ n) {X : Nat → va_E} {S0 : St} (ov : Option Nat) (a1 : Int) (a2 : Int) {o1 : Int} (hM : mJ3_checkIndex_8e157_o a1 a2 = some o1) : gI l yJ3_checkIndex_8e157 cJ3_checkIndex_8e157 3 (some .int) 0 0 0 D cy b n (enc b cy X S0) [.int (iI a1), .int (iI a2), va_rf ov] (fun r u => r = iI o1 ∧ u = (n, enc b cy X S0)) := by
  refine gI_of (by decide) (by cases ov <;> exact Nat.le_of_ble_eq_true rfl) ?_
  intro p e s m args below meth c S hr hlk hin hsz ls hl hG
  have hx := S.1
  have hb := S.2.1
  have hl : lv_has ls 3 [(0, .int (iI a1)), (1, .int (iI a2)), (2, va_rf ov)] := hl
  replace hG : gW D cy b n s s.heap [] (enc b cy X S0) := hG
  obtain ⟨H, eH⟩ : ∃ H, H = s.heap := ⟨_, rfl⟩
  obtain ⟨locs, elocs⟩ : ∃ locs : List Loc, locs = [] := ⟨_, rfl⟩
  rw [← eH, ← elocs] at hG
  rw [← eH, ← elocs]
  clear eH elocs
  unfold mJ3_checkIndex_8e157_o at hM
  refine lv_iload_n hx hb dJ3_checkIndex_8e157_0 rfl (lv_at hl 0 rfl) ?_
  obtain ⟨hg_1, hM⟩ := gd_some hM
  refine gi_if_lt (tgt := 9) hx hb dJ3_checkIndex_8e157_1 (by decide) hg_1 (fun c_2 => ?_) (fun c_2 => ?_)
  · replace hM := ifp hM c_2
    cases hM
  · replace hM := ifn hM c_2
    refine lv_iload_n hx hb dJ3_checkIndex_8e157_4 rfl (lv_at hl 0 rfl) ?_
    refine lv_iload_n hx hb dJ3_checkIndex_8e157_5 rfl (lv_at hl 1 rfl) ?_
    obtain ⟨hg_3, hM⟩ := gd_some hM
    refine gi_icmp_lt (tgt := 16) hx hb dJ3_checkIndex_8e157_6 (by decide) hg_1 hg_3 (fun c_4 => ?_) (fun c_4 => ?_)
    · replace hM := ifp hM c_4
      refine lv_iload_n hx hb dJ3_checkIndex_8e157_16 rfl (lv_at hl 0 rfl) ?_
      cases hM
      exact g_iret S hr hlk hG hsz dJ3_checkIndex_8e157_17 ⟨Nat.le_of_ble_eq_true rfl, Nat.le_of_ble_eq_true rfl⟩ ⟨rfl, rfl⟩
    · replace hM := ifn hM c_4
      cases hM
def mJ0_checkIndex_df160 (a1 : Int) (a2 : Int) : Option (Int) := bd1 (mJ3_checkIndex_8e157_o a1 a2) fun r_3 => some (0)
set_option maxHeartbeats 4000000 in
set_option maxRecDepth 100000 in
theorem vJ0_checkIndex_df160 (l : Launch) {D : va_G} {cy : Nat → ClassId} {b n : Nat} (hn : 102 ≤ n) {X : Nat → va_E} {S0 : St} (a1 : Int) (a2 : Int) {o1 : Int} (hM : mJ0_checkIndex_df160 a1 a2 = some o1) : gV l yJ0_checkIndex_df160 cJ0_checkIndex_df160 2 1 0 0 D cy b n (enc b cy X S0) [.int (iI a1), .int (iI a2)] (fun u => u = (n, enc b cy X S0)) := by
  refine gV_of (by decide) (Nat.le_of_ble_eq_true rfl) ?_
  intro p e s m args below meth c S hr hlk hin hsz ls hl hG
  have hx := S.1
  have hb := S.2.1
  have hl : lv_has ls 2 [(0, .int (iI a1)), (1, .int (iI a2))] := hl
  replace hG : gW D cy b n s s.heap [] (enc b cy X S0) := hG
  obtain ⟨H, eH⟩ : ∃ H, H = s.heap := ⟨_, rfl⟩
  obtain ⟨locs, elocs⟩ : ∃ locs : List Loc, locs = [] := ⟨_, rfl⟩
  rw [← eH, ← elocs] at hG
  rw [← eH, ← elocs]
  clear eH elocs
  unfold mJ0_checkIndex_df160 at hM
  refine lv_iload_n hx hb dJ0_checkIndex_df160_0 rfl (lv_at hl 0 rfl) ?_
  refine lv_iload_n hx hb dJ0_checkIndex_df160_1 rfl (lv_at hl 1 rfl) ?_
  refine g_gsf S hG wm_800 dJ0_checkIndex_df160_2 (fun ov_1 => ?_)
  obtain ⟨r_3, hc_2, hM⟩ := bd1_some hM
  refine g_si (As := [.int (iI a1), .int (iI a2), va_rf ov_1]) (rest := []) S hG hsz (vJ3_checkIndex_8e157_o l hn  ov_1 a1 a2 hc_2) wS_java_lang_String_1059 dJ0_checkIndex_df160_5 rfl hl.1 (ar := 3) (by decide +kernel) rfl ⟨Nat.le_of_ble_eq_true rfl, Nat.le_of_ble_eq_true rfl, Nat.le_of_ble_eq_true rfl, Nat.le_of_ble_eq_true rfl⟩ (Nat.le_of_ble_eq_true rfl) (fun rv uu H locs hp hG => ?_)
  obtain ⟨rfl, rfl⟩ := hp
  replace hG : gW D cy b n s H locs (enc b cy X S0) := hG
  refine lv_pop hx hb dJ0_checkIndex_df160_8 rfl ?_
  cases hM
  exact g_vret S hr hlk hG hsz dJ0_checkIndex_df160_9 ⟨Nat.le_of_ble_eq_true rfl, Nat.le_of_ble_eq_true rfl⟩ rfl
def mJ1_charAt_3b067_sv (bs : List Int32) (a2 : Int) : Option (Int) := bd1 (mJ0_checkIndex_df160 a2 ((bs.length : Nat) : Int)) fun r_2 => gd ((0 ≤ a2 ∧ a2 < ((bs.length : Nat) : Int)) ∧ (inI a2)) <| gd (0 ≤ (i2cF (an (sby bs a2) 255)) ∧ (i2cF (an (sby bs a2) 255)) ≤ 65535) <| some ((i2cF (an (sby bs a2) 255)))
set_option maxHeartbeats 4000000 in
set_option maxRecDepth 100000 in
theorem vJ1_charAt_3b067_sv (l : Launch) {D : va_G} {cy : Nat → ClassId} {b n : Nat} (hn : 102 ≤ n) {X : Nat → va_E} {S0 : St} {si : Nat} {bs : List Int32} (hsi : isS si bs) (a2 : Int) {o1 : Int} (hM : mJ1_charAt_3b067_sv bs a2 = some o1) : gI l yJ1_charAt_3b067 cJ1_charAt_3b067 2 (some .char) 2 0 0 D cy b n (enc b cy X S0) [.ref (cy (40 + si)), .int (iI a2)] (fun r u => r = iI o1 ∧ u = (n, enc b cy X S0)) := by
  refine gI_of (by decide) (Nat.le_of_ble_eq_true rfl) ?_
  intro p e s m args below meth c S hr hlk hin hsz ls hl hG
  have hx := S.1
  have hb := S.2.1
  have hl : lv_has ls 2 [(0, .ref (cy (40 + si))), (1, .int (iI a2))] := hl
  replace hG : gW D cy b n s s.heap [] (enc b cy X S0) := hG
  obtain ⟨H, eH⟩ : ∃ H, H = s.heap := ⟨_, rfl⟩
  obtain ⟨locs, elocs⟩ : ∃ locs : List Loc, locs = [] := ⟨_, rfl⟩
  rw [← eH, ← elocs] at hG
  rw [← eH, ← elocs]
  clear eH elocs
  unfold mJ1_charAt_3b067_sv at hM
  refine lv_iload_n hx hb dJ1_charAt_3b067_0 rfl (lv_at hl 1 rfl) ?_
  refine lv_aload_n hx hb dJ1_charAt_3b067_1 rfl (lv_at hl 0 rfl) ?_
  refine g_slen S hG hsi dJ1_charAt_3b067_2 ?_
  obtain ⟨r_2, hc_1, hM⟩ := bd1_some hM
  refine g_sv (As := [.int (iI a2), .int (iI ((bs.length : Nat) : Int))]) (rest := []) S hG hsz (vJ0_checkIndex_df160 l hn a2 ((bs.length : Nat) : Int) hc_1) wS_java_lang_StringLatin1_9 dJ1_charAt_3b067_3 rfl hl.1 (ar := 2) (by decide +kernel) rfl ⟨Nat.le_of_ble_eq_true rfl, Nat.le_of_ble_eq_true rfl, Nat.le_of_ble_eq_true rfl, Nat.le_of_ble_eq_true rfl⟩ (Nat.le_of_ble_eq_true rfl) (fun uu H locs hp hG => ?_)
  obtain rfl := hp
  replace hG : gW D cy b n s H locs (enc b cy X S0) := hG
  refine lv_aload_n hx hb dJ1_charAt_3b067_6 rfl (lv_at hl 0 rfl) ?_
  refine lv_iload_n hx hb dJ1_charAt_3b067_7 rfl (lv_at hl 1 rfl) ?_
  obtain ⟨hg_3, hM⟩ := gd_some hM
  refine g_sbald S hG hsi dJ1_charAt_3b067_8 hg_3.1 hg_3.2 ?_
  refine lv_sipush (v := iI 255) hx hb dJ1_charAt_3b067_9 (by decide) ?_
  refine gi_and hx hb dJ1_charAt_3b067_12 ?_
  refine gi_i2c hx hb dJ1_charAt_3b067_13 ?_
  obtain ⟨hg_4, hM⟩ := gd_some hM
  cases hM
  exact g_tret S hr hlk hG hsz dJ1_charAt_3b067_14 ⟨Nat.le_of_ble_eq_true rfl, Nat.le_of_ble_eq_true rfl⟩ (nar_c hg_4) ⟨rfl, rfl⟩
def mJ0_charAt_5068e (bs : List Int32) (a1 : Int) : Option (Int) := bd1 (mJ0_isLatin1_aae02 bs) fun r_2 => gd (inI r_2) <| if r_2 = 0 then (none) else (bd1 (mJ1_charAt_3b067_sv bs a1) fun r_6 => gd (0 ≤ r_6 ∧ r_6 ≤ 65535) <| some (r_6))
set_option maxHeartbeats 4000000 in
set_option maxRecDepth 100000 in
theorem vJ0_charAt_5068e (l : Launch) {D : va_G} {cy : Nat → ClassId} {b n : Nat} (hn : 102 ≤ n) {X : Nat → va_E} {S0 : St} {si : Nat} {bs : List Int32} (hsi : isS si bs) (a1 : Int) {o1 : Int} (hM : mJ0_charAt_5068e bs a1 = some o1) : gI l yJ0_charAt_5068e cJ0_charAt_5068e 2 (some .char) 3 0 0 D cy b n (enc b cy X S0) [.ref (cy (10 + si)), .int (iI a1)] (fun r u => r = iI o1 ∧ u = (n, enc b cy X S0)) := by
  refine gI_of (by decide) (Nat.le_of_ble_eq_true rfl) ?_
  intro p e s m args below meth c S hr hlk hin hsz ls hl hG
  have hx := S.1
  have hb := S.2.1
  have hl : lv_has ls 2 [(0, .ref (cy (10 + si))), (1, .int (iI a1))] := hl
  replace hG : gW D cy b n s s.heap [] (enc b cy X S0) := hG
  obtain ⟨H, eH⟩ : ∃ H, H = s.heap := ⟨_, rfl⟩
  obtain ⟨locs, elocs⟩ : ∃ locs : List Loc, locs = [] := ⟨_, rfl⟩
  rw [← eH, ← elocs] at hG
  rw [← eH, ← elocs]
  clear eH elocs
  unfold mJ0_charAt_5068e at hM
  refine lv_aload_n hx hb dJ0_charAt_5068e_0 rfl (lv_at hl 0 rfl) ?_
  obtain ⟨r_2, hc_1, hM⟩ := bd1_some hM
  refine g_viS (As := []) (rest := []) S hG hsz (vJ0_isLatin1_aae02 l hn hsi   hc_1) wV_java_lang_String_492 hsi rfl dJ0_charAt_5068e_1 rfl hl.1 (ar := 0) (by decide +kernel) rfl ⟨Nat.le_of_ble_eq_true rfl, Nat.le_of_ble_eq_true rfl, Nat.le_of_ble_eq_true rfl, Nat.le_of_ble_eq_true rfl⟩ (Nat.le_of_ble_eq_true rfl) (fun rv uu H locs hp hG => ?_)
  obtain ⟨rfl, rfl⟩ := hp
  replace hG : gW D cy b n s H locs (enc b cy X S0) := hG
  obtain ⟨hg_3, hM⟩ := gd_some hM
  refine gi_if_eq (tgt := 16) hx hb dJ0_charAt_5068e_4 (by decide) hg_3 (fun c_4 => ?_) (fun c_4 => ?_)
  · replace hM := ifp hM c_4
    cases hM
  · replace hM := ifn hM c_4
    refine lv_aload_n hx hb dJ0_charAt_5068e_7 rfl (lv_at hl 0 rfl) ?_
    refine g_sval S hG hsi wm_2450 dJ0_charAt_5068e_8 ?_
    refine lv_iload_n hx hb dJ0_charAt_5068e_11 rfl (lv_at hl 1 rfl) ?_
    obtain ⟨r_6, hc_5, hM⟩ := bd1_some hM
    refine g_si (As := [.ref (cy (40 + si)), .int (iI a1)]) (rest := []) S hG hsz (vJ1_charAt_3b067_sv l hn hsi  a1 hc_5) wS_java_lang_String_495 dJ0_charAt_5068e_12 rfl hl.1 (ar := 2) (by decide +kernel) rfl ⟨Nat.le_of_ble_eq_true rfl, Nat.le_of_ble_eq_true rfl, Nat.le_of_ble_eq_true rfl, Nat.le_of_ble_eq_true rfl⟩ (Nat.le_of_ble_eq_true rfl) (fun rv uu H locs hp hG => ?_)
    obtain ⟨rfl, rfl⟩ := hp
    replace hG : gW D cy b n s H locs (enc b cy X S0) := hG
    obtain ⟨hg_7, hM⟩ := gd_some hM
    cases hM
    exact g_tret S hr hlk hG hsz dJ0_charAt_5068e_15 ⟨Nat.le_of_ble_eq_true rfl, Nat.le_of_ble_eq_true rfl⟩ (nar_c hg_7) ⟨rfl, rfl⟩
def mX12_isWord_33 (bs_3 : List Int32) (S0 : St)  : Nat → Int → Option (Int)
  | 0, _ => none
  | f + 1, v_11 => bd1 (mJ0_length_8abf5 bs_3) fun r_20 => gd ((inI v_11) ∧ (inI r_20)) <| if r_20 ≤ v_11 then (some (1)) else (gd (0 ≤ ((S0 83 7) + v_11) ∧ ((S0 83 7) + v_11) < 400) <| bd1 (mJ0_charAt_5068e bs_3 v_11) fun r_25 => gd ((inI (S0 86 ((S0 83 7) + v_11))) ∧ (inI r_25)) <| if (S0 86 ((S0 83 7) + v_11)) = r_25 then (mX12_isWord_33 bs_3 S0 f (v_11 + 1)) else (some (0)))
def mX12_isWord (S0 : St) (a1 : Int) : Option (Int) := bd1 (mX12_wordOf a1) fun r_2 => bd1 (strB r_2) fun bs_3 => gd (inI (S0 83 8)) <| if (S0 83 8) = 1 then (bd1 (mJ0_length_8abf5 bs_3) fun r_8 => gd ((inI ((S0 83 6) - (S0 83 7))) ∧ (inI r_8)) <| if ((S0 83 6) - (S0 83 7)) = r_8 then (bd1 (mX12_isWord_33 bs_3 S0 FU 0) fun t_12 => if t_12 = 0 then (some (0)) else (some (1))) else (some (0))) else (some (0))
set_option maxHeartbeats 4000000 in
set_option maxRecDepth 100000 in
theorem vX12_isWord (l : Launch) {D : va_G} {cy : Nat → ClassId} {b n : Nat} (hn : 102 ≤ n) {X : Nat → va_E} {S0 : St} (a1 : Int) {o1 : Int} (hM : mX12_isWord S0 a1 = some o1) : gI l yX12_isWord cX12_isWord 4 (some .boolean) 4 0 0 D cy b n (enc b cy X S0) [.ref (b + 80), .int (iI a1)] (fun r u => r = iI o1 ∧ u = (n, enc b cy X S0)) := by
  refine gI_of (by decide) (Nat.le_of_ble_eq_true rfl) ?_
  intro p e s m args below meth c S hr hlk hin hsz ls hl hG
  have hx := S.1
  have hb := S.2.1
  have hl : lv_has ls 4 [(0, .ref (b + 80)), (1, .int (iI a1))] := hl
  replace hG : gW D cy b n s s.heap [] (enc b cy X S0) := hG
  obtain ⟨H, eH⟩ : ∃ H, H = s.heap := ⟨_, rfl⟩
  obtain ⟨locs, elocs⟩ : ∃ locs : List Loc, locs = [] := ⟨_, rfl⟩
  rw [← eH, ← elocs] at hG
  rw [← eH, ← elocs]
  clear eH elocs
  unfold mX12_isWord at hM
  refine lv_iload_n hx hb dX12_isWord_0 rfl (lv_at hl 1 rfl) ?_
  obtain ⟨r_2, hc_1, hM⟩ := bd1_some hM
  refine g_sr (As := [.int (iI a1)]) (rest := []) S hG hsz (vX12_wordOf l hn a1 hc_1) wS_12_147 dX12_isWord_1 rfl hl.1 (ar := 1) (by decide +kernel) rfl ⟨Nat.le_of_ble_eq_true rfl, Nat.le_of_ble_eq_true rfl, Nat.le_of_ble_eq_true rfl, Nat.le_of_ble_eq_true rfl⟩ (Nat.le_of_ble_eq_true rfl) (fun rv uu H locs hp hG => ?_)
  obtain ⟨rfl, rfl⟩ := hp
  replace hG : gW D cy b n s H locs (enc b cy X S0) := hG
  obtain ⟨bs_3, hsi_4, hM⟩ := bd1_some hM
  replace hsi_4 := strB_some hsi_4
  refine lv_astore_n (lv' := [(2, .ref (cy (10 + r_2.toNat))), (0, .ref (b + 80)), (1, .int (iI a1))]) hx hb dX12_isWord_4 rfl hl (by decide) rfl (fun ls hl => ?_)
  refine lv_aload_n hx hb dX12_isWord_5 rfl (lv_at hl 1 rfl) ?_
  refine m_get S hG 80 83 8 rfl ec_83 cpX12 wm_1681 dX12_isWord_6 rfl (Nat.lt_of_lt_of_le (Nat.le_of_ble_eq_true rfl) hn) (by decide) ?_
  refine lv_iconst (v := iI 1) hx hb dX12_isWord_9 (by decide) ?_
  obtain ⟨hg_5, hM⟩ := gd_some hM
  refine gi_icmp_ne (tgt := 29) hx hb dX12_isWord_10 (by decide) hg_5 (by decide) (fun c_6 => ?_) (fun c_6 => ?_)
  · replace hM := ifn hM c_6
    refine lv_iconst (v := iI 0) hx hb dX12_isWord_29 (by decide) ?_
    cases hM
    exact g_zret S hr hlk hG hsz dX12_isWord_30 ⟨Nat.le_of_ble_eq_true rfl, Nat.le_of_ble_eq_true rfl⟩ (nar_z (by decide)) ⟨rfl, rfl⟩
  · replace hM := ifp hM c_6
    refine lv_aload_n hx hb dX12_isWord_13 rfl (lv_at hl 1 rfl) ?_
    refine m_get S hG 80 83 6 rfl ec_83 cpX12 wm_1679 dX12_isWord_14 rfl (Nat.lt_of_lt_of_le (Nat.le_of_ble_eq_true rfl) hn) (by decide) ?_
    refine lv_aload_n hx hb dX12_isWord_17 rfl (lv_at hl 1 rfl) ?_
    refine m_get S hG 80 83 7 rfl ec_83 cpX12 wm_1680 dX12_isWord_18 rfl (Nat.lt_of_lt_of_le (Nat.le_of_ble_eq_true rfl) hn) (by decide) ?_
    refine gi_sub hx hb dX12_isWord_21 ?_
    refine lv_aload_n hx hb dX12_isWord_22 rfl (lv_at hl 0 rfl) ?_
    obtain ⟨r_8, hc_7, hM⟩ := bd1_some hM
    refine g_viS (As := []) (rest := [.int (iI ((S0 83 6) - (S0 83 7)))]) S hG hsz (vJ0_length_8abf5 l hn hsi_4   hc_7) wV_12_151 hsi_4 rfl dX12_isWord_23 rfl hl.1 (ar := 0) (by decide +kernel) rfl ⟨Nat.le_of_ble_eq_true rfl, Nat.le_of_ble_eq_true rfl, Nat.le_of_ble_eq_true rfl, Nat.le_of_ble_eq_true rfl⟩ (Nat.le_of_ble_eq_true rfl) (fun rv uu H locs hp hG => ?_)
    obtain ⟨rfl, rfl⟩ := hp
    replace hG : gW D cy b n s H locs (enc b cy X S0) := hG
    obtain ⟨hg_9, hM⟩ := gd_some hM
    refine gi_icmp_eq (tgt := 31) hx hb dX12_isWord_26 (by decide) hg_9.1 hg_9.2 (fun c_10 => ?_) (fun c_10 => ?_)
    · replace hM := ifp hM c_10
      refine lv_iconst (v := iI 0) hx hb dX12_isWord_31 (by decide) ?_
      refine lv_istore_n (lv' := [(3, .int (iI 0)), (2, .ref (cy (10 + r_2.toNat))), (0, .ref (b + 80)), (1, .int (iI a1))]) hx hb dX12_isWord_32 rfl hl (by decide) rfl (fun ls hl => ?_)
      obtain ⟨t_12, hc_13, hM⟩ := bd1_some hM
      have hK_14 : ∀ (H : Heap) (locs : List Loc) (ls : Array Slot), t_12 = 0 → gW D cy b n s H locs (enc b cy X S0) → lv_has ls 4 [] → W p l e (gRm 4 0 0) s m args below meth c H locs 0 0 (gQI D cy b s args below 0 0 (fun r u => r = iI o1 ∧ u = (n, enc b cy X S0))) (F0 m 60 ls []) := by
        intro H locs ls ht hG hl
        subst ht
        replace hM := ifp hM rfl
        refine lv_iconst (v := iI 0) hx hb dX12_isWord_60 (by decide) ?_
        cases hM
        exact g_zret S hr hlk hG hsz dX12_isWord_61 ⟨Nat.le_of_ble_eq_true rfl, Nat.le_of_ble_eq_true rfl⟩ (nar_z (by decide)) ⟨rfl, rfl⟩
      have hK_15 : ∀ (H : Heap) (locs : List Loc) (ls : Array Slot), t_12 = 1 → gW D cy b n s H locs (enc b cy X S0) → lv_has ls 4 [] → W p l e (gRm 4 0 0) s m args below meth c H locs 0 0 (gQI D cy b s args below 0 0 (fun r u => r = iI o1 ∧ u = (n, enc b cy X S0))) (F0 m 68 ls []) := by
        intro H locs ls ht hG hl
        subst ht
        replace hM := ifn hM (by decide)
        refine lv_iconst (v := iI 1) hx hb dX12_isWord_68 (by decide) ?_
        cases hM
        exact g_zret S hr hlk hG hsz dX12_isWord_69 ⟨Nat.le_of_ble_eq_true rfl, Nat.le_of_ble_eq_true rfl⟩ (nar_z (by decide)) ⟨rfl, rfl⟩
      have loop_16 : ∀ (f : Nat) (v_11 : Int) (H : Heap) (locs : List Loc) (ls : Array Slot), mX12_isWord_33 bs_3 S0 f v_11 = some t_12 → gW D cy b n s H locs (enc b cy X S0) → lv_has ls 4 [(3, .int (iI v_11)), (2, .ref (cy (10 + r_2.toNat))), (0, .ref (b + 80))] → W p l e (gRm 4 0 0) s m args below meth c H locs 0 0 (gQI D cy b s args below 0 0 (fun r u => r = iI o1 ∧ u = (n, enc b cy X S0))) (F0 m 33 ls []) := by
        clear hM
        intro f
        induction f with
        | zero => intro v_11 H locs ls hM; rw [mX12_isWord_33] at hM; cases hM
        | succ f_18 ih_17 =>
          intro v_11 H locs ls hM hG hl
          rw [mX12_isWord_33] at hM
          refine lv_iload_n hx hb dX12_isWord_33 rfl (lv_at hl 0 rfl) ?_
          refine lv_aload_n hx hb dX12_isWord_34 rfl (lv_at hl 1 rfl) ?_
          obtain ⟨r_20, hc_19, hM⟩ := bd1_some hM
          refine g_viS (As := []) (rest := [.int (iI v_11)]) S hG hsz (vJ0_length_8abf5 l hn hsi_4   hc_19) wV_12_151 hsi_4 rfl dX12_isWord_35 rfl hl.1 (ar := 0) (by decide +kernel) rfl ⟨Nat.le_of_ble_eq_true rfl, Nat.le_of_ble_eq_true rfl, Nat.le_of_ble_eq_true rfl, Nat.le_of_ble_eq_true rfl⟩ (Nat.le_of_ble_eq_true rfl) (fun rv uu H locs hp hG => ?_)
          obtain ⟨rfl, rfl⟩ := hp
          replace hG : gW D cy b n s H locs (enc b cy X S0) := hG
          obtain ⟨hg_21, hM⟩ := gd_some hM
          refine gi_icmp_ge (tgt := 68) hx hb dX12_isWord_38 (by decide) hg_21.1 hg_21.2 (fun c_22 => ?_) (fun c_22 => ?_)
          · replace hM := ifp hM c_22
            cases hM
            exact hK_15 H locs ls rfl hG (lv_sub hl [] rfl)
          · replace hM := ifn hM c_22
            refine lv_aload_n hx hb dX12_isWord_41 rfl (lv_at hl 2 rfl) ?_
            refine m_get S hG 80 83 2 rfl ec_83 cpX12 wm_1675 dX12_isWord_42 rfl (Nat.lt_of_lt_of_le (Nat.le_of_ble_eq_true rfl) hn) (by decide) ?_
            refine lv_aload_n hx hb dX12_isWord_45 rfl (lv_at hl 2 rfl) ?_
            refine m_get S hG 80 83 7 rfl ec_83 cpX12 wm_1680 dX12_isWord_46 rfl (Nat.lt_of_lt_of_le (Nat.le_of_ble_eq_true rfl) hn) (by decide) ?_
            refine lv_iload_n hx hb dX12_isWord_49 rfl (lv_at hl 0 rfl) ?_
            refine gi_add hx hb dX12_isWord_50 ?_
            obtain ⟨hg_23, hM⟩ := gd_some hM
            refine mi_ald S hG 83 86 rfl ec_86 (Nat.lt_of_lt_of_le (Nat.le_of_ble_eq_true rfl) hn) dX12_isWord_51 hg_23 (by decide) ?_
            refine lv_aload_n hx hb dX12_isWord_52 rfl (lv_at hl 1 rfl) ?_
            refine lv_iload_n hx hb dX12_isWord_53 rfl (lv_at hl 0 rfl) ?_
            obtain ⟨r_25, hc_24, hM⟩ := bd1_some hM
            refine g_viS (As := [.int (iI v_11)]) (rest := [.int (iI (S0 86 ((S0 83 7) + v_11)))]) S hG hsz (vJ0_charAt_5068e l hn hsi_4  v_11 hc_24) wV_12_157 hsi_4 rfl dX12_isWord_54 rfl hl.1 (ar := 1) (by decide +kernel) rfl ⟨Nat.le_of_ble_eq_true rfl, Nat.le_of_ble_eq_true rfl, Nat.le_of_ble_eq_true rfl, Nat.le_of_ble_eq_true rfl⟩ (Nat.le_of_ble_eq_true rfl) (fun rv uu H locs hp hG => ?_)
            obtain ⟨rfl, rfl⟩ := hp
            replace hG : gW D cy b n s H locs (enc b cy X S0) := hG
            obtain ⟨hg_26, hM⟩ := gd_some hM
            refine gi_icmp_eq (tgt := 62) hx hb dX12_isWord_57 (by decide) hg_26.1 hg_26.2 (fun c_27 => ?_) (fun c_27 => ?_)
            · replace hM := ifp hM c_27
              refine lv_iinc (v := iI (v_11 + 1)) (lv' := [(3, .int (iI (v_11 + 1))), (2, .ref (cy (10 + r_2.toNat))), (0, .ref (b + 80))]) hx hb dX12_isWord_62 hl (k := 0) rfl ((iI_add v_11 (1)).trans (congrArg iI (by omega))) (by decide) rfl (fun ls hl => ?_)
              refine lv_goto (tgt := 33) hx hb dX12_isWord_65 (by decide) ?_
              exact ih_17 (v_11 + 1) H locs ls hM hG (lv_sub hl [0, 1, 2] rfl)
            · replace hM := ifn hM c_27
              cases hM
              exact hK_14 H locs ls rfl hG (lv_sub hl [] rfl)
      exact loop_16 FU 0 H locs ls hc_13 hG (lv_sub hl [0, 1, 2] rfl)
    · replace hM := ifn hM c_10
      refine lv_iconst (v := iI 0) hx hb dX12_isWord_29 (by decide) ?_
      cases hM
      exact g_zret S hr hlk hG hsz dX12_isWord_30 ⟨Nat.le_of_ble_eq_true rfl, Nat.le_of_ble_eq_true rfl⟩ (nar_z (by decide)) ⟨rfl, rfl⟩
theorem wV_12_161 : gWV "GrownKindsModel" 161 yX12_isWord cX12_isWord 4 (some .boolean) := ⟨wm_1863, wm_1865, wm_92, wm_188, wm_1866, by decide +kernel, by decide +kernel⟩
def mX12_key_2 (S0 : St)  : Nat → Int → Option (Int × Int)
  | 0, _ => none
  | f + 1, v_1 => gd (inI v_1) <| if 10 ≤ v_1 then (some (1, v_1)) else (bd1 (mX12_isWord S0 v_1) fun r_13 => gd (inI r_13) <| if r_13 = 0 then (mX12_key_2 S0 f (v_1 + 1)) else (some (0, v_1)))
def mX12_key (S0 : St)  : Option (Int) := bd2 (mX12_key_2 S0 FU 0) fun t_2 y_3 => if t_2 = 0 then (some (y_3)) else (some ((-1)))
set_option maxHeartbeats 4000000 in
set_option maxRecDepth 100000 in
theorem vX12_key (l : Launch) {D : va_G} {cy : Nat → ClassId} {b n : Nat} (hn : 102 ≤ n) {X : Nat → va_E} {S0 : St}  {o1 : Int} (hM : mX12_key S0  = some o1) : gI l yX12_key cX12_key 2 (some .int) 5 0 0 D cy b n (enc b cy X S0) [.ref (b + 80)] (fun r u => r = iI o1 ∧ u = (n, enc b cy X S0)) := by
  refine gI_of (by decide) (Nat.le_of_ble_eq_true rfl) ?_
  intro p e s m args below meth c S hr hlk hin hsz ls hl hG
  have hx := S.1
  have hb := S.2.1
  have hl : lv_has ls 2 [(0, .ref (b + 80))] := hl
  replace hG : gW D cy b n s s.heap [] (enc b cy X S0) := hG
  obtain ⟨H, eH⟩ : ∃ H, H = s.heap := ⟨_, rfl⟩
  obtain ⟨locs, elocs⟩ : ∃ locs : List Loc, locs = [] := ⟨_, rfl⟩
  rw [← eH, ← elocs] at hG
  rw [← eH, ← elocs]
  clear eH elocs
  unfold mX12_key at hM
  refine lv_iconst (v := iI 0) hx hb dX12_key_0 (by decide) ?_
  refine lv_istore_n (lv' := [(1, .int (iI 0)), (0, .ref (b + 80))]) hx hb dX12_key_1 rfl hl (by decide) rfl (fun ls hl => ?_)
  obtain ⟨t_2, y_3, hc_4, hM⟩ := bd2_some hM
  have hK_5 : ∀ (H : Heap) (locs : List Loc) (ls : Array Slot), t_2 = 0 → gW D cy b n s H locs (enc b cy X S0) → lv_has ls 2 [(1, .int (iI y_3))] → W p l e (gRm 5 0 0) s m args below meth c H locs 0 0 (gQI D cy b s args below 0 0 (fun r u => r = iI o1 ∧ u = (n, enc b cy X S0))) (F0 m 16 ls []) := by
    intro H locs ls ht hG hl
    subst ht
    replace hM := ifp hM rfl
    refine lv_iload_n hx hb dX12_key_16 rfl (lv_at hl 0 rfl) ?_
    cases hM
    exact g_iret S hr hlk hG hsz dX12_key_17 ⟨Nat.le_of_ble_eq_true rfl, Nat.le_of_ble_eq_true rfl⟩ ⟨rfl, rfl⟩
  have hK_6 : ∀ (H : Heap) (locs : List Loc) (ls : Array Slot), t_2 = 1 → gW D cy b n s H locs (enc b cy X S0) → lv_has ls 2 [] → W p l e (gRm 5 0 0) s m args below meth c H locs 0 0 (gQI D cy b s args below 0 0 (fun r u => r = iI o1 ∧ u = (n, enc b cy X S0))) (F0 m 24 ls []) := by
    intro H locs ls ht hG hl
    subst ht
    replace hM := ifn hM (by decide)
    refine lv_iconst (v := iI (-1)) hx hb dX12_key_24 (by decide) ?_
    cases hM
    exact g_iret S hr hlk hG hsz dX12_key_25 ⟨Nat.le_of_ble_eq_true rfl, Nat.le_of_ble_eq_true rfl⟩ ⟨rfl, rfl⟩
  have loop_7 : ∀ (f : Nat) (v_1 : Int) (H : Heap) (locs : List Loc) (ls : Array Slot), mX12_key_2 S0 f v_1 = some (t_2, y_3) → gW D cy b n s H locs (enc b cy X S0) → lv_has ls 2 [(1, .int (iI v_1)), (0, .ref (b + 80))] → W p l e (gRm 5 0 0) s m args below meth c H locs 0 0 (gQI D cy b s args below 0 0 (fun r u => r = iI o1 ∧ u = (n, enc b cy X S0))) (F0 m 2 ls []) := by
    clear hM
    intro f
    induction f with
    | zero => intro v_1 H locs ls hM; rw [mX12_key_2] at hM; cases hM
    | succ f_9 ih_8 =>
      intro v_1 H locs ls hM hG hl
      rw [mX12_key_2] at hM
      refine lv_iload_n hx hb dX12_key_2 rfl (lv_at hl 0 rfl) ?_
      refine lv_bipush (v := iI 10) hx hb dX12_key_3 (by decide) ?_
      obtain ⟨hg_10, hM⟩ := gd_some hM
      refine gi_icmp_ge (tgt := 24) hx hb dX12_key_5 (by decide) hg_10 (by decide) (fun c_11 => ?_) (fun c_11 => ?_)
      · replace hM := ifp hM c_11
        cases hM
        exact hK_6 H locs ls rfl hG (lv_sub hl [] rfl)
      · replace hM := ifn hM c_11
        refine lv_aload_n hx hb dX12_key_8 rfl (lv_at hl 1 rfl) ?_
        refine lv_iload_n hx hb dX12_key_9 rfl (lv_at hl 0 rfl) ?_
        obtain ⟨r_13, hc_12, hM⟩ := bd1_some hM
        refine g_vi (As := [.int (iI v_1)]) (rest := []) S hG hsz (vX12_isWord l hn v_1 hc_12) wV_12_161 (ec_83 _) cpX12 (Nat.lt_of_lt_of_le (Nat.le_of_ble_eq_true rfl) hn) dX12_key_10 rfl hl.1 (ar := 1) (by decide +kernel) rfl ⟨Nat.le_of_ble_eq_true rfl, Nat.le_of_ble_eq_true rfl, Nat.le_of_ble_eq_true rfl, Nat.le_of_ble_eq_true rfl⟩ (Nat.le_of_ble_eq_true rfl) (fun rv uu H locs hp hG => ?_)
        obtain ⟨rfl, rfl⟩ := hp
        replace hG : gW D cy b n s H locs (enc b cy X S0) := hG
        obtain ⟨hg_14, hM⟩ := gd_some hM
        refine gi_if_eq (tgt := 18) hx hb dX12_key_13 (by decide) hg_14 (fun c_15 => ?_) (fun c_15 => ?_)
        · replace hM := ifp hM c_15
          refine lv_iinc (v := iI (v_1 + 1)) (lv' := [(1, .int (iI (v_1 + 1))), (0, .ref (b + 80))]) hx hb dX12_key_18 hl (k := 0) rfl ((iI_add v_1 (1)).trans (congrArg iI (by omega))) (by decide) rfl (fun ls hl => ?_)
          refine lv_goto (tgt := 2) hx hb dX12_key_21 (by decide) ?_
          exact ih_8 (v_1 + 1) H locs ls hM hG (lv_sub hl [0, 1] rfl)
        · replace hM := ifn hM c_15
          cases hM
          exact hK_5 H locs ls rfl hG (lv_sub hl [0] rfl)
  exact loop_7 FU 0 H locs ls hc_4 hG (lv_sub hl [0, 1] rfl)
def mX12_needsWord (S0 : St) (a1 : Int) : Option (St) := bd1 (mX12_isWord S0 a1) fun r_2 => gd (inI r_2) <| if r_2 = 0 then (bd2 (mX12_faults S0 1) fun r_10 S_11 => gd (inI (S_11 83 10)) <| if (S_11 83 10) = 0 then (bd1 (mX12_next S_11) fun S_15 => some (S_15)) else (some (S_11))) else (gd (inI (S0 83 10)) <| if (S0 83 10) = 0 then (bd1 (mX12_next S0) fun S_8 => some (S_8)) else (some (S0)))
set_option maxHeartbeats 4000000 in
set_option maxRecDepth 100000 in
theorem vX12_needsWord (l : Launch) {D : va_G} {cy : Nat → ClassId} {b n : Nat} (hn : 102 ≤ n) {X : Nat → va_E} {S0 : St} (a1 : Int) {o1 : St} (hM : mX12_needsWord S0 a1 = some o1) : gV l yX12_needsWord cX12_needsWord 2 5 0 0 D cy b n (enc b cy X S0) [.ref (b + 80), .int (iI a1)] (fun u => u = (n, enc b cy X o1)) := by
  refine gV_of (by decide) (Nat.le_of_ble_eq_true rfl) ?_
  intro p e s m args below meth c S hr hlk hin hsz ls hl hG
  have hx := S.1
  have hb := S.2.1
  have hl : lv_has ls 2 [(0, .ref (b + 80)), (1, .int (iI a1))] := hl
  replace hG : gW D cy b n s s.heap [] (enc b cy X S0) := hG
  obtain ⟨H, eH⟩ : ∃ H, H = s.heap := ⟨_, rfl⟩
  obtain ⟨locs, elocs⟩ : ∃ locs : List Loc, locs = [] := ⟨_, rfl⟩
  rw [← eH, ← elocs] at hG
  rw [← eH, ← elocs]
  clear eH elocs
  unfold mX12_needsWord at hM
  refine lv_aload_n hx hb dX12_needsWord_0 rfl (lv_at hl 0 rfl) ?_
  refine lv_iload_n hx hb dX12_needsWord_1 rfl (lv_at hl 1 rfl) ?_
  obtain ⟨r_2, hc_1, hM⟩ := bd1_some hM
  refine g_vi (As := [.int (iI a1)]) (rest := []) S hG hsz (vX12_isWord l hn a1 hc_1) wV_12_161 (ec_83 _) cpX12 (Nat.lt_of_lt_of_le (Nat.le_of_ble_eq_true rfl) hn) dX12_needsWord_2 rfl hl.1 (ar := 1) (by decide +kernel) rfl ⟨Nat.le_of_ble_eq_true rfl, Nat.le_of_ble_eq_true rfl, Nat.le_of_ble_eq_true rfl, Nat.le_of_ble_eq_true rfl⟩ (Nat.le_of_ble_eq_true rfl) (fun rv uu H locs hp hG => ?_)
  obtain ⟨rfl, rfl⟩ := hp
  replace hG : gW D cy b n s H locs (enc b cy X S0) := hG
  obtain ⟨hg_3, hM⟩ := gd_some hM
  refine gi_if_ne (tgt := 14) hx hb dX12_needsWord_5 (by decide) hg_3 (fun c_4 => ?_) (fun c_4 => ?_)
  · replace hM := ifn hM c_4
    refine lv_aload_n hx hb dX12_needsWord_14 rfl (lv_at hl 0 rfl) ?_
    refine m_get S hG 80 83 10 rfl ec_83 cpX12 wm_1683 dX12_needsWord_15 rfl (Nat.lt_of_lt_of_le (Nat.le_of_ble_eq_true rfl) hn) (by decide) ?_
    obtain ⟨hg_5, hM⟩ := gd_some hM
    refine gi_if_ne (tgt := 25) hx hb dX12_needsWord_18 (by decide) hg_5 (fun c_6 => ?_) (fun c_6 => ?_)
    · replace hM := ifn hM c_6
      cases hM
      exact g_vret S hr hlk hG hsz dX12_needsWord_25 ⟨Nat.le_of_ble_eq_true rfl, Nat.le_of_ble_eq_true rfl⟩ rfl
    · replace hM := ifp hM c_6
      refine lv_aload_n hx hb dX12_needsWord_21 rfl (lv_at hl 0 rfl) ?_
      obtain ⟨S_8, hc_7, hM⟩ := bd1_some hM
      refine g_vv (As := []) (rest := []) S hG hsz (vX12_next l hn  hc_7) wV_12_173 (ec_83 _) cpX12 (Nat.lt_of_lt_of_le (Nat.le_of_ble_eq_true rfl) hn) dX12_needsWord_22 rfl hl.1 (ar := 0) (by decide +kernel) rfl ⟨Nat.le_of_ble_eq_true rfl, Nat.le_of_ble_eq_true rfl, Nat.le_of_ble_eq_true rfl, Nat.le_of_ble_eq_true rfl⟩ (Nat.le_of_ble_eq_true rfl) (fun uu H locs hp hG => ?_)
      obtain rfl := hp
      replace hG : gW D cy b n s H locs (enc b cy X S_8) := hG
      cases hM
      exact g_vret S hr hlk hG hsz dX12_needsWord_25 ⟨Nat.le_of_ble_eq_true rfl, Nat.le_of_ble_eq_true rfl⟩ rfl
  · replace hM := ifp hM c_4
    refine lv_aload_n hx hb dX12_needsWord_8 rfl (lv_at hl 0 rfl) ?_
    refine lv_iconst (v := iI 1) hx hb dX12_needsWord_9 (by decide) ?_
    obtain ⟨r_10, S_11, hc_9, hM⟩ := bd2_some hM
    refine g_vi (As := [.int (iI 1)]) (rest := []) S hG hsz (vX12_faults l hn 1 hc_9) wV_12_169 (ec_83 _) cpX12 (Nat.lt_of_lt_of_le (Nat.le_of_ble_eq_true rfl) hn) dX12_needsWord_10 rfl hl.1 (ar := 1) (by decide +kernel) rfl ⟨Nat.le_of_ble_eq_true rfl, Nat.le_of_ble_eq_true rfl, Nat.le_of_ble_eq_true rfl, Nat.le_of_ble_eq_true rfl⟩ (Nat.le_of_ble_eq_true rfl) (fun rv uu H locs hp hG => ?_)
    obtain ⟨rfl, rfl⟩ := hp
    replace hG : gW D cy b n s H locs (enc b cy X S_11) := hG
    refine lv_pop hx hb dX12_needsWord_13 rfl ?_
    refine lv_aload_n hx hb dX12_needsWord_14 rfl (lv_at hl 0 rfl) ?_
    refine m_get S hG 80 83 10 rfl ec_83 cpX12 wm_1683 dX12_needsWord_15 rfl (Nat.lt_of_lt_of_le (Nat.le_of_ble_eq_true rfl) hn) (by decide) ?_
    obtain ⟨hg_12, hM⟩ := gd_some hM
    refine gi_if_ne (tgt := 25) hx hb dX12_needsWord_18 (by decide) hg_12 (fun c_13 => ?_) (fun c_13 => ?_)
    · replace hM := ifn hM c_13
      cases hM
      exact g_vret S hr hlk hG hsz dX12_needsWord_25 ⟨Nat.le_of_ble_eq_true rfl, Nat.le_of_ble_eq_true rfl⟩ rfl
    · replace hM := ifp hM c_13
      refine lv_aload_n hx hb dX12_needsWord_21 rfl (lv_at hl 0 rfl) ?_
      obtain ⟨S_15, hc_14, hM⟩ := bd1_some hM
      refine g_vv (As := []) (rest := []) S hG hsz (vX12_next l hn  hc_14) wV_12_173 (ec_83 _) cpX12 (Nat.lt_of_lt_of_le (Nat.le_of_ble_eq_true rfl) hn) dX12_needsWord_22 rfl hl.1 (ar := 0) (by decide +kernel) rfl ⟨Nat.le_of_ble_eq_true rfl, Nat.le_of_ble_eq_true rfl, Nat.le_of_ble_eq_true rfl, Nat.le_of_ble_eq_true rfl⟩ (Nat.le_of_ble_eq_true rfl) (fun uu H locs hp hG => ?_)
      obtain rfl := hp
      replace hG : gW D cy b n s H locs (enc b cy X S_15) := hG
      cases hM
      exact g_vret S hr hlk hG hsz dX12_needsWord_25 ⟨Nat.le_of_ble_eq_true rfl, Nat.le_of_ble_eq_true rfl⟩ rfl
theorem wV_12_183 : gWV "GrownKindsModel" 183 yX12_key cX12_key 2 (some .int) := ⟨wm_1890, wm_1892, wm_95, wm_188, wm_1893, by decide +kernel, by decide +kernel⟩
theorem wV_12_186 : gWV "GrownKindsModel" 186 yX12_named cX12_named 4 (some .int) := ⟨wm_1894, wm_1896, wm_96, wm_188, wm_1897, by decide +kernel, by decide +kernel⟩
def mX12_readsName_92 (x_21 : Int) : Nat → Int → St → Option (St)
  | 0, _, _ => none
  | f + 1, v_24, S_25 => gd ((inI v_24) ∧ (inI (S_25 88 x_21))) <| if (S_25 88 x_21) ≤ v_24 then (some (S_25)) else (gd (0 ≤ ((S_25 83 7) + v_24) ∧ ((S_25 83 7) + v_24) < 400) <| gd (0 ≤ ((8 * x_21) + v_24) ∧ ((8 * x_21) + v_24) < 48) <| nx (up S_25 87 ((8 * x_21) + v_24) (S_25 86 ((S_25 83 7) + v_24))) fun S_39 => mX12_readsName_92 x_21 f (v_24 + 1) S_39)
def mX12_readsName (S0 : St)  : Option (St) := gd (inI (S0 83 8)) <| if (S0 83 8) = 1 then (bd1 (mX12_key S0) fun r_7 => gd (inI r_7) <| if r_7 < 0 then (gd (inI ((S0 83 6) - (S0 83 7))) <| if 8 < ((S0 83 6) - (S0 83 7)) then (bd2 (mX12_faults S0 2) fun r_13 S_14 => some (S_14)) else (bd1 (mX12_named S0) fun r_16 => gd (inI r_16) <| if r_16 < 0 then (gd (inI (S0 84 0)) <| if (S0 84 0) = 6 then (bd2 (mX12_faults S0 3) fun r_41 S_42 => some (S_42)) else (nx (S0 84 0) fun x_21 => gd (0 ≤ x_21 ∧ x_21 < 6) <| nx (up S0 88 x_21 ((S0 83 6) - (S0 83 7))) fun S_23 => bd1 (mX12_readsName_92 x_21 FU 0 S_23) fun S_26 => nx (up S_26 84 0 ((S_26 84 0) + 1)) fun S_29 => bd1 (mX12_next S_29) fun S_31 => some (S_31))) else (bd2 (mX12_faults S0 2) fun r_44 S_45 => some (S_45)))) else (bd2 (mX12_faults S0 1) fun r_47 S_48 => some (S_48))) else (bd2 (mX12_faults S0 1) fun r_4 S_5 => some (S_5))
set_option maxHeartbeats 4000000 in
set_option maxRecDepth 100000 in
theorem vX12_readsName (l : Launch) {D : va_G} {cy : Nat → ClassId} {b n : Nat} (hn : 102 ≤ n) {X : Nat → va_E} {S0 : St}  {o1 : St} (hM : mX12_readsName S0  = some o1) : gV l yX12_readsName cX12_readsName 3 6 0 0 D cy b n (enc b cy X S0) [.ref (b + 80)] (fun u => u = (n, enc b cy X o1)) := by
  refine gV_of (by decide) (Nat.le_of_ble_eq_true rfl) ?_
  intro p e s m args below meth c S hr hlk hin hsz ls hl hG
  have hx := S.1
  have hb := S.2.1
  have hl : lv_has ls 3 [(0, .ref (b + 80))] := hl
  replace hG : gW D cy b n s s.heap [] (enc b cy X S0) := hG
  obtain ⟨H, eH⟩ : ∃ H, H = s.heap := ⟨_, rfl⟩
  obtain ⟨locs, elocs⟩ : ∃ locs : List Loc, locs = [] := ⟨_, rfl⟩
  rw [← eH, ← elocs] at hG
  rw [← eH, ← elocs]
  clear eH elocs
  unfold mX12_readsName at hM
  refine lv_aload_n hx hb dX12_readsName_0 rfl (lv_at hl 0 rfl) ?_
  refine m_get S hG 80 83 8 rfl ec_83 cpX12 wm_1681 dX12_readsName_1 rfl (Nat.lt_of_lt_of_le (Nat.le_of_ble_eq_true rfl) hn) (by decide) ?_
  refine lv_iconst (v := iI 1) hx hb dX12_readsName_4 (by decide) ?_
  obtain ⟨hg_1, hM⟩ := gd_some hM
  refine gi_icmp_ne (tgt := 15) hx hb dX12_readsName_5 (by decide) hg_1 (by decide) (fun c_2 => ?_) (fun c_2 => ?_)
  · replace hM := ifn hM c_2
    refine lv_aload_n hx hb dX12_readsName_15 rfl (lv_at hl 0 rfl) ?_
    refine lv_iconst (v := iI 1) hx hb dX12_readsName_16 (by decide) ?_
    obtain ⟨r_4, S_5, hc_3, hM⟩ := bd2_some hM
    refine g_vi (As := [.int (iI 1)]) (rest := []) S hG hsz (vX12_faults l hn 1 hc_3) wV_12_169 (ec_83 _) cpX12 (Nat.lt_of_lt_of_le (Nat.le_of_ble_eq_true rfl) hn) dX12_readsName_17 rfl hl.1 (ar := 1) (by decide +kernel) rfl ⟨Nat.le_of_ble_eq_true rfl, Nat.le_of_ble_eq_true rfl, Nat.le_of_ble_eq_true rfl, Nat.le_of_ble_eq_true rfl⟩ (Nat.le_of_ble_eq_true rfl) (fun rv uu H locs hp hG => ?_)
    obtain ⟨rfl, rfl⟩ := hp
    replace hG : gW D cy b n s H locs (enc b cy X S_5) := hG
    refine lv_pop hx hb dX12_readsName_20 rfl ?_
    cases hM
    exact g_vret S hr hlk hG hsz dX12_readsName_21 ⟨Nat.le_of_ble_eq_true rfl, Nat.le_of_ble_eq_true rfl⟩ rfl
  · replace hM := ifp hM c_2
    refine lv_aload_n hx hb dX12_readsName_8 rfl (lv_at hl 0 rfl) ?_
    obtain ⟨r_7, hc_6, hM⟩ := bd1_some hM
    refine g_vi (As := []) (rest := []) S hG hsz (vX12_key l hn  hc_6) wV_12_183 (ec_83 _) cpX12 (Nat.lt_of_lt_of_le (Nat.le_of_ble_eq_true rfl) hn) dX12_readsName_9 rfl hl.1 (ar := 0) (by decide +kernel) rfl ⟨Nat.le_of_ble_eq_true rfl, Nat.le_of_ble_eq_true rfl, Nat.le_of_ble_eq_true rfl, Nat.le_of_ble_eq_true rfl⟩ (Nat.le_of_ble_eq_true rfl) (fun rv uu H locs hp hG => ?_)
    obtain ⟨rfl, rfl⟩ := hp
    replace hG : gW D cy b n s H locs (enc b cy X S0) := hG
    obtain ⟨hg_8, hM⟩ := gd_some hM
    refine gi_if_lt (tgt := 22) hx hb dX12_readsName_12 (by decide) hg_8 (fun c_9 => ?_) (fun c_9 => ?_)
    · replace hM := ifp hM c_9
      refine lv_aload_n hx hb dX12_readsName_22 rfl (lv_at hl 0 rfl) ?_
      refine m_get S hG 80 83 6 rfl ec_83 cpX12 wm_1679 dX12_readsName_23 rfl (Nat.lt_of_lt_of_le (Nat.le_of_ble_eq_true rfl) hn) (by decide) ?_
      refine lv_aload_n hx hb dX12_readsName_26 rfl (lv_at hl 0 rfl) ?_
      refine m_get S hG 80 83 7 rfl ec_83 cpX12 wm_1680 dX12_readsName_27 rfl (Nat.lt_of_lt_of_le (Nat.le_of_ble_eq_true rfl) hn) (by decide) ?_
      refine gi_sub hx hb dX12_readsName_30 ?_
      refine lv_bipush (v := iI 8) hx hb dX12_readsName_31 (by decide) ?_
      obtain ⟨hg_10, hM⟩ := gd_some hM
      refine gi_icmp_gt (tgt := 43) hx hb dX12_readsName_33 (by decide) hg_10 (by decide) (fun c_11 => ?_) (fun c_11 => ?_)
      · replace hM := ifp hM c_11
        refine lv_aload_n hx hb dX12_readsName_43 rfl (lv_at hl 0 rfl) ?_
        refine lv_iconst (v := iI 2) hx hb dX12_readsName_44 (by decide) ?_
        obtain ⟨r_13, S_14, hc_12, hM⟩ := bd2_some hM
        refine g_vi (As := [.int (iI 2)]) (rest := []) S hG hsz (vX12_faults l hn 2 hc_12) wV_12_169 (ec_83 _) cpX12 (Nat.lt_of_lt_of_le (Nat.le_of_ble_eq_true rfl) hn) dX12_readsName_45 rfl hl.1 (ar := 1) (by decide +kernel) rfl ⟨Nat.le_of_ble_eq_true rfl, Nat.le_of_ble_eq_true rfl, Nat.le_of_ble_eq_true rfl, Nat.le_of_ble_eq_true rfl⟩ (Nat.le_of_ble_eq_true rfl) (fun rv uu H locs hp hG => ?_)
        obtain ⟨rfl, rfl⟩ := hp
        replace hG : gW D cy b n s H locs (enc b cy X S_14) := hG
        refine lv_pop hx hb dX12_readsName_48 rfl ?_
        cases hM
        exact g_vret S hr hlk hG hsz dX12_readsName_49 ⟨Nat.le_of_ble_eq_true rfl, Nat.le_of_ble_eq_true rfl⟩ rfl
      · replace hM := ifn hM c_11
        refine lv_aload_n hx hb dX12_readsName_36 rfl (lv_at hl 0 rfl) ?_
        obtain ⟨r_16, hc_15, hM⟩ := bd1_some hM
        refine g_vi (As := []) (rest := []) S hG hsz (vX12_named l hn  hc_15) wV_12_186 (ec_83 _) cpX12 (Nat.lt_of_lt_of_le (Nat.le_of_ble_eq_true rfl) hn) dX12_readsName_37 rfl hl.1 (ar := 0) (by decide +kernel) rfl ⟨Nat.le_of_ble_eq_true rfl, Nat.le_of_ble_eq_true rfl, Nat.le_of_ble_eq_true rfl, Nat.le_of_ble_eq_true rfl⟩ (Nat.le_of_ble_eq_true rfl) (fun rv uu H locs hp hG => ?_)
        obtain ⟨rfl, rfl⟩ := hp
        replace hG : gW D cy b n s H locs (enc b cy X S0) := hG
        obtain ⟨hg_17, hM⟩ := gd_some hM
        refine gi_if_lt (tgt := 50) hx hb dX12_readsName_40 (by decide) hg_17 (fun c_18 => ?_) (fun c_18 => ?_)
        · replace hM := ifp hM c_18
          refine lv_aload_n hx hb dX12_readsName_50 rfl (lv_at hl 0 rfl) ?_
          refine m_get S hG 80 83 0 rfl ec_83 cpX12 wm_1673 dX12_readsName_51 rfl (Nat.lt_of_lt_of_le (Nat.le_of_ble_eq_true rfl) hn) (by decide) ?_
          refine lv_iconst (v := iI 0) hx hb dX12_readsName_54 (by decide) ?_
          refine mi_ald S hG 81 84 rfl ec_84 (Nat.lt_of_lt_of_le (Nat.le_of_ble_eq_true rfl) hn) dX12_readsName_55 (by decide) (by decide) ?_
          refine lv_bipush (v := iI 6) hx hb dX12_readsName_56 (by decide) ?_
          obtain ⟨hg_19, hM⟩ := gd_some hM
          refine gi_icmp_ne (tgt := 68) hx hb dX12_readsName_58 (by decide) hg_19 (by decide) (fun c_20 => ?_) (fun c_20 => ?_)
          · replace hM := ifn hM c_20
            refine lv_aload_n hx hb dX12_readsName_68 rfl (lv_at hl 0 rfl) ?_
            refine m_get S hG 80 83 0 rfl ec_83 cpX12 wm_1673 dX12_readsName_69 rfl (Nat.lt_of_lt_of_le (Nat.le_of_ble_eq_true rfl) hn) (by decide) ?_
            refine lv_iconst (v := iI 0) hx hb dX12_readsName_72 (by decide) ?_
            refine mi_ald S hG 81 84 rfl ec_84 (Nat.lt_of_lt_of_le (Nat.le_of_ble_eq_true rfl) hn) dX12_readsName_73 (by decide) (by decide) ?_
            refine gi_nm (fun x_21 ex_21 => ?_)
            replace hM := nx_at hM ex_21
            clear ex_21
            refine lv_istore_n (lv' := [(1, .int (iI x_21)), (0, .ref (b + 80))]) hx hb dX12_readsName_74 rfl hl (by decide) rfl (fun ls hl => ?_)
            refine lv_aload_n hx hb dX12_readsName_75 rfl (lv_at hl 1 rfl) ?_
            refine m_get S hG 80 83 12 rfl ec_83 cpX12 wm_1685 dX12_readsName_76 rfl (Nat.lt_of_lt_of_le (Nat.le_of_ble_eq_true rfl) hn) (by decide) ?_
            refine lv_iload_n hx hb dX12_readsName_79 rfl (lv_at hl 0 rfl) ?_
            refine lv_aload_n hx hb dX12_readsName_80 rfl (lv_at hl 1 rfl) ?_
            refine m_get S hG 80 83 6 rfl ec_83 cpX12 wm_1679 dX12_readsName_81 rfl (Nat.lt_of_lt_of_le (Nat.le_of_ble_eq_true rfl) hn) (by decide) ?_
            refine lv_aload_n hx hb dX12_readsName_84 rfl (lv_at hl 1 rfl) ?_
            refine m_get S hG 80 83 7 rfl ec_83 cpX12 wm_1680 dX12_readsName_85 rfl (Nat.lt_of_lt_of_le (Nat.le_of_ble_eq_true rfl) hn) (by decide) ?_
            refine gi_sub hx hb dX12_readsName_88 ?_
            obtain ⟨hg_22, hM⟩ := gd_some hM
            refine mi_ast S hG 85 88 rfl ec_88 (Nat.lt_of_lt_of_le (Nat.le_of_ble_eq_true rfl) hn) dX12_readsName_89 hg_22 (by decide) (fun H locs S_23 eS_23 hG => ?_)
            replace hM := nx_at hM eS_23
            clear eS_23
            refine lv_iconst (v := iI 0) hx hb dX12_readsName_90 (by decide) ?_
            refine lv_istore_n (lv' := [(2, .int (iI 0)), (1, .int (iI x_21)), (0, .ref (b + 80))]) hx hb dX12_readsName_91 rfl hl (by decide) rfl (fun ls hl => ?_)
            obtain ⟨S_26, hc_27, hM⟩ := bd1_some hM
            have hK_28 : ∀ (H : Heap) (locs : List Loc) (ls : Array Slot), gW D cy b n s H locs (enc b cy X S_26) → lv_has ls 3 [(0, .ref (b + 80))] → W p l e (gRm 6 0 0) s m args below meth c H locs 0 0 (gQV D cy b s args below 0 0 (fun u => u = (n, enc b cy X o1))) (F0 m 130 ls []) := by
              intro H locs ls hG hl
              refine lv_aload_n hx hb dX12_readsName_130 rfl (lv_at hl 0 rfl) ?_
              refine m_get S hG 80 83 0 rfl ec_83 cpX12 wm_1673 dX12_readsName_131 rfl (Nat.lt_of_lt_of_le (Nat.le_of_ble_eq_true rfl) hn) (by decide) ?_
              refine lv_iconst (v := iI 0) hx hb dX12_readsName_134 (by decide) ?_
              refine lv_dup2_11 hx hb dX12_readsName_135 rfl rfl ?_
              refine mi_ald S hG 81 84 rfl ec_84 (Nat.lt_of_lt_of_le (Nat.le_of_ble_eq_true rfl) hn) dX12_readsName_136 (by decide) (by decide) ?_
              refine lv_iconst (v := iI 1) hx hb dX12_readsName_137 (by decide) ?_
              refine gi_add hx hb dX12_readsName_138 ?_
              refine mi_ast S hG 81 84 rfl ec_84 (Nat.lt_of_lt_of_le (Nat.le_of_ble_eq_true rfl) hn) dX12_readsName_139 (by decide) (by decide) (fun H locs S_29 eS_29 hG => ?_)
              replace hM := nx_at hM eS_29
              clear eS_29
              refine lv_aload_n hx hb dX12_readsName_140 rfl (lv_at hl 0 rfl) ?_
              obtain ⟨S_31, hc_30, hM⟩ := bd1_some hM
              refine g_vv (As := []) (rest := []) S hG hsz (vX12_next l hn  hc_30) wV_12_173 (ec_83 _) cpX12 (Nat.lt_of_lt_of_le (Nat.le_of_ble_eq_true rfl) hn) dX12_readsName_141 rfl hl.1 (ar := 0) (by decide +kernel) rfl ⟨Nat.le_of_ble_eq_true rfl, Nat.le_of_ble_eq_true rfl, Nat.le_of_ble_eq_true rfl, Nat.le_of_ble_eq_true rfl⟩ (Nat.le_of_ble_eq_true rfl) (fun uu H locs hp hG => ?_)
              obtain rfl := hp
              replace hG : gW D cy b n s H locs (enc b cy X S_31) := hG
              cases hM
              exact g_vret S hr hlk hG hsz dX12_readsName_144 ⟨Nat.le_of_ble_eq_true rfl, Nat.le_of_ble_eq_true rfl⟩ rfl
            have loop_32 : ∀ (f : Nat) (v_24 : Int) (S_25 : St) (H : Heap) (locs : List Loc) (ls : Array Slot), mX12_readsName_92 x_21 f v_24 S_25 = some S_26 → gW D cy b n s H locs (enc b cy X S_25) → lv_has ls 3 [(2, .int (iI v_24)), (1, .int (iI x_21)), (0, .ref (b + 80))] → W p l e (gRm 6 0 0) s m args below meth c H locs 0 0 (gQV D cy b s args below 0 0 (fun u => u = (n, enc b cy X o1))) (F0 m 92 ls []) := by
              clear hM
              intro f
              induction f with
              | zero => intro v_24 S_25 H locs ls hM; rw [mX12_readsName_92] at hM; cases hM
              | succ f_34 ih_33 =>
                intro v_24 S_25 H locs ls hM hG hl
                rw [mX12_readsName_92] at hM
                refine lv_iload_n hx hb dX12_readsName_92 rfl (lv_at hl 0 rfl) ?_
                refine lv_aload_n hx hb dX12_readsName_93 rfl (lv_at hl 2 rfl) ?_
                refine m_get S hG 80 83 12 rfl ec_83 cpX12 wm_1685 dX12_readsName_94 rfl (Nat.lt_of_lt_of_le (Nat.le_of_ble_eq_true rfl) hn) (by decide) ?_
                refine lv_iload_n hx hb dX12_readsName_97 rfl (lv_at hl 1 rfl) ?_
                refine mi_ald S hG 85 88 rfl ec_88 (Nat.lt_of_lt_of_le (Nat.le_of_ble_eq_true rfl) hn) dX12_readsName_98 hg_22 (by decide) ?_
                obtain ⟨hg_35, hM⟩ := gd_some hM
                refine gi_icmp_ge (tgt := 130) hx hb dX12_readsName_99 (by decide) hg_35.1 hg_35.2 (fun c_36 => ?_) (fun c_36 => ?_)
                · replace hM := ifp hM c_36
                  cases hM
                  exact hK_28 H locs ls hG (lv_sub hl [2] rfl)
                · replace hM := ifn hM c_36
                  refine lv_aload_n hx hb dX12_readsName_102 rfl (lv_at hl 2 rfl) ?_
                  refine m_get S hG 80 83 11 rfl ec_83 cpX12 wm_1684 dX12_readsName_103 rfl (Nat.lt_of_lt_of_le (Nat.le_of_ble_eq_true rfl) hn) (by decide) ?_
                  refine lv_bipush (v := iI 8) hx hb dX12_readsName_106 (by decide) ?_
                  refine lv_iload_n hx hb dX12_readsName_108 rfl (lv_at hl 1 rfl) ?_
                  refine gi_mul hx hb dX12_readsName_109 ?_
                  refine lv_iload_n hx hb dX12_readsName_110 rfl (lv_at hl 0 rfl) ?_
                  refine gi_add hx hb dX12_readsName_111 ?_
                  refine lv_aload_n hx hb dX12_readsName_112 rfl (lv_at hl 2 rfl) ?_
                  refine m_get S hG 80 83 2 rfl ec_83 cpX12 wm_1675 dX12_readsName_113 rfl (Nat.lt_of_lt_of_le (Nat.le_of_ble_eq_true rfl) hn) (by decide) ?_
                  refine lv_aload_n hx hb dX12_readsName_116 rfl (lv_at hl 2 rfl) ?_
                  refine m_get S hG 80 83 7 rfl ec_83 cpX12 wm_1680 dX12_readsName_117 rfl (Nat.lt_of_lt_of_le (Nat.le_of_ble_eq_true rfl) hn) (by decide) ?_
                  refine lv_iload_n hx hb dX12_readsName_120 rfl (lv_at hl 0 rfl) ?_
                  refine gi_add hx hb dX12_readsName_121 ?_
                  obtain ⟨hg_37, hM⟩ := gd_some hM
                  refine mi_ald S hG 83 86 rfl ec_86 (Nat.lt_of_lt_of_le (Nat.le_of_ble_eq_true rfl) hn) dX12_readsName_122 hg_37 (by decide) ?_
                  obtain ⟨hg_38, hM⟩ := gd_some hM
                  refine mi_ast S hG 84 87 rfl ec_87 (Nat.lt_of_lt_of_le (Nat.le_of_ble_eq_true rfl) hn) dX12_readsName_123 hg_38 (by decide) (fun H locs S_39 eS_39 hG => ?_)
                  replace hM := nx_at hM eS_39
                  clear eS_39
                  refine lv_iinc (v := iI (v_24 + 1)) (lv' := [(2, .int (iI (v_24 + 1))), (1, .int (iI x_21)), (0, .ref (b + 80))]) hx hb dX12_readsName_124 hl (k := 0) rfl ((iI_add v_24 (1)).trans (congrArg iI (by omega))) (by decide) rfl (fun ls hl => ?_)
                  refine lv_goto (tgt := 92) hx hb dX12_readsName_127 (by decide) ?_
                  exact ih_33 (v_24 + 1) S_39 H locs ls hM hG (lv_sub hl [0, 1, 2] rfl)
            exact loop_32 FU 0 S_23 H locs ls hc_27 hG (lv_sub hl [0, 1, 2] rfl)
          · replace hM := ifp hM c_20
            refine lv_aload_n hx hb dX12_readsName_61 rfl (lv_at hl 0 rfl) ?_
            refine lv_iconst (v := iI 3) hx hb dX12_readsName_62 (by decide) ?_
            obtain ⟨r_41, S_42, hc_40, hM⟩ := bd2_some hM
            refine g_vi (As := [.int (iI 3)]) (rest := []) S hG hsz (vX12_faults l hn 3 hc_40) wV_12_169 (ec_83 _) cpX12 (Nat.lt_of_lt_of_le (Nat.le_of_ble_eq_true rfl) hn) dX12_readsName_63 rfl hl.1 (ar := 1) (by decide +kernel) rfl ⟨Nat.le_of_ble_eq_true rfl, Nat.le_of_ble_eq_true rfl, Nat.le_of_ble_eq_true rfl, Nat.le_of_ble_eq_true rfl⟩ (Nat.le_of_ble_eq_true rfl) (fun rv uu H locs hp hG => ?_)
            obtain ⟨rfl, rfl⟩ := hp
            replace hG : gW D cy b n s H locs (enc b cy X S_42) := hG
            refine lv_pop hx hb dX12_readsName_66 rfl ?_
            cases hM
            exact g_vret S hr hlk hG hsz dX12_readsName_67 ⟨Nat.le_of_ble_eq_true rfl, Nat.le_of_ble_eq_true rfl⟩ rfl
        · replace hM := ifn hM c_18
          refine lv_aload_n hx hb dX12_readsName_43 rfl (lv_at hl 0 rfl) ?_
          refine lv_iconst (v := iI 2) hx hb dX12_readsName_44 (by decide) ?_
          obtain ⟨r_44, S_45, hc_43, hM⟩ := bd2_some hM
          refine g_vi (As := [.int (iI 2)]) (rest := []) S hG hsz (vX12_faults l hn 2 hc_43) wV_12_169 (ec_83 _) cpX12 (Nat.lt_of_lt_of_le (Nat.le_of_ble_eq_true rfl) hn) dX12_readsName_45 rfl hl.1 (ar := 1) (by decide +kernel) rfl ⟨Nat.le_of_ble_eq_true rfl, Nat.le_of_ble_eq_true rfl, Nat.le_of_ble_eq_true rfl, Nat.le_of_ble_eq_true rfl⟩ (Nat.le_of_ble_eq_true rfl) (fun rv uu H locs hp hG => ?_)
          obtain ⟨rfl, rfl⟩ := hp
          replace hG : gW D cy b n s H locs (enc b cy X S_45) := hG
          refine lv_pop hx hb dX12_readsName_48 rfl ?_
          cases hM
          exact g_vret S hr hlk hG hsz dX12_readsName_49 ⟨Nat.le_of_ble_eq_true rfl, Nat.le_of_ble_eq_true rfl⟩ rfl
    · replace hM := ifn hM c_9
      refine lv_aload_n hx hb dX12_readsName_15 rfl (lv_at hl 0 rfl) ?_
      refine lv_iconst (v := iI 1) hx hb dX12_readsName_16 (by decide) ?_
      obtain ⟨r_47, S_48, hc_46, hM⟩ := bd2_some hM
      refine g_vi (As := [.int (iI 1)]) (rest := []) S hG hsz (vX12_faults l hn 1 hc_46) wV_12_169 (ec_83 _) cpX12 (Nat.lt_of_lt_of_le (Nat.le_of_ble_eq_true rfl) hn) dX12_readsName_17 rfl hl.1 (ar := 1) (by decide +kernel) rfl ⟨Nat.le_of_ble_eq_true rfl, Nat.le_of_ble_eq_true rfl, Nat.le_of_ble_eq_true rfl, Nat.le_of_ble_eq_true rfl⟩ (Nat.le_of_ble_eq_true rfl) (fun rv uu H locs hp hG => ?_)
      obtain ⟨rfl, rfl⟩ := hp
      replace hG : gW D cy b n s H locs (enc b cy X S_48) := hG
      refine lv_pop hx hb dX12_readsName_20 rfl ?_
      cases hM
      exact g_vret S hr hlk hG hsz dX12_readsName_21 ⟨Nat.le_of_ble_eq_true rfl, Nat.le_of_ble_eq_true rfl⟩ rfl
theorem wV_12_176 : gWV "GrownKindsModel" 176 yX12_needsWord cX12_needsWord 2 none := ⟨wm_1859, wm_1861, wm_91, wm_188, wm_1862, by decide +kernel, by decide +kernel⟩
theorem wV_12_180 : gWV "GrownKindsModel" 180 yX12_readsName cX12_readsName 3 none := ⟨wm_1886, wm_1888, wm_94, wm_188, wm_1889, by decide +kernel, by decide +kernel⟩
def mX12_readsHead_72  : Nat → Int → St → Option (St)
  | 0, _, _ => none
  | f + 1, v_15, S_16 => gd (inI v_15) <| if v_15 = 0 then (some (S_16)) else (bd1 (mX12_readsName S_16) fun S_26 => gd (inI (S_26 83 10)) <| if (S_26 83 10) = 0 then (gd (inI (S_26 83 8)) <| if (S_26 83 8) = 1 then (mX12_readsHead_72 f 1 S_26) else (mX12_readsHead_72 f 0 S_26)) else (mX12_readsHead_72 f 0 S_26))
def mX12_readsHead (S0 : St)  : Option (St) := bd1 (mX12_needsWord S0 0) fun S_2 => bd1 (gd (inI (S_2 83 10)) <| if (S_2 83 10) = 0 then (bd1 (mX12_needsWord S_2 1) fun S_40 => some (S_40)) else (some (S_2))) fun S_3 => gd (inI (S_3 83 10)) <| if (S_3 83 10) = 0 then (gd (inI (S_3 83 8)) <| if (S_3 83 8) = 2 then (gd (inI (S_3 83 9)) <| if (S_3 83 9) < 8 then (nx (up S_3 84 1 (S_3 83 9)) fun S_12 => bd1 (mX12_next S_12) fun S_14 => bd1 (mX12_readsHead_72 FU 1 S_14) fun S_17 => some (S_17)) else (bd2 (mX12_faults S_3 2) fun r_32 S_33 => some (S_33))) else (bd2 (mX12_faults S_3 1) fun r_35 S_36 => some (S_36))) else (some (S_3))
set_option maxHeartbeats 4000000 in
set_option maxRecDepth 100000 in
theorem vX12_readsHead (l : Launch) {D : va_G} {cy : Nat → ClassId} {b n : Nat} (hn : 102 ≤ n) {X : Nat → va_E} {S0 : St}  {o1 : St} (hM : mX12_readsHead S0  = some o1) : gV l yX12_readsHead cX12_readsHead 2 7 0 0 D cy b n (enc b cy X S0) [.ref (b + 80)] (fun u => u = (n, enc b cy X o1)) := by
  refine gV_of (by decide) (Nat.le_of_ble_eq_true rfl) ?_
  intro p e s m args below meth c S hr hlk hin hsz ls hl hG
  have hx := S.1
  have hb := S.2.1
  have hl : lv_has ls 2 [(0, .ref (b + 80))] := hl
  replace hG : gW D cy b n s s.heap [] (enc b cy X S0) := hG
  obtain ⟨H, eH⟩ : ∃ H, H = s.heap := ⟨_, rfl⟩
  obtain ⟨locs, elocs⟩ : ∃ locs : List Loc, locs = [] := ⟨_, rfl⟩
  rw [← eH, ← elocs] at hG
  rw [← eH, ← elocs]
  clear eH elocs
  unfold mX12_readsHead at hM
  refine lv_aload_n hx hb dX12_readsHead_0 rfl (lv_at hl 0 rfl) ?_
  refine lv_iconst (v := iI 0) hx hb dX12_readsHead_1 (by decide) ?_
  obtain ⟨S_2, hc_1, hM⟩ := bd1_some hM
  refine g_vv (As := [.int (iI 0)]) (rest := []) S hG hsz (vX12_needsWord l hn 0 hc_1) wV_12_176 (ec_83 _) cpX12 (Nat.lt_of_lt_of_le (Nat.le_of_ble_eq_true rfl) hn) dX12_readsHead_2 rfl hl.1 (ar := 1) (by decide +kernel) rfl ⟨Nat.le_of_ble_eq_true rfl, Nat.le_of_ble_eq_true rfl, Nat.le_of_ble_eq_true rfl, Nat.le_of_ble_eq_true rfl⟩ (Nat.le_of_ble_eq_true rfl) (fun uu H locs hp hG => ?_)
  obtain rfl := hp
  replace hG : gW D cy b n s H locs (enc b cy X S_2) := hG
  refine lv_aload_n hx hb dX12_readsHead_5 rfl (lv_at hl 0 rfl) ?_
  refine m_get S hG 80 83 10 rfl ec_83 cpX12 wm_1683 dX12_readsHead_6 rfl (Nat.lt_of_lt_of_le (Nat.le_of_ble_eq_true rfl) hn) (by decide) ?_
  obtain ⟨S_3, hc_4, hM⟩ := bd1_some hM
  have hK_5 : ∀ (H : Heap) (locs : List Loc) (ls : Array Slot), gW D cy b n s H locs (enc b cy X S_3) → lv_has ls 2 [(0, .ref (b + 80))] → W p l e (gRm 7 0 0) s m args below meth c H locs 0 0 (gQV D cy b s args below 0 0 (fun u => u = (n, enc b cy X o1))) (F0 m 17 ls []) := by
    intro H locs ls hG hl
    refine lv_aload_n hx hb dX12_readsHead_17 rfl (lv_at hl 0 rfl) ?_
    refine m_get S hG 80 83 10 rfl ec_83 cpX12 wm_1683 dX12_readsHead_18 rfl (Nat.lt_of_lt_of_le (Nat.le_of_ble_eq_true rfl) hn) (by decide) ?_
    obtain ⟨hg_6, hM⟩ := gd_some hM
    refine gi_if_eq (tgt := 25) hx hb dX12_readsHead_21 (by decide) hg_6 (fun c_7 => ?_) (fun c_7 => ?_)
    · replace hM := ifp hM c_7
      refine lv_aload_n hx hb dX12_readsHead_25 rfl (lv_at hl 0 rfl) ?_
      refine m_get S hG 80 83 8 rfl ec_83 cpX12 wm_1681 dX12_readsHead_26 rfl (Nat.lt_of_lt_of_le (Nat.le_of_ble_eq_true rfl) hn) (by decide) ?_
      refine lv_iconst (v := iI 2) hx hb dX12_readsHead_29 (by decide) ?_
      obtain ⟨hg_8, hM⟩ := gd_some hM
      refine gi_icmp_eq (tgt := 40) hx hb dX12_readsHead_30 (by decide) hg_8 (by decide) (fun c_9 => ?_) (fun c_9 => ?_)
      · replace hM := ifp hM c_9
        refine lv_aload_n hx hb dX12_readsHead_40 rfl (lv_at hl 0 rfl) ?_
        refine m_get S hG 80 83 9 rfl ec_83 cpX12 wm_1682 dX12_readsHead_41 rfl (Nat.lt_of_lt_of_le (Nat.le_of_ble_eq_true rfl) hn) (by decide) ?_
        refine lv_bipush (v := iI 8) hx hb dX12_readsHead_44 (by decide) ?_
        obtain ⟨hg_10, hM⟩ := gd_some hM
        refine gi_icmp_lt (tgt := 56) hx hb dX12_readsHead_46 (by decide) hg_10 (by decide) (fun c_11 => ?_) (fun c_11 => ?_)
        · replace hM := ifp hM c_11
          refine lv_aload_n hx hb dX12_readsHead_56 rfl (lv_at hl 0 rfl) ?_
          refine m_get S hG 80 83 0 rfl ec_83 cpX12 wm_1673 dX12_readsHead_57 rfl (Nat.lt_of_lt_of_le (Nat.le_of_ble_eq_true rfl) hn) (by decide) ?_
          refine lv_iconst (v := iI 1) hx hb dX12_readsHead_60 (by decide) ?_
          refine lv_aload_n hx hb dX12_readsHead_61 rfl (lv_at hl 0 rfl) ?_
          refine m_get S hG 80 83 9 rfl ec_83 cpX12 wm_1682 dX12_readsHead_62 rfl (Nat.lt_of_lt_of_le (Nat.le_of_ble_eq_true rfl) hn) (by decide) ?_
          refine mi_ast S hG 81 84 rfl ec_84 (Nat.lt_of_lt_of_le (Nat.le_of_ble_eq_true rfl) hn) dX12_readsHead_65 (by decide) (by decide) (fun H locs S_12 eS_12 hG => ?_)
          replace hM := nx_at hM eS_12
          clear eS_12
          refine lv_aload_n hx hb dX12_readsHead_66 rfl (lv_at hl 0 rfl) ?_
          obtain ⟨S_14, hc_13, hM⟩ := bd1_some hM
          refine g_vv (As := []) (rest := []) S hG hsz (vX12_next l hn  hc_13) wV_12_173 (ec_83 _) cpX12 (Nat.lt_of_lt_of_le (Nat.le_of_ble_eq_true rfl) hn) dX12_readsHead_67 rfl hl.1 (ar := 0) (by decide +kernel) rfl ⟨Nat.le_of_ble_eq_true rfl, Nat.le_of_ble_eq_true rfl, Nat.le_of_ble_eq_true rfl, Nat.le_of_ble_eq_true rfl⟩ (Nat.le_of_ble_eq_true rfl) (fun uu H locs hp hG => ?_)
          obtain rfl := hp
          replace hG : gW D cy b n s H locs (enc b cy X S_14) := hG
          refine lv_iconst (v := iI 1) hx hb dX12_readsHead_70 (by decide) ?_
          refine lv_istore_n (lv' := [(1, .int (iI 1)), (0, .ref (b + 80))]) hx hb dX12_readsHead_71 rfl hl (by decide) rfl (fun ls hl => ?_)
          obtain ⟨S_17, hc_18, hM⟩ := bd1_some hM
          have hK_19 : ∀ (H : Heap) (locs : List Loc) (ls : Array Slot), gW D cy b n s H locs (enc b cy X S_17) → lv_has ls 2 [] → W p l e (gRm 7 0 0) s m args below meth c H locs 0 0 (gQV D cy b s args below 0 0 (fun u => u = (n, enc b cy X o1))) (F0 m 104 ls []) := by
            intro H locs ls hG hl
            cases hM
            exact g_vret S hr hlk hG hsz dX12_readsHead_104 ⟨Nat.le_of_ble_eq_true rfl, Nat.le_of_ble_eq_true rfl⟩ rfl
          have loop_20 : ∀ (f : Nat) (v_15 : Int) (S_16 : St) (H : Heap) (locs : List Loc) (ls : Array Slot), mX12_readsHead_72 f v_15 S_16 = some S_17 → gW D cy b n s H locs (enc b cy X S_16) → lv_has ls 2 [(1, .int (iI v_15)), (0, .ref (b + 80))] → W p l e (gRm 7 0 0) s m args below meth c H locs 0 0 (gQV D cy b s args below 0 0 (fun u => u = (n, enc b cy X o1))) (F0 m 72 ls []) := by
            clear hM
            intro f
            induction f with
            | zero => intro v_15 S_16 H locs ls hM; rw [mX12_readsHead_72] at hM; cases hM
            | succ f_22 ih_21 =>
              intro v_15 S_16 H locs ls hM hG hl
              rw [mX12_readsHead_72] at hM
              refine lv_iload_n hx hb dX12_readsHead_72 rfl (lv_at hl 0 rfl) ?_
              obtain ⟨hg_23, hM⟩ := gd_some hM
              refine gi_if_eq (tgt := 104) hx hb dX12_readsHead_73 (by decide) hg_23 (fun c_24 => ?_) (fun c_24 => ?_)
              · replace hM := ifp hM c_24
                cases hM
                exact hK_19 H locs ls hG (lv_sub hl [] rfl)
              · replace hM := ifn hM c_24
                refine lv_aload_n hx hb dX12_readsHead_76 rfl (lv_at hl 1 rfl) ?_
                obtain ⟨S_26, hc_25, hM⟩ := bd1_some hM
                refine g_vv (As := []) (rest := []) S hG hsz (vX12_readsName l hn  hc_25) wV_12_180 (ec_83 _) cpX12 (Nat.lt_of_lt_of_le (Nat.le_of_ble_eq_true rfl) hn) dX12_readsHead_77 rfl hl.1 (ar := 0) (by decide +kernel) rfl ⟨Nat.le_of_ble_eq_true rfl, Nat.le_of_ble_eq_true rfl, Nat.le_of_ble_eq_true rfl, Nat.le_of_ble_eq_true rfl⟩ (Nat.le_of_ble_eq_true rfl) (fun uu H locs hp hG => ?_)
                obtain rfl := hp
                replace hG : gW D cy b n s H locs (enc b cy X S_26) := hG
                refine lv_aload_n hx hb dX12_readsHead_80 rfl (lv_at hl 1 rfl) ?_
                refine m_get S hG 80 83 10 rfl ec_83 cpX12 wm_1683 dX12_readsHead_81 rfl (Nat.lt_of_lt_of_le (Nat.le_of_ble_eq_true rfl) hn) (by decide) ?_
                obtain ⟨hg_27, hM⟩ := gd_some hM
                refine gi_if_ne (tgt := 99) hx hb dX12_readsHead_84 (by decide) hg_27 (fun c_28 => ?_) (fun c_28 => ?_)
                · replace hM := ifn hM c_28
                  refine lv_iconst (v := iI 0) hx hb dX12_readsHead_99 (by decide) ?_
                  refine lv_istore_n (lv' := [(1, .int (iI 0)), (0, .ref (b + 80))]) hx hb dX12_readsHead_100 rfl hl (by decide) rfl (fun ls hl => ?_)
                  refine lv_goto (tgt := 72) hx hb dX12_readsHead_101 (by decide) ?_
                  exact ih_21 0 S_26 H locs ls hM hG (lv_sub hl [0, 1] rfl)
                · replace hM := ifp hM c_28
                  refine lv_aload_n hx hb dX12_readsHead_87 rfl (lv_at hl 1 rfl) ?_
                  refine m_get S hG 80 83 8 rfl ec_83 cpX12 wm_1681 dX12_readsHead_88 rfl (Nat.lt_of_lt_of_le (Nat.le_of_ble_eq_true rfl) hn) (by decide) ?_
                  refine lv_iconst (v := iI 1) hx hb dX12_readsHead_91 (by decide) ?_
                  obtain ⟨hg_29, hM⟩ := gd_some hM
                  refine gi_icmp_ne (tgt := 99) hx hb dX12_readsHead_92 (by decide) hg_29 (by decide) (fun c_30 => ?_) (fun c_30 => ?_)
                  · replace hM := ifn hM c_30
                    refine lv_iconst (v := iI 0) hx hb dX12_readsHead_99 (by decide) ?_
                    refine lv_istore_n (lv' := [(1, .int (iI 0)), (0, .ref (b + 80))]) hx hb dX12_readsHead_100 rfl hl (by decide) rfl (fun ls hl => ?_)
                    refine lv_goto (tgt := 72) hx hb dX12_readsHead_101 (by decide) ?_
                    exact ih_21 0 S_26 H locs ls hM hG (lv_sub hl [0, 1] rfl)
                  · replace hM := ifp hM c_30
                    refine lv_iconst (v := iI 1) hx hb dX12_readsHead_95 (by decide) ?_
                    refine lv_goto (tgt := 100) hx hb dX12_readsHead_96 (by decide) ?_
                    refine lv_istore_n (lv' := [(1, .int (iI 1)), (0, .ref (b + 80))]) hx hb dX12_readsHead_100 rfl hl (by decide) rfl (fun ls hl => ?_)
                    refine lv_goto (tgt := 72) hx hb dX12_readsHead_101 (by decide) ?_
                    exact ih_21 1 S_26 H locs ls hM hG (lv_sub hl [0, 1] rfl)
          exact loop_20 FU 1 S_14 H locs ls hc_18 hG (lv_sub hl [0, 1] rfl)
        · replace hM := ifn hM c_11
          refine lv_aload_n hx hb dX12_readsHead_49 rfl (lv_at hl 0 rfl) ?_
          refine lv_iconst (v := iI 2) hx hb dX12_readsHead_50 (by decide) ?_
          obtain ⟨r_32, S_33, hc_31, hM⟩ := bd2_some hM
          refine g_vi (As := [.int (iI 2)]) (rest := []) S hG hsz (vX12_faults l hn 2 hc_31) wV_12_169 (ec_83 _) cpX12 (Nat.lt_of_lt_of_le (Nat.le_of_ble_eq_true rfl) hn) dX12_readsHead_51 rfl hl.1 (ar := 1) (by decide +kernel) rfl ⟨Nat.le_of_ble_eq_true rfl, Nat.le_of_ble_eq_true rfl, Nat.le_of_ble_eq_true rfl, Nat.le_of_ble_eq_true rfl⟩ (Nat.le_of_ble_eq_true rfl) (fun rv uu H locs hp hG => ?_)
          obtain ⟨rfl, rfl⟩ := hp
          replace hG : gW D cy b n s H locs (enc b cy X S_33) := hG
          refine lv_pop hx hb dX12_readsHead_54 rfl ?_
          cases hM
          exact g_vret S hr hlk hG hsz dX12_readsHead_55 ⟨Nat.le_of_ble_eq_true rfl, Nat.le_of_ble_eq_true rfl⟩ rfl
      · replace hM := ifn hM c_9
        refine lv_aload_n hx hb dX12_readsHead_33 rfl (lv_at hl 0 rfl) ?_
        refine lv_iconst (v := iI 1) hx hb dX12_readsHead_34 (by decide) ?_
        obtain ⟨r_35, S_36, hc_34, hM⟩ := bd2_some hM
        refine g_vi (As := [.int (iI 1)]) (rest := []) S hG hsz (vX12_faults l hn 1 hc_34) wV_12_169 (ec_83 _) cpX12 (Nat.lt_of_lt_of_le (Nat.le_of_ble_eq_true rfl) hn) dX12_readsHead_35 rfl hl.1 (ar := 1) (by decide +kernel) rfl ⟨Nat.le_of_ble_eq_true rfl, Nat.le_of_ble_eq_true rfl, Nat.le_of_ble_eq_true rfl, Nat.le_of_ble_eq_true rfl⟩ (Nat.le_of_ble_eq_true rfl) (fun rv uu H locs hp hG => ?_)
        obtain ⟨rfl, rfl⟩ := hp
        replace hG : gW D cy b n s H locs (enc b cy X S_36) := hG
        refine lv_pop hx hb dX12_readsHead_38 rfl ?_
        cases hM
        exact g_vret S hr hlk hG hsz dX12_readsHead_39 ⟨Nat.le_of_ble_eq_true rfl, Nat.le_of_ble_eq_true rfl⟩ rfl
    · replace hM := ifn hM c_7
      cases hM
      exact g_vret S hr hlk hG hsz dX12_readsHead_24 ⟨Nat.le_of_ble_eq_true rfl, Nat.le_of_ble_eq_true rfl⟩ rfl
  clear hM
  replace hM := hc_4
  obtain ⟨hg_37, hM⟩ := gd_some hM
  refine gi_if_ne (tgt := 17) hx hb dX12_readsHead_9 (by decide) hg_37 (fun c_38 => ?_) (fun c_38 => ?_)
  · replace hM := ifn hM c_38
    cases hM
    exact hK_5 H locs ls hG (lv_sub hl [0] rfl)
  · replace hM := ifp hM c_38
    refine lv_aload_n hx hb dX12_readsHead_12 rfl (lv_at hl 0 rfl) ?_
    refine lv_iconst (v := iI 1) hx hb dX12_readsHead_13 (by decide) ?_
    obtain ⟨S_40, hc_39, hM⟩ := bd1_some hM
    refine g_vv (As := [.int (iI 1)]) (rest := []) S hG hsz (vX12_needsWord l hn 1 hc_39) wV_12_176 (ec_83 _) cpX12 (Nat.lt_of_lt_of_le (Nat.le_of_ble_eq_true rfl) hn) dX12_readsHead_14 rfl hl.1 (ar := 1) (by decide +kernel) rfl ⟨Nat.le_of_ble_eq_true rfl, Nat.le_of_ble_eq_true rfl, Nat.le_of_ble_eq_true rfl, Nat.le_of_ble_eq_true rfl⟩ (Nat.le_of_ble_eq_true rfl) (fun uu H locs hp hG => ?_)
    obtain rfl := hp
    replace hG : gW D cy b n s H locs (enc b cy X S_40) := hG
    cases hM
    exact hK_5 H locs ls hG (lv_sub hl [0] rfl)
theorem wV_12_196 : gWV "GrownKindsModel" 196 yX12_readsPart cX12_readsPart 8 (some .int) := ⟨wm_1914, wm_1916, wm_101, wm_188, wm_1917, by decide +kernel, by decide +kernel⟩
theorem wV_12_207 : gWV "GrownKindsModel" 207 yX12_readsIn cX12_readsIn 4 none := ⟨wm_1924, wm_1926, wm_103, wm_188, wm_1927, by decide +kernel, by decide +kernel⟩
theorem wV_12_204 : gWV "GrownKindsModel" 204 yX12_readsAtom cX12_readsAtom 2 none := ⟨wm_1920, wm_1922, wm_102, wm_188, wm_1923, by decide +kernel, by decide +kernel⟩
theorem wV_12_192 : gWV "GrownKindsModel" 192 yX12_readsExpr cX12_readsExpr 8 none := ⟨wm_1910, wm_1912, wm_100, wm_188, wm_1913, by decide +kernel, by decide +kernel⟩
theorem wV_12_188 : gWV "GrownKindsModel" 188 yX12_needs cX12_needs 2 none := ⟨wm_1902, wm_1904, wm_98, wm_188, wm_1905, by decide +kernel, by decide +kernel⟩
def mX12_readsExpr_118 (rec : Nat → Int → Int → Int → St → Option (Int × St)) (x_23 : Int) (a1 : Int) (a2 : Int) : Nat → Int → St → Option (St)
  | 0, _, _ => none
  | f + 1, v_35, S_36 => gd (inI (S_36 83 10)) <| if (S_36 83 10) = 0 then (bd1 (mX12_isWord S_36 5) fun r_57 => gd (inI r_57) <| if r_57 = 0 then (some (S_36)) else (bd1 (mX12_next S_36) fun S_61 => bd2 (rec 2 a2 0 0 S_61) fun r_63 S_64 => gd (inI (S_64 83 10)) <| if (S_64 83 10) = 0 then (gd (0 ≤ (96 + v_35) ∧ (96 + v_35) < 228) <| nx (up S_64 84 (96 + v_35) r_63) fun S_68 => mX12_readsExpr_118 rec x_23 a1 a2 f r_63 S_68) else (mX12_readsExpr_118 rec x_23 a1 a2 f v_35 S_64))) else (some (S_36))
def mX12_readsExpr_5 (rec : Nat → Int → Int → Int → St → Option (Int × St)) (a1 : Int) (a2 : Int) : Nat → Int → Int → St → Option (Int × St)
  | 0, _, _, _ => none
  | f + 1, v_1, v_2, S_3 => gd (inI v_2) <| if v_2 = 0 then (some (1, S_3)) else (gd (0 ≤ (198 + a1) ∧ (198 + a1) < 228) <| bd1 (gd (inI (S_3 84 (198 + a1))) <| if (S_3 84 (198 + a1)) = 10 then (some (1)) else (some (0))) fun z_15 => bd2 (rec 2 a2 z_15 0 S_3) fun r_19 S_20 => gd (inI (S_20 83 10)) <| if (S_20 83 10) = 0 then (nx (S_20 84 5) fun x_23 => nx (up S_20 84 5 ((S_20 84 5) + 1)) fun S_24 => gd (0 ≤ (120 + x_23) ∧ (120 + x_23) < 228) <| nx (up S_24 84 (120 + x_23) r_19) fun S_26 => bd1 (gd (inI v_1) <| if 0 ≤ v_1 then (some ((144 + v_1))) else (some ((168 + a1)))) fun z_27 => gd (0 ≤ z_27 ∧ z_27 < 228) <| nx (up S_26 84 z_27 x_23) fun S_31 => nx (198 + a1) fun x_32 => gd (0 ≤ x_32 ∧ x_32 < 228) <| nx (up S_31 84 x_32 ((S_31 84 x_32) + 1)) fun S_34 => bd1 (mX12_readsExpr_118 rec x_23 a1 a2 FU r_19 S_34) fun S_37 => gd (inI (S_37 83 10)) <| if (S_37 83 10) = 0 then (bd1 (mX12_isWord S_37 4) fun r_44 => gd (inI r_44) <| if r_44 = 0 then (mX12_readsExpr_5 rec a1 a2 f x_23 0 S_37) else (bd1 (mX12_next S_37) fun S_50 => mX12_readsExpr_5 rec a1 a2 f x_23 1 S_50)) else (mX12_readsExpr_5 rec a1 a2 f x_23 0 S_37)) else (some (0, S_20)))
def bX12_readsExpr (rec : Nat → Int → Int → Int → St → Option (Int × St)) (S0 : St) (a1 : Int) (a2 : Int) : Option (St) := bd2 (mX12_readsExpr_5 rec a1 a2 FU (-1) 1 S0) fun t_4 S_5 => if t_4 = 0 then (some (S_5)) else (some (S_5))
set_option maxHeartbeats 4000000 in
set_option maxRecDepth 100000 in
theorem spX12_readsExpr (l : Launch) {D : va_G} {cy : Nat → ClassId} {b n : Nat} (hn : 102 ≤ n) {X : Nat → va_E} (rec : Nat → Int → Int → Int → St → Option (Int × St)) (d : Nat) (hd : 6 ≤ d) (hr0 : ∀ (S0 : St) (a1 : Int) (a2 : Int) (o1 : Int) (o2 : St), rec 0 a1 a2 0 S0 = some (o1, o2) → gV l yX12_readsExpr cX12_readsExpr 8 d 0 0 D cy b n (enc b cy X S0) [.ref (b + 80), .int (iI a1), .int (iI a2)] (fun u => u = (n, enc b cy X o2))) (hr1 : ∀ (S0 : St) (a1 : Int) (a2 : Int) (a3 : Int) (o1 : Int) (o2 : St), rec 1 a1 a2 a3 S0 = some (o1, o2) → gV l yX12_readsIn cX12_readsIn 4 d 0 0 D cy b n (enc b cy X S0) [.ref (b + 80), .int (iI a1), .int (iI a2), .int (iI a3)] (fun u => u = (n, enc b cy X o2))) (hr2 : ∀ (S0 : St) (a1 : Int) (a2 : Int) (o1 : Int) (o2 : St), rec 2 a1 a2 0 S0 = some (o1, o2) → gI l yX12_readsPart cX12_readsPart 8 (some .int) d 0 0 D cy b n (enc b cy X S0) [.ref (b + 80), .int (iI a1), .int (iI a2)] (fun r u => r = iI o1 ∧ u = (n, enc b cy X o2))) (S0 : St) (a1 : Int) (a2 : Int) (o1 : St) (hM : bX12_readsExpr rec S0 a1 a2 = some o1) : gV l yX12_readsExpr cX12_readsExpr 8 (d + 1) 0 0 D cy b n (enc b cy X S0) [.ref (b + 80), .int (iI a1), .int (iI a2)] (fun u => u = (n, enc b cy X o1)) := by
  refine gV_of (by decide) (Nat.le_of_ble_eq_true rfl) ?_
  intro p e s m args below meth c S hr hlk hin hsz ls hl hG
  have hx := S.1
  have hb := S.2.1
  have hl : lv_has ls 8 [(0, .ref (b + 80)), (1, .int (iI a1)), (2, .int (iI a2))] := hl
  replace hG : gW D cy b n s s.heap [] (enc b cy X S0) := hG
  obtain ⟨H, eH⟩ : ∃ H, H = s.heap := ⟨_, rfl⟩
  obtain ⟨locs, elocs⟩ : ∃ locs : List Loc, locs = [] := ⟨_, rfl⟩
  rw [← eH, ← elocs] at hG
  rw [← eH, ← elocs]
  clear eH elocs
  unfold bX12_readsExpr at hM
  refine lv_iconst (v := iI 1) hx hb dX12_readsExpr_0 (by decide) ?_
  refine lv_istore_n (lv' := [(3, .int (iI 1)), (0, .ref (b + 80)), (1, .int (iI a1)), (2, .int (iI a2))]) hx hb dX12_readsExpr_1 rfl hl (by decide) rfl (fun ls hl => ?_)
  refine lv_iconst (v := iI (-1)) hx hb dX12_readsExpr_2 (by decide) ?_
  refine lv_istore (lv' := [(4, .int (iI (-1))), (3, .int (iI 1)), (0, .ref (b + 80)), (1, .int (iI a1)), (2, .int (iI a2))]) hx hb dX12_readsExpr_3 hl (by decide) rfl (fun ls hl => ?_)
  obtain ⟨t_4, S_5, hc_6, hM⟩ := bd2_some hM
  have hK_7 : ∀ (H : Heap) (locs : List Loc) (ls : Array Slot), t_4 = 0 → gW D cy b n s H locs (enc b cy X S_5) → lv_has ls 8 [] → W p l e (gRm (d + 1) 0 0) s m args below meth c H locs 0 0 (gQV D cy b s args below 0 0 (fun u => u = (n, enc b cy X o1))) (F0 m 43 ls []) := by
    intro H locs ls ht hG hl
    subst ht
    replace hM := ifp hM rfl
    cases hM
    exact g_vret S hr hlk hG hsz dX12_readsExpr_43 ⟨Nat.le_of_ble_eq_true rfl, Nat.le_of_ble_eq_true rfl⟩ rfl
  have hK_8 : ∀ (H : Heap) (locs : List Loc) (ls : Array Slot), t_4 = 1 → gW D cy b n s H locs (enc b cy X S_5) → lv_has ls 8 [] → W p l e (gRm (d + 1) 0 0) s m args below meth c H locs 0 0 (gQV D cy b s args below 0 0 (fun u => u = (n, enc b cy X o1))) (F0 m 203 ls []) := by
    intro H locs ls ht hG hl
    subst ht
    replace hM := ifn hM (by decide)
    cases hM
    exact g_vret S hr hlk hG hsz dX12_readsExpr_203 ⟨Nat.le_of_ble_eq_true rfl, Nat.le_of_ble_eq_true rfl⟩ rfl
  have loop_9 : ∀ (f : Nat) (v_1 : Int) (v_2 : Int) (S_3 : St) (H : Heap) (locs : List Loc) (ls : Array Slot), mX12_readsExpr_5 rec a1 a2 f v_1 v_2 S_3 = some (t_4, S_5) → gW D cy b n s H locs (enc b cy X S_3) → lv_has ls 8 [(4, .int (iI v_1)), (3, .int (iI v_2)), (0, .ref (b + 80)), (1, .int (iI a1)), (2, .int (iI a2))] → W p l e (gRm (d + 1) 0 0) s m args below meth c H locs 0 0 (gQV D cy b s args below 0 0 (fun u => u = (n, enc b cy X o1))) (F0 m 5 ls []) := by
    clear hM
    intro f
    induction f with
    | zero => intro v_1 v_2 S_3 H locs ls hM; rw [mX12_readsExpr_5] at hM; cases hM
    | succ f_11 ih_10 =>
      intro v_1 v_2 S_3 H locs ls hM hG hl
      rw [mX12_readsExpr_5] at hM
      refine lv_iload_n hx hb dX12_readsExpr_5 rfl (lv_at hl 1 rfl) ?_
      obtain ⟨hg_12, hM⟩ := gd_some hM
      refine gi_if_eq (tgt := 203) hx hb dX12_readsExpr_6 (by decide) hg_12 (fun c_13 => ?_) (fun c_13 => ?_)
      · replace hM := ifp hM c_13
        cases hM
        exact hK_8 H locs ls rfl hG (lv_sub hl [] rfl)
      · replace hM := ifn hM c_13
        refine lv_aload_n hx hb dX12_readsExpr_9 rfl (lv_at hl 2 rfl) ?_
        refine lv_iload_n hx hb dX12_readsExpr_10 rfl (lv_at hl 4 rfl) ?_
        refine lv_aload_n hx hb dX12_readsExpr_11 rfl (lv_at hl 2 rfl) ?_
        refine m_get S hG 80 83 0 rfl ec_83 cpX12 wm_1673 dX12_readsExpr_12 rfl (Nat.lt_of_lt_of_le (Nat.le_of_ble_eq_true rfl) hn) (by decide) ?_
        refine lv_sipush (v := iI 198) hx hb dX12_readsExpr_15 (by decide) ?_
        refine lv_iload_n hx hb dX12_readsExpr_18 rfl (lv_at hl 3 rfl) ?_
        refine gi_add hx hb dX12_readsExpr_19 ?_
        obtain ⟨hg_14, hM⟩ := gd_some hM
        refine mi_ald S hG 81 84 rfl ec_84 (Nat.lt_of_lt_of_le (Nat.le_of_ble_eq_true rfl) hn) dX12_readsExpr_20 hg_14 (by decide) ?_
        refine lv_bipush (v := iI 10) hx hb dX12_readsExpr_21 (by decide) ?_
        obtain ⟨z_15, hc_16, hM⟩ := bd1_some hM
        have hK_17 : ∀ (H : Heap) (locs : List Loc) (ls : Array Slot), gW D cy b n s H locs (enc b cy X S_3) → lv_has ls 8 [(4, .int (iI v_1)), (0, .ref (b + 80)), (1, .int (iI a1)), (2, .int (iI a2))] → W p l e (gRm (d + 1) 0 0) s m args below meth c H locs 0 0 (gQV D cy b s args below 0 0 (fun u => u = (n, enc b cy X o1))) (F0 m 31 ls [.int (iI z_15), .int (iI a2), .ref (b + 80)]) := by
          intro H locs ls hG hl
          obtain ⟨r_19, S_20, hc_18, hM⟩ := bd2_some hM
          refine g_vi (As := [.int (iI a2), .int (iI z_15)]) (rest := []) S hG hsz (hr2 _ a2 z_15 _ _ hc_18) wV_12_196 (ec_83 _) cpX12 (Nat.lt_of_lt_of_le (Nat.le_of_ble_eq_true rfl) hn) dX12_readsExpr_31 rfl hl.1 (ar := 2) (by decide +kernel) rfl (by refine ⟨?_, ?_, ?_, ?_⟩ <;> first | exact Nat.le_of_ble_eq_true rfl | (simp only [gRm]; omega)) (Nat.le_of_ble_eq_true rfl) (fun rv uu H locs hp hG => ?_)
          obtain ⟨rfl, rfl⟩ := hp
          replace hG : gW D cy b n s H locs (enc b cy X S_20) := hG
          refine lv_istore (lv' := [(5, .int (iI r_19)), (4, .int (iI v_1)), (0, .ref (b + 80)), (1, .int (iI a1)), (2, .int (iI a2))]) hx hb dX12_readsExpr_34 hl (by decide) rfl (fun ls hl => ?_)
          refine lv_aload_n hx hb dX12_readsExpr_36 rfl (lv_at hl 2 rfl) ?_
          refine m_get S hG 80 83 10 rfl ec_83 cpX12 wm_1683 dX12_readsExpr_37 rfl (Nat.lt_of_lt_of_le (Nat.le_of_ble_eq_true rfl) hn) (by decide) ?_
          obtain ⟨hg_21, hM⟩ := gd_some hM
          refine gi_if_eq (tgt := 44) hx hb dX12_readsExpr_40 (by decide) hg_21 (fun c_22 => ?_) (fun c_22 => ?_)
          · replace hM := ifp hM c_22
            refine lv_aload_n hx hb dX12_readsExpr_44 rfl (lv_at hl 2 rfl) ?_
            refine m_get S hG 80 83 0 rfl ec_83 cpX12 wm_1673 dX12_readsExpr_45 rfl (Nat.lt_of_lt_of_le (Nat.le_of_ble_eq_true rfl) hn) (by decide) ?_
            refine lv_iconst (v := iI 5) hx hb dX12_readsExpr_48 (by decide) ?_
            refine mi_ald S hG 81 84 rfl ec_84 (Nat.lt_of_lt_of_le (Nat.le_of_ble_eq_true rfl) hn) dX12_readsExpr_49 (by decide) (by decide) ?_
            refine gi_nm (fun x_23 ex_23 => ?_)
            replace hM := nx_at hM ex_23
            clear ex_23
            refine lv_istore (lv' := [(6, .int (iI x_23)), (5, .int (iI r_19)), (4, .int (iI v_1)), (0, .ref (b + 80)), (1, .int (iI a1)), (2, .int (iI a2))]) hx hb dX12_readsExpr_50 hl (by decide) rfl (fun ls hl => ?_)
            refine lv_aload_n hx hb dX12_readsExpr_52 rfl (lv_at hl 3 rfl) ?_
            refine m_get S hG 80 83 0 rfl ec_83 cpX12 wm_1673 dX12_readsExpr_53 rfl (Nat.lt_of_lt_of_le (Nat.le_of_ble_eq_true rfl) hn) (by decide) ?_
            refine lv_iconst (v := iI 5) hx hb dX12_readsExpr_56 (by decide) ?_
            refine lv_dup2_11 hx hb dX12_readsExpr_57 rfl rfl ?_
            refine mi_ald S hG 81 84 rfl ec_84 (Nat.lt_of_lt_of_le (Nat.le_of_ble_eq_true rfl) hn) dX12_readsExpr_58 (by decide) (by decide) ?_
            refine lv_iconst (v := iI 1) hx hb dX12_readsExpr_59 (by decide) ?_
            refine gi_add hx hb dX12_readsExpr_60 ?_
            refine mi_ast S hG 81 84 rfl ec_84 (Nat.lt_of_lt_of_le (Nat.le_of_ble_eq_true rfl) hn) dX12_readsExpr_61 (by decide) (by decide) (fun H locs S_24 eS_24 hG => ?_)
            replace hM := nx_at hM eS_24
            clear eS_24
            refine lv_aload_n hx hb dX12_readsExpr_62 rfl (lv_at hl 3 rfl) ?_
            refine m_get S hG 80 83 0 rfl ec_83 cpX12 wm_1673 dX12_readsExpr_63 rfl (Nat.lt_of_lt_of_le (Nat.le_of_ble_eq_true rfl) hn) (by decide) ?_
            refine lv_bipush (v := iI 120) hx hb dX12_readsExpr_66 (by decide) ?_
            refine lv_iload hx hb dX12_readsExpr_68 (lv_at hl 0 rfl) ?_
            refine gi_add hx hb dX12_readsExpr_70 ?_
            refine lv_iload hx hb dX12_readsExpr_71 (lv_at hl 1 rfl) ?_
            obtain ⟨hg_25, hM⟩ := gd_some hM
            refine mi_ast S hG 81 84 rfl ec_84 (Nat.lt_of_lt_of_le (Nat.le_of_ble_eq_true rfl) hn) dX12_readsExpr_73 hg_25 (by decide) (fun H locs S_26 eS_26 hG => ?_)
            replace hM := nx_at hM eS_26
            clear eS_26
            refine lv_aload_n hx hb dX12_readsExpr_74 rfl (lv_at hl 3 rfl) ?_
            refine m_get S hG 80 83 0 rfl ec_83 cpX12 wm_1673 dX12_readsExpr_75 rfl (Nat.lt_of_lt_of_le (Nat.le_of_ble_eq_true rfl) hn) (by decide) ?_
            refine lv_iload hx hb dX12_readsExpr_78 (lv_at hl 2 rfl) ?_
            obtain ⟨z_27, hc_28, hM⟩ := bd1_some hM
            have hK_29 : ∀ (H : Heap) (locs : List Loc) (ls : Array Slot), gW D cy b n s H locs (enc b cy X S_26) → lv_has ls 8 [(6, .int (iI x_23)), (5, .int (iI r_19)), (0, .ref (b + 80)), (1, .int (iI a1)), (2, .int (iI a2))] → W p l e (gRm (d + 1) 0 0) s m args below meth c H locs 0 0 (gQV D cy b s args below 0 0 (fun u => u = (n, enc b cy X o1))) (F0 m 97 ls [.int (iI z_27), .ref (b + 81)]) := by
              intro H locs ls hG hl
              refine lv_iload hx hb dX12_readsExpr_97 (lv_at hl 0 rfl) ?_
              obtain ⟨hg_30, hM⟩ := gd_some hM
              refine mi_ast S hG 81 84 rfl ec_84 (Nat.lt_of_lt_of_le (Nat.le_of_ble_eq_true rfl) hn) dX12_readsExpr_99 hg_30 (by decide) (fun H locs S_31 eS_31 hG => ?_)
              replace hM := nx_at hM eS_31
              clear eS_31
              refine lv_aload_n hx hb dX12_readsExpr_100 rfl (lv_at hl 2 rfl) ?_
              refine m_get S hG 80 83 0 rfl ec_83 cpX12 wm_1673 dX12_readsExpr_101 rfl (Nat.lt_of_lt_of_le (Nat.le_of_ble_eq_true rfl) hn) (by decide) ?_
              refine lv_sipush (v := iI 198) hx hb dX12_readsExpr_104 (by decide) ?_
              refine lv_iload_n hx hb dX12_readsExpr_107 rfl (lv_at hl 3 rfl) ?_
              refine gi_add hx hb dX12_readsExpr_108 ?_
              refine gi_nm (fun x_32 ex_32 => ?_)
              replace hM := nx_at hM ex_32
              clear ex_32
              refine lv_dup2_11 hx hb dX12_readsExpr_109 rfl rfl ?_
              obtain ⟨hg_33, hM⟩ := gd_some hM
              refine mi_ald S hG 81 84 rfl ec_84 (Nat.lt_of_lt_of_le (Nat.le_of_ble_eq_true rfl) hn) dX12_readsExpr_110 hg_33 (by decide) ?_
              refine lv_iconst (v := iI 1) hx hb dX12_readsExpr_111 (by decide) ?_
              refine gi_add hx hb dX12_readsExpr_112 ?_
              refine mi_ast S hG 81 84 rfl ec_84 (Nat.lt_of_lt_of_le (Nat.le_of_ble_eq_true rfl) hn) dX12_readsExpr_113 hg_33 (by decide) (fun H locs S_34 eS_34 hG => ?_)
              replace hM := nx_at hM eS_34
              clear eS_34
              refine lv_iload hx hb dX12_readsExpr_114 (lv_at hl 0 rfl) ?_
              refine lv_istore (lv' := [(4, .int (iI x_23)), (6, .int (iI x_23)), (5, .int (iI r_19)), (0, .ref (b + 80)), (1, .int (iI a1)), (2, .int (iI a2))]) hx hb dX12_readsExpr_116 hl (by decide) rfl (fun ls hl => ?_)
              obtain ⟨S_37, hc_38, hM⟩ := bd1_some hM
              have hK_39 : ∀ (H : Heap) (locs : List Loc) (ls : Array Slot), gW D cy b n s H locs (enc b cy X S_37) → lv_has ls 8 [(4, .int (iI x_23)), (0, .ref (b + 80)), (1, .int (iI a1)), (2, .int (iI a2))] → W p l e (gRm (d + 1) 0 0) s m args below meth c H locs 0 0 (gQV D cy b s args below 0 0 (fun u => u = (n, enc b cy X o1))) (F0 m 171 ls []) := by
                intro H locs ls hG hl
                refine lv_aload_n hx hb dX12_readsExpr_171 rfl (lv_at hl 1 rfl) ?_
                refine m_get S hG 80 83 10 rfl ec_83 cpX12 wm_1683 dX12_readsExpr_172 rfl (Nat.lt_of_lt_of_le (Nat.le_of_ble_eq_true rfl) hn) (by decide) ?_
                obtain ⟨hg_40, hM⟩ := gd_some hM
                refine gi_if_ne (tgt := 190) hx hb dX12_readsExpr_175 (by decide) hg_40 (fun c_41 => ?_) (fun c_41 => ?_)
                · replace hM := ifn hM c_41
                  refine lv_iconst (v := iI 0) hx hb dX12_readsExpr_190 (by decide) ?_
                  refine lv_istore_n (lv' := [(3, .int (iI 0)), (4, .int (iI x_23)), (0, .ref (b + 80)), (1, .int (iI a1)), (2, .int (iI a2))]) hx hb dX12_readsExpr_191 rfl hl (by decide) rfl (fun ls hl => ?_)
                  refine lv_iload_n hx hb dX12_readsExpr_192 rfl (lv_at hl 0 rfl) ?_
                  refine gi_if_eq (tgt := 200) hx hb dX12_readsExpr_193 (by decide) (by decide) (fun _ => ?_) (fun c_42 => absurd c_42 (by decide))
                  refine lv_goto (tgt := 5) hx hb dX12_readsExpr_200 (by decide) ?_
                  exact ih_10 x_23 0 S_37 H locs ls hM hG (lv_sub hl [1, 0, 2, 3, 4] rfl)
                · replace hM := ifp hM c_41
                  refine lv_aload_n hx hb dX12_readsExpr_178 rfl (lv_at hl 1 rfl) ?_
                  refine lv_iconst (v := iI 4) hx hb dX12_readsExpr_179 (by decide) ?_
                  obtain ⟨r_44, hc_43, hM⟩ := bd1_some hM
                  refine g_vi (As := [.int (iI 4)]) (rest := []) S hG hsz (vX12_isWord l hn 4 hc_43) wV_12_161 (ec_83 _) cpX12 (Nat.lt_of_lt_of_le (Nat.le_of_ble_eq_true rfl) hn) dX12_readsExpr_180 rfl hl.1 (ar := 1) (by decide +kernel) rfl (by refine ⟨?_, ?_, ?_, ?_⟩ <;> first | exact Nat.le_of_ble_eq_true rfl | (simp only [gRm]; omega)) (Nat.le_of_ble_eq_true rfl) (fun rv uu H locs hp hG => ?_)
                  obtain ⟨rfl, rfl⟩ := hp
                  replace hG : gW D cy b n s H locs (enc b cy X S_37) := hG
                  obtain ⟨hg_45, hM⟩ := gd_some hM
                  refine gi_if_eq (tgt := 190) hx hb dX12_readsExpr_183 (by decide) hg_45 (fun c_46 => ?_) (fun c_46 => ?_)
                  · replace hM := ifp hM c_46
                    refine lv_iconst (v := iI 0) hx hb dX12_readsExpr_190 (by decide) ?_
                    refine lv_istore_n (lv' := [(3, .int (iI 0)), (4, .int (iI x_23)), (0, .ref (b + 80)), (1, .int (iI a1)), (2, .int (iI a2))]) hx hb dX12_readsExpr_191 rfl hl (by decide) rfl (fun ls hl => ?_)
                    refine lv_iload_n hx hb dX12_readsExpr_192 rfl (lv_at hl 0 rfl) ?_
                    refine gi_if_eq (tgt := 200) hx hb dX12_readsExpr_193 (by decide) (by decide) (fun _ => ?_) (fun c_47 => absurd c_47 (by decide))
                    refine lv_goto (tgt := 5) hx hb dX12_readsExpr_200 (by decide) ?_
                    exact ih_10 x_23 0 S_37 H locs ls hM hG (lv_sub hl [1, 0, 2, 3, 4] rfl)
                  · replace hM := ifn hM c_46
                    refine lv_iconst (v := iI 1) hx hb dX12_readsExpr_186 (by decide) ?_
                    refine lv_goto (tgt := 191) hx hb dX12_readsExpr_187 (by decide) ?_
                    refine lv_istore_n (lv' := [(3, .int (iI 1)), (4, .int (iI x_23)), (0, .ref (b + 80)), (1, .int (iI a1)), (2, .int (iI a2))]) hx hb dX12_readsExpr_191 rfl hl (by decide) rfl (fun ls hl => ?_)
                    refine lv_iload_n hx hb dX12_readsExpr_192 rfl (lv_at hl 0 rfl) ?_
                    refine gi_if_eq (tgt := 200) hx hb dX12_readsExpr_193 (by decide) (by decide) (fun c_48 => absurd c_48 (by decide)) (fun _ => ?_)
                    refine lv_aload_n hx hb dX12_readsExpr_196 rfl (lv_at hl 2 rfl) ?_
                    obtain ⟨S_50, hc_49, hM⟩ := bd1_some hM
                    refine g_vv (As := []) (rest := []) S hG hsz (vX12_next l hn  hc_49) wV_12_173 (ec_83 _) cpX12 (Nat.lt_of_lt_of_le (Nat.le_of_ble_eq_true rfl) hn) dX12_readsExpr_197 rfl hl.1 (ar := 0) (by decide +kernel) rfl (by refine ⟨?_, ?_, ?_, ?_⟩ <;> first | exact Nat.le_of_ble_eq_true rfl | (simp only [gRm]; omega)) (Nat.le_of_ble_eq_true rfl) (fun uu H locs hp hG => ?_)
                    obtain rfl := hp
                    replace hG : gW D cy b n s H locs (enc b cy X S_50) := hG
                    refine lv_goto (tgt := 5) hx hb dX12_readsExpr_200 (by decide) ?_
                    exact ih_10 x_23 1 S_50 H locs ls hM hG (lv_sub hl [1, 0, 2, 3, 4] rfl)
              have loop_51 : ∀ (f : Nat) (v_35 : Int) (S_36 : St) (H : Heap) (locs : List Loc) (ls : Array Slot), mX12_readsExpr_118 rec x_23 a1 a2 f v_35 S_36 = some S_37 → gW D cy b n s H locs (enc b cy X S_36) → lv_has ls 8 [(4, .int (iI x_23)), (5, .int (iI v_35)), (0, .ref (b + 80)), (1, .int (iI a1)), (2, .int (iI a2))] → W p l e (gRm (d + 1) 0 0) s m args below meth c H locs 0 0 (gQV D cy b s args below 0 0 (fun u => u = (n, enc b cy X o1))) (F0 m 118 ls []) := by
                clear hM
                intro f
                induction f with
                | zero => intro v_35 S_36 H locs ls hM; rw [mX12_readsExpr_118] at hM; cases hM
                | succ f_53 ih_52 =>
                  intro v_35 S_36 H locs ls hM hG hl
                  rw [mX12_readsExpr_118] at hM
                  refine lv_aload_n hx hb dX12_readsExpr_118 rfl (lv_at hl 2 rfl) ?_
                  refine m_get S hG 80 83 10 rfl ec_83 cpX12 wm_1683 dX12_readsExpr_119 rfl (Nat.lt_of_lt_of_le (Nat.le_of_ble_eq_true rfl) hn) (by decide) ?_
                  obtain ⟨hg_54, hM⟩ := gd_some hM
                  refine gi_if_ne (tgt := 171) hx hb dX12_readsExpr_122 (by decide) hg_54 (fun c_55 => ?_) (fun c_55 => ?_)
                  · replace hM := ifn hM c_55
                    cases hM
                    exact hK_39 H locs ls hG (lv_sub hl [0, 2, 3, 4] rfl)
                  · replace hM := ifp hM c_55
                    refine lv_aload_n hx hb dX12_readsExpr_125 rfl (lv_at hl 2 rfl) ?_
                    refine lv_iconst (v := iI 5) hx hb dX12_readsExpr_126 (by decide) ?_
                    obtain ⟨r_57, hc_56, hM⟩ := bd1_some hM
                    refine g_vi (As := [.int (iI 5)]) (rest := []) S hG hsz (vX12_isWord l hn 5 hc_56) wV_12_161 (ec_83 _) cpX12 (Nat.lt_of_lt_of_le (Nat.le_of_ble_eq_true rfl) hn) dX12_readsExpr_127 rfl hl.1 (ar := 1) (by decide +kernel) rfl (by refine ⟨?_, ?_, ?_, ?_⟩ <;> first | exact Nat.le_of_ble_eq_true rfl | (simp only [gRm]; omega)) (Nat.le_of_ble_eq_true rfl) (fun rv uu H locs hp hG => ?_)
                    obtain ⟨rfl, rfl⟩ := hp
                    replace hG : gW D cy b n s H locs (enc b cy X S_36) := hG
                    obtain ⟨hg_58, hM⟩ := gd_some hM
                    refine gi_if_eq (tgt := 171) hx hb dX12_readsExpr_130 (by decide) hg_58 (fun c_59 => ?_) (fun c_59 => ?_)
                    · replace hM := ifp hM c_59
                      cases hM
                      exact hK_39 H locs ls hG (lv_sub hl [0, 2, 3, 4] rfl)
                    · replace hM := ifn hM c_59
                      refine lv_aload_n hx hb dX12_readsExpr_133 rfl (lv_at hl 2 rfl) ?_
                      obtain ⟨S_61, hc_60, hM⟩ := bd1_some hM
                      refine g_vv (As := []) (rest := []) S hG hsz (vX12_next l hn  hc_60) wV_12_173 (ec_83 _) cpX12 (Nat.lt_of_lt_of_le (Nat.le_of_ble_eq_true rfl) hn) dX12_readsExpr_134 rfl hl.1 (ar := 0) (by decide +kernel) rfl (by refine ⟨?_, ?_, ?_, ?_⟩ <;> first | exact Nat.le_of_ble_eq_true rfl | (simp only [gRm]; omega)) (Nat.le_of_ble_eq_true rfl) (fun uu H locs hp hG => ?_)
                      obtain rfl := hp
                      replace hG : gW D cy b n s H locs (enc b cy X S_61) := hG
                      refine lv_aload_n hx hb dX12_readsExpr_137 rfl (lv_at hl 2 rfl) ?_
                      refine lv_iload_n hx hb dX12_readsExpr_138 rfl (lv_at hl 4 rfl) ?_
                      refine lv_iconst (v := iI 0) hx hb dX12_readsExpr_139 (by decide) ?_
                      obtain ⟨r_63, S_64, hc_62, hM⟩ := bd2_some hM
                      refine g_vi (As := [.int (iI a2), .int (iI 0)]) (rest := []) S hG hsz (hr2 _ a2 0 _ _ hc_62) wV_12_196 (ec_83 _) cpX12 (Nat.lt_of_lt_of_le (Nat.le_of_ble_eq_true rfl) hn) dX12_readsExpr_140 rfl hl.1 (ar := 2) (by decide +kernel) rfl (by refine ⟨?_, ?_, ?_, ?_⟩ <;> first | exact Nat.le_of_ble_eq_true rfl | (simp only [gRm]; omega)) (Nat.le_of_ble_eq_true rfl) (fun rv uu H locs hp hG => ?_)
                      obtain ⟨rfl, rfl⟩ := hp
                      replace hG : gW D cy b n s H locs (enc b cy X S_64) := hG
                      refine lv_istore (lv' := [(7, .int (iI r_63)), (4, .int (iI x_23)), (5, .int (iI v_35)), (0, .ref (b + 80)), (1, .int (iI a1)), (2, .int (iI a2))]) hx hb dX12_readsExpr_143 hl (by decide) rfl (fun ls hl => ?_)
                      refine lv_aload_n hx hb dX12_readsExpr_145 rfl (lv_at hl 3 rfl) ?_
                      refine m_get S hG 80 83 10 rfl ec_83 cpX12 wm_1683 dX12_readsExpr_146 rfl (Nat.lt_of_lt_of_le (Nat.le_of_ble_eq_true rfl) hn) (by decide) ?_
                      obtain ⟨hg_65, hM⟩ := gd_some hM
                      refine gi_if_ne (tgt := 168) hx hb dX12_readsExpr_149 (by decide) hg_65 (fun c_66 => ?_) (fun c_66 => ?_)
                      · replace hM := ifn hM c_66
                        refine lv_goto (tgt := 118) hx hb dX12_readsExpr_168 (by decide) ?_
                        exact ih_52 v_35 S_64 H locs ls hM hG (lv_sub hl [1, 2, 3, 4, 5] rfl)
                      · replace hM := ifp hM c_66
                        refine lv_aload_n hx hb dX12_readsExpr_152 rfl (lv_at hl 3 rfl) ?_
                        refine m_get S hG 80 83 0 rfl ec_83 cpX12 wm_1673 dX12_readsExpr_153 rfl (Nat.lt_of_lt_of_le (Nat.le_of_ble_eq_true rfl) hn) (by decide) ?_
                        refine lv_bipush (v := iI 96) hx hb dX12_readsExpr_156 (by decide) ?_
                        refine lv_iload hx hb dX12_readsExpr_158 (lv_at hl 2 rfl) ?_
                        refine gi_add hx hb dX12_readsExpr_160 ?_
                        refine lv_iload hx hb dX12_readsExpr_161 (lv_at hl 0 rfl) ?_
                        obtain ⟨hg_67, hM⟩ := gd_some hM
                        refine mi_ast S hG 81 84 rfl ec_84 (Nat.lt_of_lt_of_le (Nat.le_of_ble_eq_true rfl) hn) dX12_readsExpr_163 hg_67 (by decide) (fun H locs S_68 eS_68 hG => ?_)
                        replace hM := nx_at hM eS_68
                        clear eS_68
                        refine lv_iload hx hb dX12_readsExpr_164 (lv_at hl 0 rfl) ?_
                        refine lv_istore (lv' := [(5, .int (iI r_63)), (7, .int (iI r_63)), (4, .int (iI x_23)), (0, .ref (b + 80)), (1, .int (iI a1)), (2, .int (iI a2))]) hx hb dX12_readsExpr_166 hl (by decide) rfl (fun ls hl => ?_)
                        refine lv_goto (tgt := 118) hx hb dX12_readsExpr_168 (by decide) ?_
                        exact ih_52 r_63 S_68 H locs ls hM hG (lv_sub hl [2, 0, 3, 4, 5] rfl)
              exact loop_51 FU r_19 S_34 H locs ls hc_38 hG (lv_sub hl [0, 2, 3, 4, 5] rfl)
            clear hM
            replace hM := hc_28
            obtain ⟨hg_69, hM⟩ := gd_some hM
            refine gi_if_ge (tgt := 91) hx hb dX12_readsExpr_80 (by decide) hg_69 (fun c_70 => ?_) (fun c_70 => ?_)
            · replace hM := ifp hM c_70
              refine lv_sipush (v := iI 144) hx hb dX12_readsExpr_91 (by decide) ?_
              refine lv_iload hx hb dX12_readsExpr_94 (lv_at hl 2 rfl) ?_
              refine gi_add hx hb dX12_readsExpr_96 ?_
              cases hM
              exact hK_29 H locs ls hG (lv_sub hl [0, 1, 3, 4, 5] rfl)
            · replace hM := ifn hM c_70
              refine lv_sipush (v := iI 168) hx hb dX12_readsExpr_83 (by decide) ?_
              refine lv_iload_n hx hb dX12_readsExpr_86 rfl (lv_at hl 4 rfl) ?_
              refine gi_add hx hb dX12_readsExpr_87 ?_
              refine lv_goto (tgt := 97) hx hb dX12_readsExpr_88 (by decide) ?_
              cases hM
              exact hK_29 H locs ls hG (lv_sub hl [0, 1, 3, 4, 5] rfl)
          · replace hM := ifn hM c_22
            cases hM
            exact hK_7 H locs ls rfl hG (lv_sub hl [] rfl)
        clear hM
        replace hM := hc_16
        obtain ⟨hg_71, hM⟩ := gd_some hM
        refine gi_icmp_ne (tgt := 30) hx hb dX12_readsExpr_23 (by decide) hg_71 (by decide) (fun c_72 => ?_) (fun c_72 => ?_)
        · replace hM := ifn hM c_72
          refine lv_iconst (v := iI 0) hx hb dX12_readsExpr_30 (by decide) ?_
          cases hM
          exact hK_17 H locs ls hG (lv_sub hl [0, 2, 3, 4] rfl)
        · replace hM := ifp hM c_72
          refine lv_iconst (v := iI 1) hx hb dX12_readsExpr_26 (by decide) ?_
          refine lv_goto (tgt := 31) hx hb dX12_readsExpr_27 (by decide) ?_
          cases hM
          exact hK_17 H locs ls hG (lv_sub hl [0, 2, 3, 4] rfl)
  exact loop_9 FU (-1) 1 S0 H locs ls hc_6 hG (lv_sub hl [0, 1, 2, 3, 4] rfl)
def bX12_readsIn (rec : Nat → Int → Int → Int → St → Option (Int × St)) (S0 : St) (a1 : Int) (a2 : Int) (a3 : Int) : Option (St) := gd (0 ≤ (24 + a1) ∧ (24 + a1) < 228) <| nx (up S0 84 (24 + a1) a2) fun S_2 => bd2 (gd (inI (S_2 83 8)) <| if (S_2 83 8) = 2 then (gd (inI (S_2 83 9)) <| bd1 (mX12_in (S_2 83 9) 1 7) fun r_20 => gd (inI r_20) <| if r_20 = 0 then (some (0, S_2)) else (gd (0 ≤ (48 + a1) ∧ (48 + a1) < 228) <| nx (up S_2 84 (48 + a1) (S_2 83 9)) fun S_24 => bd1 (mX12_next S_24) fun S_26 => some (1, S_26))) else (some (1, S_2))) fun t_3 S_4 => if t_3 = 0 then (bd2 (mX12_faults S_4 2) fun r_8 S_9 => some (S_9)) else (bd2 (rec 2 (a3 + 1) 0 0 S_4) fun r_12 S_13 => gd (0 ≤ (72 + a1) ∧ (72 + a1) < 228) <| nx (up S_13 84 (72 + a1) r_12) fun S_15 => some (S_15))
set_option maxHeartbeats 4000000 in
set_option maxRecDepth 100000 in
theorem spX12_readsIn (l : Launch) {D : va_G} {cy : Nat → ClassId} {b n : Nat} (hn : 102 ≤ n) {X : Nat → va_E} (rec : Nat → Int → Int → Int → St → Option (Int × St)) (d : Nat) (hd : 6 ≤ d) (hr0 : ∀ (S0 : St) (a1 : Int) (a2 : Int) (o1 : Int) (o2 : St), rec 0 a1 a2 0 S0 = some (o1, o2) → gV l yX12_readsExpr cX12_readsExpr 8 d 0 0 D cy b n (enc b cy X S0) [.ref (b + 80), .int (iI a1), .int (iI a2)] (fun u => u = (n, enc b cy X o2))) (hr1 : ∀ (S0 : St) (a1 : Int) (a2 : Int) (a3 : Int) (o1 : Int) (o2 : St), rec 1 a1 a2 a3 S0 = some (o1, o2) → gV l yX12_readsIn cX12_readsIn 4 d 0 0 D cy b n (enc b cy X S0) [.ref (b + 80), .int (iI a1), .int (iI a2), .int (iI a3)] (fun u => u = (n, enc b cy X o2))) (hr2 : ∀ (S0 : St) (a1 : Int) (a2 : Int) (o1 : Int) (o2 : St), rec 2 a1 a2 0 S0 = some (o1, o2) → gI l yX12_readsPart cX12_readsPart 8 (some .int) d 0 0 D cy b n (enc b cy X S0) [.ref (b + 80), .int (iI a1), .int (iI a2)] (fun r u => r = iI o1 ∧ u = (n, enc b cy X o2))) (S0 : St) (a1 : Int) (a2 : Int) (a3 : Int) (o1 : St) (hM : bX12_readsIn rec S0 a1 a2 a3 = some o1) : gV l yX12_readsIn cX12_readsIn 4 (d + 1) 0 0 D cy b n (enc b cy X S0) [.ref (b + 80), .int (iI a1), .int (iI a2), .int (iI a3)] (fun u => u = (n, enc b cy X o1)) := by
  refine gV_of (by decide) (Nat.le_of_ble_eq_true rfl) ?_
  intro p e s m args below meth c S hr hlk hin hsz ls hl hG
  have hx := S.1
  have hb := S.2.1
  have hl : lv_has ls 4 [(0, .ref (b + 80)), (1, .int (iI a1)), (2, .int (iI a2)), (3, .int (iI a3))] := hl
  replace hG : gW D cy b n s s.heap [] (enc b cy X S0) := hG
  obtain ⟨H, eH⟩ : ∃ H, H = s.heap := ⟨_, rfl⟩
  obtain ⟨locs, elocs⟩ : ∃ locs : List Loc, locs = [] := ⟨_, rfl⟩
  rw [← eH, ← elocs] at hG
  rw [← eH, ← elocs]
  clear eH elocs
  unfold bX12_readsIn at hM
  refine lv_aload_n hx hb dX12_readsIn_0 rfl (lv_at hl 0 rfl) ?_
  refine m_get S hG 80 83 0 rfl ec_83 cpX12 wm_1673 dX12_readsIn_1 rfl (Nat.lt_of_lt_of_le (Nat.le_of_ble_eq_true rfl) hn) (by decide) ?_
  refine lv_bipush (v := iI 24) hx hb dX12_readsIn_4 (by decide) ?_
  refine lv_iload_n hx hb dX12_readsIn_6 rfl (lv_at hl 1 rfl) ?_
  refine gi_add hx hb dX12_readsIn_7 ?_
  refine lv_iload_n hx hb dX12_readsIn_8 rfl (lv_at hl 2 rfl) ?_
  obtain ⟨hg_1, hM⟩ := gd_some hM
  refine mi_ast S hG 81 84 rfl ec_84 (Nat.lt_of_lt_of_le (Nat.le_of_ble_eq_true rfl) hn) dX12_readsIn_9 hg_1 (by decide) (fun H locs S_2 eS_2 hG => ?_)
  replace hM := nx_at hM eS_2
  clear eS_2
  refine lv_aload_n hx hb dX12_readsIn_10 rfl (lv_at hl 0 rfl) ?_
  refine m_get S hG 80 83 8 rfl ec_83 cpX12 wm_1681 dX12_readsIn_11 rfl (Nat.lt_of_lt_of_le (Nat.le_of_ble_eq_true rfl) hn) (by decide) ?_
  refine lv_iconst (v := iI 2) hx hb dX12_readsIn_14 (by decide) ?_
  obtain ⟨t_3, S_4, hc_5, hM⟩ := bd2_some hM
  have hK_6 : ∀ (H : Heap) (locs : List Loc) (ls : Array Slot), t_3 = 0 → gW D cy b n s H locs (enc b cy X S_4) → lv_has ls 4 [(0, .ref (b + 80))] → W p l e (gRm (d + 1) 0 0) s m args below meth c H locs 0 0 (gQV D cy b s args below 0 0 (fun u => u = (n, enc b cy X o1))) (F0 m 33 ls []) := by
    intro H locs ls ht hG hl
    subst ht
    replace hM := ifp hM rfl
    refine lv_aload_n hx hb dX12_readsIn_33 rfl (lv_at hl 0 rfl) ?_
    refine lv_iconst (v := iI 2) hx hb dX12_readsIn_34 (by decide) ?_
    obtain ⟨r_8, S_9, hc_7, hM⟩ := bd2_some hM
    refine g_vi (As := [.int (iI 2)]) (rest := []) S hG hsz (vX12_faults l hn 2 hc_7) wV_12_169 (ec_83 _) cpX12 (Nat.lt_of_lt_of_le (Nat.le_of_ble_eq_true rfl) hn) dX12_readsIn_35 rfl hl.1 (ar := 1) (by decide +kernel) rfl (by refine ⟨?_, ?_, ?_, ?_⟩ <;> first | exact Nat.le_of_ble_eq_true rfl | (simp only [gRm]; omega)) (Nat.le_of_ble_eq_true rfl) (fun rv uu H locs hp hG => ?_)
    obtain ⟨rfl, rfl⟩ := hp
    replace hG : gW D cy b n s H locs (enc b cy X S_9) := hG
    refine lv_pop hx hb dX12_readsIn_38 rfl ?_
    cases hM
    exact g_vret S hr hlk hG hsz dX12_readsIn_39 ⟨Nat.le_of_ble_eq_true rfl, Nat.le_of_ble_eq_true rfl⟩ rfl
  have hK_10 : ∀ (H : Heap) (locs : List Loc) (ls : Array Slot), t_3 = 1 → gW D cy b n s H locs (enc b cy X S_4) → lv_has ls 4 [(0, .ref (b + 80)), (1, .int (iI a1)), (3, .int (iI a3))] → W p l e (gRm (d + 1) 0 0) s m args below meth c H locs 0 0 (gQV D cy b s args below 0 0 (fun u => u = (n, enc b cy X o1))) (F0 m 57 ls []) := by
    intro H locs ls ht hG hl
    subst ht
    replace hM := ifn hM (by decide)
    refine lv_aload_n hx hb dX12_readsIn_57 rfl (lv_at hl 0 rfl) ?_
    refine m_get S hG 80 83 0 rfl ec_83 cpX12 wm_1673 dX12_readsIn_58 rfl (Nat.lt_of_lt_of_le (Nat.le_of_ble_eq_true rfl) hn) (by decide) ?_
    refine lv_bipush (v := iI 72) hx hb dX12_readsIn_61 (by decide) ?_
    refine lv_iload_n hx hb dX12_readsIn_63 rfl (lv_at hl 1 rfl) ?_
    refine gi_add hx hb dX12_readsIn_64 ?_
    refine lv_aload_n hx hb dX12_readsIn_65 rfl (lv_at hl 0 rfl) ?_
    refine lv_iload_n hx hb dX12_readsIn_66 rfl (lv_at hl 2 rfl) ?_
    refine lv_iconst (v := iI 1) hx hb dX12_readsIn_67 (by decide) ?_
    refine gi_add hx hb dX12_readsIn_68 ?_
    refine lv_iconst (v := iI 0) hx hb dX12_readsIn_69 (by decide) ?_
    obtain ⟨r_12, S_13, hc_11, hM⟩ := bd2_some hM
    refine g_vi (As := [.int (iI (a3 + 1)), .int (iI 0)]) (rest := [.int (iI (72 + a1)), .ref (b + 81)]) S hG hsz (hr2 _ (a3 + 1) 0 _ _ hc_11) wV_12_196 (ec_83 _) cpX12 (Nat.lt_of_lt_of_le (Nat.le_of_ble_eq_true rfl) hn) dX12_readsIn_70 rfl hl.1 (ar := 2) (by decide +kernel) rfl (by refine ⟨?_, ?_, ?_, ?_⟩ <;> first | exact Nat.le_of_ble_eq_true rfl | (simp only [gRm]; omega)) (Nat.le_of_ble_eq_true rfl) (fun rv uu H locs hp hG => ?_)
    obtain ⟨rfl, rfl⟩ := hp
    replace hG : gW D cy b n s H locs (enc b cy X S_13) := hG
    obtain ⟨hg_14, hM⟩ := gd_some hM
    refine mi_ast S hG 81 84 rfl ec_84 (Nat.lt_of_lt_of_le (Nat.le_of_ble_eq_true rfl) hn) dX12_readsIn_73 hg_14 (by decide) (fun H locs S_15 eS_15 hG => ?_)
    replace hM := nx_at hM eS_15
    clear eS_15
    cases hM
    exact g_vret S hr hlk hG hsz dX12_readsIn_74 ⟨Nat.le_of_ble_eq_true rfl, Nat.le_of_ble_eq_true rfl⟩ rfl
  clear hM
  replace hM := hc_5
  obtain ⟨hg_16, hM⟩ := gd_some hM
  refine gi_icmp_ne (tgt := 57) hx hb dX12_readsIn_15 (by decide) hg_16 (by decide) (fun c_17 => ?_) (fun c_17 => ?_)
  · replace hM := ifn hM c_17
    cases hM
    exact hK_10 H locs ls rfl hG (lv_sub hl [0, 1, 3] rfl)
  · replace hM := ifp hM c_17
    refine lv_aload_n hx hb dX12_readsIn_18 rfl (lv_at hl 0 rfl) ?_
    refine m_get S hG 80 83 9 rfl ec_83 cpX12 wm_1682 dX12_readsIn_19 rfl (Nat.lt_of_lt_of_le (Nat.le_of_ble_eq_true rfl) hn) (by decide) ?_
    obtain ⟨hg_18, hM⟩ := gd_some hM
    refine gi_i2l hx hb dX12_readsIn_22 hg_18 ?_
    refine lv_lconst (v := jJ 1) hx hb dX12_readsIn_23 (by decide) ?_
    refine lv_ldc2 (v := 7) hx hb S.2.2.2.1 (S.2.2.2.2 _ wm_1928) dX12_readsIn_24 ?_
    refine gj_as 7 (by decide) ?_
    obtain ⟨r_20, hc_19, hM⟩ := bd1_some hM
    refine g_si (As := [.long (jJ (S_2 83 9)), .long (jJ 1), .long (jJ 7)]) (rest := []) S hG hsz (vX12_in l hn (S_2 83 9) 1 7 hc_19) wS_12_97 dX12_readsIn_27 rfl hl.1 (ar := 3) (by decide +kernel) rfl (by refine ⟨?_, ?_, ?_, ?_⟩ <;> first | exact Nat.le_of_ble_eq_true rfl | (simp only [gRm]; omega)) (Nat.le_of_ble_eq_true rfl) (fun rv uu H locs hp hG => ?_)
    obtain ⟨rfl, rfl⟩ := hp
    replace hG : gW D cy b n s H locs (enc b cy X S_2) := hG
    obtain ⟨hg_21, hM⟩ := gd_some hM
    refine gi_if_ne (tgt := 40) hx hb dX12_readsIn_30 (by decide) hg_21 (fun c_22 => ?_) (fun c_22 => ?_)
    · replace hM := ifn hM c_22
      refine lv_aload_n hx hb dX12_readsIn_40 rfl (lv_at hl 0 rfl) ?_
      refine m_get S hG 80 83 0 rfl ec_83 cpX12 wm_1673 dX12_readsIn_41 rfl (Nat.lt_of_lt_of_le (Nat.le_of_ble_eq_true rfl) hn) (by decide) ?_
      refine lv_bipush (v := iI 48) hx hb dX12_readsIn_44 (by decide) ?_
      refine lv_iload_n hx hb dX12_readsIn_46 rfl (lv_at hl 1 rfl) ?_
      refine gi_add hx hb dX12_readsIn_47 ?_
      refine lv_aload_n hx hb dX12_readsIn_48 rfl (lv_at hl 0 rfl) ?_
      refine m_get S hG 80 83 9 rfl ec_83 cpX12 wm_1682 dX12_readsIn_49 rfl (Nat.lt_of_lt_of_le (Nat.le_of_ble_eq_true rfl) hn) (by decide) ?_
      obtain ⟨hg_23, hM⟩ := gd_some hM
      refine mi_ast S hG 81 84 rfl ec_84 (Nat.lt_of_lt_of_le (Nat.le_of_ble_eq_true rfl) hn) dX12_readsIn_52 hg_23 (by decide) (fun H locs S_24 eS_24 hG => ?_)
      replace hM := nx_at hM eS_24
      clear eS_24
      refine lv_aload_n hx hb dX12_readsIn_53 rfl (lv_at hl 0 rfl) ?_
      obtain ⟨S_26, hc_25, hM⟩ := bd1_some hM
      refine g_vv (As := []) (rest := []) S hG hsz (vX12_next l hn  hc_25) wV_12_173 (ec_83 _) cpX12 (Nat.lt_of_lt_of_le (Nat.le_of_ble_eq_true rfl) hn) dX12_readsIn_54 rfl hl.1 (ar := 0) (by decide +kernel) rfl (by refine ⟨?_, ?_, ?_, ?_⟩ <;> first | exact Nat.le_of_ble_eq_true rfl | (simp only [gRm]; omega)) (Nat.le_of_ble_eq_true rfl) (fun uu H locs hp hG => ?_)
      obtain rfl := hp
      replace hG : gW D cy b n s H locs (enc b cy X S_26) := hG
      cases hM
      exact hK_10 H locs ls rfl hG (lv_sub hl [0, 1, 3] rfl)
    · replace hM := ifp hM c_22
      cases hM
      exact hK_6 H locs ls rfl hG (lv_sub hl [0] rfl)
def bX12_readsPart (rec : Nat → Int → Int → Int → St → Option (Int × St)) (S0 : St) (a1 : Int) (a2 : Int) : Option (Int × St) := bd1 (gd (inI (S0 83 8)) <| if (S0 83 8) = 1 then (bd1 (mX12_key S0) fun r_197 => some (r_197)) else (some ((-1)))) fun z_1 => bd1 (gd (inI (S0 83 8)) <| if (S0 83 8) = 1 then (gd (inI z_1) <| if 0 ≤ z_1 then (some ((-1))) else (bd1 (mX12_named S0) fun r_193 => some (r_193))) else (some ((-1)))) fun z_4 => bd1 (mX12_isSign S0 40) fun r_8 => bd1 (gd (inI r_8) <| if r_8 = 0 then (gd (inI z_1) <| if z_1 ≤ 5 then (some (0)) else (some (1))) else (some (1))) fun z_9 => gd (inI (S0 83 8)) <| if (S0 83 8) = 1 then (gd (inI z_1) <| bd1 (mX12_in z_1 0 1) fun r_16 => gd (inI r_16) <| if r_16 = 0 then (bd1 (mX12_in z_1 4 5) fun r_23 => gd (inI r_23) <| if r_23 = 0 then (bd1 (if (S0 83 8) = 1 then (if 0 ≤ z_1 then (some (1)) else (gd (inI z_4) <| if 0 ≤ z_4 then (some (1)) else (some (0)))) else (some (1))) fun t_26 => if t_26 = 0 then (bd2 (mX12_faults S0 2) fun r_30 S_31 => some (r_30, S_31)) else (gd (inI a2) <| if a2 = 0 then (gd (inI (S0 84 2)) <| if (S0 84 2) = 24 then (bd2 (mX12_faults S0 3) fun r_41 S_42 => some (r_41, S_42)) else (bd1 (gd (inI z_9) <| if z_9 = 0 then (some (1)) else (gd (inI a1) <| if a1 = 6 then (some (0)) else (some (1)))) fun t_43 => if t_43 = 0 then (bd2 (mX12_faults S0 3) fun r_47 S_48 => some (r_47, S_48)) else (nx (S0 84 2) fun x_50 => nx (up S0 84 2 ((S0 84 2) + 1)) fun S_51 => bd1 (mX12_next S_51) fun S_53 => bd1 (gd (inI r_8) <| if r_8 = 0 then (if 0 ≤ z_1 then (if z_1 = 3 then (gd (0 ≤ (24 + x_50) ∧ (24 + x_50) < 228) <| nx (up S_53 84 (24 + x_50) 1) fun S_70 => some (S_70)) else (if z_1 = 2 then (bd1 (mX12_readsAtom S_53 x_50) fun S_68 => some (S_68)) else (bd2 (rec 1 x_50 (z_1 - 3) a1 S_53) fun r_66 S_65 => some (S_65)))) else (gd (0 ≤ (24 + x_50) ∧ (24 + x_50) < 228) <| nx (up S_53 84 (24 + x_50) 2) fun S_72 => gd (0 ≤ (48 + x_50) ∧ (48 + x_50) < 228) <| nx (up S_72 84 (48 + x_50) z_4) fun S_74 => some (S_74))) else (gd (0 ≤ (24 + x_50) ∧ (24 + x_50) < 228) <| nx (up S_53 84 (24 + x_50) 7) fun S_76 => gd (0 ≤ (48 + x_50) ∧ (48 + x_50) < 228) <| nx (up S_76 84 (48 + x_50) (6 + x_50)) fun S_78 => bd2 (rec 0 (6 + x_50) (a1 + 1) 0 S_78) fun r_81 S_80 => gd (inI (S_80 83 10)) <| if (S_80 83 10) = 0 then (bd1 (mX12_needs S_80 41) fun S_85 => some (S_85)) else (some (S_80)))) fun S_54 => gd (inI (S_54 83 10)) <| if (S_54 83 10) = 0 then (some (x_50, S_54)) else (some ((-1), S_54))))) else (bd2 (mX12_faults S0 3) fun r_36 S_37 => some (r_36, S_37)))) else (bd2 (mX12_faults S0 1) fun r_95 S_96 => some (r_95, S_96))) else (bd2 (mX12_faults S0 1) fun r_20 S_21 => some (r_20, S_21))) else (gd (inI r_8) <| if r_8 = 0 then (bd2 (mX12_faults S0 1) fun r_100 S_101 => some (r_100, S_101)) else (gd (inI z_1) <| bd1 (mX12_in z_1 0 1) fun r_104 => gd (inI r_104) <| if r_104 = 0 then (bd1 (mX12_in z_1 4 5) fun r_111 => gd (inI r_111) <| if r_111 = 0 then (bd1 (if (S0 83 8) = 1 then (if 0 ≤ z_1 then (some (1)) else (gd (inI z_4) <| if 0 ≤ z_4 then (some (1)) else (some (0)))) else (some (1))) fun t_114 => if t_114 = 0 then (bd2 (mX12_faults S0 2) fun r_118 S_119 => some (r_118, S_119)) else (gd (inI a2) <| if a2 = 0 then (gd (inI (S0 84 2)) <| if (S0 84 2) = 24 then (bd2 (mX12_faults S0 3) fun r_129 S_130 => some (r_129, S_130)) else (bd1 (gd (inI z_9) <| if z_9 = 0 then (some (1)) else (gd (inI a1) <| if a1 = 6 then (some (0)) else (some (1)))) fun t_131 => if t_131 = 0 then (bd2 (mX12_faults S0 3) fun r_135 S_136 => some (r_135, S_136)) else (nx (S0 84 2) fun x_138 => nx (up S0 84 2 ((S0 84 2) + 1)) fun S_139 => bd1 (mX12_next S_139) fun S_141 => bd1 (if r_8 = 0 then (if 0 ≤ z_1 then (if z_1 = 3 then (gd (0 ≤ (24 + x_138) ∧ (24 + x_138) < 228) <| nx (up S_141 84 (24 + x_138) 1) fun S_157 => some (S_157)) else (if z_1 = 2 then (bd1 (mX12_readsAtom S_141 x_138) fun S_155 => some (S_155)) else (bd2 (rec 1 x_138 (z_1 - 3) a1 S_141) fun r_153 S_152 => some (S_152)))) else (gd (0 ≤ (24 + x_138) ∧ (24 + x_138) < 228) <| nx (up S_141 84 (24 + x_138) 2) fun S_159 => gd (0 ≤ (48 + x_138) ∧ (48 + x_138) < 228) <| nx (up S_159 84 (48 + x_138) z_4) fun S_161 => some (S_161))) else (gd (0 ≤ (24 + x_138) ∧ (24 + x_138) < 228) <| nx (up S_141 84 (24 + x_138) 7) fun S_163 => gd (0 ≤ (48 + x_138) ∧ (48 + x_138) < 228) <| nx (up S_163 84 (48 + x_138) (6 + x_138)) fun S_165 => bd2 (rec 0 (6 + x_138) (a1 + 1) 0 S_165) fun r_168 S_167 => gd (inI (S_167 83 10)) <| if (S_167 83 10) = 0 then (bd1 (mX12_needs S_167 41) fun S_172 => some (S_172)) else (some (S_167)))) fun S_142 => gd (inI (S_142 83 10)) <| if (S_142 83 10) = 0 then (some (x_138, S_142)) else (some ((-1), S_142))))) else (bd2 (mX12_faults S0 3) fun r_124 S_125 => some (r_124, S_125)))) else (bd2 (mX12_faults S0 1) fun r_182 S_183 => some (r_182, S_183))) else (bd2 (mX12_faults S0 1) fun r_108 S_109 => some (r_108, S_109))))
set_option maxHeartbeats 4000000 in
set_option maxRecDepth 100000 in
theorem spX12_readsPart (l : Launch) {D : va_G} {cy : Nat → ClassId} {b n : Nat} (hn : 102 ≤ n) {X : Nat → va_E} (rec : Nat → Int → Int → Int → St → Option (Int × St)) (d : Nat) (hd : 6 ≤ d) (hr0 : ∀ (S0 : St) (a1 : Int) (a2 : Int) (o1 : Int) (o2 : St), rec 0 a1 a2 0 S0 = some (o1, o2) → gV l yX12_readsExpr cX12_readsExpr 8 d 0 0 D cy b n (enc b cy X S0) [.ref (b + 80), .int (iI a1), .int (iI a2)] (fun u => u = (n, enc b cy X o2))) (hr1 : ∀ (S0 : St) (a1 : Int) (a2 : Int) (a3 : Int) (o1 : Int) (o2 : St), rec 1 a1 a2 a3 S0 = some (o1, o2) → gV l yX12_readsIn cX12_readsIn 4 d 0 0 D cy b n (enc b cy X S0) [.ref (b + 80), .int (iI a1), .int (iI a2), .int (iI a3)] (fun u => u = (n, enc b cy X o2))) (hr2 : ∀ (S0 : St) (a1 : Int) (a2 : Int) (o1 : Int) (o2 : St), rec 2 a1 a2 0 S0 = some (o1, o2) → gI l yX12_readsPart cX12_readsPart 8 (some .int) d 0 0 D cy b n (enc b cy X S0) [.ref (b + 80), .int (iI a1), .int (iI a2)] (fun r u => r = iI o1 ∧ u = (n, enc b cy X o2))) (S0 : St) (a1 : Int) (a2 : Int) (o1 : Int) (o2 : St) (hM : bX12_readsPart rec S0 a1 a2 = some (o1, o2)) : gI l yX12_readsPart cX12_readsPart 8 (some .int) (d + 1) 0 0 D cy b n (enc b cy X S0) [.ref (b + 80), .int (iI a1), .int (iI a2)] (fun r u => r = iI o1 ∧ u = (n, enc b cy X o2)) := by
  refine gI_of (by decide) (Nat.le_of_ble_eq_true rfl) ?_
  intro p e s m args below meth c S hr hlk hin hsz ls hl hG
  have hx := S.1
  have hb := S.2.1
  have hl : lv_has ls 8 [(0, .ref (b + 80)), (1, .int (iI a1)), (2, .int (iI a2))] := hl
  replace hG : gW D cy b n s s.heap [] (enc b cy X S0) := hG
  obtain ⟨H, eH⟩ : ∃ H, H = s.heap := ⟨_, rfl⟩
  obtain ⟨locs, elocs⟩ : ∃ locs : List Loc, locs = [] := ⟨_, rfl⟩
  rw [← eH, ← elocs] at hG
  rw [← eH, ← elocs]
  clear eH elocs
  unfold bX12_readsPart at hM
  refine lv_aload_n hx hb dX12_readsPart_0 rfl (lv_at hl 0 rfl) ?_
  refine m_get S hG 80 83 8 rfl ec_83 cpX12 wm_1681 dX12_readsPart_1 rfl (Nat.lt_of_lt_of_le (Nat.le_of_ble_eq_true rfl) hn) (by decide) ?_
  refine lv_iconst (v := iI 1) hx hb dX12_readsPart_4 (by decide) ?_
  obtain ⟨z_1, hc_2, hM⟩ := bd1_some hM
  have hK_3 : ∀ (H : Heap) (locs : List Loc) (ls : Array Slot), gW D cy b n s H locs (enc b cy X S0) → lv_has ls 8 [(0, .ref (b + 80)), (1, .int (iI a1)), (2, .int (iI a2))] → W p l e (gRm (d + 1) 0 0) s m args below meth c H locs 0 0 (gQI D cy b s args below 0 0 (fun r u => r = iI o1 ∧ u = (n, enc b cy X o2))) (F0 m 16 ls [.int (iI z_1)]) := by
    intro H locs ls hG hl
    refine lv_istore_n (lv' := [(3, .int (iI z_1)), (0, .ref (b + 80)), (1, .int (iI a1)), (2, .int (iI a2))]) hx hb dX12_readsPart_16 rfl hl (by decide) rfl (fun ls hl => ?_)
    refine lv_aload_n hx hb dX12_readsPart_17 rfl (lv_at hl 1 rfl) ?_
    refine m_get S hG 80 83 8 rfl ec_83 cpX12 wm_1681 dX12_readsPart_18 rfl (Nat.lt_of_lt_of_le (Nat.le_of_ble_eq_true rfl) hn) (by decide) ?_
    refine lv_iconst (v := iI 1) hx hb dX12_readsPart_21 (by decide) ?_
    obtain ⟨z_4, hc_5, hM⟩ := bd1_some hM
    have hK_6 : ∀ (H : Heap) (locs : List Loc) (ls : Array Slot), gW D cy b n s H locs (enc b cy X S0) → lv_has ls 8 [(3, .int (iI z_1)), (0, .ref (b + 80)), (1, .int (iI a1)), (2, .int (iI a2))] → W p l e (gRm (d + 1) 0 0) s m args below meth c H locs 0 0 (gQI D cy b s args below 0 0 (fun r u => r = iI o1 ∧ u = (n, enc b cy X o2))) (F0 m 37 ls [.int (iI z_4)]) := by
      intro H locs ls hG hl
      refine lv_istore (lv' := [(4, .int (iI z_4)), (3, .int (iI z_1)), (0, .ref (b + 80)), (1, .int (iI a1)), (2, .int (iI a2))]) hx hb dX12_readsPart_37 hl (by decide) rfl (fun ls hl => ?_)
      refine lv_aload_n hx hb dX12_readsPart_39 rfl (lv_at hl 2 rfl) ?_
      refine lv_bipush (v := iI 40) hx hb dX12_readsPart_40 (by decide) ?_
      obtain ⟨r_8, hc_7, hM⟩ := bd1_some hM
      refine g_vi (As := [.int (iI 40)]) (rest := []) S hG hsz (vX12_isSign l hn 40 hc_7) wV_12_165 (ec_83 _) cpX12 (Nat.lt_of_lt_of_le (Nat.le_of_ble_eq_true rfl) hn) dX12_readsPart_42 rfl hl.1 (ar := 1) (by decide +kernel) rfl (by refine ⟨?_, ?_, ?_, ?_⟩ <;> first | exact Nat.le_of_ble_eq_true rfl | (simp only [gRm]; omega)) (Nat.le_of_ble_eq_true rfl) (fun rv uu H locs hp hG => ?_)
      obtain ⟨rfl, rfl⟩ := hp
      replace hG : gW D cy b n s H locs (enc b cy X S0) := hG
      refine lv_istore (lv' := [(5, .int (iI r_8)), (4, .int (iI z_4)), (3, .int (iI z_1)), (0, .ref (b + 80)), (1, .int (iI a1)), (2, .int (iI a2))]) hx hb dX12_readsPart_45 hl (by decide) rfl (fun ls hl => ?_)
      refine lv_iload hx hb dX12_readsPart_47 (lv_at hl 0 rfl) ?_
      obtain ⟨z_9, hc_10, hM⟩ := bd1_some hM
      have hK_11 : ∀ (H : Heap) (locs : List Loc) (ls : Array Slot), gW D cy b n s H locs (enc b cy X S0) → lv_has ls 8 [(5, .int (iI r_8)), (4, .int (iI z_4)), (3, .int (iI z_1)), (0, .ref (b + 80)), (1, .int (iI a1)), (2, .int (iI a2))] → W p l e (gRm (d + 1) 0 0) s m args below meth c H locs 0 0 (gQI D cy b s args below 0 0 (fun r u => r = iI o1 ∧ u = (n, enc b cy X o2))) (F0 m 62 ls [.int (iI z_9)]) := by
        intro H locs ls hG hl
        refine lv_istore (lv' := [(6, .int (iI z_9)), (5, .int (iI r_8)), (4, .int (iI z_4)), (3, .int (iI z_1)), (0, .ref (b + 80)), (1, .int (iI a1)), (2, .int (iI a2))]) hx hb dX12_readsPart_62 hl (by decide) rfl (fun ls hl => ?_)
        refine lv_aload_n hx hb dX12_readsPart_64 rfl (lv_at hl 4 rfl) ?_
        refine m_get S hG 80 83 8 rfl ec_83 cpX12 wm_1681 dX12_readsPart_65 rfl (Nat.lt_of_lt_of_le (Nat.le_of_ble_eq_true rfl) hn) (by decide) ?_
        refine lv_iconst (v := iI 1) hx hb dX12_readsPart_68 (by decide) ?_
        obtain ⟨hg_12, hM⟩ := gd_some hM
        refine gi_icmp_eq (tgt := 77) hx hb dX12_readsPart_69 (by decide) hg_12 (by decide) (fun c_13 => ?_) (fun c_13 => ?_)
        · replace hM := ifp hM c_13
          refine lv_iload_n hx hb dX12_readsPart_77 rfl (lv_at hl 3 rfl) ?_
          obtain ⟨hg_14, hM⟩ := gd_some hM
          refine gi_i2l hx hb dX12_readsPart_78 hg_14 ?_
          refine lv_lconst (v := jJ 0) hx hb dX12_readsPart_79 (by decide) ?_
          refine lv_lconst (v := jJ 1) hx hb dX12_readsPart_80 (by decide) ?_
          obtain ⟨r_16, hc_15, hM⟩ := bd1_some hM
          refine g_si (As := [.long (jJ z_1), .long (jJ 0), .long (jJ 1)]) (rest := []) S hG hsz (vX12_in l hn z_1 0 1 hc_15) wS_12_97 dX12_readsPart_81 rfl hl.1 (ar := 3) (by decide +kernel) rfl (by refine ⟨?_, ?_, ?_, ?_⟩ <;> first | exact Nat.le_of_ble_eq_true rfl | (simp only [gRm]; omega)) (Nat.le_of_ble_eq_true rfl) (fun rv uu H locs hp hG => ?_)
          obtain ⟨rfl, rfl⟩ := hp
          replace hG : gW D cy b n s H locs (enc b cy X S0) := hG
          obtain ⟨hg_17, hM⟩ := gd_some hM
          refine gi_if_ne (tgt := 101) hx hb dX12_readsPart_84 (by decide) hg_17 (fun c_18 => ?_) (fun c_18 => ?_)
          · replace hM := ifn hM c_18
            refine lv_aload_n hx hb dX12_readsPart_101 rfl (lv_at hl 4 rfl) ?_
            refine lv_iconst (v := iI 1) hx hb dX12_readsPart_102 (by decide) ?_
            obtain ⟨r_20, S_21, hc_19, hM⟩ := bd2_some hM
            refine g_vi (As := [.int (iI 1)]) (rest := []) S hG hsz (vX12_faults l hn 1 hc_19) wV_12_169 (ec_83 _) cpX12 (Nat.lt_of_lt_of_le (Nat.le_of_ble_eq_true rfl) hn) dX12_readsPart_103 rfl hl.1 (ar := 1) (by decide +kernel) rfl (by refine ⟨?_, ?_, ?_, ?_⟩ <;> first | exact Nat.le_of_ble_eq_true rfl | (simp only [gRm]; omega)) (Nat.le_of_ble_eq_true rfl) (fun rv uu H locs hp hG => ?_)
            obtain ⟨rfl, rfl⟩ := hp
            replace hG : gW D cy b n s H locs (enc b cy X S_21) := hG
            cases hM
            exact g_iret S hr hlk hG hsz dX12_readsPart_106 ⟨Nat.le_of_ble_eq_true rfl, Nat.le_of_ble_eq_true rfl⟩ ⟨rfl, rfl⟩
          · replace hM := ifp hM c_18
            refine lv_iload_n hx hb dX12_readsPart_87 rfl (lv_at hl 3 rfl) ?_
            refine gi_i2l hx hb dX12_readsPart_88 hg_14 ?_
            refine lv_ldc2 (v := 4) hx hb S.2.2.2.1 (S.2.2.2.2 _ wm_1918) dX12_readsPart_89 ?_
            refine gj_as 4 (by decide) ?_
            refine lv_ldc2 (v := 5) hx hb S.2.2.2.1 (S.2.2.2.2 _ wm_1919) dX12_readsPart_92 ?_
            refine gj_as 5 (by decide) ?_
            obtain ⟨r_23, hc_22, hM⟩ := bd1_some hM
            refine g_si (As := [.long (jJ z_1), .long (jJ 4), .long (jJ 5)]) (rest := []) S hG hsz (vX12_in l hn z_1 4 5 hc_22) wS_12_97 dX12_readsPart_95 rfl hl.1 (ar := 3) (by decide +kernel) rfl (by refine ⟨?_, ?_, ?_, ?_⟩ <;> first | exact Nat.le_of_ble_eq_true rfl | (simp only [gRm]; omega)) (Nat.le_of_ble_eq_true rfl) (fun rv uu H locs hp hG => ?_)
            obtain ⟨rfl, rfl⟩ := hp
            replace hG : gW D cy b n s H locs (enc b cy X S0) := hG
            obtain ⟨hg_24, hM⟩ := gd_some hM
            refine gi_if_eq (tgt := 107) hx hb dX12_readsPart_98 (by decide) hg_24 (fun c_25 => ?_) (fun c_25 => ?_)
            · replace hM := ifp hM c_25
              refine lv_aload_n hx hb dX12_readsPart_107 rfl (lv_at hl 4 rfl) ?_
              refine m_get S hG 80 83 8 rfl ec_83 cpX12 wm_1681 dX12_readsPart_108 rfl (Nat.lt_of_lt_of_le (Nat.le_of_ble_eq_true rfl) hn) (by decide) ?_
              refine lv_iconst (v := iI 1) hx hb dX12_readsPart_111 (by decide) ?_
              obtain ⟨t_26, hc_27, hM⟩ := bd1_some hM
              have hK_28 : ∀ (H : Heap) (locs : List Loc) (ls : Array Slot), t_26 = 0 → gW D cy b n s H locs (enc b cy X S0) → lv_has ls 8 [(0, .ref (b + 80))] → W p l e (gRm (d + 1) 0 0) s m args below meth c H locs 0 0 (gQI D cy b s args below 0 0 (fun r u => r = iI o1 ∧ u = (n, enc b cy X o2))) (F0 m 124 ls []) := by
                intro H locs ls ht hG hl
                subst ht
                replace hM := ifp hM rfl
                refine lv_aload_n hx hb dX12_readsPart_124 rfl (lv_at hl 0 rfl) ?_
                refine lv_iconst (v := iI 2) hx hb dX12_readsPart_125 (by decide) ?_
                obtain ⟨r_30, S_31, hc_29, hM⟩ := bd2_some hM
                refine g_vi (As := [.int (iI 2)]) (rest := []) S hG hsz (vX12_faults l hn 2 hc_29) wV_12_169 (ec_83 _) cpX12 (Nat.lt_of_lt_of_le (Nat.le_of_ble_eq_true rfl) hn) dX12_readsPart_126 rfl hl.1 (ar := 1) (by decide +kernel) rfl (by refine ⟨?_, ?_, ?_, ?_⟩ <;> first | exact Nat.le_of_ble_eq_true rfl | (simp only [gRm]; omega)) (Nat.le_of_ble_eq_true rfl) (fun rv uu H locs hp hG => ?_)
                obtain ⟨rfl, rfl⟩ := hp
                replace hG : gW D cy b n s H locs (enc b cy X S_31) := hG
                cases hM
                exact g_iret S hr hlk hG hsz dX12_readsPart_129 ⟨Nat.le_of_ble_eq_true rfl, Nat.le_of_ble_eq_true rfl⟩ ⟨rfl, rfl⟩
              have hK_32 : ∀ (H : Heap) (locs : List Loc) (ls : Array Slot), t_26 = 1 → gW D cy b n s H locs (enc b cy X S0) → lv_has ls 8 [(6, .int (iI z_9)), (5, .int (iI r_8)), (4, .int (iI z_4)), (3, .int (iI z_1)), (0, .ref (b + 80)), (1, .int (iI a1)), (2, .int (iI a2))] → W p l e (gRm (d + 1) 0 0) s m args below meth c H locs 0 0 (gQI D cy b s args below 0 0 (fun r u => r = iI o1 ∧ u = (n, enc b cy X o2))) (F0 m 130 ls []) := by
                intro H locs ls ht hG hl
                subst ht
                replace hM := ifn hM (by decide)
                refine lv_iload_n hx hb dX12_readsPart_130 rfl (lv_at hl 6 rfl) ?_
                obtain ⟨hg_33, hM⟩ := gd_some hM
                refine gi_if_ne (tgt := 156) hx hb dX12_readsPart_131 (by decide) hg_33 (fun c_34 => ?_) (fun c_34 => ?_)
                · replace hM := ifn hM c_34
                  refine lv_aload_n hx hb dX12_readsPart_156 rfl (lv_at hl 4 rfl) ?_
                  refine lv_iconst (v := iI 3) hx hb dX12_readsPart_157 (by decide) ?_
                  obtain ⟨r_36, S_37, hc_35, hM⟩ := bd2_some hM
                  refine g_vi (As := [.int (iI 3)]) (rest := []) S hG hsz (vX12_faults l hn 3 hc_35) wV_12_169 (ec_83 _) cpX12 (Nat.lt_of_lt_of_le (Nat.le_of_ble_eq_true rfl) hn) dX12_readsPart_158 rfl hl.1 (ar := 1) (by decide +kernel) rfl (by refine ⟨?_, ?_, ?_, ?_⟩ <;> first | exact Nat.le_of_ble_eq_true rfl | (simp only [gRm]; omega)) (Nat.le_of_ble_eq_true rfl) (fun rv uu H locs hp hG => ?_)
                  obtain ⟨rfl, rfl⟩ := hp
                  replace hG : gW D cy b n s H locs (enc b cy X S_37) := hG
                  cases hM
                  exact g_iret S hr hlk hG hsz dX12_readsPart_161 ⟨Nat.le_of_ble_eq_true rfl, Nat.le_of_ble_eq_true rfl⟩ ⟨rfl, rfl⟩
                · replace hM := ifp hM c_34
                  refine lv_aload_n hx hb dX12_readsPart_134 rfl (lv_at hl 4 rfl) ?_
                  refine m_get S hG 80 83 0 rfl ec_83 cpX12 wm_1673 dX12_readsPart_135 rfl (Nat.lt_of_lt_of_le (Nat.le_of_ble_eq_true rfl) hn) (by decide) ?_
                  refine lv_iconst (v := iI 2) hx hb dX12_readsPart_138 (by decide) ?_
                  refine mi_ald S hG 81 84 rfl ec_84 (Nat.lt_of_lt_of_le (Nat.le_of_ble_eq_true rfl) hn) dX12_readsPart_139 (by decide) (by decide) ?_
                  refine lv_bipush (v := iI 24) hx hb dX12_readsPart_140 (by decide) ?_
                  obtain ⟨hg_38, hM⟩ := gd_some hM
                  refine gi_icmp_eq (tgt := 156) hx hb dX12_readsPart_142 (by decide) hg_38 (by decide) (fun c_39 => ?_) (fun c_39 => ?_)
                  · replace hM := ifp hM c_39
                    refine lv_aload_n hx hb dX12_readsPart_156 rfl (lv_at hl 4 rfl) ?_
                    refine lv_iconst (v := iI 3) hx hb dX12_readsPart_157 (by decide) ?_
                    obtain ⟨r_41, S_42, hc_40, hM⟩ := bd2_some hM
                    refine g_vi (As := [.int (iI 3)]) (rest := []) S hG hsz (vX12_faults l hn 3 hc_40) wV_12_169 (ec_83 _) cpX12 (Nat.lt_of_lt_of_le (Nat.le_of_ble_eq_true rfl) hn) dX12_readsPart_158 rfl hl.1 (ar := 1) (by decide +kernel) rfl (by refine ⟨?_, ?_, ?_, ?_⟩ <;> first | exact Nat.le_of_ble_eq_true rfl | (simp only [gRm]; omega)) (Nat.le_of_ble_eq_true rfl) (fun rv uu H locs hp hG => ?_)
                    obtain ⟨rfl, rfl⟩ := hp
                    replace hG : gW D cy b n s H locs (enc b cy X S_42) := hG
                    cases hM
                    exact g_iret S hr hlk hG hsz dX12_readsPart_161 ⟨Nat.le_of_ble_eq_true rfl, Nat.le_of_ble_eq_true rfl⟩ ⟨rfl, rfl⟩
                  · replace hM := ifn hM c_39
                    refine lv_iload hx hb dX12_readsPart_145 (lv_at hl 0 rfl) ?_
                    obtain ⟨t_43, hc_44, hM⟩ := bd1_some hM
                    have hK_45 : ∀ (H : Heap) (locs : List Loc) (ls : Array Slot), t_43 = 0 → gW D cy b n s H locs (enc b cy X S0) → lv_has ls 8 [(0, .ref (b + 80))] → W p l e (gRm (d + 1) 0 0) s m args below meth c H locs 0 0 (gQI D cy b s args below 0 0 (fun r u => r = iI o1 ∧ u = (n, enc b cy X o2))) (F0 m 156 ls []) := by
                      intro H locs ls ht hG hl
                      subst ht
                      replace hM := ifp hM rfl
                      refine lv_aload_n hx hb dX12_readsPart_156 rfl (lv_at hl 0 rfl) ?_
                      refine lv_iconst (v := iI 3) hx hb dX12_readsPart_157 (by decide) ?_
                      obtain ⟨r_47, S_48, hc_46, hM⟩ := bd2_some hM
                      refine g_vi (As := [.int (iI 3)]) (rest := []) S hG hsz (vX12_faults l hn 3 hc_46) wV_12_169 (ec_83 _) cpX12 (Nat.lt_of_lt_of_le (Nat.le_of_ble_eq_true rfl) hn) dX12_readsPart_158 rfl hl.1 (ar := 1) (by decide +kernel) rfl (by refine ⟨?_, ?_, ?_, ?_⟩ <;> first | exact Nat.le_of_ble_eq_true rfl | (simp only [gRm]; omega)) (Nat.le_of_ble_eq_true rfl) (fun rv uu H locs hp hG => ?_)
                      obtain ⟨rfl, rfl⟩ := hp
                      replace hG : gW D cy b n s H locs (enc b cy X S_48) := hG
                      cases hM
                      exact g_iret S hr hlk hG hsz dX12_readsPart_161 ⟨Nat.le_of_ble_eq_true rfl, Nat.le_of_ble_eq_true rfl⟩ ⟨rfl, rfl⟩
                    have hK_49 : ∀ (H : Heap) (locs : List Loc) (ls : Array Slot), t_43 = 1 → gW D cy b n s H locs (enc b cy X S0) → lv_has ls 8 [(5, .int (iI r_8)), (4, .int (iI z_4)), (3, .int (iI z_1)), (0, .ref (b + 80)), (1, .int (iI a1))] → W p l e (gRm (d + 1) 0 0) s m args below meth c H locs 0 0 (gQI D cy b s args below 0 0 (fun r u => r = iI o1 ∧ u = (n, enc b cy X o2))) (F0 m 162 ls []) := by
                      intro H locs ls ht hG hl
                      subst ht
                      replace hM := ifn hM (by decide)
                      refine lv_aload_n hx hb dX12_readsPart_162 rfl (lv_at hl 3 rfl) ?_
                      refine m_get S hG 80 83 0 rfl ec_83 cpX12 wm_1673 dX12_readsPart_163 rfl (Nat.lt_of_lt_of_le (Nat.le_of_ble_eq_true rfl) hn) (by decide) ?_
                      refine lv_iconst (v := iI 2) hx hb dX12_readsPart_166 (by decide) ?_
                      refine mi_ald S hG 81 84 rfl ec_84 (Nat.lt_of_lt_of_le (Nat.le_of_ble_eq_true rfl) hn) dX12_readsPart_167 (by decide) (by decide) ?_
                      refine gi_nm (fun x_50 ex_50 => ?_)
                      replace hM := nx_at hM ex_50
                      clear ex_50
                      refine lv_istore (lv' := [(7, .int (iI x_50)), (5, .int (iI r_8)), (4, .int (iI z_4)), (3, .int (iI z_1)), (0, .ref (b + 80)), (1, .int (iI a1))]) hx hb dX12_readsPart_168 hl (by decide) rfl (fun ls hl => ?_)
                      refine lv_aload_n hx hb dX12_readsPart_170 rfl (lv_at hl 4 rfl) ?_
                      refine m_get S hG 80 83 0 rfl ec_83 cpX12 wm_1673 dX12_readsPart_171 rfl (Nat.lt_of_lt_of_le (Nat.le_of_ble_eq_true rfl) hn) (by decide) ?_
                      refine lv_iconst (v := iI 2) hx hb dX12_readsPart_174 (by decide) ?_
                      refine lv_dup2_11 hx hb dX12_readsPart_175 rfl rfl ?_
                      refine mi_ald S hG 81 84 rfl ec_84 (Nat.lt_of_lt_of_le (Nat.le_of_ble_eq_true rfl) hn) dX12_readsPart_176 (by decide) (by decide) ?_
                      refine lv_iconst (v := iI 1) hx hb dX12_readsPart_177 (by decide) ?_
                      refine gi_add hx hb dX12_readsPart_178 ?_
                      refine mi_ast S hG 81 84 rfl ec_84 (Nat.lt_of_lt_of_le (Nat.le_of_ble_eq_true rfl) hn) dX12_readsPart_179 (by decide) (by decide) (fun H locs S_51 eS_51 hG => ?_)
                      replace hM := nx_at hM eS_51
                      clear eS_51
                      refine lv_aload_n hx hb dX12_readsPart_180 rfl (lv_at hl 4 rfl) ?_
                      obtain ⟨S_53, hc_52, hM⟩ := bd1_some hM
                      refine g_vv (As := []) (rest := []) S hG hsz (vX12_next l hn  hc_52) wV_12_173 (ec_83 _) cpX12 (Nat.lt_of_lt_of_le (Nat.le_of_ble_eq_true rfl) hn) dX12_readsPart_181 rfl hl.1 (ar := 0) (by decide +kernel) rfl (by refine ⟨?_, ?_, ?_, ?_⟩ <;> first | exact Nat.le_of_ble_eq_true rfl | (simp only [gRm]; omega)) (Nat.le_of_ble_eq_true rfl) (fun uu H locs hp hG => ?_)
                      obtain rfl := hp
                      replace hG : gW D cy b n s H locs (enc b cy X S_53) := hG
                      refine lv_iload hx hb dX12_readsPart_184 (lv_at hl 1 rfl) ?_
                      obtain ⟨S_54, hc_55, hM⟩ := bd1_some hM
                      have hK_56 : ∀ (H : Heap) (locs : List Loc) (ls : Array Slot), gW D cy b n s H locs (enc b cy X S_54) → lv_has ls 8 [(7, .int (iI x_50)), (0, .ref (b + 80))] → W p l e (gRm (d + 1) 0 0) s m args below meth c H locs 0 0 (gQI D cy b s args below 0 0 (fun r u => r = iI o1 ∧ u = (n, enc b cy X o2))) (F0 m 317 ls []) := by
                        intro H locs ls hG hl
                        refine lv_aload_n hx hb dX12_readsPart_317 rfl (lv_at hl 1 rfl) ?_
                        refine m_get S hG 80 83 10 rfl ec_83 cpX12 wm_1683 dX12_readsPart_318 rfl (Nat.lt_of_lt_of_le (Nat.le_of_ble_eq_true rfl) hn) (by decide) ?_
                        obtain ⟨hg_57, hM⟩ := gd_some hM
                        refine gi_if_eq (tgt := 328) hx hb dX12_readsPart_321 (by decide) hg_57 (fun c_58 => ?_) (fun c_58 => ?_)
                        · replace hM := ifp hM c_58
                          refine lv_iload hx hb dX12_readsPart_328 (lv_at hl 0 rfl) ?_
                          cases hM
                          exact g_iret S hr hlk hG hsz dX12_readsPart_330 ⟨Nat.le_of_ble_eq_true rfl, Nat.le_of_ble_eq_true rfl⟩ ⟨rfl, rfl⟩
                        · replace hM := ifn hM c_58
                          refine lv_iconst (v := iI (-1)) hx hb dX12_readsPart_324 (by decide) ?_
                          refine lv_goto (tgt := 330) hx hb dX12_readsPart_325 (by decide) ?_
                          cases hM
                          exact g_iret S hr hlk hG hsz dX12_readsPart_330 ⟨Nat.le_of_ble_eq_true rfl, Nat.le_of_ble_eq_true rfl⟩ ⟨rfl, rfl⟩
                      clear hM
                      replace hM := hc_55
                      obtain ⟨hg_59, hM⟩ := gd_some hM
                      refine gi_if_eq (tgt := 244) hx hb dX12_readsPart_186 (by decide) hg_59 (fun c_60 => ?_) (fun c_60 => ?_)
                      · replace hM := ifp hM c_60
                        refine lv_iload_n hx hb dX12_readsPart_244 rfl (lv_at hl 3 rfl) ?_
                        refine gi_if_ge (tgt := 274) hx hb dX12_readsPart_245 (by decide) hg_14 (fun c_61 => ?_) (fun c_61 => ?_)
                        · replace hM := ifp hM c_61
                          refine lv_iload_n hx hb dX12_readsPart_274 rfl (lv_at hl 3 rfl) ?_
                          refine lv_iconst (v := iI 3) hx hb dX12_readsPart_275 (by decide) ?_
                          refine gi_icmp_ne (tgt := 293) hx hb dX12_readsPart_276 (by decide) hg_14 (by decide) (fun c_62 => ?_) (fun c_62 => ?_)
                          · replace hM := ifn hM c_62
                            refine lv_iload_n hx hb dX12_readsPart_293 rfl (lv_at hl 3 rfl) ?_
                            refine lv_iconst (v := iI 2) hx hb dX12_readsPart_294 (by decide) ?_
                            refine gi_icmp_ne (tgt := 307) hx hb dX12_readsPart_295 (by decide) hg_14 (by decide) (fun c_63 => ?_) (fun c_63 => ?_)
                            · replace hM := ifn hM c_63
                              refine lv_aload_n hx hb dX12_readsPart_307 rfl (lv_at hl 4 rfl) ?_
                              refine lv_iload hx hb dX12_readsPart_308 (lv_at hl 0 rfl) ?_
                              refine lv_iload_n hx hb dX12_readsPart_310 rfl (lv_at hl 3 rfl) ?_
                              refine lv_iconst (v := iI 3) hx hb dX12_readsPart_311 (by decide) ?_
                              refine gi_sub hx hb dX12_readsPart_312 ?_
                              refine lv_iload_n hx hb dX12_readsPart_313 rfl (lv_at hl 5 rfl) ?_
                              obtain ⟨r_66, S_65, hc_64, hM⟩ := bd2_some hM
                              refine g_vv (As := [.int (iI x_50), .int (iI (z_1 - 3)), .int (iI a1)]) (rest := []) S hG hsz (hr1 _ x_50 (z_1 - 3) a1 _ _ hc_64) wV_12_207 (ec_83 _) cpX12 (Nat.lt_of_lt_of_le (Nat.le_of_ble_eq_true rfl) hn) dX12_readsPart_314 rfl hl.1 (ar := 3) (by decide +kernel) rfl (by refine ⟨?_, ?_, ?_, ?_⟩ <;> first | exact Nat.le_of_ble_eq_true rfl | (simp only [gRm]; omega)) (Nat.le_of_ble_eq_true rfl) (fun uu H locs hp hG => ?_)
                              obtain rfl := hp
                              replace hG : gW D cy b n s H locs (enc b cy X S_65) := hG
                              cases hM
                              exact hK_56 H locs ls hG (lv_sub hl [0, 4] rfl)
                            · replace hM := ifp hM c_63
                              refine lv_aload_n hx hb dX12_readsPart_298 rfl (lv_at hl 4 rfl) ?_
                              refine lv_iload hx hb dX12_readsPart_299 (lv_at hl 0 rfl) ?_
                              obtain ⟨S_68, hc_67, hM⟩ := bd1_some hM
                              refine g_vv (As := [.int (iI x_50)]) (rest := []) S hG hsz (vX12_readsAtom l hn x_50 hc_67) wV_12_204 (ec_83 _) cpX12 (Nat.lt_of_lt_of_le (Nat.le_of_ble_eq_true rfl) hn) dX12_readsPart_301 rfl hl.1 (ar := 1) (by decide +kernel) rfl (by refine ⟨?_, ?_, ?_, ?_⟩ <;> first | exact Nat.le_of_ble_eq_true rfl | (simp only [gRm]; omega)) (Nat.le_of_ble_eq_true rfl) (fun uu H locs hp hG => ?_)
                              obtain rfl := hp
                              replace hG : gW D cy b n s H locs (enc b cy X S_68) := hG
                              refine lv_goto (tgt := 317) hx hb dX12_readsPart_304 (by decide) ?_
                              cases hM
                              exact hK_56 H locs ls hG (lv_sub hl [0, 4] rfl)
                          · replace hM := ifp hM c_62
                            refine lv_aload_n hx hb dX12_readsPart_279 rfl (lv_at hl 4 rfl) ?_
                            refine m_get S hG 80 83 0 rfl ec_83 cpX12 wm_1673 dX12_readsPart_280 rfl (Nat.lt_of_lt_of_le (Nat.le_of_ble_eq_true rfl) hn) (by decide) ?_
                            refine lv_bipush (v := iI 24) hx hb dX12_readsPart_283 (by decide) ?_
                            refine lv_iload hx hb dX12_readsPart_285 (lv_at hl 0 rfl) ?_
                            refine gi_add hx hb dX12_readsPart_287 ?_
                            refine lv_iconst (v := iI 1) hx hb dX12_readsPart_288 (by decide) ?_
                            obtain ⟨hg_69, hM⟩ := gd_some hM
                            refine mi_ast S hG 81 84 rfl ec_84 (Nat.lt_of_lt_of_le (Nat.le_of_ble_eq_true rfl) hn) dX12_readsPart_289 hg_69 (by decide) (fun H locs S_70 eS_70 hG => ?_)
                            replace hM := nx_at hM eS_70
                            clear eS_70
                            refine lv_goto (tgt := 317) hx hb dX12_readsPart_290 (by decide) ?_
                            cases hM
                            exact hK_56 H locs ls hG (lv_sub hl [0, 4] rfl)
                        · replace hM := ifn hM c_61
                          refine lv_aload_n hx hb dX12_readsPart_248 rfl (lv_at hl 4 rfl) ?_
                          refine m_get S hG 80 83 0 rfl ec_83 cpX12 wm_1673 dX12_readsPart_249 rfl (Nat.lt_of_lt_of_le (Nat.le_of_ble_eq_true rfl) hn) (by decide) ?_
                          refine lv_bipush (v := iI 24) hx hb dX12_readsPart_252 (by decide) ?_
                          refine lv_iload hx hb dX12_readsPart_254 (lv_at hl 0 rfl) ?_
                          refine gi_add hx hb dX12_readsPart_256 ?_
                          refine lv_iconst (v := iI 2) hx hb dX12_readsPart_257 (by decide) ?_
                          obtain ⟨hg_71, hM⟩ := gd_some hM
                          refine mi_ast S hG 81 84 rfl ec_84 (Nat.lt_of_lt_of_le (Nat.le_of_ble_eq_true rfl) hn) dX12_readsPart_258 hg_71 (by decide) (fun H locs S_72 eS_72 hG => ?_)
                          replace hM := nx_at hM eS_72
                          clear eS_72
                          refine lv_aload_n hx hb dX12_readsPart_259 rfl (lv_at hl 4 rfl) ?_
                          refine m_get S hG 80 83 0 rfl ec_83 cpX12 wm_1673 dX12_readsPart_260 rfl (Nat.lt_of_lt_of_le (Nat.le_of_ble_eq_true rfl) hn) (by decide) ?_
                          refine lv_bipush (v := iI 48) hx hb dX12_readsPart_263 (by decide) ?_
                          refine lv_iload hx hb dX12_readsPart_265 (lv_at hl 0 rfl) ?_
                          refine gi_add hx hb dX12_readsPart_267 ?_
                          refine lv_iload hx hb dX12_readsPart_268 (lv_at hl 2 rfl) ?_
                          obtain ⟨hg_73, hM⟩ := gd_some hM
                          refine mi_ast S hG 81 84 rfl ec_84 (Nat.lt_of_lt_of_le (Nat.le_of_ble_eq_true rfl) hn) dX12_readsPart_270 hg_73 (by decide) (fun H locs S_74 eS_74 hG => ?_)
                          replace hM := nx_at hM eS_74
                          clear eS_74
                          refine lv_goto (tgt := 317) hx hb dX12_readsPart_271 (by decide) ?_
                          cases hM
                          exact hK_56 H locs ls hG (lv_sub hl [0, 4] rfl)
                      · replace hM := ifn hM c_60
                        refine lv_aload_n hx hb dX12_readsPart_189 rfl (lv_at hl 4 rfl) ?_
                        refine m_get S hG 80 83 0 rfl ec_83 cpX12 wm_1673 dX12_readsPart_190 rfl (Nat.lt_of_lt_of_le (Nat.le_of_ble_eq_true rfl) hn) (by decide) ?_
                        refine lv_bipush (v := iI 24) hx hb dX12_readsPart_193 (by decide) ?_
                        refine lv_iload hx hb dX12_readsPart_195 (lv_at hl 0 rfl) ?_
                        refine gi_add hx hb dX12_readsPart_197 ?_
                        refine lv_bipush (v := iI 7) hx hb dX12_readsPart_198 (by decide) ?_
                        obtain ⟨hg_75, hM⟩ := gd_some hM
                        refine mi_ast S hG 81 84 rfl ec_84 (Nat.lt_of_lt_of_le (Nat.le_of_ble_eq_true rfl) hn) dX12_readsPart_200 hg_75 (by decide) (fun H locs S_76 eS_76 hG => ?_)
                        replace hM := nx_at hM eS_76
                        clear eS_76
                        refine lv_aload_n hx hb dX12_readsPart_201 rfl (lv_at hl 4 rfl) ?_
                        refine m_get S hG 80 83 0 rfl ec_83 cpX12 wm_1673 dX12_readsPart_202 rfl (Nat.lt_of_lt_of_le (Nat.le_of_ble_eq_true rfl) hn) (by decide) ?_
                        refine lv_bipush (v := iI 48) hx hb dX12_readsPart_205 (by decide) ?_
                        refine lv_iload hx hb dX12_readsPart_207 (lv_at hl 0 rfl) ?_
                        refine gi_add hx hb dX12_readsPart_209 ?_
                        refine lv_bipush (v := iI 6) hx hb dX12_readsPart_210 (by decide) ?_
                        refine lv_iload hx hb dX12_readsPart_212 (lv_at hl 0 rfl) ?_
                        refine gi_add hx hb dX12_readsPart_214 ?_
                        obtain ⟨hg_77, hM⟩ := gd_some hM
                        refine mi_ast S hG 81 84 rfl ec_84 (Nat.lt_of_lt_of_le (Nat.le_of_ble_eq_true rfl) hn) dX12_readsPart_215 hg_77 (by decide) (fun H locs S_78 eS_78 hG => ?_)
                        replace hM := nx_at hM eS_78
                        clear eS_78
                        refine lv_aload_n hx hb dX12_readsPart_216 rfl (lv_at hl 4 rfl) ?_
                        refine lv_bipush (v := iI 6) hx hb dX12_readsPart_217 (by decide) ?_
                        refine lv_iload hx hb dX12_readsPart_219 (lv_at hl 0 rfl) ?_
                        refine gi_add hx hb dX12_readsPart_221 ?_
                        refine lv_iload_n hx hb dX12_readsPart_222 rfl (lv_at hl 5 rfl) ?_
                        refine lv_iconst (v := iI 1) hx hb dX12_readsPart_223 (by decide) ?_
                        refine gi_add hx hb dX12_readsPart_224 ?_
                        obtain ⟨r_81, S_80, hc_79, hM⟩ := bd2_some hM
                        refine g_vv (As := [.int (iI (6 + x_50)), .int (iI (a1 + 1))]) (rest := []) S hG hsz (hr0 _ (6 + x_50) (a1 + 1) _ _ hc_79) wV_12_192 (ec_83 _) cpX12 (Nat.lt_of_lt_of_le (Nat.le_of_ble_eq_true rfl) hn) dX12_readsPart_225 rfl hl.1 (ar := 2) (by decide +kernel) rfl (by refine ⟨?_, ?_, ?_, ?_⟩ <;> first | exact Nat.le_of_ble_eq_true rfl | (simp only [gRm]; omega)) (Nat.le_of_ble_eq_true rfl) (fun uu H locs hp hG => ?_)
                        obtain rfl := hp
                        replace hG : gW D cy b n s H locs (enc b cy X S_80) := hG
                        refine lv_aload_n hx hb dX12_readsPart_228 rfl (lv_at hl 4 rfl) ?_
                        refine m_get S hG 80 83 10 rfl ec_83 cpX12 wm_1683 dX12_readsPart_229 rfl (Nat.lt_of_lt_of_le (Nat.le_of_ble_eq_true rfl) hn) (by decide) ?_
                        obtain ⟨hg_82, hM⟩ := gd_some hM
                        refine gi_if_ne (tgt := 317) hx hb dX12_readsPart_232 (by decide) hg_82 (fun c_83 => ?_) (fun c_83 => ?_)
                        · replace hM := ifn hM c_83
                          cases hM
                          exact hK_56 H locs ls hG (lv_sub hl [0, 4] rfl)
                        · replace hM := ifp hM c_83
                          refine lv_aload_n hx hb dX12_readsPart_235 rfl (lv_at hl 4 rfl) ?_
                          refine lv_bipush (v := iI 41) hx hb dX12_readsPart_236 (by decide) ?_
                          obtain ⟨S_85, hc_84, hM⟩ := bd1_some hM
                          refine g_vv (As := [.int (iI 41)]) (rest := []) S hG hsz (vX12_needs l hn 41 hc_84) wV_12_188 (ec_83 _) cpX12 (Nat.lt_of_lt_of_le (Nat.le_of_ble_eq_true rfl) hn) dX12_readsPart_238 rfl hl.1 (ar := 1) (by decide +kernel) rfl (by refine ⟨?_, ?_, ?_, ?_⟩ <;> first | exact Nat.le_of_ble_eq_true rfl | (simp only [gRm]; omega)) (Nat.le_of_ble_eq_true rfl) (fun uu H locs hp hG => ?_)
                          obtain rfl := hp
                          replace hG : gW D cy b n s H locs (enc b cy X S_85) := hG
                          refine lv_goto (tgt := 317) hx hb dX12_readsPart_241 (by decide) ?_
                          cases hM
                          exact hK_56 H locs ls hG (lv_sub hl [0, 4] rfl)
                    clear hM
                    replace hM := hc_44
                    obtain ⟨hg_86, hM⟩ := gd_some hM
                    refine gi_if_eq (tgt := 162) hx hb dX12_readsPart_147 (by decide) hg_86 (fun c_87 => ?_) (fun c_87 => ?_)
                    · replace hM := ifp hM c_87
                      cases hM
                      exact hK_49 H locs ls rfl hG (lv_sub hl [1, 2, 3, 4, 5] rfl)
                    · replace hM := ifn hM c_87
                      refine lv_iload_n hx hb dX12_readsPart_150 rfl (lv_at hl 5 rfl) ?_
                      refine lv_bipush (v := iI 6) hx hb dX12_readsPart_151 (by decide) ?_
                      obtain ⟨hg_88, hM⟩ := gd_some hM
                      refine gi_icmp_ne (tgt := 162) hx hb dX12_readsPart_153 (by decide) hg_88 (by decide) (fun c_89 => ?_) (fun c_89 => ?_)
                      · replace hM := ifn hM c_89
                        cases hM
                        exact hK_49 H locs ls rfl hG (lv_sub hl [1, 2, 3, 4, 5] rfl)
                      · replace hM := ifp hM c_89
                        cases hM
                        exact hK_45 H locs ls rfl hG (lv_sub hl [4] rfl)
              clear hM
              replace hM := hc_27
              refine gi_icmp_ne (tgt := 130) hx hb dX12_readsPart_112 (by decide) hg_12 (by decide) (fun c_90 => ?_) (fun c_90 => ?_)
              · replace hM := ifn hM c_90
                cases hM
                exact hK_32 H locs ls rfl hG (lv_sub hl [0, 1, 2, 3, 4, 5, 6] rfl)
              · replace hM := ifp hM c_90
                refine lv_iload_n hx hb dX12_readsPart_115 rfl (lv_at hl 3 rfl) ?_
                refine gi_if_ge (tgt := 130) hx hb dX12_readsPart_116 (by decide) hg_14 (fun c_91 => ?_) (fun c_91 => ?_)
                · replace hM := ifp hM c_91
                  cases hM
                  exact hK_32 H locs ls rfl hG (lv_sub hl [0, 1, 2, 3, 4, 5, 6] rfl)
                · replace hM := ifn hM c_91
                  refine lv_iload hx hb dX12_readsPart_119 (lv_at hl 2 rfl) ?_
                  obtain ⟨hg_92, hM⟩ := gd_some hM
                  refine gi_if_ge (tgt := 130) hx hb dX12_readsPart_121 (by decide) hg_92 (fun c_93 => ?_) (fun c_93 => ?_)
                  · replace hM := ifp hM c_93
                    cases hM
                    exact hK_32 H locs ls rfl hG (lv_sub hl [0, 1, 2, 3, 4, 5, 6] rfl)
                  · replace hM := ifn hM c_93
                    cases hM
                    exact hK_28 H locs ls rfl hG (lv_sub hl [4] rfl)
            · replace hM := ifn hM c_25
              refine lv_aload_n hx hb dX12_readsPart_101 rfl (lv_at hl 4 rfl) ?_
              refine lv_iconst (v := iI 1) hx hb dX12_readsPart_102 (by decide) ?_
              obtain ⟨r_95, S_96, hc_94, hM⟩ := bd2_some hM
              refine g_vi (As := [.int (iI 1)]) (rest := []) S hG hsz (vX12_faults l hn 1 hc_94) wV_12_169 (ec_83 _) cpX12 (Nat.lt_of_lt_of_le (Nat.le_of_ble_eq_true rfl) hn) dX12_readsPart_103 rfl hl.1 (ar := 1) (by decide +kernel) rfl (by refine ⟨?_, ?_, ?_, ?_⟩ <;> first | exact Nat.le_of_ble_eq_true rfl | (simp only [gRm]; omega)) (Nat.le_of_ble_eq_true rfl) (fun rv uu H locs hp hG => ?_)
              obtain ⟨rfl, rfl⟩ := hp
              replace hG : gW D cy b n s H locs (enc b cy X S_96) := hG
              cases hM
              exact g_iret S hr hlk hG hsz dX12_readsPart_106 ⟨Nat.le_of_ble_eq_true rfl, Nat.le_of_ble_eq_true rfl⟩ ⟨rfl, rfl⟩
        · replace hM := ifn hM c_13
          refine lv_iload hx hb dX12_readsPart_72 (lv_at hl 1 rfl) ?_
          obtain ⟨hg_97, hM⟩ := gd_some hM
          refine gi_if_eq (tgt := 101) hx hb dX12_readsPart_74 (by decide) hg_97 (fun c_98 => ?_) (fun c_98 => ?_)
          · replace hM := ifp hM c_98
            refine lv_aload_n hx hb dX12_readsPart_101 rfl (lv_at hl 4 rfl) ?_
            refine lv_iconst (v := iI 1) hx hb dX12_readsPart_102 (by decide) ?_
            obtain ⟨r_100, S_101, hc_99, hM⟩ := bd2_some hM
            refine g_vi (As := [.int (iI 1)]) (rest := []) S hG hsz (vX12_faults l hn 1 hc_99) wV_12_169 (ec_83 _) cpX12 (Nat.lt_of_lt_of_le (Nat.le_of_ble_eq_true rfl) hn) dX12_readsPart_103 rfl hl.1 (ar := 1) (by decide +kernel) rfl (by refine ⟨?_, ?_, ?_, ?_⟩ <;> first | exact Nat.le_of_ble_eq_true rfl | (simp only [gRm]; omega)) (Nat.le_of_ble_eq_true rfl) (fun rv uu H locs hp hG => ?_)
            obtain ⟨rfl, rfl⟩ := hp
            replace hG : gW D cy b n s H locs (enc b cy X S_101) := hG
            cases hM
            exact g_iret S hr hlk hG hsz dX12_readsPart_106 ⟨Nat.le_of_ble_eq_true rfl, Nat.le_of_ble_eq_true rfl⟩ ⟨rfl, rfl⟩
          · replace hM := ifn hM c_98
            refine lv_iload_n hx hb dX12_readsPart_77 rfl (lv_at hl 3 rfl) ?_
            obtain ⟨hg_102, hM⟩ := gd_some hM
            refine gi_i2l hx hb dX12_readsPart_78 hg_102 ?_
            refine lv_lconst (v := jJ 0) hx hb dX12_readsPart_79 (by decide) ?_
            refine lv_lconst (v := jJ 1) hx hb dX12_readsPart_80 (by decide) ?_
            obtain ⟨r_104, hc_103, hM⟩ := bd1_some hM
            refine g_si (As := [.long (jJ z_1), .long (jJ 0), .long (jJ 1)]) (rest := []) S hG hsz (vX12_in l hn z_1 0 1 hc_103) wS_12_97 dX12_readsPart_81 rfl hl.1 (ar := 3) (by decide +kernel) rfl (by refine ⟨?_, ?_, ?_, ?_⟩ <;> first | exact Nat.le_of_ble_eq_true rfl | (simp only [gRm]; omega)) (Nat.le_of_ble_eq_true rfl) (fun rv uu H locs hp hG => ?_)
            obtain ⟨rfl, rfl⟩ := hp
            replace hG : gW D cy b n s H locs (enc b cy X S0) := hG
            obtain ⟨hg_105, hM⟩ := gd_some hM
            refine gi_if_ne (tgt := 101) hx hb dX12_readsPart_84 (by decide) hg_105 (fun c_106 => ?_) (fun c_106 => ?_)
            · replace hM := ifn hM c_106
              refine lv_aload_n hx hb dX12_readsPart_101 rfl (lv_at hl 4 rfl) ?_
              refine lv_iconst (v := iI 1) hx hb dX12_readsPart_102 (by decide) ?_
              obtain ⟨r_108, S_109, hc_107, hM⟩ := bd2_some hM
              refine g_vi (As := [.int (iI 1)]) (rest := []) S hG hsz (vX12_faults l hn 1 hc_107) wV_12_169 (ec_83 _) cpX12 (Nat.lt_of_lt_of_le (Nat.le_of_ble_eq_true rfl) hn) dX12_readsPart_103 rfl hl.1 (ar := 1) (by decide +kernel) rfl (by refine ⟨?_, ?_, ?_, ?_⟩ <;> first | exact Nat.le_of_ble_eq_true rfl | (simp only [gRm]; omega)) (Nat.le_of_ble_eq_true rfl) (fun rv uu H locs hp hG => ?_)
              obtain ⟨rfl, rfl⟩ := hp
              replace hG : gW D cy b n s H locs (enc b cy X S_109) := hG
              cases hM
              exact g_iret S hr hlk hG hsz dX12_readsPart_106 ⟨Nat.le_of_ble_eq_true rfl, Nat.le_of_ble_eq_true rfl⟩ ⟨rfl, rfl⟩
            · replace hM := ifp hM c_106
              refine lv_iload_n hx hb dX12_readsPart_87 rfl (lv_at hl 3 rfl) ?_
              refine gi_i2l hx hb dX12_readsPart_88 hg_102 ?_
              refine lv_ldc2 (v := 4) hx hb S.2.2.2.1 (S.2.2.2.2 _ wm_1918) dX12_readsPart_89 ?_
              refine gj_as 4 (by decide) ?_
              refine lv_ldc2 (v := 5) hx hb S.2.2.2.1 (S.2.2.2.2 _ wm_1919) dX12_readsPart_92 ?_
              refine gj_as 5 (by decide) ?_
              obtain ⟨r_111, hc_110, hM⟩ := bd1_some hM
              refine g_si (As := [.long (jJ z_1), .long (jJ 4), .long (jJ 5)]) (rest := []) S hG hsz (vX12_in l hn z_1 4 5 hc_110) wS_12_97 dX12_readsPart_95 rfl hl.1 (ar := 3) (by decide +kernel) rfl (by refine ⟨?_, ?_, ?_, ?_⟩ <;> first | exact Nat.le_of_ble_eq_true rfl | (simp only [gRm]; omega)) (Nat.le_of_ble_eq_true rfl) (fun rv uu H locs hp hG => ?_)
              obtain ⟨rfl, rfl⟩ := hp
              replace hG : gW D cy b n s H locs (enc b cy X S0) := hG
              obtain ⟨hg_112, hM⟩ := gd_some hM
              refine gi_if_eq (tgt := 107) hx hb dX12_readsPart_98 (by decide) hg_112 (fun c_113 => ?_) (fun c_113 => ?_)
              · replace hM := ifp hM c_113
                refine lv_aload_n hx hb dX12_readsPart_107 rfl (lv_at hl 4 rfl) ?_
                refine m_get S hG 80 83 8 rfl ec_83 cpX12 wm_1681 dX12_readsPart_108 rfl (Nat.lt_of_lt_of_le (Nat.le_of_ble_eq_true rfl) hn) (by decide) ?_
                refine lv_iconst (v := iI 1) hx hb dX12_readsPart_111 (by decide) ?_
                obtain ⟨t_114, hc_115, hM⟩ := bd1_some hM
                have hK_116 : ∀ (H : Heap) (locs : List Loc) (ls : Array Slot), t_114 = 0 → gW D cy b n s H locs (enc b cy X S0) → lv_has ls 8 [(0, .ref (b + 80))] → W p l e (gRm (d + 1) 0 0) s m args below meth c H locs 0 0 (gQI D cy b s args below 0 0 (fun r u => r = iI o1 ∧ u = (n, enc b cy X o2))) (F0 m 124 ls []) := by
                  intro H locs ls ht hG hl
                  subst ht
                  replace hM := ifp hM rfl
                  refine lv_aload_n hx hb dX12_readsPart_124 rfl (lv_at hl 0 rfl) ?_
                  refine lv_iconst (v := iI 2) hx hb dX12_readsPart_125 (by decide) ?_
                  obtain ⟨r_118, S_119, hc_117, hM⟩ := bd2_some hM
                  refine g_vi (As := [.int (iI 2)]) (rest := []) S hG hsz (vX12_faults l hn 2 hc_117) wV_12_169 (ec_83 _) cpX12 (Nat.lt_of_lt_of_le (Nat.le_of_ble_eq_true rfl) hn) dX12_readsPart_126 rfl hl.1 (ar := 1) (by decide +kernel) rfl (by refine ⟨?_, ?_, ?_, ?_⟩ <;> first | exact Nat.le_of_ble_eq_true rfl | (simp only [gRm]; omega)) (Nat.le_of_ble_eq_true rfl) (fun rv uu H locs hp hG => ?_)
                  obtain ⟨rfl, rfl⟩ := hp
                  replace hG : gW D cy b n s H locs (enc b cy X S_119) := hG
                  cases hM
                  exact g_iret S hr hlk hG hsz dX12_readsPart_129 ⟨Nat.le_of_ble_eq_true rfl, Nat.le_of_ble_eq_true rfl⟩ ⟨rfl, rfl⟩
                have hK_120 : ∀ (H : Heap) (locs : List Loc) (ls : Array Slot), t_114 = 1 → gW D cy b n s H locs (enc b cy X S0) → lv_has ls 8 [(6, .int (iI z_9)), (5, .int (iI r_8)), (4, .int (iI z_4)), (3, .int (iI z_1)), (0, .ref (b + 80)), (1, .int (iI a1)), (2, .int (iI a2))] → W p l e (gRm (d + 1) 0 0) s m args below meth c H locs 0 0 (gQI D cy b s args below 0 0 (fun r u => r = iI o1 ∧ u = (n, enc b cy X o2))) (F0 m 130 ls []) := by
                  intro H locs ls ht hG hl
                  subst ht
                  replace hM := ifn hM (by decide)
                  refine lv_iload_n hx hb dX12_readsPart_130 rfl (lv_at hl 6 rfl) ?_
                  obtain ⟨hg_121, hM⟩ := gd_some hM
                  refine gi_if_ne (tgt := 156) hx hb dX12_readsPart_131 (by decide) hg_121 (fun c_122 => ?_) (fun c_122 => ?_)
                  · replace hM := ifn hM c_122
                    refine lv_aload_n hx hb dX12_readsPart_156 rfl (lv_at hl 4 rfl) ?_
                    refine lv_iconst (v := iI 3) hx hb dX12_readsPart_157 (by decide) ?_
                    obtain ⟨r_124, S_125, hc_123, hM⟩ := bd2_some hM
                    refine g_vi (As := [.int (iI 3)]) (rest := []) S hG hsz (vX12_faults l hn 3 hc_123) wV_12_169 (ec_83 _) cpX12 (Nat.lt_of_lt_of_le (Nat.le_of_ble_eq_true rfl) hn) dX12_readsPart_158 rfl hl.1 (ar := 1) (by decide +kernel) rfl (by refine ⟨?_, ?_, ?_, ?_⟩ <;> first | exact Nat.le_of_ble_eq_true rfl | (simp only [gRm]; omega)) (Nat.le_of_ble_eq_true rfl) (fun rv uu H locs hp hG => ?_)
                    obtain ⟨rfl, rfl⟩ := hp
                    replace hG : gW D cy b n s H locs (enc b cy X S_125) := hG
                    cases hM
                    exact g_iret S hr hlk hG hsz dX12_readsPart_161 ⟨Nat.le_of_ble_eq_true rfl, Nat.le_of_ble_eq_true rfl⟩ ⟨rfl, rfl⟩
                  · replace hM := ifp hM c_122
                    refine lv_aload_n hx hb dX12_readsPart_134 rfl (lv_at hl 4 rfl) ?_
                    refine m_get S hG 80 83 0 rfl ec_83 cpX12 wm_1673 dX12_readsPart_135 rfl (Nat.lt_of_lt_of_le (Nat.le_of_ble_eq_true rfl) hn) (by decide) ?_
                    refine lv_iconst (v := iI 2) hx hb dX12_readsPart_138 (by decide) ?_
                    refine mi_ald S hG 81 84 rfl ec_84 (Nat.lt_of_lt_of_le (Nat.le_of_ble_eq_true rfl) hn) dX12_readsPart_139 (by decide) (by decide) ?_
                    refine lv_bipush (v := iI 24) hx hb dX12_readsPart_140 (by decide) ?_
                    obtain ⟨hg_126, hM⟩ := gd_some hM
                    refine gi_icmp_eq (tgt := 156) hx hb dX12_readsPart_142 (by decide) hg_126 (by decide) (fun c_127 => ?_) (fun c_127 => ?_)
                    · replace hM := ifp hM c_127
                      refine lv_aload_n hx hb dX12_readsPart_156 rfl (lv_at hl 4 rfl) ?_
                      refine lv_iconst (v := iI 3) hx hb dX12_readsPart_157 (by decide) ?_
                      obtain ⟨r_129, S_130, hc_128, hM⟩ := bd2_some hM
                      refine g_vi (As := [.int (iI 3)]) (rest := []) S hG hsz (vX12_faults l hn 3 hc_128) wV_12_169 (ec_83 _) cpX12 (Nat.lt_of_lt_of_le (Nat.le_of_ble_eq_true rfl) hn) dX12_readsPart_158 rfl hl.1 (ar := 1) (by decide +kernel) rfl (by refine ⟨?_, ?_, ?_, ?_⟩ <;> first | exact Nat.le_of_ble_eq_true rfl | (simp only [gRm]; omega)) (Nat.le_of_ble_eq_true rfl) (fun rv uu H locs hp hG => ?_)
                      obtain ⟨rfl, rfl⟩ := hp
                      replace hG : gW D cy b n s H locs (enc b cy X S_130) := hG
                      cases hM
                      exact g_iret S hr hlk hG hsz dX12_readsPart_161 ⟨Nat.le_of_ble_eq_true rfl, Nat.le_of_ble_eq_true rfl⟩ ⟨rfl, rfl⟩
                    · replace hM := ifn hM c_127
                      refine lv_iload hx hb dX12_readsPart_145 (lv_at hl 0 rfl) ?_
                      obtain ⟨t_131, hc_132, hM⟩ := bd1_some hM
                      have hK_133 : ∀ (H : Heap) (locs : List Loc) (ls : Array Slot), t_131 = 0 → gW D cy b n s H locs (enc b cy X S0) → lv_has ls 8 [(0, .ref (b + 80))] → W p l e (gRm (d + 1) 0 0) s m args below meth c H locs 0 0 (gQI D cy b s args below 0 0 (fun r u => r = iI o1 ∧ u = (n, enc b cy X o2))) (F0 m 156 ls []) := by
                        intro H locs ls ht hG hl
                        subst ht
                        replace hM := ifp hM rfl
                        refine lv_aload_n hx hb dX12_readsPart_156 rfl (lv_at hl 0 rfl) ?_
                        refine lv_iconst (v := iI 3) hx hb dX12_readsPart_157 (by decide) ?_
                        obtain ⟨r_135, S_136, hc_134, hM⟩ := bd2_some hM
                        refine g_vi (As := [.int (iI 3)]) (rest := []) S hG hsz (vX12_faults l hn 3 hc_134) wV_12_169 (ec_83 _) cpX12 (Nat.lt_of_lt_of_le (Nat.le_of_ble_eq_true rfl) hn) dX12_readsPart_158 rfl hl.1 (ar := 1) (by decide +kernel) rfl (by refine ⟨?_, ?_, ?_, ?_⟩ <;> first | exact Nat.le_of_ble_eq_true rfl | (simp only [gRm]; omega)) (Nat.le_of_ble_eq_true rfl) (fun rv uu H locs hp hG => ?_)
                        obtain ⟨rfl, rfl⟩ := hp
                        replace hG : gW D cy b n s H locs (enc b cy X S_136) := hG
                        cases hM
                        exact g_iret S hr hlk hG hsz dX12_readsPart_161 ⟨Nat.le_of_ble_eq_true rfl, Nat.le_of_ble_eq_true rfl⟩ ⟨rfl, rfl⟩
                      have hK_137 : ∀ (H : Heap) (locs : List Loc) (ls : Array Slot), t_131 = 1 → gW D cy b n s H locs (enc b cy X S0) → lv_has ls 8 [(5, .int (iI r_8)), (4, .int (iI z_4)), (3, .int (iI z_1)), (0, .ref (b + 80)), (1, .int (iI a1))] → W p l e (gRm (d + 1) 0 0) s m args below meth c H locs 0 0 (gQI D cy b s args below 0 0 (fun r u => r = iI o1 ∧ u = (n, enc b cy X o2))) (F0 m 162 ls []) := by
                        intro H locs ls ht hG hl
                        subst ht
                        replace hM := ifn hM (by decide)
                        refine lv_aload_n hx hb dX12_readsPart_162 rfl (lv_at hl 3 rfl) ?_
                        refine m_get S hG 80 83 0 rfl ec_83 cpX12 wm_1673 dX12_readsPart_163 rfl (Nat.lt_of_lt_of_le (Nat.le_of_ble_eq_true rfl) hn) (by decide) ?_
                        refine lv_iconst (v := iI 2) hx hb dX12_readsPart_166 (by decide) ?_
                        refine mi_ald S hG 81 84 rfl ec_84 (Nat.lt_of_lt_of_le (Nat.le_of_ble_eq_true rfl) hn) dX12_readsPart_167 (by decide) (by decide) ?_
                        refine gi_nm (fun x_138 ex_138 => ?_)
                        replace hM := nx_at hM ex_138
                        clear ex_138
                        refine lv_istore (lv' := [(7, .int (iI x_138)), (5, .int (iI r_8)), (4, .int (iI z_4)), (3, .int (iI z_1)), (0, .ref (b + 80)), (1, .int (iI a1))]) hx hb dX12_readsPart_168 hl (by decide) rfl (fun ls hl => ?_)
                        refine lv_aload_n hx hb dX12_readsPart_170 rfl (lv_at hl 4 rfl) ?_
                        refine m_get S hG 80 83 0 rfl ec_83 cpX12 wm_1673 dX12_readsPart_171 rfl (Nat.lt_of_lt_of_le (Nat.le_of_ble_eq_true rfl) hn) (by decide) ?_
                        refine lv_iconst (v := iI 2) hx hb dX12_readsPart_174 (by decide) ?_
                        refine lv_dup2_11 hx hb dX12_readsPart_175 rfl rfl ?_
                        refine mi_ald S hG 81 84 rfl ec_84 (Nat.lt_of_lt_of_le (Nat.le_of_ble_eq_true rfl) hn) dX12_readsPart_176 (by decide) (by decide) ?_
                        refine lv_iconst (v := iI 1) hx hb dX12_readsPart_177 (by decide) ?_
                        refine gi_add hx hb dX12_readsPart_178 ?_
                        refine mi_ast S hG 81 84 rfl ec_84 (Nat.lt_of_lt_of_le (Nat.le_of_ble_eq_true rfl) hn) dX12_readsPart_179 (by decide) (by decide) (fun H locs S_139 eS_139 hG => ?_)
                        replace hM := nx_at hM eS_139
                        clear eS_139
                        refine lv_aload_n hx hb dX12_readsPart_180 rfl (lv_at hl 4 rfl) ?_
                        obtain ⟨S_141, hc_140, hM⟩ := bd1_some hM
                        refine g_vv (As := []) (rest := []) S hG hsz (vX12_next l hn  hc_140) wV_12_173 (ec_83 _) cpX12 (Nat.lt_of_lt_of_le (Nat.le_of_ble_eq_true rfl) hn) dX12_readsPart_181 rfl hl.1 (ar := 0) (by decide +kernel) rfl (by refine ⟨?_, ?_, ?_, ?_⟩ <;> first | exact Nat.le_of_ble_eq_true rfl | (simp only [gRm]; omega)) (Nat.le_of_ble_eq_true rfl) (fun uu H locs hp hG => ?_)
                        obtain rfl := hp
                        replace hG : gW D cy b n s H locs (enc b cy X S_141) := hG
                        refine lv_iload hx hb dX12_readsPart_184 (lv_at hl 1 rfl) ?_
                        obtain ⟨S_142, hc_143, hM⟩ := bd1_some hM
                        have hK_144 : ∀ (H : Heap) (locs : List Loc) (ls : Array Slot), gW D cy b n s H locs (enc b cy X S_142) → lv_has ls 8 [(7, .int (iI x_138)), (0, .ref (b + 80))] → W p l e (gRm (d + 1) 0 0) s m args below meth c H locs 0 0 (gQI D cy b s args below 0 0 (fun r u => r = iI o1 ∧ u = (n, enc b cy X o2))) (F0 m 317 ls []) := by
                          intro H locs ls hG hl
                          refine lv_aload_n hx hb dX12_readsPart_317 rfl (lv_at hl 1 rfl) ?_
                          refine m_get S hG 80 83 10 rfl ec_83 cpX12 wm_1683 dX12_readsPart_318 rfl (Nat.lt_of_lt_of_le (Nat.le_of_ble_eq_true rfl) hn) (by decide) ?_
                          obtain ⟨hg_145, hM⟩ := gd_some hM
                          refine gi_if_eq (tgt := 328) hx hb dX12_readsPart_321 (by decide) hg_145 (fun c_146 => ?_) (fun c_146 => ?_)
                          · replace hM := ifp hM c_146
                            refine lv_iload hx hb dX12_readsPart_328 (lv_at hl 0 rfl) ?_
                            cases hM
                            exact g_iret S hr hlk hG hsz dX12_readsPart_330 ⟨Nat.le_of_ble_eq_true rfl, Nat.le_of_ble_eq_true rfl⟩ ⟨rfl, rfl⟩
                          · replace hM := ifn hM c_146
                            refine lv_iconst (v := iI (-1)) hx hb dX12_readsPart_324 (by decide) ?_
                            refine lv_goto (tgt := 330) hx hb dX12_readsPart_325 (by decide) ?_
                            cases hM
                            exact g_iret S hr hlk hG hsz dX12_readsPart_330 ⟨Nat.le_of_ble_eq_true rfl, Nat.le_of_ble_eq_true rfl⟩ ⟨rfl, rfl⟩
                        clear hM
                        replace hM := hc_143
                        refine gi_if_eq (tgt := 244) hx hb dX12_readsPart_186 (by decide) hg_97 (fun c_147 => ?_) (fun c_147 => ?_)
                        · replace hM := ifp hM c_147
                          refine lv_iload_n hx hb dX12_readsPart_244 rfl (lv_at hl 3 rfl) ?_
                          refine gi_if_ge (tgt := 274) hx hb dX12_readsPart_245 (by decide) hg_102 (fun c_148 => ?_) (fun c_148 => ?_)
                          · replace hM := ifp hM c_148
                            refine lv_iload_n hx hb dX12_readsPart_274 rfl (lv_at hl 3 rfl) ?_
                            refine lv_iconst (v := iI 3) hx hb dX12_readsPart_275 (by decide) ?_
                            refine gi_icmp_ne (tgt := 293) hx hb dX12_readsPart_276 (by decide) hg_102 (by decide) (fun c_149 => ?_) (fun c_149 => ?_)
                            · replace hM := ifn hM c_149
                              refine lv_iload_n hx hb dX12_readsPart_293 rfl (lv_at hl 3 rfl) ?_
                              refine lv_iconst (v := iI 2) hx hb dX12_readsPart_294 (by decide) ?_
                              refine gi_icmp_ne (tgt := 307) hx hb dX12_readsPart_295 (by decide) hg_102 (by decide) (fun c_150 => ?_) (fun c_150 => ?_)
                              · replace hM := ifn hM c_150
                                refine lv_aload_n hx hb dX12_readsPart_307 rfl (lv_at hl 4 rfl) ?_
                                refine lv_iload hx hb dX12_readsPart_308 (lv_at hl 0 rfl) ?_
                                refine lv_iload_n hx hb dX12_readsPart_310 rfl (lv_at hl 3 rfl) ?_
                                refine lv_iconst (v := iI 3) hx hb dX12_readsPart_311 (by decide) ?_
                                refine gi_sub hx hb dX12_readsPart_312 ?_
                                refine lv_iload_n hx hb dX12_readsPart_313 rfl (lv_at hl 5 rfl) ?_
                                obtain ⟨r_153, S_152, hc_151, hM⟩ := bd2_some hM
                                refine g_vv (As := [.int (iI x_138), .int (iI (z_1 - 3)), .int (iI a1)]) (rest := []) S hG hsz (hr1 _ x_138 (z_1 - 3) a1 _ _ hc_151) wV_12_207 (ec_83 _) cpX12 (Nat.lt_of_lt_of_le (Nat.le_of_ble_eq_true rfl) hn) dX12_readsPart_314 rfl hl.1 (ar := 3) (by decide +kernel) rfl (by refine ⟨?_, ?_, ?_, ?_⟩ <;> first | exact Nat.le_of_ble_eq_true rfl | (simp only [gRm]; omega)) (Nat.le_of_ble_eq_true rfl) (fun uu H locs hp hG => ?_)
                                obtain rfl := hp
                                replace hG : gW D cy b n s H locs (enc b cy X S_152) := hG
                                cases hM
                                exact hK_144 H locs ls hG (lv_sub hl [0, 4] rfl)
                              · replace hM := ifp hM c_150
                                refine lv_aload_n hx hb dX12_readsPart_298 rfl (lv_at hl 4 rfl) ?_
                                refine lv_iload hx hb dX12_readsPart_299 (lv_at hl 0 rfl) ?_
                                obtain ⟨S_155, hc_154, hM⟩ := bd1_some hM
                                refine g_vv (As := [.int (iI x_138)]) (rest := []) S hG hsz (vX12_readsAtom l hn x_138 hc_154) wV_12_204 (ec_83 _) cpX12 (Nat.lt_of_lt_of_le (Nat.le_of_ble_eq_true rfl) hn) dX12_readsPart_301 rfl hl.1 (ar := 1) (by decide +kernel) rfl (by refine ⟨?_, ?_, ?_, ?_⟩ <;> first | exact Nat.le_of_ble_eq_true rfl | (simp only [gRm]; omega)) (Nat.le_of_ble_eq_true rfl) (fun uu H locs hp hG => ?_)
                                obtain rfl := hp
                                replace hG : gW D cy b n s H locs (enc b cy X S_155) := hG
                                refine lv_goto (tgt := 317) hx hb dX12_readsPart_304 (by decide) ?_
                                cases hM
                                exact hK_144 H locs ls hG (lv_sub hl [0, 4] rfl)
                            · replace hM := ifp hM c_149
                              refine lv_aload_n hx hb dX12_readsPart_279 rfl (lv_at hl 4 rfl) ?_
                              refine m_get S hG 80 83 0 rfl ec_83 cpX12 wm_1673 dX12_readsPart_280 rfl (Nat.lt_of_lt_of_le (Nat.le_of_ble_eq_true rfl) hn) (by decide) ?_
                              refine lv_bipush (v := iI 24) hx hb dX12_readsPart_283 (by decide) ?_
                              refine lv_iload hx hb dX12_readsPart_285 (lv_at hl 0 rfl) ?_
                              refine gi_add hx hb dX12_readsPart_287 ?_
                              refine lv_iconst (v := iI 1) hx hb dX12_readsPart_288 (by decide) ?_
                              obtain ⟨hg_156, hM⟩ := gd_some hM
                              refine mi_ast S hG 81 84 rfl ec_84 (Nat.lt_of_lt_of_le (Nat.le_of_ble_eq_true rfl) hn) dX12_readsPart_289 hg_156 (by decide) (fun H locs S_157 eS_157 hG => ?_)
                              replace hM := nx_at hM eS_157
                              clear eS_157
                              refine lv_goto (tgt := 317) hx hb dX12_readsPart_290 (by decide) ?_
                              cases hM
                              exact hK_144 H locs ls hG (lv_sub hl [0, 4] rfl)
                          · replace hM := ifn hM c_148
                            refine lv_aload_n hx hb dX12_readsPart_248 rfl (lv_at hl 4 rfl) ?_
                            refine m_get S hG 80 83 0 rfl ec_83 cpX12 wm_1673 dX12_readsPart_249 rfl (Nat.lt_of_lt_of_le (Nat.le_of_ble_eq_true rfl) hn) (by decide) ?_
                            refine lv_bipush (v := iI 24) hx hb dX12_readsPart_252 (by decide) ?_
                            refine lv_iload hx hb dX12_readsPart_254 (lv_at hl 0 rfl) ?_
                            refine gi_add hx hb dX12_readsPart_256 ?_
                            refine lv_iconst (v := iI 2) hx hb dX12_readsPart_257 (by decide) ?_
                            obtain ⟨hg_158, hM⟩ := gd_some hM
                            refine mi_ast S hG 81 84 rfl ec_84 (Nat.lt_of_lt_of_le (Nat.le_of_ble_eq_true rfl) hn) dX12_readsPart_258 hg_158 (by decide) (fun H locs S_159 eS_159 hG => ?_)
                            replace hM := nx_at hM eS_159
                            clear eS_159
                            refine lv_aload_n hx hb dX12_readsPart_259 rfl (lv_at hl 4 rfl) ?_
                            refine m_get S hG 80 83 0 rfl ec_83 cpX12 wm_1673 dX12_readsPart_260 rfl (Nat.lt_of_lt_of_le (Nat.le_of_ble_eq_true rfl) hn) (by decide) ?_
                            refine lv_bipush (v := iI 48) hx hb dX12_readsPart_263 (by decide) ?_
                            refine lv_iload hx hb dX12_readsPart_265 (lv_at hl 0 rfl) ?_
                            refine gi_add hx hb dX12_readsPart_267 ?_
                            refine lv_iload hx hb dX12_readsPart_268 (lv_at hl 2 rfl) ?_
                            obtain ⟨hg_160, hM⟩ := gd_some hM
                            refine mi_ast S hG 81 84 rfl ec_84 (Nat.lt_of_lt_of_le (Nat.le_of_ble_eq_true rfl) hn) dX12_readsPart_270 hg_160 (by decide) (fun H locs S_161 eS_161 hG => ?_)
                            replace hM := nx_at hM eS_161
                            clear eS_161
                            refine lv_goto (tgt := 317) hx hb dX12_readsPart_271 (by decide) ?_
                            cases hM
                            exact hK_144 H locs ls hG (lv_sub hl [0, 4] rfl)
                        · replace hM := ifn hM c_147
                          refine lv_aload_n hx hb dX12_readsPart_189 rfl (lv_at hl 4 rfl) ?_
                          refine m_get S hG 80 83 0 rfl ec_83 cpX12 wm_1673 dX12_readsPart_190 rfl (Nat.lt_of_lt_of_le (Nat.le_of_ble_eq_true rfl) hn) (by decide) ?_
                          refine lv_bipush (v := iI 24) hx hb dX12_readsPart_193 (by decide) ?_
                          refine lv_iload hx hb dX12_readsPart_195 (lv_at hl 0 rfl) ?_
                          refine gi_add hx hb dX12_readsPart_197 ?_
                          refine lv_bipush (v := iI 7) hx hb dX12_readsPart_198 (by decide) ?_
                          obtain ⟨hg_162, hM⟩ := gd_some hM
                          refine mi_ast S hG 81 84 rfl ec_84 (Nat.lt_of_lt_of_le (Nat.le_of_ble_eq_true rfl) hn) dX12_readsPart_200 hg_162 (by decide) (fun H locs S_163 eS_163 hG => ?_)
                          replace hM := nx_at hM eS_163
                          clear eS_163
                          refine lv_aload_n hx hb dX12_readsPart_201 rfl (lv_at hl 4 rfl) ?_
                          refine m_get S hG 80 83 0 rfl ec_83 cpX12 wm_1673 dX12_readsPart_202 rfl (Nat.lt_of_lt_of_le (Nat.le_of_ble_eq_true rfl) hn) (by decide) ?_
                          refine lv_bipush (v := iI 48) hx hb dX12_readsPart_205 (by decide) ?_
                          refine lv_iload hx hb dX12_readsPart_207 (lv_at hl 0 rfl) ?_
                          refine gi_add hx hb dX12_readsPart_209 ?_
                          refine lv_bipush (v := iI 6) hx hb dX12_readsPart_210 (by decide) ?_
                          refine lv_iload hx hb dX12_readsPart_212 (lv_at hl 0 rfl) ?_
                          refine gi_add hx hb dX12_readsPart_214 ?_
                          obtain ⟨hg_164, hM⟩ := gd_some hM
                          refine mi_ast S hG 81 84 rfl ec_84 (Nat.lt_of_lt_of_le (Nat.le_of_ble_eq_true rfl) hn) dX12_readsPart_215 hg_164 (by decide) (fun H locs S_165 eS_165 hG => ?_)
                          replace hM := nx_at hM eS_165
                          clear eS_165
                          refine lv_aload_n hx hb dX12_readsPart_216 rfl (lv_at hl 4 rfl) ?_
                          refine lv_bipush (v := iI 6) hx hb dX12_readsPart_217 (by decide) ?_
                          refine lv_iload hx hb dX12_readsPart_219 (lv_at hl 0 rfl) ?_
                          refine gi_add hx hb dX12_readsPart_221 ?_
                          refine lv_iload_n hx hb dX12_readsPart_222 rfl (lv_at hl 5 rfl) ?_
                          refine lv_iconst (v := iI 1) hx hb dX12_readsPart_223 (by decide) ?_
                          refine gi_add hx hb dX12_readsPart_224 ?_
                          obtain ⟨r_168, S_167, hc_166, hM⟩ := bd2_some hM
                          refine g_vv (As := [.int (iI (6 + x_138)), .int (iI (a1 + 1))]) (rest := []) S hG hsz (hr0 _ (6 + x_138) (a1 + 1) _ _ hc_166) wV_12_192 (ec_83 _) cpX12 (Nat.lt_of_lt_of_le (Nat.le_of_ble_eq_true rfl) hn) dX12_readsPart_225 rfl hl.1 (ar := 2) (by decide +kernel) rfl (by refine ⟨?_, ?_, ?_, ?_⟩ <;> first | exact Nat.le_of_ble_eq_true rfl | (simp only [gRm]; omega)) (Nat.le_of_ble_eq_true rfl) (fun uu H locs hp hG => ?_)
                          obtain rfl := hp
                          replace hG : gW D cy b n s H locs (enc b cy X S_167) := hG
                          refine lv_aload_n hx hb dX12_readsPart_228 rfl (lv_at hl 4 rfl) ?_
                          refine m_get S hG 80 83 10 rfl ec_83 cpX12 wm_1683 dX12_readsPart_229 rfl (Nat.lt_of_lt_of_le (Nat.le_of_ble_eq_true rfl) hn) (by decide) ?_
                          obtain ⟨hg_169, hM⟩ := gd_some hM
                          refine gi_if_ne (tgt := 317) hx hb dX12_readsPart_232 (by decide) hg_169 (fun c_170 => ?_) (fun c_170 => ?_)
                          · replace hM := ifn hM c_170
                            cases hM
                            exact hK_144 H locs ls hG (lv_sub hl [0, 4] rfl)
                          · replace hM := ifp hM c_170
                            refine lv_aload_n hx hb dX12_readsPart_235 rfl (lv_at hl 4 rfl) ?_
                            refine lv_bipush (v := iI 41) hx hb dX12_readsPart_236 (by decide) ?_
                            obtain ⟨S_172, hc_171, hM⟩ := bd1_some hM
                            refine g_vv (As := [.int (iI 41)]) (rest := []) S hG hsz (vX12_needs l hn 41 hc_171) wV_12_188 (ec_83 _) cpX12 (Nat.lt_of_lt_of_le (Nat.le_of_ble_eq_true rfl) hn) dX12_readsPart_238 rfl hl.1 (ar := 1) (by decide +kernel) rfl (by refine ⟨?_, ?_, ?_, ?_⟩ <;> first | exact Nat.le_of_ble_eq_true rfl | (simp only [gRm]; omega)) (Nat.le_of_ble_eq_true rfl) (fun uu H locs hp hG => ?_)
                            obtain rfl := hp
                            replace hG : gW D cy b n s H locs (enc b cy X S_172) := hG
                            refine lv_goto (tgt := 317) hx hb dX12_readsPart_241 (by decide) ?_
                            cases hM
                            exact hK_144 H locs ls hG (lv_sub hl [0, 4] rfl)
                      clear hM
                      replace hM := hc_132
                      obtain ⟨hg_173, hM⟩ := gd_some hM
                      refine gi_if_eq (tgt := 162) hx hb dX12_readsPart_147 (by decide) hg_173 (fun c_174 => ?_) (fun c_174 => ?_)
                      · replace hM := ifp hM c_174
                        cases hM
                        exact hK_137 H locs ls rfl hG (lv_sub hl [1, 2, 3, 4, 5] rfl)
                      · replace hM := ifn hM c_174
                        refine lv_iload_n hx hb dX12_readsPart_150 rfl (lv_at hl 5 rfl) ?_
                        refine lv_bipush (v := iI 6) hx hb dX12_readsPart_151 (by decide) ?_
                        obtain ⟨hg_175, hM⟩ := gd_some hM
                        refine gi_icmp_ne (tgt := 162) hx hb dX12_readsPart_153 (by decide) hg_175 (by decide) (fun c_176 => ?_) (fun c_176 => ?_)
                        · replace hM := ifn hM c_176
                          cases hM
                          exact hK_137 H locs ls rfl hG (lv_sub hl [1, 2, 3, 4, 5] rfl)
                        · replace hM := ifp hM c_176
                          cases hM
                          exact hK_133 H locs ls rfl hG (lv_sub hl [4] rfl)
                clear hM
                replace hM := hc_115
                refine gi_icmp_ne (tgt := 130) hx hb dX12_readsPart_112 (by decide) hg_12 (by decide) (fun c_177 => ?_) (fun c_177 => ?_)
                · replace hM := ifn hM c_177
                  cases hM
                  exact hK_120 H locs ls rfl hG (lv_sub hl [0, 1, 2, 3, 4, 5, 6] rfl)
                · replace hM := ifp hM c_177
                  refine lv_iload_n hx hb dX12_readsPart_115 rfl (lv_at hl 3 rfl) ?_
                  refine gi_if_ge (tgt := 130) hx hb dX12_readsPart_116 (by decide) hg_102 (fun c_178 => ?_) (fun c_178 => ?_)
                  · replace hM := ifp hM c_178
                    cases hM
                    exact hK_120 H locs ls rfl hG (lv_sub hl [0, 1, 2, 3, 4, 5, 6] rfl)
                  · replace hM := ifn hM c_178
                    refine lv_iload hx hb dX12_readsPart_119 (lv_at hl 2 rfl) ?_
                    obtain ⟨hg_179, hM⟩ := gd_some hM
                    refine gi_if_ge (tgt := 130) hx hb dX12_readsPart_121 (by decide) hg_179 (fun c_180 => ?_) (fun c_180 => ?_)
                    · replace hM := ifp hM c_180
                      cases hM
                      exact hK_120 H locs ls rfl hG (lv_sub hl [0, 1, 2, 3, 4, 5, 6] rfl)
                    · replace hM := ifn hM c_180
                      cases hM
                      exact hK_116 H locs ls rfl hG (lv_sub hl [4] rfl)
              · replace hM := ifn hM c_113
                refine lv_aload_n hx hb dX12_readsPart_101 rfl (lv_at hl 4 rfl) ?_
                refine lv_iconst (v := iI 1) hx hb dX12_readsPart_102 (by decide) ?_
                obtain ⟨r_182, S_183, hc_181, hM⟩ := bd2_some hM
                refine g_vi (As := [.int (iI 1)]) (rest := []) S hG hsz (vX12_faults l hn 1 hc_181) wV_12_169 (ec_83 _) cpX12 (Nat.lt_of_lt_of_le (Nat.le_of_ble_eq_true rfl) hn) dX12_readsPart_103 rfl hl.1 (ar := 1) (by decide +kernel) rfl (by refine ⟨?_, ?_, ?_, ?_⟩ <;> first | exact Nat.le_of_ble_eq_true rfl | (simp only [gRm]; omega)) (Nat.le_of_ble_eq_true rfl) (fun rv uu H locs hp hG => ?_)
                obtain ⟨rfl, rfl⟩ := hp
                replace hG : gW D cy b n s H locs (enc b cy X S_183) := hG
                cases hM
                exact g_iret S hr hlk hG hsz dX12_readsPart_106 ⟨Nat.le_of_ble_eq_true rfl, Nat.le_of_ble_eq_true rfl⟩ ⟨rfl, rfl⟩
      clear hM
      replace hM := hc_10
      obtain ⟨hg_184, hM⟩ := gd_some hM
      refine gi_if_ne (tgt := 57) hx hb dX12_readsPart_49 (by decide) hg_184 (fun c_185 => ?_) (fun c_185 => ?_)
      · replace hM := ifn hM c_185
        refine lv_iconst (v := iI 1) hx hb dX12_readsPart_57 (by decide) ?_
        refine lv_goto (tgt := 62) hx hb dX12_readsPart_58 (by decide) ?_
        cases hM
        exact hK_11 H locs ls hG (lv_sub hl [0, 1, 2, 3, 4, 5] rfl)
      · replace hM := ifp hM c_185
        refine lv_iload_n hx hb dX12_readsPart_52 rfl (lv_at hl 2 rfl) ?_
        refine lv_iconst (v := iI 5) hx hb dX12_readsPart_53 (by decide) ?_
        obtain ⟨hg_186, hM⟩ := gd_some hM
        refine gi_icmp_le (tgt := 61) hx hb dX12_readsPart_54 (by decide) hg_186 (by decide) (fun c_187 => ?_) (fun c_187 => ?_)
        · replace hM := ifp hM c_187
          refine lv_iconst (v := iI 0) hx hb dX12_readsPart_61 (by decide) ?_
          cases hM
          exact hK_11 H locs ls hG (lv_sub hl [0, 1, 2, 3, 4, 5] rfl)
        · replace hM := ifn hM c_187
          refine lv_iconst (v := iI 1) hx hb dX12_readsPart_57 (by decide) ?_
          refine lv_goto (tgt := 62) hx hb dX12_readsPart_58 (by decide) ?_
          cases hM
          exact hK_11 H locs ls hG (lv_sub hl [0, 1, 2, 3, 4, 5] rfl)
    clear hM
    replace hM := hc_5
    obtain ⟨hg_188, hM⟩ := gd_some hM
    refine gi_icmp_ne (tgt := 36) hx hb dX12_readsPart_22 (by decide) hg_188 (by decide) (fun c_189 => ?_) (fun c_189 => ?_)
    · replace hM := ifn hM c_189
      refine lv_iconst (v := iI (-1)) hx hb dX12_readsPart_36 (by decide) ?_
      cases hM
      exact hK_6 H locs ls hG (lv_sub hl [0, 1, 2, 3] rfl)
    · replace hM := ifp hM c_189
      refine lv_iload_n hx hb dX12_readsPart_25 rfl (lv_at hl 0 rfl) ?_
      obtain ⟨hg_190, hM⟩ := gd_some hM
      refine gi_if_ge (tgt := 36) hx hb dX12_readsPart_26 (by decide) hg_190 (fun c_191 => ?_) (fun c_191 => ?_)
      · replace hM := ifp hM c_191
        refine lv_iconst (v := iI (-1)) hx hb dX12_readsPart_36 (by decide) ?_
        cases hM
        exact hK_6 H locs ls hG (lv_sub hl [0, 1, 2, 3] rfl)
      · replace hM := ifn hM c_191
        refine lv_aload_n hx hb dX12_readsPart_29 rfl (lv_at hl 1 rfl) ?_
        obtain ⟨r_193, hc_192, hM⟩ := bd1_some hM
        refine g_vi (As := []) (rest := []) S hG hsz (vX12_named l hn  hc_192) wV_12_186 (ec_83 _) cpX12 (Nat.lt_of_lt_of_le (Nat.le_of_ble_eq_true rfl) hn) dX12_readsPart_30 rfl hl.1 (ar := 0) (by decide +kernel) rfl (by refine ⟨?_, ?_, ?_, ?_⟩ <;> first | exact Nat.le_of_ble_eq_true rfl | (simp only [gRm]; omega)) (Nat.le_of_ble_eq_true rfl) (fun rv uu H locs hp hG => ?_)
        obtain ⟨rfl, rfl⟩ := hp
        replace hG : gW D cy b n s H locs (enc b cy X S0) := hG
        refine lv_goto (tgt := 37) hx hb dX12_readsPart_33 (by decide) ?_
        cases hM
        exact hK_6 H locs ls hG (lv_sub hl [0, 1, 2, 3] rfl)
  clear hM
  replace hM := hc_2
  obtain ⟨hg_194, hM⟩ := gd_some hM
  refine gi_icmp_ne (tgt := 15) hx hb dX12_readsPart_5 (by decide) hg_194 (by decide) (fun c_195 => ?_) (fun c_195 => ?_)
  · replace hM := ifn hM c_195
    refine lv_iconst (v := iI (-1)) hx hb dX12_readsPart_15 (by decide) ?_
    cases hM
    exact hK_3 H locs ls hG (lv_sub hl [0, 1, 2] rfl)
  · replace hM := ifp hM c_195
    refine lv_aload_n hx hb dX12_readsPart_8 rfl (lv_at hl 0 rfl) ?_
    obtain ⟨r_197, hc_196, hM⟩ := bd1_some hM
    refine g_vi (As := []) (rest := []) S hG hsz (vX12_key l hn  hc_196) wV_12_183 (ec_83 _) cpX12 (Nat.lt_of_lt_of_le (Nat.le_of_ble_eq_true rfl) hn) dX12_readsPart_9 rfl hl.1 (ar := 0) (by decide +kernel) rfl (by refine ⟨?_, ?_, ?_, ?_⟩ <;> first | exact Nat.le_of_ble_eq_true rfl | (simp only [gRm]; omega)) (Nat.le_of_ble_eq_true rfl) (fun rv uu H locs hp hG => ?_)
    obtain ⟨rfl, rfl⟩ := hp
    replace hG : gW D cy b n s H locs (enc b cy X S0) := hG
    refine lv_goto (tgt := 16) hx hb dX12_readsPart_12 (by decide) ?_
    cases hM
    exact hK_3 H locs ls hG (lv_sub hl [0, 1, 2] rfl)
def RX12_readsExpr : Nat → Nat → Int → Int → Int → St → Option (Int × St)
  | 0, _, _, _, _, _ => none
  | f + 1, t, x1, x2, x3, S0 => if t = 0 then (bd1 (bX12_readsExpr (RX12_readsExpr f) S0 x1 x2) fun S1 => some (0, S1)) else (if t = 1 then (bd1 (bX12_readsIn (RX12_readsExpr f) S0 x1 x2 x3) fun S1 => some (0, S1)) else (if t = 2 then (bX12_readsPart (RX12_readsExpr f) S0 x1 x2) else (none)))
set_option maxHeartbeats 4000000 in
theorem vRX12_readsExpr (l : Launch) {D : va_G} {cy : Nat → ClassId} {b n : Nat} (hn : 102 ≤ n) {X : Nat → va_E} : ∀ f : Nat, (∀ (S0 : St) (a1 : Int) (a2 : Int) (o1 : Int) (o2 : St), RX12_readsExpr f 0 a1 a2 0 S0 = some (o1, o2) → gV l yX12_readsExpr cX12_readsExpr 8 (6 + f) 0 0 D cy b n (enc b cy X S0) [.ref (b + 80), .int (iI a1), .int (iI a2)] (fun u => u = (n, enc b cy X o2))) ∧ (∀ (S0 : St) (a1 : Int) (a2 : Int) (a3 : Int) (o1 : Int) (o2 : St), RX12_readsExpr f 1 a1 a2 a3 S0 = some (o1, o2) → gV l yX12_readsIn cX12_readsIn 4 (6 + f) 0 0 D cy b n (enc b cy X S0) [.ref (b + 80), .int (iI a1), .int (iI a2), .int (iI a3)] (fun u => u = (n, enc b cy X o2))) ∧ (∀ (S0 : St) (a1 : Int) (a2 : Int) (o1 : Int) (o2 : St), RX12_readsExpr f 2 a1 a2 0 S0 = some (o1, o2) → gI l yX12_readsPart cX12_readsPart 8 (some .int) (6 + f) 0 0 D cy b n (enc b cy X S0) [.ref (b + 80), .int (iI a1), .int (iI a2)] (fun r u => r = iI o1 ∧ u = (n, enc b cy X o2))) := by
  intro f
  induction f with
  | zero =>
    refine ⟨?_, ?_, ?_⟩
    all_goals
      intros; rename_i hM; rw [RX12_readsExpr] at hM; cases hM
  | succ f ih =>
    obtain ⟨hr0, hr1, hr2⟩ := ih
    refine ⟨?_, ?_, ?_⟩
    · intro S0 a1 a2 o1 o2 hM
      rw [RX12_readsExpr] at hM
      replace hM := ifp hM rfl
      obtain ⟨S1, hM, h3⟩ := bd1_some hM
      cases h3
      exact spX12_readsExpr l hn (RX12_readsExpr f) (6 + f) (Nat.le_add_right _ _) hr0 hr1 hr2 S0 a1 a2 _ hM
    · intro S0 a1 a2 a3 o1 o2 hM
      rw [RX12_readsExpr] at hM
      replace hM := ifn hM (by decide)
      replace hM := ifp hM rfl
      obtain ⟨S1, hM, h3⟩ := bd1_some hM
      cases h3
      exact spX12_readsIn l hn (RX12_readsExpr f) (6 + f) (Nat.le_add_right _ _) hr0 hr1 hr2 S0 a1 a2 a3 _ hM
    · intro S0 a1 a2 o1 o2 hM
      rw [RX12_readsExpr] at hM
      replace hM := ifn hM (by decide)
      replace hM := ifn hM (by decide)
      replace hM := ifp hM rfl
      exact spX12_readsPart l hn (RX12_readsExpr f) (6 + f) (Nat.le_add_right _ _) hr0 hr1 hr2 S0 a1 a2 _ _ hM
def mX12_readsExpr (S0 : St) (a1 : Int) (a2 : Int) : Option (St) := bd2 (RX12_readsExpr 40 0 a1 a2 0 S0) fun _ S1 => some S1
theorem vX12_readsExpr (l : Launch) {D : va_G} {cy : Nat → ClassId} {b n : Nat} (hn : 102 ≤ n) {X : Nat → va_E} {S0 : St} (a1 : Int) (a2 : Int) {o1 : St} (hM : mX12_readsExpr S0 a1 a2 = some o1) : gV l yX12_readsExpr cX12_readsExpr 8 46 0 0 D cy b n (enc b cy X S0) [.ref (b + 80), .int (iI a1), .int (iI a2)] (fun u => u = (n, enc b cy X o1)) := by
  unfold mX12_readsExpr at hM
  obtain ⟨o0, S1, hM, h3⟩ := bd2_some hM
  cases h3
  exact (vRX12_readsExpr l hn 40).1 S0 a1 a2 _ _ hM
def mX12_readsIn (S0 : St) (a1 : Int) (a2 : Int) (a3 : Int) : Option (St) := bd2 (RX12_readsExpr 40 1 a1 a2 a3 S0) fun _ S1 => some S1
theorem vX12_readsIn (l : Launch) {D : va_G} {cy : Nat → ClassId} {b n : Nat} (hn : 102 ≤ n) {X : Nat → va_E} {S0 : St} (a1 : Int) (a2 : Int) (a3 : Int) {o1 : St} (hM : mX12_readsIn S0 a1 a2 a3 = some o1) : gV l yX12_readsIn cX12_readsIn 4 46 0 0 D cy b n (enc b cy X S0) [.ref (b + 80), .int (iI a1), .int (iI a2), .int (iI a3)] (fun u => u = (n, enc b cy X o1)) := by
  unfold mX12_readsIn at hM
  obtain ⟨o0, S1, hM, h3⟩ := bd2_some hM
  cases h3
  exact (vRX12_readsExpr l hn 40).2.1 S0 a1 a2 a3 _ _ hM
def mX12_readsPart (S0 : St) (a1 : Int) (a2 : Int) : Option (Int × St) := RX12_readsExpr 40 2 a1 a2 0 S0
theorem vX12_readsPart (l : Launch) {D : va_G} {cy : Nat → ClassId} {b n : Nat} (hn : 102 ≤ n) {X : Nat → va_E} {S0 : St} (a1 : Int) (a2 : Int) {o1 : Int} {o2 : St} (hM : mX12_readsPart S0 a1 a2 = some (o1, o2)) : gI l yX12_readsPart cX12_readsPart 8 (some .int) 46 0 0 D cy b n (enc b cy X S0) [.ref (b + 80), .int (iI a1), .int (iI a2)] (fun r u => r = iI o1 ∧ u = (n, enc b cy X o2)) := by
  unfold mX12_readsPart at hM
  exact (vRX12_readsExpr l hn 40).2.2 S0 a1 a2 _ _ hM
def mX12_readsKind (S0 : St)  : Option (St) := gd (inI (S0 83 8)) <| if (S0 83 8) = 1 then (bd1 (mX12_key S0) fun r_7 => gd (inI r_7) <| if r_7 < 0 then (bd1 (mX12_named S0) fun r_11 => gd (inI r_11) <| if r_11 < 0 then (bd2 (mX12_faults S0 2) fun r_15 S_16 => some (S_16)) else (gd (0 ≤ (198 + r_11) ∧ (198 + r_11) < 228) <| gd (inI (S0 84 (198 + r_11))) <| if (S0 84 (198 + r_11)) ≤ 0 then (bd1 (mX12_next S0) fun S_21 => bd1 (mX12_needs S_21 61) fun S_23 => gd (inI (S_23 83 10)) <| if (S_23 83 10) = 0 then (bd1 (mX12_readsExpr S_23 r_11 0) fun S_27 => some (S_27)) else (some (S_23))) else (bd2 (mX12_faults S0 2) fun r_29 S_30 => some (S_30)))) else (bd2 (mX12_faults S0 1) fun r_32 S_33 => some (S_33))) else (bd2 (mX12_faults S0 1) fun r_4 S_5 => some (S_5))
set_option maxHeartbeats 4000000 in
set_option maxRecDepth 100000 in
theorem vX12_readsKind (l : Launch) {D : va_G} {cy : Nat → ClassId} {b n : Nat} (hn : 102 ≤ n) {X : Nat → va_E} {S0 : St}  {o1 : St} (hM : mX12_readsKind S0  = some o1) : gV l yX12_readsKind cX12_readsKind 2 47 0 0 D cy b n (enc b cy X S0) [.ref (b + 80)] (fun u => u = (n, enc b cy X o1)) := by
  refine gV_of (by decide) (Nat.le_of_ble_eq_true rfl) ?_
  intro p e s m args below meth c S hr hlk hin hsz ls hl hG
  have hx := S.1
  have hb := S.2.1
  have hl : lv_has ls 2 [(0, .ref (b + 80))] := hl
  replace hG : gW D cy b n s s.heap [] (enc b cy X S0) := hG
  obtain ⟨H, eH⟩ : ∃ H, H = s.heap := ⟨_, rfl⟩
  obtain ⟨locs, elocs⟩ : ∃ locs : List Loc, locs = [] := ⟨_, rfl⟩
  rw [← eH, ← elocs] at hG
  rw [← eH, ← elocs]
  clear eH elocs
  unfold mX12_readsKind at hM
  refine lv_aload_n hx hb dX12_readsKind_0 rfl (lv_at hl 0 rfl) ?_
  refine m_get S hG 80 83 8 rfl ec_83 cpX12 wm_1681 dX12_readsKind_1 rfl (Nat.lt_of_lt_of_le (Nat.le_of_ble_eq_true rfl) hn) (by decide) ?_
  refine lv_iconst (v := iI 1) hx hb dX12_readsKind_4 (by decide) ?_
  obtain ⟨hg_1, hM⟩ := gd_some hM
  refine gi_icmp_ne (tgt := 15) hx hb dX12_readsKind_5 (by decide) hg_1 (by decide) (fun c_2 => ?_) (fun c_2 => ?_)
  · replace hM := ifn hM c_2
    refine lv_aload_n hx hb dX12_readsKind_15 rfl (lv_at hl 0 rfl) ?_
    refine lv_iconst (v := iI 1) hx hb dX12_readsKind_16 (by decide) ?_
    obtain ⟨r_4, S_5, hc_3, hM⟩ := bd2_some hM
    refine g_vi (As := [.int (iI 1)]) (rest := []) S hG hsz (vX12_faults l hn 1 hc_3) wV_12_169 (ec_83 _) cpX12 (Nat.lt_of_lt_of_le (Nat.le_of_ble_eq_true rfl) hn) dX12_readsKind_17 rfl hl.1 (ar := 1) (by decide +kernel) rfl ⟨Nat.le_of_ble_eq_true rfl, Nat.le_of_ble_eq_true rfl, Nat.le_of_ble_eq_true rfl, Nat.le_of_ble_eq_true rfl⟩ (Nat.le_of_ble_eq_true rfl) (fun rv uu H locs hp hG => ?_)
    obtain ⟨rfl, rfl⟩ := hp
    replace hG : gW D cy b n s H locs (enc b cy X S_5) := hG
    refine lv_pop hx hb dX12_readsKind_20 rfl ?_
    cases hM
    exact g_vret S hr hlk hG hsz dX12_readsKind_21 ⟨Nat.le_of_ble_eq_true rfl, Nat.le_of_ble_eq_true rfl⟩ rfl
  · replace hM := ifp hM c_2
    refine lv_aload_n hx hb dX12_readsKind_8 rfl (lv_at hl 0 rfl) ?_
    obtain ⟨r_7, hc_6, hM⟩ := bd1_some hM
    refine g_vi (As := []) (rest := []) S hG hsz (vX12_key l hn  hc_6) wV_12_183 (ec_83 _) cpX12 (Nat.lt_of_lt_of_le (Nat.le_of_ble_eq_true rfl) hn) dX12_readsKind_9 rfl hl.1 (ar := 0) (by decide +kernel) rfl ⟨Nat.le_of_ble_eq_true rfl, Nat.le_of_ble_eq_true rfl, Nat.le_of_ble_eq_true rfl, Nat.le_of_ble_eq_true rfl⟩ (Nat.le_of_ble_eq_true rfl) (fun rv uu H locs hp hG => ?_)
    obtain ⟨rfl, rfl⟩ := hp
    replace hG : gW D cy b n s H locs (enc b cy X S0) := hG
    obtain ⟨hg_8, hM⟩ := gd_some hM
    refine gi_if_lt (tgt := 22) hx hb dX12_readsKind_12 (by decide) hg_8 (fun c_9 => ?_) (fun c_9 => ?_)
    · replace hM := ifp hM c_9
      refine lv_aload_n hx hb dX12_readsKind_22 rfl (lv_at hl 0 rfl) ?_
      obtain ⟨r_11, hc_10, hM⟩ := bd1_some hM
      refine g_vi (As := []) (rest := []) S hG hsz (vX12_named l hn  hc_10) wV_12_186 (ec_83 _) cpX12 (Nat.lt_of_lt_of_le (Nat.le_of_ble_eq_true rfl) hn) dX12_readsKind_23 rfl hl.1 (ar := 0) (by decide +kernel) rfl ⟨Nat.le_of_ble_eq_true rfl, Nat.le_of_ble_eq_true rfl, Nat.le_of_ble_eq_true rfl, Nat.le_of_ble_eq_true rfl⟩ (Nat.le_of_ble_eq_true rfl) (fun rv uu H locs hp hG => ?_)
      obtain ⟨rfl, rfl⟩ := hp
      replace hG : gW D cy b n s H locs (enc b cy X S0) := hG
      refine lv_istore_n (lv' := [(1, .int (iI r_11)), (0, .ref (b + 80))]) hx hb dX12_readsKind_26 rfl hl (by decide) rfl (fun ls hl => ?_)
      refine lv_iload_n hx hb dX12_readsKind_27 rfl (lv_at hl 0 rfl) ?_
      obtain ⟨hg_12, hM⟩ := gd_some hM
      refine gi_if_lt (tgt := 44) hx hb dX12_readsKind_28 (by decide) hg_12 (fun c_13 => ?_) (fun c_13 => ?_)
      · replace hM := ifp hM c_13
        refine lv_aload_n hx hb dX12_readsKind_44 rfl (lv_at hl 1 rfl) ?_
        refine lv_iconst (v := iI 2) hx hb dX12_readsKind_45 (by decide) ?_
        obtain ⟨r_15, S_16, hc_14, hM⟩ := bd2_some hM
        refine g_vi (As := [.int (iI 2)]) (rest := []) S hG hsz (vX12_faults l hn 2 hc_14) wV_12_169 (ec_83 _) cpX12 (Nat.lt_of_lt_of_le (Nat.le_of_ble_eq_true rfl) hn) dX12_readsKind_46 rfl hl.1 (ar := 1) (by decide +kernel) rfl ⟨Nat.le_of_ble_eq_true rfl, Nat.le_of_ble_eq_true rfl, Nat.le_of_ble_eq_true rfl, Nat.le_of_ble_eq_true rfl⟩ (Nat.le_of_ble_eq_true rfl) (fun rv uu H locs hp hG => ?_)
        obtain ⟨rfl, rfl⟩ := hp
        replace hG : gW D cy b n s H locs (enc b cy X S_16) := hG
        refine lv_pop hx hb dX12_readsKind_49 rfl ?_
        cases hM
        exact g_vret S hr hlk hG hsz dX12_readsKind_50 ⟨Nat.le_of_ble_eq_true rfl, Nat.le_of_ble_eq_true rfl⟩ rfl
      · replace hM := ifn hM c_13
        refine lv_aload_n hx hb dX12_readsKind_31 rfl (lv_at hl 1 rfl) ?_
        refine m_get S hG 80 83 0 rfl ec_83 cpX12 wm_1673 dX12_readsKind_32 rfl (Nat.lt_of_lt_of_le (Nat.le_of_ble_eq_true rfl) hn) (by decide) ?_
        refine lv_sipush (v := iI 198) hx hb dX12_readsKind_35 (by decide) ?_
        refine lv_iload_n hx hb dX12_readsKind_38 rfl (lv_at hl 0 rfl) ?_
        refine gi_add hx hb dX12_readsKind_39 ?_
        obtain ⟨hg_17, hM⟩ := gd_some hM
        refine mi_ald S hG 81 84 rfl ec_84 (Nat.lt_of_lt_of_le (Nat.le_of_ble_eq_true rfl) hn) dX12_readsKind_40 hg_17 (by decide) ?_
        obtain ⟨hg_18, hM⟩ := gd_some hM
        refine gi_if_le (tgt := 51) hx hb dX12_readsKind_41 (by decide) hg_18 (fun c_19 => ?_) (fun c_19 => ?_)
        · replace hM := ifp hM c_19
          refine lv_aload_n hx hb dX12_readsKind_51 rfl (lv_at hl 1 rfl) ?_
          obtain ⟨S_21, hc_20, hM⟩ := bd1_some hM
          refine g_vv (As := []) (rest := []) S hG hsz (vX12_next l hn  hc_20) wV_12_173 (ec_83 _) cpX12 (Nat.lt_of_lt_of_le (Nat.le_of_ble_eq_true rfl) hn) dX12_readsKind_52 rfl hl.1 (ar := 0) (by decide +kernel) rfl ⟨Nat.le_of_ble_eq_true rfl, Nat.le_of_ble_eq_true rfl, Nat.le_of_ble_eq_true rfl, Nat.le_of_ble_eq_true rfl⟩ (Nat.le_of_ble_eq_true rfl) (fun uu H locs hp hG => ?_)
          obtain rfl := hp
          replace hG : gW D cy b n s H locs (enc b cy X S_21) := hG
          refine lv_aload_n hx hb dX12_readsKind_55 rfl (lv_at hl 1 rfl) ?_
          refine lv_bipush (v := iI 61) hx hb dX12_readsKind_56 (by decide) ?_
          obtain ⟨S_23, hc_22, hM⟩ := bd1_some hM
          refine g_vv (As := [.int (iI 61)]) (rest := []) S hG hsz (vX12_needs l hn 61 hc_22) wV_12_188 (ec_83 _) cpX12 (Nat.lt_of_lt_of_le (Nat.le_of_ble_eq_true rfl) hn) dX12_readsKind_58 rfl hl.1 (ar := 1) (by decide +kernel) rfl ⟨Nat.le_of_ble_eq_true rfl, Nat.le_of_ble_eq_true rfl, Nat.le_of_ble_eq_true rfl, Nat.le_of_ble_eq_true rfl⟩ (Nat.le_of_ble_eq_true rfl) (fun uu H locs hp hG => ?_)
          obtain rfl := hp
          replace hG : gW D cy b n s H locs (enc b cy X S_23) := hG
          refine lv_aload_n hx hb dX12_readsKind_61 rfl (lv_at hl 1 rfl) ?_
          refine m_get S hG 80 83 10 rfl ec_83 cpX12 wm_1683 dX12_readsKind_62 rfl (Nat.lt_of_lt_of_le (Nat.le_of_ble_eq_true rfl) hn) (by decide) ?_
          obtain ⟨hg_24, hM⟩ := gd_some hM
          refine gi_if_ne (tgt := 74) hx hb dX12_readsKind_65 (by decide) hg_24 (fun c_25 => ?_) (fun c_25 => ?_)
          · replace hM := ifn hM c_25
            cases hM
            exact g_vret S hr hlk hG hsz dX12_readsKind_74 ⟨Nat.le_of_ble_eq_true rfl, Nat.le_of_ble_eq_true rfl⟩ rfl
          · replace hM := ifp hM c_25
            refine lv_aload_n hx hb dX12_readsKind_68 rfl (lv_at hl 1 rfl) ?_
            refine lv_iload_n hx hb dX12_readsKind_69 rfl (lv_at hl 0 rfl) ?_
            refine lv_iconst (v := iI 0) hx hb dX12_readsKind_70 (by decide) ?_
            obtain ⟨S_27, hc_26, hM⟩ := bd1_some hM
            refine g_vv (As := [.int (iI r_11), .int (iI 0)]) (rest := []) S hG hsz (vX12_readsExpr l hn r_11 0 hc_26) wV_12_192 (ec_83 _) cpX12 (Nat.lt_of_lt_of_le (Nat.le_of_ble_eq_true rfl) hn) dX12_readsKind_71 rfl hl.1 (ar := 2) (by decide +kernel) rfl ⟨Nat.le_of_ble_eq_true rfl, Nat.le_of_ble_eq_true rfl, Nat.le_of_ble_eq_true rfl, Nat.le_of_ble_eq_true rfl⟩ (Nat.le_of_ble_eq_true rfl) (fun uu H locs hp hG => ?_)
            obtain rfl := hp
            replace hG : gW D cy b n s H locs (enc b cy X S_27) := hG
            cases hM
            exact g_vret S hr hlk hG hsz dX12_readsKind_74 ⟨Nat.le_of_ble_eq_true rfl, Nat.le_of_ble_eq_true rfl⟩ rfl
        · replace hM := ifn hM c_19
          refine lv_aload_n hx hb dX12_readsKind_44 rfl (lv_at hl 1 rfl) ?_
          refine lv_iconst (v := iI 2) hx hb dX12_readsKind_45 (by decide) ?_
          obtain ⟨r_29, S_30, hc_28, hM⟩ := bd2_some hM
          refine g_vi (As := [.int (iI 2)]) (rest := []) S hG hsz (vX12_faults l hn 2 hc_28) wV_12_169 (ec_83 _) cpX12 (Nat.lt_of_lt_of_le (Nat.le_of_ble_eq_true rfl) hn) dX12_readsKind_46 rfl hl.1 (ar := 1) (by decide +kernel) rfl ⟨Nat.le_of_ble_eq_true rfl, Nat.le_of_ble_eq_true rfl, Nat.le_of_ble_eq_true rfl, Nat.le_of_ble_eq_true rfl⟩ (Nat.le_of_ble_eq_true rfl) (fun rv uu H locs hp hG => ?_)
          obtain ⟨rfl, rfl⟩ := hp
          replace hG : gW D cy b n s H locs (enc b cy X S_30) := hG
          refine lv_pop hx hb dX12_readsKind_49 rfl ?_
          cases hM
          exact g_vret S hr hlk hG hsz dX12_readsKind_50 ⟨Nat.le_of_ble_eq_true rfl, Nat.le_of_ble_eq_true rfl⟩ rfl
    · replace hM := ifn hM c_9
      refine lv_aload_n hx hb dX12_readsKind_15 rfl (lv_at hl 0 rfl) ?_
      refine lv_iconst (v := iI 1) hx hb dX12_readsKind_16 (by decide) ?_
      obtain ⟨r_32, S_33, hc_31, hM⟩ := bd2_some hM
      refine g_vi (As := [.int (iI 1)]) (rest := []) S hG hsz (vX12_faults l hn 1 hc_31) wV_12_169 (ec_83 _) cpX12 (Nat.lt_of_lt_of_le (Nat.le_of_ble_eq_true rfl) hn) dX12_readsKind_17 rfl hl.1 (ar := 1) (by decide +kernel) rfl ⟨Nat.le_of_ble_eq_true rfl, Nat.le_of_ble_eq_true rfl, Nat.le_of_ble_eq_true rfl, Nat.le_of_ble_eq_true rfl⟩ (Nat.le_of_ble_eq_true rfl) (fun rv uu H locs hp hG => ?_)
      obtain ⟨rfl, rfl⟩ := hp
      replace hG : gW D cy b n s H locs (enc b cy X S_33) := hG
      refine lv_pop hx hb dX12_readsKind_20 rfl ?_
      cases hM
      exact g_vret S hr hlk hG hsz dX12_readsKind_21 ⟨Nat.le_of_ble_eq_true rfl, Nat.le_of_ble_eq_true rfl⟩ rfl
theorem wV_12_216 : gWV "GrownKindsModel" 216 yX12_readsKind cX12_readsKind 2 none := ⟨wm_1898, wm_1900, wm_97, wm_188, wm_1901, by decide +kernel, by decide +kernel⟩
theorem wV_12_213 : gWV "GrownKindsModel" 213 yX12_readsHead cX12_readsHead 2 none := ⟨wm_1855, wm_1857, wm_90, wm_188, wm_1858, by decide +kernel, by decide +kernel⟩
theorem wV_12_219 : gWV "GrownKindsModel" 219 yX12_wrongKind cX12_wrongKind 5 (some .int) := ⟨wm_1929, wm_1931, wm_104, wm_188, wm_1932, by decide +kernel, by decide +kernel⟩
def mX12_grammar_151  : Nat → Int → St → Option (St)
  | 0, _, _ => none
  | f + 1, v_25, S_26 => gd (inI v_25) <| if 228 ≤ v_25 then (some (S_26)) else (gd (0 ≤ v_25 ∧ v_25 < 228) <| nx (up S_26 84 v_25 (S_26 85 v_25)) fun S_36 => mX12_grammar_151 f (v_25 + 1) S_36)
def mX12_grammar_45  : Nat → St → Option (St)
  | 0, _ => none
  | f + 1, S_12 => gd (inI (S_12 83 10)) <| if (S_12 83 10) = 0 then (gd (inI (S_12 83 8)) <| if (S_12 83 8) = 0 then (some (S_12)) else (bd1 (gd (inI (S_12 84 3)) <| if (S_12 84 3) = 0 then (bd1 (mX12_readsHead S_12) fun S_70 => some (S_70)) else (bd1 (mX12_readsKind S_12) fun S_68 => some (S_68))) fun S_57 => gd (inI (S_57 83 10)) <| if (S_57 83 10) = 0 then (bd1 (mX12_needs S_57 59) fun S_63 => nx (up S_63 84 3 ((S_63 84 3) + 1)) fun S_64 => mX12_grammar_45 f S_64) else (mX12_grammar_45 f S_57))) else (some (S_12))
def mX12_grammar_2  : Nat → Int → St → Option (St)
  | 0, _, _ => none
  | f + 1, v_1, S_2 => gd (inI v_1) <| if 228 ≤ v_1 then (some (S_2)) else (gd (0 ≤ v_1 ∧ v_1 < 228) <| nx (up S_2 85 v_1 (S_2 84 v_1)) fun S_77 => mX12_grammar_2 f (v_1 + 1) S_77)
def mX12_grammar (S0 : St)  : Option (Int × St) := bd1 (mX12_grammar_2 FU 0 S0) fun S_3 => bd1 (mX12_clears S_3) fun S_7 => nx (up S_7 83 6 0) fun S_8 => nx (up S_8 83 10 0) fun S_9 => bd1 (mX12_next S_9) fun S_11 => bd1 (mX12_grammar_45 FU S_11) fun S_13 => bd1 (gd (inI (S_13 83 10)) <| if (S_13 83 10) = 0 then (bd2 (mX12_wrongKind S_13) fun r_40 S_41 => gd (inI r_40) <| if r_40 < 0 then (some (S_41)) else (nx (up S_41 83 10 1) fun S_44 => nx (up S_44 83 4 4) fun S_45 => bd2 (mX12_wrongKind S_45) fun r_47 S_48 => nx (up S_48 83 5 r_47) fun S_49 => some (S_49))) else (some (S_13))) fun S_16 => nx (up S_16 83 3 0) fun S_19 => gd (inI (S_19 83 10)) <| if (S_19 83 10) = 0 then (nx (up S_19 83 4 0) fun S_22 => nx (up S_22 83 5 (-1)) fun S_23 => nx (up S_23 83 45 0) fun S_24 => some ((S_24 84 3), S_24)) else (bd1 (mX12_grammar_151 FU 0 S_19) fun S_27 => some ((-4), S_27))
set_option maxHeartbeats 4000000 in
set_option maxRecDepth 100000 in
theorem vX12_grammar (l : Launch) {D : va_G} {cy : Nat → ClassId} {b n : Nat} (hn : 102 ≤ n) {X : Nat → va_E} {S0 : St}  {o1 : Int} {o2 : St} (hM : mX12_grammar S0  = some (o1, o2)) : gI l yX12_grammar cX12_grammar 2 (some .int) 48 0 0 D cy b n (enc b cy X S0) [.ref (b + 80)] (fun r u => r = iI o1 ∧ u = (n, enc b cy X o2)) := by
  refine gI_of (by decide) (Nat.le_of_ble_eq_true rfl) ?_
  intro p e s m args below meth c S hr hlk hin hsz ls hl hG
  have hx := S.1
  have hb := S.2.1
  have hl : lv_has ls 2 [(0, .ref (b + 80))] := hl
  replace hG : gW D cy b n s s.heap [] (enc b cy X S0) := hG
  obtain ⟨H, eH⟩ : ∃ H, H = s.heap := ⟨_, rfl⟩
  obtain ⟨locs, elocs⟩ : ∃ locs : List Loc, locs = [] := ⟨_, rfl⟩
  rw [← eH, ← elocs] at hG
  rw [← eH, ← elocs]
  clear eH elocs
  unfold mX12_grammar at hM
  refine lv_iconst (v := iI 0) hx hb dX12_grammar_0 (by decide) ?_
  refine lv_istore_n (lv' := [(1, .int (iI 0)), (0, .ref (b + 80))]) hx hb dX12_grammar_1 rfl hl (by decide) rfl (fun ls hl => ?_)
  obtain ⟨S_3, hc_4, hM⟩ := bd1_some hM
  have hK_5 : ∀ (H : Heap) (locs : List Loc) (ls : Array Slot), gW D cy b n s H locs (enc b cy X S_3) → lv_has ls 2 [(0, .ref (b + 80))] → W p l e (gRm 48 0 0) s m args below meth c H locs 0 0 (gQI D cy b s args below 0 0 (fun r u => r = iI o1 ∧ u = (n, enc b cy X o2))) (F0 m 27 ls []) := by
    intro H locs ls hG hl
    refine lv_aload_n hx hb dX12_grammar_27 rfl (lv_at hl 0 rfl) ?_
    obtain ⟨S_7, hc_6, hM⟩ := bd1_some hM
    refine g_vv (As := []) (rest := []) S hG hsz (vX12_clears l hn  hc_6) wV_12_91 (ec_83 _) cpX12 (Nat.lt_of_lt_of_le (Nat.le_of_ble_eq_true rfl) hn) dX12_grammar_28 rfl hl.1 (ar := 0) (by decide +kernel) rfl ⟨Nat.le_of_ble_eq_true rfl, Nat.le_of_ble_eq_true rfl, Nat.le_of_ble_eq_true rfl, Nat.le_of_ble_eq_true rfl⟩ (Nat.le_of_ble_eq_true rfl) (fun uu H locs hp hG => ?_)
    obtain rfl := hp
    replace hG : gW D cy b n s H locs (enc b cy X S_7) := hG
    refine lv_aload_n hx hb dX12_grammar_31 rfl (lv_at hl 0 rfl) ?_
    refine lv_iconst (v := iI 0) hx hb dX12_grammar_32 (by decide) ?_
    refine m_put S hG 80 83 6 rfl 6 0 ec_83 cpX12 wm_1679 dX12_grammar_33 (pf_83_6) (Nat.lt_of_lt_of_le (Nat.le_of_ble_eq_true rfl) hn) (by decide) (Nat.le_of_ble_eq_true rfl) rfl rfl rfl (fun H locs S_8 eS_8 hG => ?_)
    replace hM := nx_at hM eS_8
    clear eS_8
    refine lv_aload_n hx hb dX12_grammar_36 rfl (lv_at hl 0 rfl) ?_
    refine lv_iconst (v := iI 0) hx hb dX12_grammar_37 (by decide) ?_
    refine m_put S hG 80 83 10 rfl 10 0 ec_83 cpX12 wm_1683 dX12_grammar_38 (pf_83_10) (Nat.lt_of_lt_of_le (Nat.le_of_ble_eq_true rfl) hn) (by decide) (Nat.le_of_ble_eq_true rfl) rfl rfl rfl (fun H locs S_9 eS_9 hG => ?_)
    replace hM := nx_at hM eS_9
    clear eS_9
    refine lv_aload_n hx hb dX12_grammar_41 rfl (lv_at hl 0 rfl) ?_
    obtain ⟨S_11, hc_10, hM⟩ := bd1_some hM
    refine g_vv (As := []) (rest := []) S hG hsz (vX12_next l hn  hc_10) wV_12_173 (ec_83 _) cpX12 (Nat.lt_of_lt_of_le (Nat.le_of_ble_eq_true rfl) hn) dX12_grammar_42 rfl hl.1 (ar := 0) (by decide +kernel) rfl ⟨Nat.le_of_ble_eq_true rfl, Nat.le_of_ble_eq_true rfl, Nat.le_of_ble_eq_true rfl, Nat.le_of_ble_eq_true rfl⟩ (Nat.le_of_ble_eq_true rfl) (fun uu H locs hp hG => ?_)
    obtain rfl := hp
    replace hG : gW D cy b n s H locs (enc b cy X S_11) := hG
    obtain ⟨S_13, hc_14, hM⟩ := bd1_some hM
    have hK_15 : ∀ (H : Heap) (locs : List Loc) (ls : Array Slot), gW D cy b n s H locs (enc b cy X S_13) → lv_has ls 2 [(0, .ref (b + 80))] → W p l e (gRm 48 0 0) s m args below meth c H locs 0 0 (gQI D cy b s args below 0 0 (fun r u => r = iI o1 ∧ u = (n, enc b cy X o2))) (F0 m 105 ls []) := by
      intro H locs ls hG hl
      refine lv_aload_n hx hb dX12_grammar_105 rfl (lv_at hl 0 rfl) ?_
      refine m_get S hG 80 83 10 rfl ec_83 cpX12 wm_1683 dX12_grammar_106 rfl (Nat.lt_of_lt_of_le (Nat.le_of_ble_eq_true rfl) hn) (by decide) ?_
      obtain ⟨S_16, hc_17, hM⟩ := bd1_some hM
      have hK_18 : ∀ (H : Heap) (locs : List Loc) (ls : Array Slot), gW D cy b n s H locs (enc b cy X S_16) → lv_has ls 2 [(0, .ref (b + 80))] → W p l e (gRm 48 0 0) s m args below meth c H locs 0 0 (gQI D cy b s args below 0 0 (fun r u => r = iI o1 ∧ u = (n, enc b cy X o2))) (F0 m 137 ls []) := by
        intro H locs ls hG hl
        refine lv_aload_n hx hb dX12_grammar_137 rfl (lv_at hl 0 rfl) ?_
        refine lv_iconst (v := iI 0) hx hb dX12_grammar_138 (by decide) ?_
        refine m_put S hG 80 83 3 rfl 3 0 ec_83 cpX12 wm_1676 dX12_grammar_139 (pf_83_3) (Nat.lt_of_lt_of_le (Nat.le_of_ble_eq_true rfl) hn) (by decide) (Nat.le_of_ble_eq_true rfl) rfl rfl rfl (fun H locs S_19 eS_19 hG => ?_)
        replace hM := nx_at hM eS_19
        clear eS_19
        refine lv_aload_n hx hb dX12_grammar_142 rfl (lv_at hl 0 rfl) ?_
        refine m_get S hG 80 83 10 rfl ec_83 cpX12 wm_1683 dX12_grammar_143 rfl (Nat.lt_of_lt_of_le (Nat.le_of_ble_eq_true rfl) hn) (by decide) ?_
        obtain ⟨hg_20, hM⟩ := gd_some hM
        refine gi_if_eq (tgt := 179) hx hb dX12_grammar_146 (by decide) hg_20 (fun c_21 => ?_) (fun c_21 => ?_)
        · replace hM := ifp hM c_21
          refine lv_aload_n hx hb dX12_grammar_179 rfl (lv_at hl 0 rfl) ?_
          refine lv_iconst (v := iI 0) hx hb dX12_grammar_180 (by decide) ?_
          refine m_put S hG 80 83 4 rfl 4 0 ec_83 cpX12 wm_1677 dX12_grammar_181 (pf_83_4) (Nat.lt_of_lt_of_le (Nat.le_of_ble_eq_true rfl) hn) (by decide) (Nat.le_of_ble_eq_true rfl) rfl rfl rfl (fun H locs S_22 eS_22 hG => ?_)
          replace hM := nx_at hM eS_22
          clear eS_22
          refine lv_aload_n hx hb dX12_grammar_184 rfl (lv_at hl 0 rfl) ?_
          refine lv_iconst (v := iI (-1)) hx hb dX12_grammar_185 (by decide) ?_
          refine m_put S hG 80 83 5 rfl 5 (-1) ec_83 cpX12 wm_1678 dX12_grammar_186 (pf_83_5) (Nat.lt_of_lt_of_le (Nat.le_of_ble_eq_true rfl) hn) (by decide) (Nat.le_of_ble_eq_true rfl) rfl rfl rfl (fun H locs S_23 eS_23 hG => ?_)
          replace hM := nx_at hM eS_23
          clear eS_23
          refine lv_aload_n hx hb dX12_grammar_189 rfl (lv_at hl 0 rfl) ?_
          refine lv_iconst (v := iI 0) hx hb dX12_grammar_190 (by decide) ?_
          refine m_put S hG 80 83 45 rfl 45 0 ec_83 cpX12 wm_1718 dX12_grammar_191 (pf_83_45) (Nat.lt_of_lt_of_le (Nat.le_of_ble_eq_true rfl) hn) (by decide) (Nat.le_of_ble_eq_true rfl) rfl rfl rfl (fun H locs S_24 eS_24 hG => ?_)
          replace hM := nx_at hM eS_24
          clear eS_24
          refine lv_aload_n hx hb dX12_grammar_194 rfl (lv_at hl 0 rfl) ?_
          refine m_get S hG 80 83 0 rfl ec_83 cpX12 wm_1673 dX12_grammar_195 rfl (Nat.lt_of_lt_of_le (Nat.le_of_ble_eq_true rfl) hn) (by decide) ?_
          refine lv_iconst (v := iI 3) hx hb dX12_grammar_198 (by decide) ?_
          refine mi_ald S hG 81 84 rfl ec_84 (Nat.lt_of_lt_of_le (Nat.le_of_ble_eq_true rfl) hn) dX12_grammar_199 (by decide) (by decide) ?_
          cases hM
          exact g_iret S hr hlk hG hsz dX12_grammar_200 ⟨Nat.le_of_ble_eq_true rfl, Nat.le_of_ble_eq_true rfl⟩ ⟨rfl, rfl⟩
        · replace hM := ifn hM c_21
          refine lv_iconst (v := iI 0) hx hb dX12_grammar_149 (by decide) ?_
          refine lv_istore_n (lv' := [(1, .int (iI 0)), (0, .ref (b + 80))]) hx hb dX12_grammar_150 rfl hl (by decide) rfl (fun ls hl => ?_)
          obtain ⟨S_27, hc_28, hM⟩ := bd1_some hM
          have hK_29 : ∀ (H : Heap) (locs : List Loc) (ls : Array Slot), gW D cy b n s H locs (enc b cy X S_27) → lv_has ls 2 [] → W p l e (gRm 48 0 0) s m args below meth c H locs 0 0 (gQI D cy b s args below 0 0 (fun r u => r = iI o1 ∧ u = (n, enc b cy X o2))) (F0 m 176 ls []) := by
            intro H locs ls hG hl
            refine lv_bipush (v := iI (-4)) hx hb dX12_grammar_176 (by decide) ?_
            cases hM
            exact g_iret S hr hlk hG hsz dX12_grammar_178 ⟨Nat.le_of_ble_eq_true rfl, Nat.le_of_ble_eq_true rfl⟩ ⟨rfl, rfl⟩
          have loop_30 : ∀ (f : Nat) (v_25 : Int) (S_26 : St) (H : Heap) (locs : List Loc) (ls : Array Slot), mX12_grammar_151 f v_25 S_26 = some S_27 → gW D cy b n s H locs (enc b cy X S_26) → lv_has ls 2 [(1, .int (iI v_25)), (0, .ref (b + 80))] → W p l e (gRm 48 0 0) s m args below meth c H locs 0 0 (gQI D cy b s args below 0 0 (fun r u => r = iI o1 ∧ u = (n, enc b cy X o2))) (F0 m 151 ls []) := by
            clear hM
            intro f
            induction f with
            | zero => intro v_25 S_26 H locs ls hM; rw [mX12_grammar_151] at hM; cases hM
            | succ f_32 ih_31 =>
              intro v_25 S_26 H locs ls hM hG hl
              rw [mX12_grammar_151] at hM
              refine lv_iload_n hx hb dX12_grammar_151 rfl (lv_at hl 0 rfl) ?_
              refine lv_sipush (v := iI 228) hx hb dX12_grammar_152 (by decide) ?_
              obtain ⟨hg_33, hM⟩ := gd_some hM
              refine gi_icmp_ge (tgt := 176) hx hb dX12_grammar_155 (by decide) hg_33 (by decide) (fun c_34 => ?_) (fun c_34 => ?_)
              · replace hM := ifp hM c_34
                cases hM
                exact hK_29 H locs ls hG (lv_sub hl [] rfl)
              · replace hM := ifn hM c_34
                refine lv_aload_n hx hb dX12_grammar_158 rfl (lv_at hl 1 rfl) ?_
                refine m_get S hG 80 83 0 rfl ec_83 cpX12 wm_1673 dX12_grammar_159 rfl (Nat.lt_of_lt_of_le (Nat.le_of_ble_eq_true rfl) hn) (by decide) ?_
                refine lv_iload_n hx hb dX12_grammar_162 rfl (lv_at hl 0 rfl) ?_
                refine lv_aload_n hx hb dX12_grammar_163 rfl (lv_at hl 1 rfl) ?_
                refine m_get S hG 80 83 1 rfl ec_83 cpX12 wm_1674 dX12_grammar_164 rfl (Nat.lt_of_lt_of_le (Nat.le_of_ble_eq_true rfl) hn) (by decide) ?_
                refine lv_iload_n hx hb dX12_grammar_167 rfl (lv_at hl 0 rfl) ?_
                obtain ⟨hg_35, hM⟩ := gd_some hM
                refine mi_ald S hG 82 85 rfl ec_85 (Nat.lt_of_lt_of_le (Nat.le_of_ble_eq_true rfl) hn) dX12_grammar_168 hg_35 (by decide) ?_
                refine mi_ast S hG 81 84 rfl ec_84 (Nat.lt_of_lt_of_le (Nat.le_of_ble_eq_true rfl) hn) dX12_grammar_169 hg_35 (by decide) (fun H locs S_36 eS_36 hG => ?_)
                replace hM := nx_at hM eS_36
                clear eS_36
                refine lv_iinc (v := iI (v_25 + 1)) (lv' := [(1, .int (iI (v_25 + 1))), (0, .ref (b + 80))]) hx hb dX12_grammar_170 hl (k := 0) rfl ((iI_add v_25 (1)).trans (congrArg iI (by omega))) (by decide) rfl (fun ls hl => ?_)
                refine lv_goto (tgt := 151) hx hb dX12_grammar_173 (by decide) ?_
                exact ih_31 (v_25 + 1) S_36 H locs ls hM hG (lv_sub hl [0, 1] rfl)
          exact loop_30 FU 0 S_19 H locs ls hc_28 hG (lv_sub hl [0, 1] rfl)
      clear hM
      replace hM := hc_17
      obtain ⟨hg_37, hM⟩ := gd_some hM
      refine gi_if_ne (tgt := 137) hx hb dX12_grammar_109 (by decide) hg_37 (fun c_38 => ?_) (fun c_38 => ?_)
      · replace hM := ifn hM c_38
        cases hM
        exact hK_18 H locs ls hG (lv_sub hl [0] rfl)
      · replace hM := ifp hM c_38
        refine lv_aload_n hx hb dX12_grammar_112 rfl (lv_at hl 0 rfl) ?_
        obtain ⟨r_40, S_41, hc_39, hM⟩ := bd2_some hM
        refine g_vi (As := []) (rest := []) S hG hsz (vX12_wrongKind l hn  hc_39) wV_12_219 (ec_83 _) cpX12 (Nat.lt_of_lt_of_le (Nat.le_of_ble_eq_true rfl) hn) dX12_grammar_113 rfl hl.1 (ar := 0) (by decide +kernel) rfl ⟨Nat.le_of_ble_eq_true rfl, Nat.le_of_ble_eq_true rfl, Nat.le_of_ble_eq_true rfl, Nat.le_of_ble_eq_true rfl⟩ (Nat.le_of_ble_eq_true rfl) (fun rv uu H locs hp hG => ?_)
        obtain ⟨rfl, rfl⟩ := hp
        replace hG : gW D cy b n s H locs (enc b cy X S_41) := hG
        obtain ⟨hg_42, hM⟩ := gd_some hM
        refine gi_if_lt (tgt := 137) hx hb dX12_grammar_116 (by decide) hg_42 (fun c_43 => ?_) (fun c_43 => ?_)
        · replace hM := ifp hM c_43
          cases hM
          exact hK_18 H locs ls hG (lv_sub hl [0] rfl)
        · replace hM := ifn hM c_43
          refine lv_aload_n hx hb dX12_grammar_119 rfl (lv_at hl 0 rfl) ?_
          refine lv_iconst (v := iI 1) hx hb dX12_grammar_120 (by decide) ?_
          refine m_put S hG 80 83 10 rfl 10 1 ec_83 cpX12 wm_1683 dX12_grammar_121 (pf_83_10) (Nat.lt_of_lt_of_le (Nat.le_of_ble_eq_true rfl) hn) (by decide) (Nat.le_of_ble_eq_true rfl) rfl rfl rfl (fun H locs S_44 eS_44 hG => ?_)
          replace hM := nx_at hM eS_44
          clear eS_44
          refine lv_aload_n hx hb dX12_grammar_124 rfl (lv_at hl 0 rfl) ?_
          refine lv_iconst (v := iI 4) hx hb dX12_grammar_125 (by decide) ?_
          refine m_put S hG 80 83 4 rfl 4 4 ec_83 cpX12 wm_1677 dX12_grammar_126 (pf_83_4) (Nat.lt_of_lt_of_le (Nat.le_of_ble_eq_true rfl) hn) (by decide) (Nat.le_of_ble_eq_true rfl) rfl rfl rfl (fun H locs S_45 eS_45 hG => ?_)
          replace hM := nx_at hM eS_45
          clear eS_45
          refine lv_aload_n hx hb dX12_grammar_129 rfl (lv_at hl 0 rfl) ?_
          refine lv_aload_n hx hb dX12_grammar_130 rfl (lv_at hl 0 rfl) ?_
          obtain ⟨r_47, S_48, hc_46, hM⟩ := bd2_some hM
          refine g_vi (As := []) (rest := [.ref (b + 80)]) S hG hsz (vX12_wrongKind l hn  hc_46) wV_12_219 (ec_83 _) cpX12 (Nat.lt_of_lt_of_le (Nat.le_of_ble_eq_true rfl) hn) dX12_grammar_131 rfl hl.1 (ar := 0) (by decide +kernel) rfl ⟨Nat.le_of_ble_eq_true rfl, Nat.le_of_ble_eq_true rfl, Nat.le_of_ble_eq_true rfl, Nat.le_of_ble_eq_true rfl⟩ (Nat.le_of_ble_eq_true rfl) (fun rv uu H locs hp hG => ?_)
          obtain ⟨rfl, rfl⟩ := hp
          replace hG : gW D cy b n s H locs (enc b cy X S_48) := hG
          refine m_put S hG 80 83 5 rfl 5 r_47 ec_83 cpX12 wm_1678 dX12_grammar_134 (pf_83_5) (Nat.lt_of_lt_of_le (Nat.le_of_ble_eq_true rfl) hn) (by decide) (Nat.le_of_ble_eq_true rfl) rfl rfl rfl (fun H locs S_49 eS_49 hG => ?_)
          replace hM := nx_at hM eS_49
          clear eS_49
          cases hM
          exact hK_18 H locs ls hG (lv_sub hl [0] rfl)
    have loop_50 : ∀ (f : Nat)  (S_12 : St) (H : Heap) (locs : List Loc) (ls : Array Slot), mX12_grammar_45 f S_12 = some S_13 → gW D cy b n s H locs (enc b cy X S_12) → lv_has ls 2 [(0, .ref (b + 80))] → W p l e (gRm 48 0 0) s m args below meth c H locs 0 0 (gQI D cy b s args below 0 0 (fun r u => r = iI o1 ∧ u = (n, enc b cy X o2))) (F0 m 45 ls []) := by
      clear hM
      intro f
      induction f with
      | zero => intro  S_12 H locs ls hM; rw [mX12_grammar_45] at hM; cases hM
      | succ f_52 ih_51 =>
        intro  S_12 H locs ls hM hG hl
        rw [mX12_grammar_45] at hM
        refine lv_aload_n hx hb dX12_grammar_45 rfl (lv_at hl 0 rfl) ?_
        refine m_get S hG 80 83 10 rfl ec_83 cpX12 wm_1683 dX12_grammar_46 rfl (Nat.lt_of_lt_of_le (Nat.le_of_ble_eq_true rfl) hn) (by decide) ?_
        obtain ⟨hg_53, hM⟩ := gd_some hM
        refine gi_if_ne (tgt := 105) hx hb dX12_grammar_49 (by decide) hg_53 (fun c_54 => ?_) (fun c_54 => ?_)
        · replace hM := ifn hM c_54
          cases hM
          exact hK_15 H locs ls hG (lv_sub hl [0] rfl)
        · replace hM := ifp hM c_54
          refine lv_aload_n hx hb dX12_grammar_52 rfl (lv_at hl 0 rfl) ?_
          refine m_get S hG 80 83 8 rfl ec_83 cpX12 wm_1681 dX12_grammar_53 rfl (Nat.lt_of_lt_of_le (Nat.le_of_ble_eq_true rfl) hn) (by decide) ?_
          obtain ⟨hg_55, hM⟩ := gd_some hM
          refine gi_if_eq (tgt := 105) hx hb dX12_grammar_56 (by decide) hg_55 (fun c_56 => ?_) (fun c_56 => ?_)
          · replace hM := ifp hM c_56
            cases hM
            exact hK_15 H locs ls hG (lv_sub hl [0] rfl)
          · replace hM := ifn hM c_56
            refine lv_aload_n hx hb dX12_grammar_59 rfl (lv_at hl 0 rfl) ?_
            refine m_get S hG 80 83 0 rfl ec_83 cpX12 wm_1673 dX12_grammar_60 rfl (Nat.lt_of_lt_of_le (Nat.le_of_ble_eq_true rfl) hn) (by decide) ?_
            refine lv_iconst (v := iI 3) hx hb dX12_grammar_63 (by decide) ?_
            refine mi_ald S hG 81 84 rfl ec_84 (Nat.lt_of_lt_of_le (Nat.le_of_ble_eq_true rfl) hn) dX12_grammar_64 (by decide) (by decide) ?_
            obtain ⟨S_57, hc_58, hM⟩ := bd1_some hM
            have hK_59 : ∀ (H : Heap) (locs : List Loc) (ls : Array Slot), gW D cy b n s H locs (enc b cy X S_57) → lv_has ls 2 [(0, .ref (b + 80))] → W p l e (gRm 48 0 0) s m args below meth c H locs 0 0 (gQI D cy b s args below 0 0 (fun r u => r = iI o1 ∧ u = (n, enc b cy X o2))) (F0 m 79 ls []) := by
              intro H locs ls hG hl
              refine lv_aload_n hx hb dX12_grammar_79 rfl (lv_at hl 0 rfl) ?_
              refine m_get S hG 80 83 10 rfl ec_83 cpX12 wm_1683 dX12_grammar_80 rfl (Nat.lt_of_lt_of_le (Nat.le_of_ble_eq_true rfl) hn) (by decide) ?_
              obtain ⟨hg_60, hM⟩ := gd_some hM
              refine gi_if_ne (tgt := 45) hx hb dX12_grammar_83 (by decide) hg_60 (fun c_61 => ?_) (fun c_61 => ?_)
              · replace hM := ifn hM c_61
                exact ih_51  S_57 H locs ls hM hG (lv_sub hl [0] rfl)
              · replace hM := ifp hM c_61
                refine lv_aload_n hx hb dX12_grammar_86 rfl (lv_at hl 0 rfl) ?_
                refine lv_bipush (v := iI 59) hx hb dX12_grammar_87 (by decide) ?_
                obtain ⟨S_63, hc_62, hM⟩ := bd1_some hM
                refine g_vv (As := [.int (iI 59)]) (rest := []) S hG hsz (vX12_needs l hn 59 hc_62) wV_12_188 (ec_83 _) cpX12 (Nat.lt_of_lt_of_le (Nat.le_of_ble_eq_true rfl) hn) dX12_grammar_89 rfl hl.1 (ar := 1) (by decide +kernel) rfl ⟨Nat.le_of_ble_eq_true rfl, Nat.le_of_ble_eq_true rfl, Nat.le_of_ble_eq_true rfl, Nat.le_of_ble_eq_true rfl⟩ (Nat.le_of_ble_eq_true rfl) (fun uu H locs hp hG => ?_)
                obtain rfl := hp
                replace hG : gW D cy b n s H locs (enc b cy X S_63) := hG
                refine lv_aload_n hx hb dX12_grammar_92 rfl (lv_at hl 0 rfl) ?_
                refine m_get S hG 80 83 0 rfl ec_83 cpX12 wm_1673 dX12_grammar_93 rfl (Nat.lt_of_lt_of_le (Nat.le_of_ble_eq_true rfl) hn) (by decide) ?_
                refine lv_iconst (v := iI 3) hx hb dX12_grammar_96 (by decide) ?_
                refine lv_dup2_11 hx hb dX12_grammar_97 rfl rfl ?_
                refine mi_ald S hG 81 84 rfl ec_84 (Nat.lt_of_lt_of_le (Nat.le_of_ble_eq_true rfl) hn) dX12_grammar_98 (by decide) (by decide) ?_
                refine lv_iconst (v := iI 1) hx hb dX12_grammar_99 (by decide) ?_
                refine gi_add hx hb dX12_grammar_100 ?_
                refine mi_ast S hG 81 84 rfl ec_84 (Nat.lt_of_lt_of_le (Nat.le_of_ble_eq_true rfl) hn) dX12_grammar_101 (by decide) (by decide) (fun H locs S_64 eS_64 hG => ?_)
                replace hM := nx_at hM eS_64
                clear eS_64
                refine lv_goto (tgt := 45) hx hb dX12_grammar_102 (by decide) ?_
                exact ih_51  S_64 H locs ls hM hG (lv_sub hl [0] rfl)
            clear hM
            replace hM := hc_58
            obtain ⟨hg_65, hM⟩ := gd_some hM
            refine gi_if_ne (tgt := 75) hx hb dX12_grammar_65 (by decide) hg_65 (fun c_66 => ?_) (fun c_66 => ?_)
            · replace hM := ifn hM c_66
              refine lv_aload_n hx hb dX12_grammar_75 rfl (lv_at hl 0 rfl) ?_
              obtain ⟨S_68, hc_67, hM⟩ := bd1_some hM
              refine g_vv (As := []) (rest := []) S hG hsz (vX12_readsKind l hn  hc_67) wV_12_216 (ec_83 _) cpX12 (Nat.lt_of_lt_of_le (Nat.le_of_ble_eq_true rfl) hn) dX12_grammar_76 rfl hl.1 (ar := 0) (by decide +kernel) rfl ⟨Nat.le_of_ble_eq_true rfl, Nat.le_of_ble_eq_true rfl, Nat.le_of_ble_eq_true rfl, Nat.le_of_ble_eq_true rfl⟩ (Nat.le_of_ble_eq_true rfl) (fun uu H locs hp hG => ?_)
              obtain rfl := hp
              replace hG : gW D cy b n s H locs (enc b cy X S_68) := hG
              cases hM
              exact hK_59 H locs ls hG (lv_sub hl [0] rfl)
            · replace hM := ifp hM c_66
              refine lv_aload_n hx hb dX12_grammar_68 rfl (lv_at hl 0 rfl) ?_
              obtain ⟨S_70, hc_69, hM⟩ := bd1_some hM
              refine g_vv (As := []) (rest := []) S hG hsz (vX12_readsHead l hn  hc_69) wV_12_213 (ec_83 _) cpX12 (Nat.lt_of_lt_of_le (Nat.le_of_ble_eq_true rfl) hn) dX12_grammar_69 rfl hl.1 (ar := 0) (by decide +kernel) rfl ⟨Nat.le_of_ble_eq_true rfl, Nat.le_of_ble_eq_true rfl, Nat.le_of_ble_eq_true rfl, Nat.le_of_ble_eq_true rfl⟩ (Nat.le_of_ble_eq_true rfl) (fun uu H locs hp hG => ?_)
              obtain rfl := hp
              replace hG : gW D cy b n s H locs (enc b cy X S_70) := hG
              refine lv_goto (tgt := 79) hx hb dX12_grammar_72 (by decide) ?_
              cases hM
              exact hK_59 H locs ls hG (lv_sub hl [0] rfl)
    exact loop_50 FU  S_11 H locs ls hc_14 hG (lv_sub hl [0] rfl)
  have loop_71 : ∀ (f : Nat) (v_1 : Int) (S_2 : St) (H : Heap) (locs : List Loc) (ls : Array Slot), mX12_grammar_2 f v_1 S_2 = some S_3 → gW D cy b n s H locs (enc b cy X S_2) → lv_has ls 2 [(1, .int (iI v_1)), (0, .ref (b + 80))] → W p l e (gRm 48 0 0) s m args below meth c H locs 0 0 (gQI D cy b s args below 0 0 (fun r u => r = iI o1 ∧ u = (n, enc b cy X o2))) (F0 m 2 ls []) := by
    clear hM
    intro f
    induction f with
    | zero => intro v_1 S_2 H locs ls hM; rw [mX12_grammar_2] at hM; cases hM
    | succ f_73 ih_72 =>
      intro v_1 S_2 H locs ls hM hG hl
      rw [mX12_grammar_2] at hM
      refine lv_iload_n hx hb dX12_grammar_2 rfl (lv_at hl 0 rfl) ?_
      refine lv_sipush (v := iI 228) hx hb dX12_grammar_3 (by decide) ?_
      obtain ⟨hg_74, hM⟩ := gd_some hM
      refine gi_icmp_ge (tgt := 27) hx hb dX12_grammar_6 (by decide) hg_74 (by decide) (fun c_75 => ?_) (fun c_75 => ?_)
      · replace hM := ifp hM c_75
        cases hM
        exact hK_5 H locs ls hG (lv_sub hl [1] rfl)
      · replace hM := ifn hM c_75
        refine lv_aload_n hx hb dX12_grammar_9 rfl (lv_at hl 1 rfl) ?_
        refine m_get S hG 80 83 1 rfl ec_83 cpX12 wm_1674 dX12_grammar_10 rfl (Nat.lt_of_lt_of_le (Nat.le_of_ble_eq_true rfl) hn) (by decide) ?_
        refine lv_iload_n hx hb dX12_grammar_13 rfl (lv_at hl 0 rfl) ?_
        refine lv_aload_n hx hb dX12_grammar_14 rfl (lv_at hl 1 rfl) ?_
        refine m_get S hG 80 83 0 rfl ec_83 cpX12 wm_1673 dX12_grammar_15 rfl (Nat.lt_of_lt_of_le (Nat.le_of_ble_eq_true rfl) hn) (by decide) ?_
        refine lv_iload_n hx hb dX12_grammar_18 rfl (lv_at hl 0 rfl) ?_
        obtain ⟨hg_76, hM⟩ := gd_some hM
        refine mi_ald S hG 81 84 rfl ec_84 (Nat.lt_of_lt_of_le (Nat.le_of_ble_eq_true rfl) hn) dX12_grammar_19 hg_76 (by decide) ?_
        refine mi_ast S hG 82 85 rfl ec_85 (Nat.lt_of_lt_of_le (Nat.le_of_ble_eq_true rfl) hn) dX12_grammar_20 hg_76 (by decide) (fun H locs S_77 eS_77 hG => ?_)
        replace hM := nx_at hM eS_77
        clear eS_77
        refine lv_iinc (v := iI (v_1 + 1)) (lv' := [(1, .int (iI (v_1 + 1))), (0, .ref (b + 80))]) hx hb dX12_grammar_21 hl (k := 0) rfl ((iI_add v_1 (1)).trans (congrArg iI (by omega))) (by decide) rfl (fun ls hl => ?_)
        refine lv_goto (tgt := 2) hx hb dX12_grammar_24 (by decide) ?_
        exact ih_72 (v_1 + 1) S_77 H locs ls hM hG (lv_sub hl [0, 1] rfl)
  exact loop_71 FU 0 S0 H locs ls hc_4 hG (lv_sub hl [0, 1] rfl)
