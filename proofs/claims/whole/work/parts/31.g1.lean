theorem dX12_feed_0 : decode cX12_feed 0 = .ok (.aload_n 0, 1) := by decide +kernel
theorem dX12_feed_1 : decode cX12_feed 1 = .ok (.getfield 94, 3) := by decide +kernel
theorem dX12_feed_4 : decode cX12_feed 4 = .ok (.sipush 380, 3) := by decide +kernel
theorem dX12_feed_7 : decode cX12_feed 7 = .ok (.if_icmp .le 5, 3) := by decide +kernel
theorem dX12_feed_12 : decode cX12_feed 12 = .ok (.iconst 5, 1) := by decide +kernel
theorem dX12_feed_13 : decode cX12_feed 13 = .ok (.newarray .int, 2) := by decide +kernel
theorem dX12_feed_15 : decode cX12_feed 15 = .ok (.dup, 1) := by decide +kernel
theorem dX12_feed_16 : decode cX12_feed 16 = .ok (.iconst 0, 1) := by decide +kernel
theorem dX12_feed_17 : decode cX12_feed 17 = .ok (.iload_n 1, 1) := by decide +kernel
theorem dX12_feed_18 : decode cX12_feed 18 = .ok (.iastore, 1) := by decide +kernel
theorem dX12_feed_19 : decode cX12_feed 19 = .ok (.dup, 1) := by decide +kernel
theorem dX12_feed_20 : decode cX12_feed 20 = .ok (.iconst 1, 1) := by decide +kernel
theorem dX12_feed_21 : decode cX12_feed 21 = .ok (.iload_n 2, 1) := by decide +kernel
theorem dX12_feed_22 : decode cX12_feed 22 = .ok (.iastore, 1) := by decide +kernel
theorem dX12_feed_23 : decode cX12_feed 23 = .ok (.dup, 1) := by decide +kernel
theorem dX12_feed_24 : decode cX12_feed 24 = .ok (.iconst 2, 1) := by decide +kernel
theorem dX12_feed_25 : decode cX12_feed 25 = .ok (.iload_n 3, 1) := by decide +kernel
theorem dX12_feed_26 : decode cX12_feed 26 = .ok (.iastore, 1) := by decide +kernel
theorem dX12_feed_27 : decode cX12_feed 27 = .ok (.dup, 1) := by decide +kernel
theorem dX12_feed_28 : decode cX12_feed 28 = .ok (.iconst 3, 1) := by decide +kernel
theorem dX12_feed_29 : decode cX12_feed 29 = .ok (.iload 4, 2) := by decide +kernel
theorem dX12_feed_31 : decode cX12_feed 31 = .ok (.iastore, 1) := by decide +kernel
theorem dX12_feed_32 : decode cX12_feed 32 = .ok (.dup, 1) := by decide +kernel
theorem dX12_feed_33 : decode cX12_feed 33 = .ok (.iconst 4, 1) := by decide +kernel
theorem dX12_feed_34 : decode cX12_feed 34 = .ok (.iload 5, 2) := by decide +kernel
theorem dX12_feed_36 : decode cX12_feed 36 = .ok (.iastore, 1) := by decide +kernel
theorem dX12_feed_37 : decode cX12_feed 37 = .ok (.astore 6, 2) := by decide +kernel
theorem dX12_feed_39 : decode cX12_feed 39 = .ok (.iconst 0, 1) := by decide +kernel
theorem dX12_feed_40 : decode cX12_feed 40 = .ok (.istore 7, 2) := by decide +kernel
theorem dX12_feed_42 : decode cX12_feed 42 = .ok (.iload 7, 2) := by decide +kernel
theorem dX12_feed_44 : decode cX12_feed 44 = .ok (.bipush 20, 2) := by decide +kernel
theorem dX12_feed_46 : decode cX12_feed 46 = .ok (.if_icmp .ge 43, 3) := by decide +kernel
theorem dX12_feed_49 : decode cX12_feed 49 = .ok (.aload_n 0, 1) := by decide +kernel
theorem dX12_feed_50 : decode cX12_feed 50 = .ok (.getfield 22, 3) := by decide +kernel
theorem dX12_feed_53 : decode cX12_feed 53 = .ok (.aload_n 0, 1) := by decide +kernel
theorem dX12_feed_54 : decode cX12_feed 54 = .ok (.getfield 94, 3) := by decide +kernel
theorem dX12_feed_57 : decode cX12_feed 57 = .ok (.iload 7, 2) := by decide +kernel
theorem dX12_feed_59 : decode cX12_feed 59 = .ok (.iadd, 1) := by decide +kernel
theorem dX12_feed_60 : decode cX12_feed 60 = .ok (.aload 6, 2) := by decide +kernel
theorem dX12_feed_62 : decode cX12_feed 62 = .ok (.iload 7, 2) := by decide +kernel
theorem dX12_feed_64 : decode cX12_feed 64 = .ok (.iconst 4, 1) := by decide +kernel
theorem dX12_feed_65 : decode cX12_feed 65 = .ok (.idiv, 1) := by decide +kernel
theorem dX12_feed_66 : decode cX12_feed 66 = .ok (.iaload, 1) := by decide +kernel
theorem dX12_feed_67 : decode cX12_feed 67 = .ok (.bipush 24, 2) := by decide +kernel
theorem dX12_feed_69 : decode cX12_feed 69 = .ok (.bipush 8, 2) := by decide +kernel
theorem dX12_feed_71 : decode cX12_feed 71 = .ok (.iload 7, 2) := by decide +kernel
theorem dX12_feed_73 : decode cX12_feed 73 = .ok (.iconst 4, 1) := by decide +kernel
theorem dX12_feed_74 : decode cX12_feed 74 = .ok (.irem, 1) := by decide +kernel
theorem dX12_feed_75 : decode cX12_feed 75 = .ok (.imul, 1) := by decide +kernel
theorem dX12_feed_76 : decode cX12_feed 76 = .ok (.isub, 1) := by decide +kernel
theorem dX12_feed_77 : decode cX12_feed 77 = .ok (.iushr, 1) := by decide +kernel
theorem dX12_feed_78 : decode cX12_feed 78 = .ok (.sipush 255, 3) := by decide +kernel
theorem dX12_feed_81 : decode cX12_feed 81 = .ok (.iand, 1) := by decide +kernel
theorem dX12_feed_82 : decode cX12_feed 82 = .ok (.iastore, 1) := by decide +kernel
theorem dX12_feed_83 : decode cX12_feed 83 = .ok (.iinc 7 1, 3) := by decide +kernel
theorem dX12_feed_86 : decode cX12_feed 86 = .ok (.goto (-44), 3) := by decide +kernel
theorem dX12_feed_89 : decode cX12_feed 89 = .ok (.aload_n 0, 1) := by decide +kernel
theorem dX12_feed_90 : decode cX12_feed 90 = .ok (.dup, 1) := by decide +kernel
theorem dX12_feed_91 : decode cX12_feed 91 = .ok (.getfield 94, 3) := by decide +kernel
theorem dX12_feed_94 : decode cX12_feed 94 = .ok (.bipush 20, 2) := by decide +kernel
theorem dX12_feed_96 : decode cX12_feed 96 = .ok (.iadd, 1) := by decide +kernel
theorem dX12_feed_97 : decode cX12_feed 97 = .ok (.putfield 94, 3) := by decide +kernel
theorem dX12_feed_100 : decode cX12_feed 100 = .ok (.aload_n 0, 1) := by decide +kernel
theorem dX12_feed_101 : decode cX12_feed 101 = .ok (.getfield 94, 3) := by decide +kernel
theorem dX12_feed_104 : decode cX12_feed 104 = .ok (.ireturn, 1) := by decide +kernel
theorem dX12_feed_10 : decode cX12_feed 10 = .ok (.iconst (-1), 1) := by decide +kernel
theorem dX12_feed_11 : decode cX12_feed 11 = .ok (.ireturn, 1) := by decide +kernel
theorem dX9_put_0 : decode cX9_put 0 = .ok (.aload_n 0, 1) := by decide +kernel
theorem dX9_put_1 : decode cX9_put 1 = .ok (.getfield 15, 3) := by decide +kernel
theorem dX9_put_4 : decode cX9_put 4 = .ok (.aload_n 0, 1) := by decide +kernel
theorem dX9_put_5 : decode cX9_put 5 = .ok (.getfield 9, 3) := by decide +kernel
theorem dX9_put_8 : decode cX9_put 8 = .ok (.arraylength, 1) := by decide +kernel
theorem dX9_put_9 : decode cX9_put 9 = .ok (.if_icmp .lt 31, 3) := by decide +kernel
theorem dX9_put_12 : decode cX9_put 12 = .ok (.aload_n 0, 1) := by decide +kernel
theorem dX9_put_13 : decode cX9_put 13 = .ok (.getfield 9, 3) := by decide +kernel
theorem dX9_put_16 : decode cX9_put 16 = .ok (.arraylength, 1) := by decide +kernel
theorem dX9_put_17 : decode cX9_put 17 = .ok (.ldc 81, 2) := by decide +kernel
theorem wm_1283 : (Jvm.Cond.constant "GrownKinds$Speller" (81 : Nat) (1048576 : Int32)) ∈ gT := gT_in (List.mem_of_getElem? (i := 1283) (by decide +kernel)) (by decide +kernel)
theorem dX9_put_19 : decode cX9_put 19 = .ok (.if_icmp .ge 21, 3) := by decide +kernel
theorem dX9_put_22 : decode cX9_put 22 = .ok (.aload_n 0, 1) := by decide +kernel
theorem dX9_put_23 : decode cX9_put 23 = .ok (.aload_n 0, 1) := by decide +kernel
theorem dX9_put_24 : decode cX9_put 24 = .ok (.getfield 9, 3) := by decide +kernel
theorem dX9_put_27 : decode cX9_put 27 = .ok (.iconst 2, 1) := by decide +kernel
theorem dX9_put_28 : decode cX9_put 28 = .ok (.aload_n 0, 1) := by decide +kernel
theorem dX9_put_29 : decode cX9_put 29 = .ok (.getfield 9, 3) := by decide +kernel
theorem dX9_put_32 : decode cX9_put 32 = .ok (.arraylength, 1) := by decide +kernel
theorem dX9_put_33 : decode cX9_put 33 = .ok (.imul, 1) := by decide +kernel
theorem dX9_put_34 : decode cX9_put 34 = .ok (.invokestatic 82, 3) := by decide +kernel
theorem wm_1284 : (Jvm.Cond.methodLink "GrownKinds$Speller" (82 : Nat) ({ cls := "java/util/Arrays", name := "copyOf", desc := "([BI)[B" } : Jvm.MethodName)) ∈ gT := gT_in (List.mem_of_getElem? (i := 1284) (by decide +kernel)) (by decide +kernel)
theorem wm_1285 : (Jvm.Cond.static ({ cls := "java/util/Arrays", name := "copyOf", desc := "([BI)[B" } : Jvm.MethodName)) ∈ gT := gT_in (List.mem_of_getElem? (i := 1285) (by decide +kernel)) (by decide +kernel)
theorem wm_1286 : (Jvm.Cond.code ({ cls := "java/util/Arrays", name := "copyOf", desc := "([BI)[B" } : Jvm.MethodName) prog_22_method_121_code (3 : Nat) (Option.some (Jvm.ClassFile.FieldType.array Jvm.ClassFile.FieldType.byte))) ∈ gT := gT_in (List.mem_of_getElem? (i := 1286) (by decide +kernel)) (by decide +kernel)
theorem dX9_put_37 : decode cX9_put 37 = .ok (.putfield 9, 3) := by decide +kernel
theorem dX9_put_40 : decode cX9_put 40 = .ok (.aload_n 0, 1) := by decide +kernel
theorem dX9_put_41 : decode cX9_put 41 = .ok (.getfield 15, 3) := by decide +kernel
theorem dX9_put_44 : decode cX9_put 44 = .ok (.aload_n 0, 1) := by decide +kernel
theorem dX9_put_45 : decode cX9_put 45 = .ok (.getfield 9, 3) := by decide +kernel
theorem dX9_put_48 : decode cX9_put 48 = .ok (.arraylength, 1) := by decide +kernel
theorem dX9_put_49 : decode cX9_put 49 = .ok (.if_icmp .ge 37, 3) := by decide +kernel
theorem dX9_put_86 : decode cX9_put 86 = .ok (.return_, 1) := by decide +kernel
theorem dX9_put_52 : decode cX9_put 52 = .ok (.aload_n 0, 1) := by decide +kernel
theorem dX9_put_53 : decode cX9_put 53 = .ok (.getfield 9, 3) := by decide +kernel
theorem dX9_put_56 : decode cX9_put 56 = .ok (.aload_n 0, 1) := by decide +kernel
theorem dX9_put_57 : decode cX9_put 57 = .ok (.getfield 15, 3) := by decide +kernel
theorem dX9_put_60 : decode cX9_put 60 = .ok (.iload_n 1, 1) := by decide +kernel
theorem dX9_put_61 : decode cX9_put 61 = .ok (.i2b, 1) := by decide +kernel
theorem dX9_put_62 : decode cX9_put 62 = .ok (.bastore, 1) := by decide +kernel
theorem dX9_put_63 : decode cX9_put 63 = .ok (.aload_n 0, 1) := by decide +kernel
theorem dX9_put_64 : decode cX9_put 64 = .ok (.dup, 1) := by decide +kernel
theorem dX9_put_65 : decode cX9_put 65 = .ok (.getfield 15, 3) := by decide +kernel
theorem dX9_put_68 : decode cX9_put 68 = .ok (.iconst 1, 1) := by decide +kernel
theorem dX9_put_69 : decode cX9_put 69 = .ok (.iadd, 1) := by decide +kernel
theorem dX9_put_70 : decode cX9_put 70 = .ok (.putfield 15, 3) := by decide +kernel
theorem dX9_put_73 : decode cX9_put 73 = .ok (.aload_n 0, 1) := by decide +kernel
theorem dX9_put_74 : decode cX9_put 74 = .ok (.dup, 1) := by decide +kernel
theorem dX9_put_75 : decode cX9_put 75 = .ok (.getfield 28, 3) := by decide +kernel
theorem dX9_put_78 : decode cX9_put 78 = .ok (.iload_n 1, 1) := by decide +kernel
theorem dX9_put_79 : decode cX9_put 79 = .ok (.invokestatic 86, 3) := by decide +kernel
theorem wm_1296 : (Jvm.Cond.methodLink "GrownKinds$Speller" (86 : Nat) ({ cls := "GrownKinds$Speller", name := "weightOf", desc := "(I)I" } : Jvm.MethodName)) ∈ gT := gT_in (List.mem_of_getElem? (i := 1296) (by decide +kernel)) (by decide +kernel)
theorem wm_1297 : (Jvm.Cond.static ({ cls := "GrownKinds$Speller", name := "weightOf", desc := "(I)I" } : Jvm.MethodName)) ∈ gT := gT_in (List.mem_of_getElem? (i := 1297) (by decide +kernel)) (by decide +kernel)
theorem wm_1298 : (Jvm.Cond.code ({ cls := "GrownKinds$Speller", name := "weightOf", desc := "(I)I" } : Jvm.MethodName) prog_11_method_2_code (1 : Nat) (Option.some Jvm.ClassFile.FieldType.int)) ∈ gT := gT_in (List.mem_of_getElem? (i := 1298) (by decide +kernel)) (by decide +kernel)
theorem dX9_put_82 : decode cX9_put 82 = .ok (.iadd, 1) := by decide +kernel
theorem dX9_put_83 : decode cX9_put 83 = .ok (.putfield 28, 3) := by decide +kernel
theorem dX9_signAt_0 : decode cX9_signAt 0 = .ok (.iload_n 1, 1) := by decide +kernel
theorem dX9_signAt_1 : decode cX9_signAt 1 = .ok (.ifCond .lt 29, 3) := by decide +kernel
theorem dX9_signAt_30 : decode cX9_signAt 30 = .ok (.iconst (-1), 1) := by decide +kernel
theorem dX9_signAt_31 : decode cX9_signAt 31 = .ok (.ireturn, 1) := by decide +kernel
theorem dX9_signAt_4 : decode cX9_signAt 4 = .ok (.iload_n 1, 1) := by decide +kernel
theorem dX9_signAt_5 : decode cX9_signAt 5 = .ok (.aload_n 0, 1) := by decide +kernel
theorem dX9_signAt_6 : decode cX9_signAt 6 = .ok (.getfield 15, 3) := by decide +kernel
theorem dX9_signAt_9 : decode cX9_signAt 9 = .ok (.if_icmp .ge 21, 3) := by decide +kernel
theorem dX9_signAt_12 : decode cX9_signAt 12 = .ok (.iload_n 1, 1) := by decide +kernel
theorem dX9_signAt_13 : decode cX9_signAt 13 = .ok (.aload_n 0, 1) := by decide +kernel
theorem dX9_signAt_14 : decode cX9_signAt 14 = .ok (.getfield 9, 3) := by decide +kernel
theorem dX9_signAt_17 : decode cX9_signAt 17 = .ok (.arraylength, 1) := by decide +kernel
theorem dX9_signAt_18 : decode cX9_signAt 18 = .ok (.if_icmp .ge 12, 3) := by decide +kernel
theorem dX9_signAt_21 : decode cX9_signAt 21 = .ok (.aload_n 0, 1) := by decide +kernel
theorem dX9_signAt_22 : decode cX9_signAt 22 = .ok (.getfield 9, 3) := by decide +kernel
theorem dX9_signAt_25 : decode cX9_signAt 25 = .ok (.iload_n 1, 1) := by decide +kernel
theorem dX9_signAt_26 : decode cX9_signAt 26 = .ok (.baload, 1) := by decide +kernel
theorem dX9_signAt_27 : decode cX9_signAt 27 = .ok (.goto 4, 3) := by decide +kernel
theorem dX8_enlist_0 : decode cX8_enlist 0 = .ok (.aload_n 1, 1) := by decide +kernel
theorem dX8_enlist_1 : decode cX8_enlist 1 = .ok (.getfield 98, 3) := by decide +kernel
theorem wm_1383 : (Jvm.Cond.fieldLink "GrownKinds$Sequences" (98 : Nat) "GrownKinds$RingList" "many" "I") ∈ gT := gT_in (List.mem_of_getElem? (i := 1383) (by decide +kernel)) (by decide +kernel)
theorem dX8_enlist_4 : decode cX8_enlist 4 = .ok (.sipush 200, 3) := by decide +kernel
theorem dX8_enlist_7 : decode cX8_enlist 7 = .ok (.if_icmp .lt 4, 3) := by decide +kernel
theorem dX8_enlist_11 : decode cX8_enlist 11 = .ok (.aload_n 1, 1) := by decide +kernel
theorem dX8_enlist_12 : decode cX8_enlist 12 = .ok (.getfield 98, 3) := by decide +kernel
theorem dX8_enlist_15 : decode cX8_enlist 15 = .ok (.bipush 8, 2) := by decide +kernel
theorem dX8_enlist_17 : decode cX8_enlist 17 = .ok (.imul, 1) := by decide +kernel
theorem dX8_enlist_18 : decode cX8_enlist 18 = .ok (.istore_n 2, 1) := by decide +kernel
theorem dX8_enlist_19 : decode cX8_enlist 19 = .ok (.iconst 0, 1) := by decide +kernel
theorem dX8_enlist_20 : decode cX8_enlist 20 = .ok (.istore_n 3, 1) := by decide +kernel
theorem dX8_enlist_21 : decode cX8_enlist 21 = .ok (.iload_n 3, 1) := by decide +kernel
theorem dX8_enlist_22 : decode cX8_enlist 22 = .ok (.bipush 8, 2) := by decide +kernel
theorem dX8_enlist_24 : decode cX8_enlist 24 = .ok (.if_icmp .ge 35, 3) := by decide +kernel
theorem dX8_enlist_27 : decode cX8_enlist 27 = .ok (.aload_n 1, 1) := by decide +kernel
theorem dX8_enlist_28 : decode cX8_enlist 28 = .ok (.getfield 103, 3) := by decide +kernel
theorem wm_1385 : (Jvm.Cond.fieldLink "GrownKinds$Sequences" (103 : Nat) "GrownKinds$RingList" "codes" "[I") ∈ gT := gT_in (List.mem_of_getElem? (i := 1385) (by decide +kernel)) (by decide +kernel)
theorem dX8_enlist_31 : decode cX8_enlist 31 = .ok (.iload_n 2, 1) := by decide +kernel
theorem dX8_enlist_32 : decode cX8_enlist 32 = .ok (.iload_n 3, 1) := by decide +kernel
theorem dX8_enlist_33 : decode cX8_enlist 33 = .ok (.iadd, 1) := by decide +kernel
theorem dX8_enlist_34 : decode cX8_enlist 34 = .ok (.iload_n 3, 1) := by decide +kernel
theorem dX8_enlist_35 : decode cX8_enlist 35 = .ok (.aload_n 0, 1) := by decide +kernel
theorem dX8_enlist_36 : decode cX8_enlist 36 = .ok (.getfield 9, 3) := by decide +kernel
theorem dX8_enlist_39 : decode cX8_enlist 39 = .ok (.if_icmp .ge 12, 3) := by decide +kernel
theorem dX8_enlist_51 : decode cX8_enlist 51 = .ok (.iconst 0, 1) := by decide +kernel
theorem dX8_enlist_52 : decode cX8_enlist 52 = .ok (.iastore, 1) := by decide +kernel
theorem dX8_enlist_53 : decode cX8_enlist 53 = .ok (.iinc 3 1, 3) := by decide +kernel
theorem dX8_enlist_56 : decode cX8_enlist 56 = .ok (.goto (-35), 3) := by decide +kernel
theorem dX8_enlist_42 : decode cX8_enlist 42 = .ok (.aload_n 0, 1) := by decide +kernel
theorem dX8_enlist_43 : decode cX8_enlist 43 = .ok (.getfield 15, 3) := by decide +kernel
theorem dX8_enlist_46 : decode cX8_enlist 46 = .ok (.iload_n 3, 1) := by decide +kernel
theorem dX8_enlist_47 : decode cX8_enlist 47 = .ok (.iaload, 1) := by decide +kernel
theorem dX8_enlist_48 : decode cX8_enlist 48 = .ok (.goto 4, 3) := by decide +kernel
theorem dX8_enlist_59 : decode cX8_enlist 59 = .ok (.aload_n 1, 1) := by decide +kernel
theorem dX8_enlist_60 : decode cX8_enlist 60 = .ok (.dup, 1) := by decide +kernel
theorem dX8_enlist_61 : decode cX8_enlist 61 = .ok (.getfield 98, 3) := by decide +kernel
theorem dX8_enlist_64 : decode cX8_enlist 64 = .ok (.iconst 1, 1) := by decide +kernel
theorem dX8_enlist_65 : decode cX8_enlist 65 = .ok (.iadd, 1) := by decide +kernel
theorem dX8_enlist_66 : decode cX8_enlist 66 = .ok (.putfield 98, 3) := by decide +kernel
theorem dX8_enlist_69 : decode cX8_enlist 69 = .ok (.return_, 1) := by decide +kernel
theorem dX8_enlist_10 : decode cX8_enlist 10 = .ok (.return_, 1) := by decide +kernel
theorem dX8_listRings_0 : decode cX8_listRings 0 = .ok (.iload_n 2, 1) := by decide +kernel
theorem dX8_listRings_1 : decode cX8_listRings 1 = .ok (.ifCond .ne 16, 3) := by decide +kernel
theorem dX8_listRings_17 : decode cX8_listRings 17 = .ok (.aload_n 0, 1) := by decide +kernel
theorem dX8_listRings_18 : decode cX8_listRings 18 = .ok (.getfield 9, 3) := by decide +kernel
theorem dX8_listRings_21 : decode cX8_listRings 21 = .ok (.ifCond .ne 7, 3) := by decide +kernel
theorem dX8_listRings_28 : decode cX8_listRings 28 = .ok (.aload_n 0, 1) := by decide +kernel
theorem dX8_listRings_29 : decode cX8_listRings 29 = .ok (.getfield 15, 3) := by decide +kernel
theorem dX8_listRings_32 : decode cX8_listRings 32 = .ok (.iconst 0, 1) := by decide +kernel
theorem dX8_listRings_33 : decode cX8_listRings 33 = .ok (.iaload, 1) := by decide +kernel
theorem dX8_listRings_24 : decode cX8_listRings 24 = .ok (.iconst 0, 1) := by decide +kernel
theorem dX8_listRings_25 : decode cX8_listRings 25 = .ok (.goto 9, 3) := by decide +kernel
theorem dX8_listRings_34 : decode cX8_listRings 34 = .ok (.istore 4, 2) := by decide +kernel
theorem dX8_listRings_36 : decode cX8_listRings 36 = .ok (.iconst 1, 1) := by decide +kernel
theorem dX8_listRings_37 : decode cX8_listRings 37 = .ok (.iload 4, 2) := by decide +kernel
theorem dX8_listRings_39 : decode cX8_listRings 39 = .ok (.sipush 1024, 3) := by decide +kernel
theorem dX8_listRings_42 : decode cX8_listRings 42 = .ok (.idiv, 1) := by decide +kernel
theorem dX8_listRings_43 : decode cX8_listRings 43 = .ok (.invokestatic 90, 3) := by decide +kernel
theorem dX8_listRings_46 : decode cX8_listRings 46 = .ok (.istore 5, 2) := by decide +kernel
theorem dX8_listRings_48 : decode cX8_listRings 48 = .ok (.iload 5, 2) := by decide +kernel
theorem dX8_listRings_50 : decode cX8_listRings 50 = .ok (.iload_n 2, 1) := by decide +kernel
theorem dX8_listRings_51 : decode cX8_listRings 51 = .ok (.if_icmp .gt 72, 3) := by decide +kernel
theorem dX8_listRings_54 : decode cX8_listRings 54 = .ok (.aload_n 0, 1) := by decide +kernel
theorem dX8_listRings_55 : decode cX8_listRings 55 = .ok (.getfield 32, 3) := by decide +kernel
theorem dX8_listRings_58 : decode cX8_listRings 58 = .ok (.iload_n 1, 1) := by decide +kernel
theorem dX8_listRings_59 : decode cX8_listRings 59 = .ok (.aload_n 0, 1) := by decide +kernel
theorem dX8_listRings_60 : decode cX8_listRings 60 = .ok (.getfield 28, 3) := by decide +kernel
theorem dX8_listRings_63 : decode cX8_listRings 63 = .ok (.getfield 40, 3) := by decide +kernel
theorem dX8_listRings_66 : decode cX8_listRings 66 = .ok (.iload_n 1, 1) := by decide +kernel
theorem dX8_listRings_67 : decode cX8_listRings 67 = .ok (.iaload, 1) := by decide +kernel
theorem dX8_listRings_68 : decode cX8_listRings 68 = .ok (.aload_n 0, 1) := by decide +kernel
theorem dX8_listRings_69 : decode cX8_listRings 69 = .ok (.getfield 9, 3) := by decide +kernel
theorem dX8_listRings_72 : decode cX8_listRings 72 = .ok (.isub, 1) := by decide +kernel
theorem dX8_listRings_73 : decode cX8_listRings 73 = .ok (.iconst 1, 1) := by decide +kernel
theorem dX8_listRings_74 : decode cX8_listRings 74 = .ok (.isub, 1) := by decide +kernel
theorem dX8_listRings_75 : decode cX8_listRings 75 = .ok (.iload_n 2, 1) := by decide +kernel
theorem dX8_listRings_76 : decode cX8_listRings 76 = .ok (.iload 5, 2) := by decide +kernel
theorem dX8_listRings_78 : decode cX8_listRings 78 = .ok (.isub, 1) := by decide +kernel
theorem dX8_listRings_79 : decode cX8_listRings 79 = .ok (.invokevirtual 43, 3) := by decide +kernel
theorem dX8_listRings_82 : decode cX8_listRings 82 = .ok (.lconst 0, 1) := by decide +kernel
theorem dX8_listRings_83 : decode cX8_listRings 83 = .ok (.lcmp, 1) := by decide +kernel
theorem dX8_listRings_84 : decode cX8_listRings 84 = .ok (.ifCond .le 33, 3) := by decide +kernel
theorem dX8_listRings_117 : decode cX8_listRings 117 = .ok (.iinc 5 1, 3) := by decide +kernel
theorem dX8_listRings_120 : decode cX8_listRings 120 = .ok (.goto (-72), 3) := by decide +kernel
theorem dX8_listRings_87 : decode cX8_listRings 87 = .ok (.aload_n 0, 1) := by decide +kernel
theorem dX8_listRings_88 : decode cX8_listRings 88 = .ok (.iload_n 1, 1) := by decide +kernel
theorem dX8_listRings_89 : decode cX8_listRings 89 = .ok (.iload 5, 2) := by decide +kernel
theorem dX8_listRings_91 : decode cX8_listRings 91 = .ok (.iload 5, 2) := by decide +kernel
theorem dX8_listRings_93 : decode cX8_listRings 93 = .ok (.iload 4, 2) := by decide +kernel
theorem dX8_listRings_95 : decode cX8_listRings 95 = .ok (.sipush 1024, 3) := by decide +kernel
theorem dX8_listRings_98 : decode cX8_listRings 98 = .ok (.idiv, 1) := by decide +kernel
theorem dX8_listRings_99 : decode cX8_listRings 99 = .ok (.if_icmp .ne 12, 3) := by decide +kernel
theorem dX8_listRings_111 : decode cX8_listRings 111 = .ok (.iconst 0, 1) := by decide +kernel
theorem dX8_listRings_112 : decode cX8_listRings 112 = .ok (.iload_n 2, 1) := by decide +kernel
theorem dX8_listRings_113 : decode cX8_listRings 113 = .ok (.aload_n 3, 1) := by decide +kernel
theorem dX8_listRings_114 : decode cX8_listRings 114 = .ok (.invokevirtual 112, 3) := by decide +kernel
theorem wm_1409 : (Jvm.Cond.methodLink "GrownKinds$Sequences" (112 : Nat) ({ cls := "GrownKinds$Sequences", name := "listRingsBy", desc := "(IIIILGrownKinds$RingList;)V" } : Jvm.MethodName)) ∈ gT := gT_in (List.mem_of_getElem? (i := 1409) (by decide +kernel)) (by decide +kernel)
theorem wm_1411 : (Jvm.Cond.instanceMethod ({ cls := "GrownKinds$Sequences", name := "listRingsBy", desc := "(IIIILGrownKinds$RingList;)V" } : Jvm.MethodName)) ∈ gT := gT_in (List.mem_of_getElem? (i := 1411) (by decide +kernel)) (by decide +kernel)
theorem wm_68 : Cond.selects "GrownKinds$Sequences" ⟨"GrownKinds$Sequences", "listRingsBy", "(IIIILGrownKinds$RingList;)V"⟩ ⟨"GrownKinds$Sequences", "listRingsBy", "(IIIILGrownKinds$RingList;)V"⟩ ∈ gT := gT_in (List.mem_of_getElem? (i := 68) (by decide +kernel)) (by decide +kernel)
theorem wm_1412 : (Jvm.Cond.code ({ cls := "GrownKinds$Sequences", name := "listRingsBy", desc := "(IIIILGrownKinds$RingList;)V" } : Jvm.MethodName) prog_10_method_8_code (10 : Nat) (Option.none : Option Jvm.ClassFile.FieldType)) ∈ gT := gT_in (List.mem_of_getElem? (i := 1412) (by decide +kernel)) (by decide +kernel)
theorem dX8_listRings_102 : decode cX8_listRings 102 = .ok (.iload 4, 2) := by decide +kernel
theorem dX8_listRings_104 : decode cX8_listRings 104 = .ok (.sipush 1024, 3) := by decide +kernel
theorem dX8_listRings_107 : decode cX8_listRings 107 = .ok (.irem, 1) := by decide +kernel
theorem dX8_listRings_108 : decode cX8_listRings 108 = .ok (.goto 4, 3) := by decide +kernel
theorem dX8_listRings_123 : decode cX8_listRings 123 = .ok (.return_, 1) := by decide +kernel
theorem dX8_listRings_4 : decode cX8_listRings 4 = .ok (.aload_n 0, 1) := by decide +kernel
theorem dX8_listRings_5 : decode cX8_listRings 5 = .ok (.invokevirtual 104, 3) := by decide +kernel
theorem wm_1397 : (Jvm.Cond.methodLink "GrownKinds$Sequences" (104 : Nat) ({ cls := "GrownKinds$Sequences", name := "isFirstTurn", desc := "()Z" } : Jvm.MethodName)) ∈ gT := gT_in (List.mem_of_getElem? (i := 1397) (by decide +kernel)) (by decide +kernel)
theorem wm_1399 : (Jvm.Cond.instanceMethod ({ cls := "GrownKinds$Sequences", name := "isFirstTurn", desc := "()Z" } : Jvm.MethodName)) ∈ gT := gT_in (List.mem_of_getElem? (i := 1399) (by decide +kernel)) (by decide +kernel)
theorem wm_65 : Cond.selects "GrownKinds$Sequences" ⟨"GrownKinds$Sequences", "isFirstTurn", "()Z"⟩ ⟨"GrownKinds$Sequences", "isFirstTurn", "()Z"⟩ ∈ gT := gT_in (List.mem_of_getElem? (i := 65) (by decide +kernel)) (by decide +kernel)
theorem wm_1400 : (Jvm.Cond.code ({ cls := "GrownKinds$Sequences", name := "isFirstTurn", desc := "()Z" } : Jvm.MethodName) prog_10_method_9_code (2 : Nat) (Option.some Jvm.ClassFile.FieldType.boolean)) ∈ gT := gT_in (List.mem_of_getElem? (i := 1400) (by decide +kernel)) (by decide +kernel)
theorem dX8_listRings_8 : decode cX8_listRings 8 = .ok (.ifCond .eq 8, 3) := by decide +kernel
theorem dX8_listRings_16 : decode cX8_listRings 16 = .ok (.return_, 1) := by decide +kernel
theorem dX8_listRings_11 : decode cX8_listRings 11 = .ok (.aload_n 0, 1) := by decide +kernel
theorem dX8_listRings_12 : decode cX8_listRings 12 = .ok (.aload_n 3, 1) := by decide +kernel
theorem dX8_listRings_13 : decode cX8_listRings 13 = .ok (.invokevirtual 108, 3) := by decide +kernel
theorem wm_1405 : (Jvm.Cond.methodLink "GrownKinds$Sequences" (108 : Nat) ({ cls := "GrownKinds$Sequences", name := "enlist", desc := "(LGrownKinds$RingList;)V" } : Jvm.MethodName)) ∈ gT := gT_in (List.mem_of_getElem? (i := 1405) (by decide +kernel)) (by decide +kernel)
theorem wm_1407 : (Jvm.Cond.instanceMethod ({ cls := "GrownKinds$Sequences", name := "enlist", desc := "(LGrownKinds$RingList;)V" } : Jvm.MethodName)) ∈ gT := gT_in (List.mem_of_getElem? (i := 1407) (by decide +kernel)) (by decide +kernel)
theorem wm_67 : Cond.selects "GrownKinds$Sequences" ⟨"GrownKinds$Sequences", "enlist", "(LGrownKinds$RingList;)V"⟩ ⟨"GrownKinds$Sequences", "enlist", "(LGrownKinds$RingList;)V"⟩ ∈ gT := gT_in (List.mem_of_getElem? (i := 67) (by decide +kernel)) (by decide +kernel)
theorem wm_1408 : (Jvm.Cond.code ({ cls := "GrownKinds$Sequences", name := "enlist", desc := "(LGrownKinds$RingList;)V" } : Jvm.MethodName) prog_10_method_11_code (4 : Nat) (Option.none : Option Jvm.ClassFile.FieldType)) ∈ gT := gT_in (List.mem_of_getElem? (i := 1408) (by decide +kernel)) (by decide +kernel)
theorem dX8_listRingsBy_0 : decode cX8_listRingsBy 0 = .ok (.aload_n 0, 1) := by decide +kernel
theorem dX8_listRingsBy_1 : decode cX8_listRingsBy 1 = .ok (.getfield 9, 3) := by decide +kernel
theorem dX8_listRingsBy_4 : decode cX8_listRingsBy 4 = .ok (.istore 6, 2) := by decide +kernel
theorem dX8_listRingsBy_6 : decode cX8_listRingsBy 6 = .ok (.iload 6, 2) := by decide +kernel
theorem dX8_listRingsBy_8 : decode cX8_listRingsBy 8 = .ok (.bipush 8, 2) := by decide +kernel
theorem dX8_listRingsBy_10 : decode cX8_listRingsBy 10 = .ok (.if_icmp .lt 4, 3) := by decide +kernel
theorem dX8_listRingsBy_14 : decode cX8_listRingsBy 14 = .ok (.ldc2_w 82, 3) := by decide +kernel
theorem dX8_listRingsBy_17 : decode cX8_listRingsBy 17 = .ok (.aload_n 0, 1) := by decide +kernel
theorem dX8_listRingsBy_18 : decode cX8_listRingsBy 18 = .ok (.getfield 32, 3) := by decide +kernel
theorem dX8_listRingsBy_21 : decode cX8_listRingsBy 21 = .ok (.aload_n 0, 1) := by decide +kernel
theorem dX8_listRingsBy_22 : decode cX8_listRingsBy 22 = .ok (.getfield 25, 3) := by decide +kernel
theorem dX8_listRingsBy_25 : decode cX8_listRingsBy 25 = .ok (.iload_n 2, 1) := by decide +kernel
theorem dX8_listRingsBy_26 : decode cX8_listRingsBy 26 = .ok (.invokevirtual 49, 3) := by decide +kernel
theorem dX8_listRingsBy_29 : decode cX8_listRingsBy 29 = .ok (.invokestatic 63, 3) := by decide +kernel
theorem dX8_listRingsBy_32 : decode cX8_listRingsBy 32 = .ok (.lstore 7, 2) := by decide +kernel
theorem dX8_listRingsBy_34 : decode cX8_listRingsBy 34 = .ok (.iload_n 3, 1) := by decide +kernel
theorem dX8_listRingsBy_35 : decode cX8_listRingsBy 35 = .ok (.istore 9, 2) := by decide +kernel
theorem dX8_listRingsBy_37 : decode cX8_listRingsBy 37 = .ok (.iload 9, 2) := by decide +kernel
theorem dX8_listRingsBy_39 : decode cX8_listRingsBy 39 = .ok (.i2l, 1) := by decide +kernel
theorem dX8_listRingsBy_40 : decode cX8_listRingsBy 40 = .ok (.lload 7, 2) := by decide +kernel
theorem dX8_listRingsBy_42 : decode cX8_listRingsBy 42 = .ok (.lcmp, 1) := by decide +kernel
theorem dX8_listRingsBy_43 : decode cX8_listRingsBy 43 = .ok (.ifCond .ge 49, 3) := by decide +kernel
theorem dX8_listRingsBy_46 : decode cX8_listRingsBy 46 = .ok (.aload_n 0, 1) := by decide +kernel
theorem dX8_listRingsBy_47 : decode cX8_listRingsBy 47 = .ok (.getfield 15, 3) := by decide +kernel
theorem dX8_listRingsBy_50 : decode cX8_listRingsBy 50 = .ok (.iload 6, 2) := by decide +kernel
theorem dX8_listRingsBy_52 : decode cX8_listRingsBy 52 = .ok (.iload_n 2, 1) := by decide +kernel
theorem dX8_listRingsBy_53 : decode cX8_listRingsBy 53 = .ok (.sipush 1024, 3) := by decide +kernel
theorem dX8_listRingsBy_56 : decode cX8_listRingsBy 56 = .ok (.imul, 1) := by decide +kernel
theorem dX8_listRingsBy_57 : decode cX8_listRingsBy 57 = .ok (.iload 9, 2) := by decide +kernel
theorem dX8_listRingsBy_59 : decode cX8_listRingsBy 59 = .ok (.iadd, 1) := by decide +kernel
theorem dX8_listRingsBy_60 : decode cX8_listRingsBy 60 = .ok (.iastore, 1) := by decide +kernel
theorem dX8_listRingsBy_61 : decode cX8_listRingsBy 61 = .ok (.aload_n 0, 1) := by decide +kernel
theorem dX8_listRingsBy_62 : decode cX8_listRingsBy 62 = .ok (.iload 6, 2) := by decide +kernel
theorem dX8_listRingsBy_64 : decode cX8_listRingsBy 64 = .ok (.iconst 1, 1) := by decide +kernel
theorem dX8_listRingsBy_65 : decode cX8_listRingsBy 65 = .ok (.iadd, 1) := by decide +kernel
theorem dX8_listRingsBy_66 : decode cX8_listRingsBy 66 = .ok (.putfield 9, 3) := by decide +kernel
theorem dX8_listRingsBy_69 : decode cX8_listRingsBy 69 = .ok (.aload_n 0, 1) := by decide +kernel
theorem dX8_listRingsBy_70 : decode cX8_listRingsBy 70 = .ok (.iload_n 1, 1) := by decide +kernel
theorem dX8_listRingsBy_71 : decode cX8_listRingsBy 71 = .ok (.iload 4, 2) := by decide +kernel
theorem dX8_listRingsBy_73 : decode cX8_listRingsBy 73 = .ok (.iload_n 2, 1) := by decide +kernel
theorem dX8_listRingsBy_74 : decode cX8_listRingsBy 74 = .ok (.isub, 1) := by decide +kernel
theorem dX8_listRingsBy_75 : decode cX8_listRingsBy 75 = .ok (.aload 5, 2) := by decide +kernel
theorem dX8_listRingsBy_77 : decode cX8_listRingsBy 77 = .ok (.invokevirtual 99, 3) := by decide +kernel
theorem wm_1393 : (Jvm.Cond.methodLink "GrownKinds$Sequences" (99 : Nat) ({ cls := "GrownKinds$Sequences", name := "listRings", desc := "(IILGrownKinds$RingList;)V" } : Jvm.MethodName)) ∈ gT := gT_in (List.mem_of_getElem? (i := 1393) (by decide +kernel)) (by decide +kernel)
theorem wm_1395 : (Jvm.Cond.instanceMethod ({ cls := "GrownKinds$Sequences", name := "listRings", desc := "(IILGrownKinds$RingList;)V" } : Jvm.MethodName)) ∈ gT := gT_in (List.mem_of_getElem? (i := 1395) (by decide +kernel)) (by decide +kernel)
theorem wm_64 : Cond.selects "GrownKinds$Sequences" ⟨"GrownKinds$Sequences", "listRings", "(IILGrownKinds$RingList;)V"⟩ ⟨"GrownKinds$Sequences", "listRings", "(IILGrownKinds$RingList;)V"⟩ ∈ gT := gT_in (List.mem_of_getElem? (i := 64) (by decide +kernel)) (by decide +kernel)
theorem wm_1396 : (Jvm.Cond.code ({ cls := "GrownKinds$Sequences", name := "listRings", desc := "(IILGrownKinds$RingList;)V" } : Jvm.MethodName) prog_10_method_7_code (6 : Nat) (Option.none : Option Jvm.ClassFile.FieldType)) ∈ gT := gT_in (List.mem_of_getElem? (i := 1396) (by decide +kernel)) (by decide +kernel)
theorem dX8_listRingsBy_80 : decode cX8_listRingsBy 80 = .ok (.aload_n 0, 1) := by decide +kernel
theorem dX8_listRingsBy_81 : decode cX8_listRingsBy 81 = .ok (.iload 6, 2) := by decide +kernel
theorem dX8_listRingsBy_83 : decode cX8_listRingsBy 83 = .ok (.putfield 9, 3) := by decide +kernel
theorem dX8_listRingsBy_86 : decode cX8_listRingsBy 86 = .ok (.iinc 9 1, 3) := by decide +kernel
theorem dX8_listRingsBy_89 : decode cX8_listRingsBy 89 = .ok (.goto (-52), 3) := by decide +kernel
theorem dX8_listRingsBy_92 : decode cX8_listRingsBy 92 = .ok (.return_, 1) := by decide +kernel
theorem dX8_listRingsBy_13 : decode cX8_listRingsBy 13 = .ok (.return_, 1) := by decide +kernel
theorem dX8_findRing_0 : decode cX8_findRing 0 = .ok (.aload_n 0, 1) := by decide +kernel
theorem dX8_findRing_1 : decode cX8_findRing 1 = .ok (.aload_n 0, 1) := by decide +kernel
theorem dX8_findRing_2 : decode cX8_findRing 2 = .ok (.getfield 28, 3) := by decide +kernel
theorem dX8_findRing_5 : decode cX8_findRing 5 = .ok (.getfield 36, 3) := by decide +kernel
theorem dX8_findRing_8 : decode cX8_findRing 8 = .ok (.iload_n 1, 1) := by decide +kernel
theorem dX8_findRing_9 : decode cX8_findRing 9 = .ok (.iaload, 1) := by decide +kernel
theorem dX8_findRing_10 : decode cX8_findRing 10 = .ok (.putfield 25, 3) := by decide +kernel
theorem dX8_findRing_13 : decode cX8_findRing 13 = .ok (.iload_n 1, 1) := by decide +kernel
theorem dX8_findRing_14 : decode cX8_findRing 14 = .ok (.bipush 8, 2) := by decide +kernel
theorem dX8_findRing_16 : decode cX8_findRing 16 = .ok (.imul, 1) := by decide +kernel
theorem dX8_findRing_17 : decode cX8_findRing 17 = .ok (.iload_n 2, 1) := by decide +kernel
theorem dX8_findRing_18 : decode cX8_findRing 18 = .ok (.iadd, 1) := by decide +kernel
theorem dX8_findRing_19 : decode cX8_findRing 19 = .ok (.istore 5, 2) := by decide +kernel
theorem dX8_findRing_21 : decode cX8_findRing 21 = .ok (.aload_n 0, 1) := by decide +kernel
theorem dX8_findRing_22 : decode cX8_findRing 22 = .ok (.getfield 21, 3) := by decide +kernel
theorem dX8_findRing_25 : decode cX8_findRing 25 = .ok (.iload 5, 2) := by decide +kernel
theorem dX8_findRing_27 : decode cX8_findRing 27 = .ok (.aaload, 1) := by decide +kernel
theorem dX8_findRing_28 : decode cX8_findRing 28 = .ok (.astore 6, 2) := by decide +kernel
theorem dX8_findRing_30 : decode cX8_findRing 30 = .ok (.aload 6, 2) := by decide +kernel
theorem dX8_findRing_32 : decode cX8_findRing 32 = .ok (.ifnonnull 21, 3) := by decide +kernel
theorem dX8_findRing_35 : decode cX8_findRing 35 = .ok (.new 19, 3) := by decide +kernel
theorem dX8_findRing_38 : decode cX8_findRing 38 = .ok (.dup, 1) := by decide +kernel
theorem dX8_findRing_39 : decode cX8_findRing 39 = .ok (.invokespecial 94, 3) := by decide +kernel
theorem dX8_findRing_42 : decode cX8_findRing 42 = .ok (.astore 6, 2) := by decide +kernel
theorem dX8_findRing_44 : decode cX8_findRing 44 = .ok (.aload_n 0, 1) := by decide +kernel
theorem dX8_findRing_45 : decode cX8_findRing 45 = .ok (.getfield 21, 3) := by decide +kernel
theorem dX8_findRing_48 : decode cX8_findRing 48 = .ok (.iload 5, 2) := by decide +kernel
theorem dX8_findRing_50 : decode cX8_findRing 50 = .ok (.aload 6, 2) := by decide +kernel
theorem dX8_findRing_52 : decode cX8_findRing 52 = .ok (.aastore, 1) := by decide +kernel
theorem dX8_findRing_53 : decode cX8_findRing 53 = .ok (.aload 6, 2) := by decide +kernel
theorem dX8_findRing_55 : decode cX8_findRing 55 = .ok (.getfield 95, 3) := by decide +kernel
theorem wm_1381 : (Jvm.Cond.fieldLink "GrownKinds$Sequences" (95 : Nat) "GrownKinds$RingList" "stamp" "I") ∈ gT := gT_in (List.mem_of_getElem? (i := 1381) (by decide +kernel)) (by decide +kernel)
theorem dX8_findRing_58 : decode cX8_findRing 58 = .ok (.iload 4, 2) := by decide +kernel
theorem dX8_findRing_60 : decode cX8_findRing 60 = .ok (.if_icmp .eq 29, 3) := by decide +kernel
theorem dX8_findRing_63 : decode cX8_findRing 63 = .ok (.aload 6, 2) := by decide +kernel
theorem dX8_findRing_65 : decode cX8_findRing 65 = .ok (.iload 4, 2) := by decide +kernel
theorem dX8_findRing_67 : decode cX8_findRing 67 = .ok (.putfield 95, 3) := by decide +kernel
theorem dX8_findRing_70 : decode cX8_findRing 70 = .ok (.aload 6, 2) := by decide +kernel
theorem dX8_findRing_72 : decode cX8_findRing 72 = .ok (.iconst 0, 1) := by decide +kernel
theorem dX8_findRing_73 : decode cX8_findRing 73 = .ok (.putfield 98, 3) := by decide +kernel
theorem dX8_findRing_76 : decode cX8_findRing 76 = .ok (.aload_n 0, 1) := by decide +kernel
theorem dX8_findRing_77 : decode cX8_findRing 77 = .ok (.iconst 0, 1) := by decide +kernel
theorem dX8_findRing_78 : decode cX8_findRing 78 = .ok (.putfield 9, 3) := by decide +kernel
theorem dX8_findRing_81 : decode cX8_findRing 81 = .ok (.aload_n 0, 1) := by decide +kernel
theorem dX8_findRing_82 : decode cX8_findRing 82 = .ok (.iload_n 1, 1) := by decide +kernel
theorem dX8_findRing_83 : decode cX8_findRing 83 = .ok (.iload_n 2, 1) := by decide +kernel
theorem dX8_findRing_84 : decode cX8_findRing 84 = .ok (.aload 6, 2) := by decide +kernel
theorem dX8_findRing_86 : decode cX8_findRing 86 = .ok (.invokevirtual 99, 3) := by decide +kernel
theorem dX8_findRing_89 : decode cX8_findRing 89 = .ok (.aload_n 0, 1) := by decide +kernel
theorem dX8_findRing_90 : decode cX8_findRing 90 = .ok (.iconst 0, 1) := by decide +kernel
theorem dX8_findRing_91 : decode cX8_findRing 91 = .ok (.putfield 9, 3) := by decide +kernel
theorem dX8_findRing_94 : decode cX8_findRing 94 = .ok (.iconst 0, 1) := by decide +kernel
theorem dX8_findRing_95 : decode cX8_findRing 95 = .ok (.istore 7, 2) := by decide +kernel
theorem dX8_findRing_97 : decode cX8_findRing 97 = .ok (.iload_n 3, 1) := by decide +kernel
theorem dX8_findRing_98 : decode cX8_findRing 98 = .ok (.aload 6, 2) := by decide +kernel
theorem dX8_findRing_100 : decode cX8_findRing 100 = .ok (.getfield 98, 3) := by decide +kernel
theorem dX8_findRing_103 : decode cX8_findRing 103 = .ok (.if_icmp .ge 62, 3) := by decide +kernel
theorem dX8_findRing_106 : decode cX8_findRing 106 = .ok (.iload 7, 2) := by decide +kernel
theorem dX8_findRing_108 : decode cX8_findRing 108 = .ok (.bipush 8, 2) := by decide +kernel
theorem dX8_findRing_110 : decode cX8_findRing 110 = .ok (.if_icmp .ge 55, 3) := by decide +kernel
theorem dX8_findRing_113 : decode cX8_findRing 113 = .ok (.aload 6, 2) := by decide +kernel
theorem dX8_findRing_115 : decode cX8_findRing 115 = .ok (.getfield 103, 3) := by decide +kernel
theorem dX8_findRing_118 : decode cX8_findRing 118 = .ok (.iload_n 3, 1) := by decide +kernel
theorem dX8_findRing_119 : decode cX8_findRing 119 = .ok (.bipush 8, 2) := by decide +kernel
theorem dX8_findRing_121 : decode cX8_findRing 121 = .ok (.imul, 1) := by decide +kernel
theorem dX8_findRing_122 : decode cX8_findRing 122 = .ok (.iload 7, 2) := by decide +kernel
theorem dX8_findRing_124 : decode cX8_findRing 124 = .ok (.iadd, 1) := by decide +kernel
theorem dX8_findRing_125 : decode cX8_findRing 125 = .ok (.iaload, 1) := by decide +kernel
theorem dX8_findRing_126 : decode cX8_findRing 126 = .ok (.ifCond .eq 39, 3) := by decide +kernel
theorem dX8_findRing_129 : decode cX8_findRing 129 = .ok (.aload_n 0, 1) := by decide +kernel
theorem dX8_findRing_130 : decode cX8_findRing 130 = .ok (.getfield 15, 3) := by decide +kernel
theorem dX8_findRing_133 : decode cX8_findRing 133 = .ok (.iload 7, 2) := by decide +kernel
theorem dX8_findRing_135 : decode cX8_findRing 135 = .ok (.aload 6, 2) := by decide +kernel
theorem dX8_findRing_137 : decode cX8_findRing 137 = .ok (.getfield 103, 3) := by decide +kernel
theorem dX8_findRing_140 : decode cX8_findRing 140 = .ok (.iload_n 3, 1) := by decide +kernel
theorem dX8_findRing_141 : decode cX8_findRing 141 = .ok (.bipush 8, 2) := by decide +kernel
theorem dX8_findRing_143 : decode cX8_findRing 143 = .ok (.imul, 1) := by decide +kernel
theorem dX8_findRing_144 : decode cX8_findRing 144 = .ok (.iload 7, 2) := by decide +kernel
theorem dX8_findRing_146 : decode cX8_findRing 146 = .ok (.iadd, 1) := by decide +kernel
theorem dX8_findRing_147 : decode cX8_findRing 147 = .ok (.iaload, 1) := by decide +kernel
theorem dX8_findRing_148 : decode cX8_findRing 148 = .ok (.iastore, 1) := by decide +kernel
theorem dX8_findRing_149 : decode cX8_findRing 149 = .ok (.aload_n 0, 1) := by decide +kernel
theorem dX8_findRing_150 : decode cX8_findRing 150 = .ok (.dup, 1) := by decide +kernel
theorem dX8_findRing_151 : decode cX8_findRing 151 = .ok (.getfield 9, 3) := by decide +kernel
theorem dX8_findRing_154 : decode cX8_findRing 154 = .ok (.iconst 1, 1) := by decide +kernel
theorem dX8_findRing_155 : decode cX8_findRing 155 = .ok (.iadd, 1) := by decide +kernel
theorem dX8_findRing_156 : decode cX8_findRing 156 = .ok (.putfield 9, 3) := by decide +kernel
theorem dX8_findRing_159 : decode cX8_findRing 159 = .ok (.iinc 7 1, 3) := by decide +kernel
theorem dX8_findRing_162 : decode cX8_findRing 162 = .ok (.goto (-65), 3) := by decide +kernel
theorem dX8_findRing_165 : decode cX8_findRing 165 = .ok (.return_, 1) := by decide +kernel
def mX12_feed_42 (x_8 : Int) : Nat → Int → St → Option (St)
  | 0, _, _ => none
  | f + 1, v_19, S_20 => gd (inI v_19) <| if 20 ≤ v_19 then (some (S_20)) else (gd (0 ≤ v_19 ∧ v_19 ≤ 2147483647) <| gd ((dT S_20 x_8 4) ∧ (0 ≤ (v_19 / 4) ∧ (v_19 / 4) < 5)) <| gd (0 ≤ ((S_20 83 3) + v_19) ∧ ((S_20 83 3) + v_19) < 400) <| nx (up S_20 86 ((S_20 83 3) + v_19) (an (ush (S_20 (Int.toNat x_8) (v_19 / 4)) (24 - (8 * (v_19 % 4)))) 255)) fun S_33 => mX12_feed_42 x_8 f (v_19 + 1) S_33)
def mX12_feed (S0 : St) (a1 : Int) (a2 : Int) (a3 : Int) (a4 : Int) (a5 : Int) : Option (Int × St) := entG S0 (fun o : Int × St => o.2) (gd (inI (S0 83 3)) <| if (S0 83 3) ≤ 380 then (bdG1 S0 (fun o : Int × St => o.2) (some (mk5 S0)) fun S_3 => nx ((nn S0 : Nat) : Int) fun x_8 => gd (dT S_3 x_8 4) <| nx (up S_3 (Int.toNat x_8) 0 a1) fun S_10 => gd (dT S_10 x_8 4) <| nx (up S_10 (Int.toNat x_8) 1 a2) fun S_12 => gd (dT S_12 x_8 4) <| nx (up S_12 (Int.toNat x_8) 2 a3) fun S_14 => gd (dT S_14 x_8 4) <| nx (up S_14 (Int.toNat x_8) 3 a4) fun S_16 => gd (dT S_16 x_8 4) <| nx (up S_16 (Int.toNat x_8) 4 a5) fun S_18 => bd1 (mX12_feed_42 x_8 FU 0 S_18) fun S_21 => nx (up S_21 83 3 ((S_21 83 3) + 20)) fun S_24 => some ((S_24 83 3), S_24)) else (some ((-1), S0)))
set_option maxHeartbeats 4000000 in
set_option maxRecDepth 100000 in
theorem vX12_feed (l : Launch) {D : va_G} {cy : Nat → ClassId} {b : Nat} {S0 : St} (hn : 102 ≤ nn S0 - 3) (a1 : Int) (a2 : Int) (a3 : Int) (a4 : Int) (a5 : Int) {o1 : Int} {o2 : St} (hM : mX12_feed S0 a1 a2 a3 a4 a5 = some (o1, o2)) : gI l yX12_feed cX12_feed 8 (some .int) 0 (nn o2 - nn S0) (zz o2 - zz S0) D cy b (nn S0 - 3) (eG b cy S0) [.ref (b + 80), .int (iI a1), .int (iI a2), .int (iI a3), .int (iI a4), .int (iI a5)] (fun r u => r = iI o1 ∧ u = (nn o2 - 3, eG b cy o2)) := by
  refine gI_of (by decide) (Nat.le_of_ble_eq_true rfl) ?_
  intro p e s m args below meth c S hr hlk hin hsz ls hl hG
  have hx := S.1
  have hb := S.2.1
  have hl : lv_has ls 8 [(0, .ref (b + 80)), (1, .int (iI a1)), (2, .int (iI a2)), (3, .int (iI a3)), (4, .int (iI a4)), (5, .int (iI a5))] := hl
  replace hG : gW D cy b (nn S0 - 3) s s.heap [] (eG b cy S0) := hG
  obtain ⟨H, eH⟩ : ∃ H, H = s.heap := ⟨_, rfl⟩
  obtain ⟨locs, elocs⟩ : ∃ locs : List Loc, locs = [] := ⟨_, rfl⟩
  rw [← eH, ← elocs] at hG
  rw [← eH, ← elocs]
  clear eH elocs
  unfold mX12_feed at hM
  obtain ⟨hge, hM⟩ := entG_some hM
  replace hG : gX D cy b s H locs S0 0 0 S0 o2 := gX.start hG hsz hn hge
  refine lv_aload_n hx hb dX12_feed_0 rfl (lv_at hl 0 rfl) ?_
  refine m_get S hG.1 80 83 3 rfl ec_83 cpX12 wm_1676 dX12_feed_1 rfl (Nat.lt_of_lt_of_le (Nat.le_of_ble_eq_true rfl) hG.2.2.2.1) (by decide) ?_
  refine lv_sipush (v := iI 380) hx hb dX12_feed_4 (by decide) ?_
  obtain ⟨hg_1, hM⟩ := gd_some hM
  refine gi_icmp_le (tgt := 12) hx hb dX12_feed_7 (by decide) hg_1 (by decide) (fun c_2 => ?_) (fun c_2 => ?_)
  · replace hM := ifp hM c_2
    refine lv_iconst (v := iI 5) hx hb dX12_feed_12 (by decide) ?_
    obtain ⟨S_3, hc_4, hg_5, hg_6, hM⟩ := bdG1_some hM
    have hg_7 : gle S_3 o2 := ⟨Nat.le_trans hg_6.1 gle_rfl.1, Nat.le_trans hg_6.2 gle_rfl.2⟩
    refine n_new5 S hG (Option.some.inj hc_4) hg_7 dX12_feed_13 ⟨Nat.le_refl _, Nat.le_refl _⟩ (fun x_8 H locs ex_8 hG => ?_)
    replace hM := nx_at hM ex_8
    clear ex_8
    refine lv_dup hx hb dX12_feed_15 rfl ?_
    refine lv_iconst (v := iI 0) hx hb dX12_feed_16 (by decide) ?_
    refine lv_iload_n hx hb dX12_feed_17 rfl (lv_at hl 1 rfl) ?_
    obtain ⟨hg_9, hM⟩ := gd_some hM
    refine nd_iast (N := 5) S hG hg_9 (by decide) dX12_feed_18 (by decide) (fun H locs S_10 eS_10 hG => ?_)
    replace hM := nx_at hM eS_10
    clear eS_10
    refine lv_dup hx hb dX12_feed_19 rfl ?_
    refine lv_iconst (v := iI 1) hx hb dX12_feed_20 (by decide) ?_
    refine lv_iload_n hx hb dX12_feed_21 rfl (lv_at hl 2 rfl) ?_
    obtain ⟨hg_11, hM⟩ := gd_some hM
    refine nd_iast (N := 5) S hG hg_11 (by decide) dX12_feed_22 (by decide) (fun H locs S_12 eS_12 hG => ?_)
    replace hM := nx_at hM eS_12
    clear eS_12
    refine lv_dup hx hb dX12_feed_23 rfl ?_
    refine lv_iconst (v := iI 2) hx hb dX12_feed_24 (by decide) ?_
    refine lv_iload_n hx hb dX12_feed_25 rfl (lv_at hl 3 rfl) ?_
    obtain ⟨hg_13, hM⟩ := gd_some hM
    refine nd_iast (N := 5) S hG hg_13 (by decide) dX12_feed_26 (by decide) (fun H locs S_14 eS_14 hG => ?_)
    replace hM := nx_at hM eS_14
    clear eS_14
    refine lv_dup hx hb dX12_feed_27 rfl ?_
    refine lv_iconst (v := iI 3) hx hb dX12_feed_28 (by decide) ?_
    refine lv_iload hx hb dX12_feed_29 (lv_at hl 4 rfl) ?_
    obtain ⟨hg_15, hM⟩ := gd_some hM
    refine nd_iast (N := 5) S hG hg_15 (by decide) dX12_feed_31 (by decide) (fun H locs S_16 eS_16 hG => ?_)
    replace hM := nx_at hM eS_16
    clear eS_16
    refine lv_dup hx hb dX12_feed_32 rfl ?_
    refine lv_iconst (v := iI 4) hx hb dX12_feed_33 (by decide) ?_
    refine lv_iload hx hb dX12_feed_34 (lv_at hl 5 rfl) ?_
    obtain ⟨hg_17, hM⟩ := gd_some hM
    refine nd_iast (N := 5) S hG hg_17 (by decide) dX12_feed_36 (by decide) (fun H locs S_18 eS_18 hG => ?_)
    replace hM := nx_at hM eS_18
    clear eS_18
    refine lv_astore (lv' := [(6, .ref (b + ph (Int.toNat x_8))), (0, .ref (b + 80)), (1, .int (iI a1)), (2, .int (iI a2)), (3, .int (iI a3)), (4, .int (iI a4)), (5, .int (iI a5))]) hx hb dX12_feed_37 hl (by decide) rfl (fun ls hl => ?_)
    refine lv_iconst (v := iI 0) hx hb dX12_feed_39 (by decide) ?_
    refine lv_istore (lv' := [(7, .int (iI 0)), (6, .ref (b + ph (Int.toNat x_8))), (0, .ref (b + 80)), (1, .int (iI a1)), (2, .int (iI a2)), (3, .int (iI a3)), (4, .int (iI a4)), (5, .int (iI a5))]) hx hb dX12_feed_40 hl (by decide) rfl (fun ls hl => ?_)
    obtain ⟨S_21, hc_22, hM⟩ := bd1_some hM
    have hK_23 : ∀ (ce sl : Nat) (H : Heap) (locs : List Loc) (ls : Array Slot), gX D cy b s H locs S_21 ce sl S0 o2 → lv_has ls 8 [(0, .ref (b + 80))] → W p l e (gRm 0 (nn o2 - nn S0) (zz o2 - zz S0)) s m args below meth c H locs ce sl (gQI D cy b s args below (nn o2 - nn S0) (zz o2 - zz S0) (fun r u => r = iI o1 ∧ u = (nn o2 - 3, eG b cy o2))) (F0 m 89 ls []) := by
      intro ce sl H locs ls hG hl
      refine lv_aload_n hx hb dX12_feed_89 rfl (lv_at hl 0 rfl) ?_
      refine lv_dup hx hb dX12_feed_90 rfl ?_
      refine m_get S hG.1 80 83 3 rfl ec_83 cpX12 wm_1676 dX12_feed_91 rfl (Nat.lt_of_lt_of_le (Nat.le_of_ble_eq_true rfl) hG.2.2.2.1) (by decide) ?_
      refine lv_bipush (v := iI 20) hx hb dX12_feed_94 (by decide) ?_
      refine gi_add hx hb dX12_feed_96 ?_
      refine n_put S hG 80 83 3 rfl 3 ((S_21 83 3) + 20) ec_83 cpX12 wm_1676 dX12_feed_97 (pf_83_3) (by decide) (by decide) (Nat.le_of_ble_eq_true rfl) rfl rfl rfl (fun H locs S_24 eS_24 hG => ?_)
      replace hM := nx_at hM eS_24
      clear eS_24
      refine lv_aload_n hx hb dX12_feed_100 rfl (lv_at hl 0 rfl) ?_
      refine m_get S hG.1 80 83 3 rfl ec_83 cpX12 wm_1676 dX12_feed_101 rfl (Nat.lt_of_lt_of_le (Nat.le_of_ble_eq_true rfl) hG.2.2.2.1) (by decide) ?_
      cases hM
      exact g_iret S hr hlk hG.1 hG.2.1 dX12_feed_104 ⟨hG.rc, hG.rs⟩ ⟨rfl, rfl⟩
    have loop_25 : ∀ (f : Nat) (v_19 : Int) (S_20 : St) (ce sl : Nat) (H : Heap) (locs : List Loc) (ls : Array Slot), mX12_feed_42 x_8 f v_19 S_20 = some S_21 → gX D cy b s H locs S_20 ce sl S0 o2 → lv_has ls 8 [(7, .int (iI v_19)), (6, .ref (b + ph (Int.toNat x_8))), (0, .ref (b + 80))] → W p l e (gRm 0 (nn o2 - nn S0) (zz o2 - zz S0)) s m args below meth c H locs ce sl (gQI D cy b s args below (nn o2 - nn S0) (zz o2 - zz S0) (fun r u => r = iI o1 ∧ u = (nn o2 - 3, eG b cy o2))) (F0 m 42 ls []) := by
      clear hM
      intro f
      induction f with
      | zero => intro v_19 S_20 ce sl H locs ls hM; rw [mX12_feed_42] at hM; cases hM
      | succ f_27 ih_26 =>
        intro v_19 S_20 ce sl H locs ls hM hG hl
        rw [mX12_feed_42] at hM
        refine lv_iload hx hb dX12_feed_42 (lv_at hl 0 rfl) ?_
        refine lv_bipush (v := iI 20) hx hb dX12_feed_44 (by decide) ?_
        obtain ⟨hg_28, hM⟩ := gd_some hM
        refine gi_icmp_ge (tgt := 89) hx hb dX12_feed_46 (by decide) hg_28 (by decide) (fun c_29 => ?_) (fun c_29 => ?_)
        · replace hM := ifp hM c_29
          cases hM
          exact hK_23 _ _ H locs ls hG (lv_sub hl [2] rfl)
        · replace hM := ifn hM c_29
          refine lv_aload_n hx hb dX12_feed_49 rfl (lv_at hl 2 rfl) ?_
          refine m_get S hG.1 80 83 2 rfl ec_83 cpX12 wm_1675 dX12_feed_50 rfl (Nat.lt_of_lt_of_le (Nat.le_of_ble_eq_true rfl) hG.2.2.2.1) (by decide) ?_
          refine lv_aload_n hx hb dX12_feed_53 rfl (lv_at hl 2 rfl) ?_
          refine m_get S hG.1 80 83 3 rfl ec_83 cpX12 wm_1676 dX12_feed_54 rfl (Nat.lt_of_lt_of_le (Nat.le_of_ble_eq_true rfl) hG.2.2.2.1) (by decide) ?_
          refine lv_iload hx hb dX12_feed_57 (lv_at hl 0 rfl) ?_
          refine gi_add hx hb dX12_feed_59 ?_
          refine lv_aload hx hb dX12_feed_60 (lv_at hl 1 rfl) ?_
          refine lv_iload hx hb dX12_feed_62 (lv_at hl 0 rfl) ?_
          refine lv_iconst (v := iI 4) hx hb dX12_feed_64 (by decide) ?_
          obtain ⟨hg_30, hM⟩ := gd_some hM
          refine gi_div hx hb dX12_feed_65 hg_30 (by decide) ?_
          obtain ⟨hg_31, hM⟩ := gd_some hM
          refine nd_iald (N := 5) S hG hg_31.1 (by decide) dX12_feed_66 hg_31.2 ?_
          refine lv_bipush (v := iI 24) hx hb dX12_feed_67 (by decide) ?_
          refine lv_bipush (v := iI 8) hx hb dX12_feed_69 (by decide) ?_
          refine lv_iload hx hb dX12_feed_71 (lv_at hl 0 rfl) ?_
          refine lv_iconst (v := iI 4) hx hb dX12_feed_73 (by decide) ?_
          refine gi_rem hx hb dX12_feed_74 hg_30 (by decide) ?_
          refine gi_mul hx hb dX12_feed_75 ?_
          refine gi_sub hx hb dX12_feed_76 ?_
          refine gi_ushr hx hb dX12_feed_77 ?_
          refine lv_sipush (v := iI 255) hx hb dX12_feed_78 (by decide) ?_
          refine gi_and hx hb dX12_feed_81 ?_
          obtain ⟨hg_32, hM⟩ := gd_some hM
          refine ni_ast S hG 83 86 rfl ec_86 (by decide) dX12_feed_82 hg_32 (by decide) (fun H locs S_33 eS_33 hG => ?_)
          replace hM := nx_at hM eS_33
          clear eS_33
          refine lv_iinc (v := iI (v_19 + 1)) (lv' := [(7, .int (iI (v_19 + 1))), (6, .ref (b + ph (Int.toNat x_8))), (0, .ref (b + 80))]) hx hb dX12_feed_83 hl (k := 0) rfl ((iI_add v_19 (1)).trans (congrArg iI (by omega))) (by decide) rfl (fun ls hl => ?_)
          refine lv_goto (tgt := 42) hx hb dX12_feed_86 (by decide) ?_
          exact ih_26 (v_19 + 1) S_33 _ _ H locs ls hM hG (lv_sub hl [0, 1, 2] rfl)
    exact loop_25 FU 0 S_18 _ _ H locs ls hc_22 hG (lv_sub hl [0, 1, 2] rfl)
  · replace hM := ifn hM c_2
    refine lv_iconst (v := iI (-1)) hx hb dX12_feed_10 (by decide) ?_
    cases hM
    exact g_iret S hr hlk hG.1 hG.2.1 dX12_feed_11 ⟨hG.rc, hG.rs⟩ ⟨rfl, rfl⟩
theorem wS_9_82 : gWS "GrownKinds$Speller" 82 yJ7_copyOf_9075b cJ7_copyOf_9075b 3 (some (.array .byte)) := ⟨wm_1284, wm_1285, wm_189, wm_1286, by decide +kernel, by decide +kernel⟩
theorem wS_9_86 : gWS "GrownKinds$Speller" 86 yX9_weightOf cX9_weightOf 1 (some .int) := ⟨wm_1296, wm_1297, wm_183, wm_1298, by decide +kernel, by decide +kernel⟩
def mX9_put (S0 : St) (a1 : Int) : Option (St) := entG S0 (fun o : St => o) (gd (dB S0 (S0 60 3) ∧ 0 ≤ dlen S0 (S0 60 3)) <| bdG1 S0 (fun o : St => o) (gd ((inI (S0 60 4)) ∧ (inI (dlen S0 (S0 60 3)))) <| if (S0 60 4) < (dlen S0 (S0 60 3)) then (some (S0)) else (if 1048576 ≤ (dlen S0 (S0 60 3)) then (some (S0)) else (nx (2 * (dlen S0 (S0 60 3))) fun x_20 => gd ((dB S0 (S0 60 3) ∧ 0 ≤ dlen S0 (S0 60 3) ∧ dlen S0 (S0 60 3) < x_20 ∧ x_20 ≤ 4194304) ∧ (∀ k : Nat, k < (dlen S0 (S0 60 3)).toNat → -128 ≤ S0 (Int.toNat (S0 60 3)) k ∧ S0 (Int.toNat (S0 60 3)) k ≤ 127)) <| bdG1 S0 (fun o : St => o) (some (cpB S0 (S0 60 3) x_20)) fun S_22 => nx ((nn S0 : Nat) : Int) fun x_27 => nx (up S_22 60 3 x_27) fun S_28 => some (S_28)))) fun S_2 => gd (dB S_2 (S_2 60 3) ∧ 0 ≤ dlen S_2 (S_2 60 3)) <| gd ((inI (S_2 60 4)) ∧ (inI (dlen S_2 (S_2 60 3)))) <| if (dlen S_2 (S_2 60 3)) ≤ (S_2 60 4) then (some (S_2)) else (gd ((dB S_2 (S_2 60 3) ∧ 0 ≤ (S_2 60 4) ∧ (S_2 60 4) < dlen S_2 (S_2 60 3) ∧ dlen S_2 (S_2 60 3) ≤ 2147483647) ∧ (-128 ≤ (s8 a1) ∧ (s8 a1) ≤ 127)) <| nx (up S_2 (Int.toNat (S_2 60 3)) (S_2 60 4) (s8 a1)) fun S_12 => nx (up S_12 60 4 ((S_12 60 4) + 1)) fun S_13 => bd1 (mX9_weightOf a1) fun r_15 => nx (up S_13 60 8 ((S_13 60 8) + r_15)) fun S_16 => some (S_16)))
set_option maxHeartbeats 4000000 in
set_option maxRecDepth 100000 in
theorem vX9_put (l : Launch) {D : va_G} {cy : Nat → ClassId} {b : Nat} {S0 : St} (hn : 102 ≤ nn S0 - 3) (a1 : Int) {o1 : St} (hM : mX9_put S0 a1 = some o1) : gV l yX9_put cX9_put 2 2 (nn o1 - nn S0) (zz o1 - zz S0) D cy b (nn S0 - 3) (eG b cy S0) [.ref (b + 58), .int (iI a1)] (fun u => u = (nn o1 - 3, eG b cy o1)) := by
  refine gV_of (by decide) (Nat.le_of_ble_eq_true rfl) ?_
  intro p e s m args below meth c S hr hlk hin hsz ls hl hG
  have hx := S.1
  have hb := S.2.1
  have hl : lv_has ls 2 [(0, .ref (b + 58)), (1, .int (iI a1))] := hl
  replace hG : gW D cy b (nn S0 - 3) s s.heap [] (eG b cy S0) := hG
  obtain ⟨H, eH⟩ : ∃ H, H = s.heap := ⟨_, rfl⟩
  obtain ⟨locs, elocs⟩ : ∃ locs : List Loc, locs = [] := ⟨_, rfl⟩
  rw [← eH, ← elocs] at hG
  rw [← eH, ← elocs]
  clear eH elocs
  unfold mX9_put at hM
  obtain ⟨hge, hM⟩ := entG_some hM
  replace hG : gX D cy b s H locs S0 0 0 S0 o1 := gX.start hG hsz hn hge
  refine lv_aload_n hx hb dX9_put_0 rfl (lv_at hl 0 rfl) ?_
  refine m_get S hG.1 58 60 4 rfl ec_60 cpX9 wm_500 dX9_put_1 rfl (Nat.lt_of_lt_of_le (Nat.le_of_ble_eq_true rfl) hG.2.2.2.1) (by decide) ?_
  refine lv_aload_n hx hb dX9_put_4 rfl (lv_at hl 0 rfl) ?_
  refine m_get (v := .ref (b + ph (Int.toNat (S0 60 3)))) S hG.1 58 60 3 rfl ec_60 cpX9 wm_498 dX9_put_5 rfl (Nat.lt_of_lt_of_le (Nat.le_of_ble_eq_true rfl) hG.2.2.2.1) (by decide) ?_
  obtain ⟨hg_1, hM⟩ := gd_some hM
  refine nd_alen S hG hg_1 dX9_put_8 ?_
  obtain ⟨S_2, hc_3, hg_4, hg_5, hM⟩ := bdG1_some hM
  have hub_6 : gle S_2 o1 := ⟨Nat.le_trans hg_5.1 gle_rfl.1, Nat.le_trans hg_5.2 gle_rfl.2⟩
  have hK_7 : ∀ (ce sl : Nat) (H : Heap) (locs : List Loc) (ls : Array Slot), gX D cy b s H locs S_2 ce sl S0 o1 → lv_has ls 2 [(0, .ref (b + 58)), (1, .int (iI a1))] → W p l e (gRm 2 (nn o1 - nn S0) (zz o1 - zz S0)) s m args below meth c H locs ce sl (gQV D cy b s args below (nn o1 - nn S0) (zz o1 - zz S0) (fun u => u = (nn o1 - 3, eG b cy o1))) (F0 m 40 ls []) := by
    intro ce sl H locs ls hG hl
    refine lv_aload_n hx hb dX9_put_40 rfl (lv_at hl 0 rfl) ?_
    refine m_get S hG.1 58 60 4 rfl ec_60 cpX9 wm_500 dX9_put_41 rfl (Nat.lt_of_lt_of_le (Nat.le_of_ble_eq_true rfl) hG.2.2.2.1) (by decide) ?_
    refine lv_aload_n hx hb dX9_put_44 rfl (lv_at hl 0 rfl) ?_
    refine m_get (v := .ref (b + ph (Int.toNat (S_2 60 3)))) S hG.1 58 60 3 rfl ec_60 cpX9 wm_498 dX9_put_45 rfl (Nat.lt_of_lt_of_le (Nat.le_of_ble_eq_true rfl) hG.2.2.2.1) (by decide) ?_
    obtain ⟨hg_8, hM⟩ := gd_some hM
    refine nd_alen S hG hg_8 dX9_put_48 ?_
    obtain ⟨hg_9, hM⟩ := gd_some hM
    refine gi_icmp_ge (tgt := 86) hx hb dX9_put_49 (by decide) hg_9.1 hg_9.2 (fun c_10 => ?_) (fun c_10 => ?_)
    · replace hM := ifp hM c_10
      cases hM
      exact g_vret S hr hlk hG.1 hG.2.1 dX9_put_86 ⟨hG.rc, hG.rs⟩ rfl
    · replace hM := ifn hM c_10
      refine lv_aload_n hx hb dX9_put_52 rfl (lv_at hl 0 rfl) ?_
      refine m_get (v := .ref (b + ph (Int.toNat (S_2 60 3)))) S hG.1 58 60 3 rfl ec_60 cpX9 wm_498 dX9_put_53 rfl (Nat.lt_of_lt_of_le (Nat.le_of_ble_eq_true rfl) hG.2.2.2.1) (by decide) ?_
      refine lv_aload_n hx hb dX9_put_56 rfl (lv_at hl 0 rfl) ?_
      refine m_get S hG.1 58 60 4 rfl ec_60 cpX9 wm_500 dX9_put_57 rfl (Nat.lt_of_lt_of_le (Nat.le_of_ble_eq_true rfl) hG.2.2.2.1) (by decide) ?_
      refine lv_iload_n hx hb dX9_put_60 rfl (lv_at hl 1 rfl) ?_
      refine gi_i2b hx hb dX9_put_61 ?_
      obtain ⟨hg_11, hM⟩ := gd_some hM
      refine nd_bast S hG hg_11.1 hg_11.2 dX9_put_62 (fun H locs S_12 eS_12 hG => ?_)
      replace hM := nx_at hM eS_12
      clear eS_12
      refine lv_aload_n hx hb dX9_put_63 rfl (lv_at hl 0 rfl) ?_
      refine lv_dup hx hb dX9_put_64 rfl ?_
      refine m_get S hG.1 58 60 4 rfl ec_60 cpX9 wm_500 dX9_put_65 rfl (Nat.lt_of_lt_of_le (Nat.le_of_ble_eq_true rfl) hG.2.2.2.1) (by decide) ?_
      refine lv_iconst (v := iI 1) hx hb dX9_put_68 (by decide) ?_
      refine gi_add hx hb dX9_put_69 ?_
      refine n_put S hG 58 60 4 rfl 4 ((S_12 60 4) + 1) ec_60 cpX9 wm_500 dX9_put_70 (pf_60_4) (by decide) (by decide) (Nat.le_of_ble_eq_true rfl) rfl rfl rfl (fun H locs S_13 eS_13 hG => ?_)
      replace hM := nx_at hM eS_13
      clear eS_13
      refine lv_aload_n hx hb dX9_put_73 rfl (lv_at hl 0 rfl) ?_
      refine lv_dup hx hb dX9_put_74 rfl ?_
      refine m_get S hG.1 58 60 8 rfl ec_60 cpX9 wm_510 dX9_put_75 rfl (Nat.lt_of_lt_of_le (Nat.le_of_ble_eq_true rfl) hG.2.2.2.1) (by decide) ?_
      refine lv_iload_n hx hb dX9_put_78 rfl (lv_at hl 1 rfl) ?_
      obtain ⟨r_15, hc_14, hM⟩ := bd1_some hM
      refine g_si (As := [.int (iI a1)]) (rest := [.int (iI (S_13 60 8)), .ref (b + 58)]) S hG.1 hG.2.1 (vX9_weightOf l hG.2.2.2.1 a1 hc_14) wS_9_86 dX9_put_79 rfl hl.1 (ar := 1) (by decide +kernel) rfl ⟨Nat.le_of_ble_eq_true rfl, Nat.le_of_ble_eq_true rfl, hG.rc, hG.rs⟩ (Nat.le_of_ble_eq_true rfl) (fun rv uu H locs hp hGc => ?_)
      obtain ⟨rfl, rfl⟩ := hp
      refine wz ?_
      replace hG := hG.same hGc
      clear hGc
      refine gi_add hx hb dX9_put_82 ?_
      refine n_put S hG 58 60 8 rfl 8 ((S_13 60 8) + r_15) ec_60 cpX9 wm_510 dX9_put_83 (pf_60_8) (by decide) (by decide) (Nat.le_of_ble_eq_true rfl) rfl rfl rfl (fun H locs S_16 eS_16 hG => ?_)
      replace hM := nx_at hM eS_16
      clear eS_16
      cases hM
      exact g_vret S hr hlk hG.1 hG.2.1 dX9_put_86 ⟨hG.rc, hG.rs⟩ rfl
  clear hM
  replace hM := hc_3
  obtain ⟨hg_17, hM⟩ := gd_some hM
  refine gi_icmp_lt (tgt := 40) hx hb dX9_put_9 (by decide) hg_17.1 hg_17.2 (fun c_18 => ?_) (fun c_18 => ?_)
  · replace hM := ifp hM c_18
    cases hM
    exact hK_7 _ _ H locs ls hG (lv_sub hl [0, 1] rfl)
  · replace hM := ifn hM c_18
    refine lv_aload_n hx hb dX9_put_12 rfl (lv_at hl 0 rfl) ?_
    refine m_get (v := .ref (b + ph (Int.toNat (S0 60 3)))) S hG.1 58 60 3 rfl ec_60 cpX9 wm_498 dX9_put_13 rfl (Nat.lt_of_lt_of_le (Nat.le_of_ble_eq_true rfl) hG.2.2.2.1) (by decide) ?_
    refine nd_alen S hG hg_1 dX9_put_16 ?_
    refine lv_ldc (v := 1048576) hx hb S.2.2.2.1 (S.2.2.2.2 _ wm_1283) dX9_put_17 ?_
    refine gi_as 1048576 (by decide) ?_
    refine gi_icmp_ge (tgt := 40) hx hb dX9_put_19 (by decide) hg_17.2 (by decide) (fun c_19 => ?_) (fun c_19 => ?_)
    · replace hM := ifp hM c_19
      cases hM
      exact hK_7 _ _ H locs ls hG (lv_sub hl [0, 1] rfl)
    · replace hM := ifn hM c_19
      refine lv_aload_n hx hb dX9_put_22 rfl (lv_at hl 0 rfl) ?_
      refine lv_aload_n hx hb dX9_put_23 rfl (lv_at hl 0 rfl) ?_
      refine m_get (v := .ref (b + ph (Int.toNat (S0 60 3)))) S hG.1 58 60 3 rfl ec_60 cpX9 wm_498 dX9_put_24 rfl (Nat.lt_of_lt_of_le (Nat.le_of_ble_eq_true rfl) hG.2.2.2.1) (by decide) ?_
      refine lv_iconst (v := iI 2) hx hb dX9_put_27 (by decide) ?_
      refine lv_aload_n hx hb dX9_put_28 rfl (lv_at hl 0 rfl) ?_
      refine m_get (v := .ref (b + ph (Int.toNat (S0 60 3)))) S hG.1 58 60 3 rfl ec_60 cpX9 wm_498 dX9_put_29 rfl (Nat.lt_of_lt_of_le (Nat.le_of_ble_eq_true rfl) hG.2.2.2.1) (by decide) ?_
      refine nd_alen S hG hg_1 dX9_put_32 ?_
      refine gi_mul hx hb dX9_put_33 ?_
      refine gi_nm (fun x_20 ex_20 => ?_)
      replace hM := nx_at hM ex_20
      clear ex_20
      obtain ⟨hg_21, hM⟩ := gd_some hM
      obtain ⟨S_22, hc_23, hg_24, hg_25, hM⟩ := bdG1_some hM
      have hg_26 : gle S_22 o1 := ⟨Nat.le_trans hg_25.1 hub_6.1, Nat.le_trans hg_25.2 hub_6.2⟩
      refine n_copyOf S hG (Option.some.inj hc_23) hg_26 hg_21.1 hg_21.2 wS_9_82 dX9_put_34 hl.1 ⟨Nat.le_of_ble_eq_true rfl, Nat.le_of_ble_eq_true rfl, Nat.le_refl _, Nat.le_refl _⟩ (Nat.le_of_ble_eq_true rfl) (fun x_27 H locs ex_27 hG => ?_)
      replace hM := nx_at hM ex_27
      clear ex_27
      refine n_put S hG 58 60 3 rfl 3 x_27 ec_60 cpX9 wm_498 dX9_put_37 (fun g => pf_60_3 (b := b) (z := x_27) g) (by decide) (by decide) (Nat.le_of_ble_eq_true rfl) rfl rfl rfl (fun H locs S_28 eS_28 hG => ?_)
      replace hM := nx_at hM eS_28
      clear eS_28
      cases hM
      exact hK_7 _ _ H locs ls hG (lv_sub hl [0, 1] rfl)
def mX9_signAt (S0 : St) (a1 : Int) : Option (Int × St) := entG S0 (fun o : Int × St => o.2) (gd (inI a1) <| if a1 < 0 then (some ((-1), S0)) else (gd (inI (S0 60 4)) <| if (S0 60 4) ≤ a1 then (some ((-1), S0)) else (gd (dB S0 (S0 60 3) ∧ 0 ≤ dlen S0 (S0 60 3)) <| gd (inI (dlen S0 (S0 60 3))) <| if (dlen S0 (S0 60 3)) ≤ a1 then (some ((-1), S0)) else (gd (dB S0 (S0 60 3) ∧ 0 ≤ a1 ∧ a1 < dlen S0 (S0 60 3) ∧ dlen S0 (S0 60 3) ≤ 2147483647) <| some ((S0 (Int.toNat (S0 60 3)) a1), S0)))))
set_option maxHeartbeats 4000000 in
set_option maxRecDepth 100000 in
theorem vX9_signAt (l : Launch) {D : va_G} {cy : Nat → ClassId} {b : Nat} {S0 : St} (hn : 102 ≤ nn S0 - 3) (a1 : Int) {o1 : Int} {o2 : St} (hM : mX9_signAt S0 a1 = some (o1, o2)) : gI l yX9_signAt cX9_signAt 2 (some .int) 0 (nn o2 - nn S0) (zz o2 - zz S0) D cy b (nn S0 - 3) (eG b cy S0) [.ref (b + 58), .int (iI a1)] (fun r u => r = iI o1 ∧ u = (nn o2 - 3, eG b cy o2)) := by
  refine gI_of (by decide) (Nat.le_of_ble_eq_true rfl) ?_
  intro p e s m args below meth c S hr hlk hin hsz ls hl hG
  have hx := S.1
  have hb := S.2.1
  have hl : lv_has ls 2 [(0, .ref (b + 58)), (1, .int (iI a1))] := hl
  replace hG : gW D cy b (nn S0 - 3) s s.heap [] (eG b cy S0) := hG
  obtain ⟨H, eH⟩ : ∃ H, H = s.heap := ⟨_, rfl⟩
  obtain ⟨locs, elocs⟩ : ∃ locs : List Loc, locs = [] := ⟨_, rfl⟩
  rw [← eH, ← elocs] at hG
  rw [← eH, ← elocs]
  clear eH elocs
  unfold mX9_signAt at hM
  obtain ⟨hge, hM⟩ := entG_some hM
  replace hG : gX D cy b s H locs S0 0 0 S0 o2 := gX.start hG hsz hn hge
  refine lv_iload_n hx hb dX9_signAt_0 rfl (lv_at hl 1 rfl) ?_
  obtain ⟨hg_1, hM⟩ := gd_some hM
  refine gi_if_lt (tgt := 30) hx hb dX9_signAt_1 (by decide) hg_1 (fun c_2 => ?_) (fun c_2 => ?_)
  · replace hM := ifp hM c_2
    refine lv_iconst (v := iI (-1)) hx hb dX9_signAt_30 (by decide) ?_
    cases hM
    exact g_iret S hr hlk hG.1 hG.2.1 dX9_signAt_31 ⟨hG.rc, hG.rs⟩ ⟨rfl, rfl⟩
  · replace hM := ifn hM c_2
    refine lv_iload_n hx hb dX9_signAt_4 rfl (lv_at hl 1 rfl) ?_
    refine lv_aload_n hx hb dX9_signAt_5 rfl (lv_at hl 0 rfl) ?_
    refine m_get S hG.1 58 60 4 rfl ec_60 cpX9 wm_500 dX9_signAt_6 rfl (Nat.lt_of_lt_of_le (Nat.le_of_ble_eq_true rfl) hG.2.2.2.1) (by decide) ?_
    obtain ⟨hg_3, hM⟩ := gd_some hM
    refine gi_icmp_ge (tgt := 30) hx hb dX9_signAt_9 (by decide) hg_1 hg_3 (fun c_4 => ?_) (fun c_4 => ?_)
    · replace hM := ifp hM c_4
      refine lv_iconst (v := iI (-1)) hx hb dX9_signAt_30 (by decide) ?_
      cases hM
      exact g_iret S hr hlk hG.1 hG.2.1 dX9_signAt_31 ⟨hG.rc, hG.rs⟩ ⟨rfl, rfl⟩
    · replace hM := ifn hM c_4
      refine lv_iload_n hx hb dX9_signAt_12 rfl (lv_at hl 1 rfl) ?_
      refine lv_aload_n hx hb dX9_signAt_13 rfl (lv_at hl 0 rfl) ?_
      refine m_get (v := .ref (b + ph (Int.toNat (S0 60 3)))) S hG.1 58 60 3 rfl ec_60 cpX9 wm_498 dX9_signAt_14 rfl (Nat.lt_of_lt_of_le (Nat.le_of_ble_eq_true rfl) hG.2.2.2.1) (by decide) ?_
      obtain ⟨hg_5, hM⟩ := gd_some hM
      refine nd_alen S hG hg_5 dX9_signAt_17 ?_
      obtain ⟨hg_6, hM⟩ := gd_some hM
      refine gi_icmp_ge (tgt := 30) hx hb dX9_signAt_18 (by decide) hg_1 hg_6 (fun c_7 => ?_) (fun c_7 => ?_)
      · replace hM := ifp hM c_7
        refine lv_iconst (v := iI (-1)) hx hb dX9_signAt_30 (by decide) ?_
        cases hM
        exact g_iret S hr hlk hG.1 hG.2.1 dX9_signAt_31 ⟨hG.rc, hG.rs⟩ ⟨rfl, rfl⟩
      · replace hM := ifn hM c_7
        refine lv_aload_n hx hb dX9_signAt_21 rfl (lv_at hl 0 rfl) ?_
        refine m_get (v := .ref (b + ph (Int.toNat (S0 60 3)))) S hG.1 58 60 3 rfl ec_60 cpX9 wm_498 dX9_signAt_22 rfl (Nat.lt_of_lt_of_le (Nat.le_of_ble_eq_true rfl) hG.2.2.2.1) (by decide) ?_
        refine lv_iload_n hx hb dX9_signAt_25 rfl (lv_at hl 1 rfl) ?_
        obtain ⟨hg_8, hM⟩ := gd_some hM
        refine nd_bald S hG hg_8 dX9_signAt_26 ?_
        refine lv_goto (tgt := 31) hx hb dX9_signAt_27 (by decide) ?_
        cases hM
        exact g_iret S hr hlk hG.1 hG.2.1 dX9_signAt_31 ⟨hG.rc, hG.rs⟩ ⟨rfl, rfl⟩
def mX8_enlist_61_dO_21 (x_4 : Int) (a1 : Int) : Nat → Int → St → Option (St)
  | 0, _, _ => none
  | f + 1, v_5, S_6 => gd (inI v_5) <| if 8 ≤ v_5 then (some (S_6)) else (gd (dT S_6 a1 1) <| gd (inI (S_6 61 2)) <| if (S_6 61 2) ≤ v_5 then (gd ((dT S_6 (S_6 (Int.toNat a1) 2) 2) ∧ (0 ≤ (x_4 + v_5) ∧ (x_4 + v_5) < 1600)) <| nx (up S_6 (Int.toNat (S_6 (Int.toNat a1) 2)) (x_4 + v_5) 0) fun S_21 => mX8_enlist_61_dO_21 x_4 a1 f (v_5 + 1) S_21) else (gd (0 ≤ v_5 ∧ v_5 < 8) <| gd ((dT S_6 (S_6 (Int.toNat a1) 2) 2) ∧ (0 ≤ (x_4 + v_5) ∧ (x_4 + v_5) < 1600)) <| nx (up S_6 (Int.toNat (S_6 (Int.toNat a1) 2)) (x_4 + v_5) (S_6 62 v_5)) fun S_24 => mX8_enlist_61_dO_21 x_4 a1 f (v_5 + 1) S_24))
def mX8_enlist_61_dO (S0 : St) (a1 : Int) : Option (St) := entG S0 (fun o : St => o) (gd (dT S0 a1 1) <| gd (inI (S0 (Int.toNat a1) 1)) <| if (S0 (Int.toNat a1) 1) < 200 then (nx ((S0 (Int.toNat a1) 1) * 8) fun x_4 => bd1 (mX8_enlist_61_dO_21 x_4 a1 FU 0 S0) fun S_7 => gd (dT S_7 a1 1) <| nx (up S_7 (Int.toNat a1) 1 ((S_7 (Int.toNat a1) 1) + 1)) fun S_11 => some (S_11)) else (some (S0)))
set_option maxHeartbeats 4000000 in
set_option maxRecDepth 100000 in
theorem vX8_enlist_61_dO (l : Launch) {D : va_G} {cy : Nat → ClassId} {b : Nat} {S0 : St} (hn : 102 ≤ nn S0 - 3) (a1 : Int) {o1 : St} (hM : mX8_enlist_61_dO S0 a1 = some o1) : gV l yX8_enlist cX8_enlist 4 0 (nn o1 - nn S0) (zz o1 - zz S0) D cy b (nn S0 - 3) (eG b cy S0) [.ref (b + 59), .ref (b + ph (Int.toNat a1))] (fun u => u = (nn o1 - 3, eG b cy o1)) := by
  refine gV_of (by decide) (Nat.le_of_ble_eq_true rfl) ?_
  intro p e s m args below meth c S hr hlk hin hsz ls hl hG
  have hx := S.1
  have hb := S.2.1
  have hl : lv_has ls 4 [(0, .ref (b + 59)), (1, .ref (b + ph (Int.toNat a1)))] := hl
  replace hG : gW D cy b (nn S0 - 3) s s.heap [] (eG b cy S0) := hG
  obtain ⟨H, eH⟩ : ∃ H, H = s.heap := ⟨_, rfl⟩
  obtain ⟨locs, elocs⟩ : ∃ locs : List Loc, locs = [] := ⟨_, rfl⟩
  rw [← eH, ← elocs] at hG
  rw [← eH, ← elocs]
  clear eH elocs
  unfold mX8_enlist_61_dO at hM
  obtain ⟨hge, hM⟩ := entG_some hM
  replace hG : gX D cy b s H locs S0 0 0 S0 o1 := gX.start hG hsz hn hge
  refine lv_aload_n hx hb dX8_enlist_0 rfl (lv_at hl 1 rfl) ?_
  obtain ⟨hg_1, hM⟩ := gd_some hM
  refine nd_get S hG hg_1 1 wm_1383 dX8_enlist_1 rfl (by decide) ?_
  refine lv_sipush (v := iI 200) hx hb dX8_enlist_4 (by decide) ?_
  obtain ⟨hg_2, hM⟩ := gd_some hM
  refine gi_icmp_lt (tgt := 11) hx hb dX8_enlist_7 (by decide) hg_2 (by decide) (fun c_3 => ?_) (fun c_3 => ?_)
  · replace hM := ifp hM c_3
    refine lv_aload_n hx hb dX8_enlist_11 rfl (lv_at hl 1 rfl) ?_
    refine nd_get S hG hg_1 1 wm_1383 dX8_enlist_12 rfl (by decide) ?_
    refine lv_bipush (v := iI 8) hx hb dX8_enlist_15 (by decide) ?_
    refine gi_mul hx hb dX8_enlist_17 ?_
    refine gi_nm (fun x_4 ex_4 => ?_)
    replace hM := nx_at hM ex_4
    clear ex_4
    refine lv_istore_n (lv' := [(2, .int (iI x_4)), (0, .ref (b + 59)), (1, .ref (b + ph (Int.toNat a1)))]) hx hb dX8_enlist_18 rfl hl (by decide) rfl (fun ls hl => ?_)
    refine lv_iconst (v := iI 0) hx hb dX8_enlist_19 (by decide) ?_
    refine lv_istore_n (lv' := [(3, .int (iI 0)), (2, .int (iI x_4)), (0, .ref (b + 59)), (1, .ref (b + ph (Int.toNat a1)))]) hx hb dX8_enlist_20 rfl hl (by decide) rfl (fun ls hl => ?_)
    obtain ⟨S_7, hc_8, hM⟩ := bd1_some hM
    have hK_9 : ∀ (ce sl : Nat) (H : Heap) (locs : List Loc) (ls : Array Slot), gX D cy b s H locs S_7 ce sl S0 o1 → lv_has ls 4 [(1, .ref (b + ph (Int.toNat a1)))] → W p l e (gRm 0 (nn o1 - nn S0) (zz o1 - zz S0)) s m args below meth c H locs ce sl (gQV D cy b s args below (nn o1 - nn S0) (zz o1 - zz S0) (fun u => u = (nn o1 - 3, eG b cy o1))) (F0 m 59 ls []) := by
      intro ce sl H locs ls hG hl
      refine lv_aload_n hx hb dX8_enlist_59 rfl (lv_at hl 0 rfl) ?_
      refine lv_dup hx hb dX8_enlist_60 rfl ?_
      obtain ⟨hg_10, hM⟩ := gd_some hM
      refine nd_get S hG hg_10 1 wm_1383 dX8_enlist_61 rfl (by decide) ?_
      refine lv_iconst (v := iI 1) hx hb dX8_enlist_64 (by decide) ?_
      refine gi_add hx hb dX8_enlist_65 ?_
      refine nd_put S hG hg_10 1 ((S_7 (Int.toNat a1) 1) + 1) (by decide) wm_1383 dX8_enlist_66 rfl rfl rfl (fun H locs S_11 eS_11 hG => ?_)
      replace hM := nx_at hM eS_11
      clear eS_11
      cases hM
      exact g_vret S hr hlk hG.1 hG.2.1 dX8_enlist_69 ⟨hG.rc, hG.rs⟩ rfl
    have loop_12 : ∀ (f : Nat) (v_5 : Int) (S_6 : St) (ce sl : Nat) (H : Heap) (locs : List Loc) (ls : Array Slot), mX8_enlist_61_dO_21 x_4 a1 f v_5 S_6 = some S_7 → gX D cy b s H locs S_6 ce sl S0 o1 → lv_has ls 4 [(3, .int (iI v_5)), (2, .int (iI x_4)), (0, .ref (b + 59)), (1, .ref (b + ph (Int.toNat a1)))] → W p l e (gRm 0 (nn o1 - nn S0) (zz o1 - zz S0)) s m args below meth c H locs ce sl (gQV D cy b s args below (nn o1 - nn S0) (zz o1 - zz S0) (fun u => u = (nn o1 - 3, eG b cy o1))) (F0 m 21 ls []) := by
      clear hM
      intro f
      induction f with
      | zero => intro v_5 S_6 ce sl H locs ls hM; rw [mX8_enlist_61_dO_21] at hM; cases hM
      | succ f_14 ih_13 =>
        intro v_5 S_6 ce sl H locs ls hM hG hl
        rw [mX8_enlist_61_dO_21] at hM
        refine lv_iload_n hx hb dX8_enlist_21 rfl (lv_at hl 0 rfl) ?_
        refine lv_bipush (v := iI 8) hx hb dX8_enlist_22 (by decide) ?_
        obtain ⟨hg_15, hM⟩ := gd_some hM
        refine gi_icmp_ge (tgt := 59) hx hb dX8_enlist_24 (by decide) hg_15 (by decide) (fun c_16 => ?_) (fun c_16 => ?_)
        · replace hM := ifp hM c_16
          cases hM
          exact hK_9 _ _ H locs ls hG (lv_sub hl [3] rfl)
        · replace hM := ifn hM c_16
          refine lv_aload_n hx hb dX8_enlist_27 rfl (lv_at hl 3 rfl) ?_
          obtain ⟨hg_17, hM⟩ := gd_some hM
          refine nd_get S hG hg_17 2 wm_1385 dX8_enlist_28 rfl (by decide) ?_
          refine lv_iload_n hx hb dX8_enlist_31 rfl (lv_at hl 1 rfl) ?_
          refine lv_iload_n hx hb dX8_enlist_32 rfl (lv_at hl 0 rfl) ?_
          refine gi_add hx hb dX8_enlist_33 ?_
          refine lv_iload_n hx hb dX8_enlist_34 rfl (lv_at hl 0 rfl) ?_
          refine lv_aload_n hx hb dX8_enlist_35 rfl (lv_at hl 2 rfl) ?_
          refine m_get S hG.1 59 61 2 rfl ec_61 cpX8 wm_472 dX8_enlist_36 rfl (Nat.lt_of_lt_of_le (Nat.le_of_ble_eq_true rfl) hG.2.2.2.1) (by decide) ?_
          obtain ⟨hg_18, hM⟩ := gd_some hM
          refine gi_icmp_ge (tgt := 51) hx hb dX8_enlist_39 (by decide) hg_15 hg_18 (fun c_19 => ?_) (fun c_19 => ?_)
          · replace hM := ifp hM c_19
            refine lv_iconst (v := iI 0) hx hb dX8_enlist_51 (by decide) ?_
            obtain ⟨hg_20, hM⟩ := gd_some hM
            refine nd_iast (N := 1600) S hG hg_20.1 (by decide) dX8_enlist_52 hg_20.2 (fun H locs S_21 eS_21 hG => ?_)
            replace hM := nx_at hM eS_21
            clear eS_21
            refine lv_iinc (v := iI (v_5 + 1)) (lv' := [(3, .int (iI (v_5 + 1))), (2, .int (iI x_4)), (0, .ref (b + 59)), (1, .ref (b + ph (Int.toNat a1)))]) hx hb dX8_enlist_53 hl (k := 0) rfl ((iI_add v_5 (1)).trans (congrArg iI (by omega))) (by decide) rfl (fun ls hl => ?_)
            refine lv_goto (tgt := 21) hx hb dX8_enlist_56 (by decide) ?_
            exact ih_13 (v_5 + 1) S_21 _ _ H locs ls hM hG (lv_sub hl [0, 1, 2, 3] rfl)
          · replace hM := ifn hM c_19
            refine lv_aload_n hx hb dX8_enlist_42 rfl (lv_at hl 2 rfl) ?_
            refine m_get S hG.1 59 61 3 rfl ec_61 cpX8 wm_474 dX8_enlist_43 rfl (Nat.lt_of_lt_of_le (Nat.le_of_ble_eq_true rfl) hG.2.2.2.1) (by decide) ?_
            refine lv_iload_n hx hb dX8_enlist_46 rfl (lv_at hl 0 rfl) ?_
            obtain ⟨hg_22, hM⟩ := gd_some hM
            refine mi_ald S hG.1 60 62 rfl ec_62 (Nat.lt_of_lt_of_le (Nat.le_of_ble_eq_true rfl) hG.2.2.2.1) dX8_enlist_47 hg_22 (by decide) ?_
            refine lv_goto (tgt := 52) hx hb dX8_enlist_48 (by decide) ?_
            obtain ⟨hg_23, hM⟩ := gd_some hM
            refine nd_iast (N := 1600) S hG hg_23.1 (by decide) dX8_enlist_52 hg_23.2 (fun H locs S_24 eS_24 hG => ?_)
            replace hM := nx_at hM eS_24
            clear eS_24
            refine lv_iinc (v := iI (v_5 + 1)) (lv' := [(3, .int (iI (v_5 + 1))), (2, .int (iI x_4)), (0, .ref (b + 59)), (1, .ref (b + ph (Int.toNat a1)))]) hx hb dX8_enlist_53 hl (k := 0) rfl ((iI_add v_5 (1)).trans (congrArg iI (by omega))) (by decide) rfl (fun ls hl => ?_)
            refine lv_goto (tgt := 21) hx hb dX8_enlist_56 (by decide) ?_
            exact ih_13 (v_5 + 1) S_24 _ _ H locs ls hM hG (lv_sub hl [0, 1, 2, 3] rfl)
    exact loop_12 FU 0 S0 _ _ H locs ls hc_8 hG (lv_sub hl [0, 1, 2, 3] rfl)
  · replace hM := ifn hM c_3
    cases hM
    exact g_vret S hr hlk hG.1 hG.2.1 dX8_enlist_10 ⟨hG.rc, hG.rs⟩ rfl
theorem wV_8_112 : gWV "GrownKinds$Sequences" 112 yX8_listRingsBy cX8_listRingsBy 10 none := ⟨wm_1409, wm_1411, wm_68, wm_184, wm_1412, by decide +kernel, by decide +kernel⟩
theorem wV_8_104 : gWV "GrownKinds$Sequences" 104 yX8_isFirstTurn cX8_isFirstTurn 2 (some .boolean) := ⟨wm_1397, wm_1399, wm_65, wm_184, wm_1400, by decide +kernel, by decide +kernel⟩
theorem wV_8_108 : gWV "GrownKinds$Sequences" 108 yX8_enlist cX8_enlist 4 none := ⟨wm_1405, wm_1407, wm_67, wm_184, wm_1408, by decide +kernel, by decide +kernel⟩
theorem wV_8_99 : gWV "GrownKinds$Sequences" 99 yX8_listRings cX8_listRings 6 none := ⟨wm_1393, wm_1395, wm_64, wm_184, wm_1396, by decide +kernel, by decide +kernel⟩
def mX8_listRings_61_dO_48 (rec : Nat → Int → Int → Int → Int → Int → St → Option (St)) (z_3 : Int) (a1 : Int) (a2 : Int) (a3 : Int) : Nat → Int → St → Option (St)
  | 0, _, _ => none
  | f + 1, v_9, S_10 => gd (inI v_9) <| if a2 < v_9 then (some (S_10)) else (gd (0 ≤ a1 ∧ a1 < 24) <| bd1 (mX0_rowsLeft_40 S_10 a1 (((S_10 4 a1) - (S_10 61 2)) - 1) (a2 - v_9)) fun r_24 => gd (inL r_24) <| if r_24 ≤ 0 then (mX8_listRings_61_dO_48 rec z_3 a1 a2 a3 f (v_9 + 1) S_10) else (if v_9 = (z_3 / 1024) then (bdG1 S_10 (fun o : St => o) (rec 1 a1 v_9 (z_3 % 1024) a2 a3 S_10) fun S_34 => mX8_listRings_61_dO_48 rec z_3 a1 a2 a3 f (v_9 + 1) S_34) else (bdG1 S_10 (fun o : St => o) (rec 1 a1 v_9 0 a2 a3 S_10) fun S_29 => mX8_listRings_61_dO_48 rec z_3 a1 a2 a3 f (v_9 + 1) S_29)))
def bX8_listRings_61_dO (rec : Nat → Int → Int → Int → Int → Int → St → Option (St)) (S0 : St) (a1 : Int) (a2 : Int) (a3 : Int) : Option (St) := entG S0 (fun o : St => o) (gd (inI a2) <| if a2 = 0 then (bd1 (mX8_isFirstTurn S0) fun r_41 => gd (inI r_41) <| if r_41 = 0 then (some (S0)) else (bdG1 S0 (fun o : St => o) (mX8_enlist_61_dO S0 a3) fun S_45 => some (S_45))) else (bd1 (gd (inI (S0 61 2)) <| if (S0 61 2) = 0 then (some (0)) else (some ((S0 62 0)))) fun z_3 => gd (0 ≤ z_3 ∧ z_3 ≤ 2147483647) <| gd (inI (z_3 / 1024)) <| nx (max 1 (z_3 / 1024)) fun x_8 => bdG1 S0 (fun o : St => o) (mX8_listRings_61_dO_48 rec z_3 a1 a2 a3 FU x_8 S0) fun S_11 => some (S_11)))
set_option maxHeartbeats 4000000 in
set_option maxRecDepth 100000 in
theorem spX8_listRings_61_dO (l : Launch) {D : va_G} {cy : Nat → ClassId} {b : Nat} (rec : Nat → Int → Int → Int → Int → Int → St → Option (St)) (d : Nat) (hd : 2 ≤ d) (hr0 : ∀ (S0 : St) (a1 : Int) (a2 : Int) (a3 : Int) (o1 : St), 102 ≤ nn S0 - 3 → rec 0 a1 a2 a3 0 0 S0 = some o1 → gV l yX8_listRings cX8_listRings 6 d (nn o1 - nn S0) (zz o1 - zz S0) D cy b (nn S0 - 3) (eG b cy S0) [.ref (b + 59), .int (iI a1), .int (iI a2), .ref (b + ph (Int.toNat a3))] (fun u => u = (nn o1 - 3, eG b cy o1))) (hr1 : ∀ (S0 : St) (a1 : Int) (a2 : Int) (a3 : Int) (a4 : Int) (a5 : Int) (o1 : St), 102 ≤ nn S0 - 3 → rec 1 a1 a2 a3 a4 a5 S0 = some o1 → gV l yX8_listRingsBy cX8_listRingsBy 10 d (nn o1 - nn S0) (zz o1 - zz S0) D cy b (nn S0 - 3) (eG b cy S0) [.ref (b + 59), .int (iI a1), .int (iI a2), .int (iI a3), .int (iI a4), .ref (b + ph (Int.toNat a5))] (fun u => u = (nn o1 - 3, eG b cy o1))) (S0 : St) (a1 : Int) (a2 : Int) (a3 : Int) (o1 : St) (hn : 102 ≤ nn S0 - 3) (hM : bX8_listRings_61_dO rec S0 a1 a2 a3 = some o1) : gV l yX8_listRings cX8_listRings 6 (d + 1) (nn o1 - nn S0) (zz o1 - zz S0) D cy b (nn S0 - 3) (eG b cy S0) [.ref (b + 59), .int (iI a1), .int (iI a2), .ref (b + ph (Int.toNat a3))] (fun u => u = (nn o1 - 3, eG b cy o1)) := by
  refine gV_of (by decide) (Nat.le_of_ble_eq_true rfl) ?_
  intro p e s m args below meth c S hr hlk hin hsz ls hl hG
  have hx := S.1
  have hb := S.2.1
  have hl : lv_has ls 6 [(0, .ref (b + 59)), (1, .int (iI a1)), (2, .int (iI a2)), (3, .ref (b + ph (Int.toNat a3)))] := hl
  replace hG : gW D cy b (nn S0 - 3) s s.heap [] (eG b cy S0) := hG
  obtain ⟨H, eH⟩ : ∃ H, H = s.heap := ⟨_, rfl⟩
  obtain ⟨locs, elocs⟩ : ∃ locs : List Loc, locs = [] := ⟨_, rfl⟩
  rw [← eH, ← elocs] at hG
  rw [← eH, ← elocs]
  clear eH elocs
  unfold bX8_listRings_61_dO at hM
  obtain ⟨hge, hM⟩ := entG_some hM
  replace hG : gX D cy b s H locs S0 0 0 S0 o1 := gX.start hG hsz hn hge
  refine lv_iload_n hx hb dX8_listRings_0 rfl (lv_at hl 2 rfl) ?_
  obtain ⟨hg_1, hM⟩ := gd_some hM
  refine gi_if_ne (tgt := 17) hx hb dX8_listRings_1 (by decide) hg_1 (fun c_2 => ?_) (fun c_2 => ?_)
  · replace hM := ifn hM c_2
    refine lv_aload_n hx hb dX8_listRings_17 rfl (lv_at hl 0 rfl) ?_
    refine m_get S hG.1 59 61 2 rfl ec_61 cpX8 wm_472 dX8_listRings_18 rfl (Nat.lt_of_lt_of_le (Nat.le_of_ble_eq_true rfl) hG.2.2.2.1) (by decide) ?_
    obtain ⟨z_3, hc_4, hM⟩ := bd1_some hM
    have hK_5 : ∀ (ce sl : Nat) (H : Heap) (locs : List Loc) (ls : Array Slot), gX D cy b s H locs S0 ce sl S0 o1 → lv_has ls 6 [(0, .ref (b + 59)), (1, .int (iI a1)), (2, .int (iI a2)), (3, .ref (b + ph (Int.toNat a3)))] → W p l e (gRm (d + 1) (nn o1 - nn S0) (zz o1 - zz S0)) s m args below meth c H locs ce sl (gQV D cy b s args below (nn o1 - nn S0) (zz o1 - zz S0) (fun u => u = (nn o1 - 3, eG b cy o1))) (F0 m 34 ls [.int (iI z_3)]) := by
      intro ce sl H locs ls hG hl
      refine lv_istore (lv' := [(4, .int (iI z_3)), (0, .ref (b + 59)), (1, .int (iI a1)), (2, .int (iI a2)), (3, .ref (b + ph (Int.toNat a3)))]) hx hb dX8_listRings_34 hl (by decide) rfl (fun ls hl => ?_)
      refine lv_iconst (v := iI 1) hx hb dX8_listRings_36 (by decide) ?_
      refine lv_iload hx hb dX8_listRings_37 (lv_at hl 0 rfl) ?_
      refine lv_sipush (v := iI 1024) hx hb dX8_listRings_39 (by decide) ?_
      obtain ⟨hg_6, hM⟩ := gd_some hM
      refine gi_div hx hb dX8_listRings_42 hg_6 (by decide) ?_
      obtain ⟨hg_7, hM⟩ := gd_some hM
      refine gi_max S wm_1366 wm_1338 wm_190 wm_1339 hl.1 dX8_listRings_43 (by refine ⟨?_, ?_, hG.rc, hG.rs⟩ <;> first | exact Nat.le_of_ble_eq_true rfl | (simp only [gRm]; omega)) (by decide) hg_7 ?_
      refine gi_nm (fun x_8 ex_8 => ?_)
      replace hM := nx_at hM ex_8
      clear ex_8
      refine lv_istore (lv' := [(5, .int (iI x_8)), (4, .int (iI z_3)), (0, .ref (b + 59)), (1, .int (iI a1)), (2, .int (iI a2)), (3, .ref (b + ph (Int.toNat a3)))]) hx hb dX8_listRings_46 hl (by decide) rfl (fun ls hl => ?_)
      obtain ⟨S_11, hc_12, hg_13, hg_14, hM⟩ := bdG1_some hM
      have hub_15 : gle S_11 o1 := ⟨Nat.le_trans hg_14.1 gle_rfl.1, Nat.le_trans hg_14.2 gle_rfl.2⟩
      have hK_16 : ∀ (ce sl : Nat) (H : Heap) (locs : List Loc) (ls : Array Slot), gX D cy b s H locs S_11 ce sl S0 o1 → lv_has ls 6 [] → W p l e (gRm (d + 1) (nn o1 - nn S0) (zz o1 - zz S0)) s m args below meth c H locs ce sl (gQV D cy b s args below (nn o1 - nn S0) (zz o1 - zz S0) (fun u => u = (nn o1 - 3, eG b cy o1))) (F0 m 123 ls []) := by
        intro ce sl H locs ls hG hl
        cases hM
        exact g_vret S hr hlk hG.1 hG.2.1 dX8_listRings_123 ⟨hG.rc, hG.rs⟩ rfl
      have loop_17 : ∀ (f : Nat) (v_9 : Int) (S_10 : St) (ce sl : Nat) (H : Heap) (locs : List Loc) (ls : Array Slot), mX8_listRings_61_dO_48 rec z_3 a1 a2 a3 f v_9 S_10 = some S_11 → gX D cy b s H locs S_10 ce sl S0 o1 → lv_has ls 6 [(5, .int (iI v_9)), (4, .int (iI z_3)), (0, .ref (b + 59)), (1, .int (iI a1)), (2, .int (iI a2)), (3, .ref (b + ph (Int.toNat a3)))] → W p l e (gRm (d + 1) (nn o1 - nn S0) (zz o1 - zz S0)) s m args below meth c H locs ce sl (gQV D cy b s args below (nn o1 - nn S0) (zz o1 - zz S0) (fun u => u = (nn o1 - 3, eG b cy o1))) (F0 m 48 ls []) := by
        clear hM
        intro f
        induction f with
        | zero => intro v_9 S_10 ce sl H locs ls hM; rw [mX8_listRings_61_dO_48] at hM; cases hM
        | succ f_19 ih_18 =>
          intro v_9 S_10 ce sl H locs ls hM hG hl
          rw [mX8_listRings_61_dO_48] at hM
          refine lv_iload hx hb dX8_listRings_48 (lv_at hl 0 rfl) ?_
          refine lv_iload_n hx hb dX8_listRings_50 rfl (lv_at hl 4 rfl) ?_
          obtain ⟨hg_20, hM⟩ := gd_some hM
          refine gi_icmp_gt (tgt := 123) hx hb dX8_listRings_51 (by decide) hg_20 hg_1 (fun c_21 => ?_) (fun c_21 => ?_)
          · replace hM := ifp hM c_21
            cases hM
            exact hK_16 _ _ H locs ls hG (lv_sub hl [] rfl)
          · replace hM := ifn hM c_21
            refine lv_aload_n hx hb dX8_listRings_54 rfl (lv_at hl 2 rfl) ?_
            refine m_get S hG.1 59 61 1 rfl ec_61 cpX8 wm_471 dX8_listRings_55 rfl (Nat.lt_of_lt_of_le (Nat.le_of_ble_eq_true rfl) hG.2.2.2.1) (by decide) ?_
            refine lv_iload_n hx hb dX8_listRings_58 rfl (lv_at hl 3 rfl) ?_
            refine lv_aload_n hx hb dX8_listRings_59 rfl (lv_at hl 2 rfl) ?_
            refine m_get S hG.1 59 61 0 rfl ec_61 cpX8 wm_470 dX8_listRings_60 rfl (Nat.lt_of_lt_of_le (Nat.le_of_ble_eq_true rfl) hG.2.2.2.1) (by decide) ?_
            refine m_get S hG.1 2 2 6 rfl ec_2 cpX2 wm_241 dX8_listRings_63 rfl (Nat.lt_of_lt_of_le (Nat.le_of_ble_eq_true rfl) hG.2.2.2.1) (by decide) ?_
            refine lv_iload_n hx hb dX8_listRings_66 rfl (lv_at hl 3 rfl) ?_
            obtain ⟨hg_22, hM⟩ := gd_some hM
            refine mi_ald S hG.1 4 4 rfl ec_4 (Nat.lt_of_lt_of_le (Nat.le_of_ble_eq_true rfl) hG.2.2.2.1) dX8_listRings_67 hg_22 (by decide) ?_
            refine lv_aload_n hx hb dX8_listRings_68 rfl (lv_at hl 2 rfl) ?_
            refine m_get S hG.1 59 61 2 rfl ec_61 cpX8 wm_472 dX8_listRings_69 rfl (Nat.lt_of_lt_of_le (Nat.le_of_ble_eq_true rfl) hG.2.2.2.1) (by decide) ?_
            refine gi_sub hx hb dX8_listRings_72 ?_
            refine lv_iconst (v := iI 1) hx hb dX8_listRings_73 (by decide) ?_
            refine gi_sub hx hb dX8_listRings_74 ?_
            refine lv_iload_n hx hb dX8_listRings_75 rfl (lv_at hl 4 rfl) ?_
            refine lv_iload hx hb dX8_listRings_76 (lv_at hl 0 rfl) ?_
            refine gi_sub hx hb dX8_listRings_78 ?_
            obtain ⟨r_24, hc_23, hM⟩ := bd1_some hM
            refine g_vl (As := [.int (iI a1), .int (iI (((S_10 4 a1) - (S_10 61 2)) - 1)), .int (iI (a2 - v_9))]) (rest := []) S hG.1 hG.2.1 (vX0_rowsLeft_40 l hG.2.2.2.1 a1 (((S_10 4 a1) - (S_10 61 2)) - 1) (a2 - v_9) hc_23) wV_8_43 (ec_40 (b := b) (cy := cy) (X := XD b cy S_10) _) cpX0 (Nat.lt_of_lt_of_le (Nat.le_of_ble_eq_true rfl) hG.2.2.2.1) dX8_listRings_79 rfl hl.1 (ar := 3) (by decide +kernel) rfl (by refine ⟨?_, ?_, hG.rc, hG.rs⟩ <;> first | exact Nat.le_of_ble_eq_true rfl | (simp only [gRm]; omega)) (Nat.le_of_ble_eq_true rfl) (fun rv uu H locs hp hGc => ?_)
            obtain ⟨rfl, rfl⟩ := hp
            refine wz ?_
            replace hG := hG.same hGc
            clear hGc
            refine lv_lconst (v := jJ 0) hx hb dX8_listRings_82 (by decide) ?_
            obtain ⟨hg_25, hM⟩ := gd_some hM
            refine gj_cmp_le (tgt := 117) hx hb dX8_listRings_83 dX8_listRings_84 (by decide) hg_25 (by decide) (fun c_26 => ?_) (fun c_26 => ?_)
            · replace hM := ifp hM c_26
              refine lv_iinc (v := iI (v_9 + 1)) (lv' := [(5, .int (iI (v_9 + 1))), (4, .int (iI z_3)), (0, .ref (b + 59)), (1, .int (iI a1)), (2, .int (iI a2)), (3, .ref (b + ph (Int.toNat a3)))]) hx hb dX8_listRings_117 hl (k := 0) rfl ((iI_add v_9 (1)).trans (congrArg iI (by omega))) (by decide) rfl (fun ls hl => ?_)
              refine lv_goto (tgt := 48) hx hb dX8_listRings_120 (by decide) ?_
              exact ih_18 (v_9 + 1) S_10 _ _ H locs ls hM hG (lv_sub hl [0, 1, 2, 3, 4, 5] rfl)
            · replace hM := ifn hM c_26
              refine lv_aload_n hx hb dX8_listRings_87 rfl (lv_at hl 2 rfl) ?_
              refine lv_iload_n hx hb dX8_listRings_88 rfl (lv_at hl 3 rfl) ?_
              refine lv_iload hx hb dX8_listRings_89 (lv_at hl 0 rfl) ?_
              refine lv_iload hx hb dX8_listRings_91 (lv_at hl 0 rfl) ?_
              refine lv_iload hx hb dX8_listRings_93 (lv_at hl 1 rfl) ?_
              refine lv_sipush (v := iI 1024) hx hb dX8_listRings_95 (by decide) ?_
              refine gi_div hx hb dX8_listRings_98 hg_6 (by decide) ?_
              refine gi_icmp_ne (tgt := 111) hx hb dX8_listRings_99 (by decide) hg_20 hg_7 (fun c_27 => ?_) (fun c_27 => ?_)
              · replace hM := ifn hM c_27
                refine lv_iconst (v := iI 0) hx hb dX8_listRings_111 (by decide) ?_
                refine lv_iload_n hx hb dX8_listRings_112 rfl (lv_at hl 4 rfl) ?_
                refine lv_aload_n hx hb dX8_listRings_113 rfl (lv_at hl 5 rfl) ?_
                obtain ⟨S_29, hc_28, hg_30, hg_31, hM⟩ := bdG1_some hM
                have hg_32 : gle S_29 o1 := ⟨Nat.le_trans hg_31.1 hub_15.1, Nat.le_trans hg_31.2 hub_15.2⟩
                refine g_vv (As := [.int (iI a1), .int (iI v_9), .int (iI 0), .int (iI a2), .ref (b + ph (Int.toNat a3))]) (rest := []) S hG.1 hG.2.1 (hr1 _ a1 v_9 0 a2 a3 _ hG.2.2.2.1 hc_28) wV_8_112 (ec_61 (b := b) (cy := cy) (X := XD b cy S_10) _) cpX8 (Nat.lt_of_lt_of_le (Nat.le_of_ble_eq_true rfl) hG.2.2.2.1) dX8_listRings_114 rfl hl.1 (ar := 5) (by decide +kernel) rfl (by refine ⟨?_, ?_, hG.gc hg_30 hg_32, hG.gs hg_30 hg_32⟩ <;> first | exact Nat.le_of_ble_eq_true rfl | (simp only [gRm]; omega)) (Nat.le_of_ble_eq_true rfl) (fun uu H locs hp hGc => ?_)
                obtain rfl := hp
                replace hG := hG.grow hg_30 hg_32 hGc
                clear hGc
                refine lv_iinc (v := iI (v_9 + 1)) (lv' := [(5, .int (iI (v_9 + 1))), (4, .int (iI z_3)), (0, .ref (b + 59)), (1, .int (iI a1)), (2, .int (iI a2)), (3, .ref (b + ph (Int.toNat a3)))]) hx hb dX8_listRings_117 hl (k := 0) rfl ((iI_add v_9 (1)).trans (congrArg iI (by omega))) (by decide) rfl (fun ls hl => ?_)
                refine lv_goto (tgt := 48) hx hb dX8_listRings_120 (by decide) ?_
                exact ih_18 (v_9 + 1) S_29 _ _ H locs ls hM hG (lv_sub hl [0, 1, 2, 3, 4, 5] rfl)
              · replace hM := ifp hM c_27
                refine lv_iload hx hb dX8_listRings_102 (lv_at hl 1 rfl) ?_
                refine lv_sipush (v := iI 1024) hx hb dX8_listRings_104 (by decide) ?_
                refine gi_rem hx hb dX8_listRings_107 hg_6 (by decide) ?_
                refine lv_goto (tgt := 112) hx hb dX8_listRings_108 (by decide) ?_
                refine lv_iload_n hx hb dX8_listRings_112 rfl (lv_at hl 4 rfl) ?_
                refine lv_aload_n hx hb dX8_listRings_113 rfl (lv_at hl 5 rfl) ?_
                obtain ⟨S_34, hc_33, hg_35, hg_36, hM⟩ := bdG1_some hM
                have hg_37 : gle S_34 o1 := ⟨Nat.le_trans hg_36.1 hub_15.1, Nat.le_trans hg_36.2 hub_15.2⟩
                refine g_vv (As := [.int (iI a1), .int (iI v_9), .int (iI (z_3 % 1024)), .int (iI a2), .ref (b + ph (Int.toNat a3))]) (rest := []) S hG.1 hG.2.1 (hr1 _ a1 v_9 (z_3 % 1024) a2 a3 _ hG.2.2.2.1 hc_33) wV_8_112 (ec_61 (b := b) (cy := cy) (X := XD b cy S_10) _) cpX8 (Nat.lt_of_lt_of_le (Nat.le_of_ble_eq_true rfl) hG.2.2.2.1) dX8_listRings_114 rfl hl.1 (ar := 5) (by decide +kernel) rfl (by refine ⟨?_, ?_, hG.gc hg_35 hg_37, hG.gs hg_35 hg_37⟩ <;> first | exact Nat.le_of_ble_eq_true rfl | (simp only [gRm]; omega)) (Nat.le_of_ble_eq_true rfl) (fun uu H locs hp hGc => ?_)
                obtain rfl := hp
                replace hG := hG.grow hg_35 hg_37 hGc
                clear hGc
                refine lv_iinc (v := iI (v_9 + 1)) (lv' := [(5, .int (iI (v_9 + 1))), (4, .int (iI z_3)), (0, .ref (b + 59)), (1, .int (iI a1)), (2, .int (iI a2)), (3, .ref (b + ph (Int.toNat a3)))]) hx hb dX8_listRings_117 hl (k := 0) rfl ((iI_add v_9 (1)).trans (congrArg iI (by omega))) (by decide) rfl (fun ls hl => ?_)
                refine lv_goto (tgt := 48) hx hb dX8_listRings_120 (by decide) ?_
                exact ih_18 (v_9 + 1) S_34 _ _ H locs ls hM hG (lv_sub hl [0, 1, 2, 3, 4, 5] rfl)
      exact loop_17 FU x_8 S0 _ _ H locs ls hc_12 hG (lv_sub hl [0, 1, 2, 3, 4, 5] rfl)
    clear hM
    replace hM := hc_4
    obtain ⟨hg_38, hM⟩ := gd_some hM
    refine gi_if_ne (tgt := 28) hx hb dX8_listRings_21 (by decide) hg_38 (fun c_39 => ?_) (fun c_39 => ?_)
    · replace hM := ifn hM c_39
      refine lv_aload_n hx hb dX8_listRings_28 rfl (lv_at hl 0 rfl) ?_
      refine m_get S hG.1 59 61 3 rfl ec_61 cpX8 wm_474 dX8_listRings_29 rfl (Nat.lt_of_lt_of_le (Nat.le_of_ble_eq_true rfl) hG.2.2.2.1) (by decide) ?_
      refine lv_iconst (v := iI 0) hx hb dX8_listRings_32 (by decide) ?_
      refine mi_ald S hG.1 60 62 rfl ec_62 (Nat.lt_of_lt_of_le (Nat.le_of_ble_eq_true rfl) hG.2.2.2.1) dX8_listRings_33 (by decide) (by decide) ?_
      cases hM
      exact hK_5 _ _ H locs ls hG (lv_sub hl [0, 1, 2, 3] rfl)
    · replace hM := ifp hM c_39
      refine lv_iconst (v := iI 0) hx hb dX8_listRings_24 (by decide) ?_
      refine lv_goto (tgt := 34) hx hb dX8_listRings_25 (by decide) ?_
      cases hM
      exact hK_5 _ _ H locs ls hG (lv_sub hl [0, 1, 2, 3] rfl)
  · replace hM := ifp hM c_2
    refine lv_aload_n hx hb dX8_listRings_4 rfl (lv_at hl 0 rfl) ?_
    obtain ⟨r_41, hc_40, hM⟩ := bd1_some hM
    refine g_vi (As := []) (rest := []) S hG.1 hG.2.1 (vX8_isFirstTurn l hG.2.2.2.1  hc_40) wV_8_104 (ec_61 (b := b) (cy := cy) (X := XD b cy S0) _) cpX8 (Nat.lt_of_lt_of_le (Nat.le_of_ble_eq_true rfl) hG.2.2.2.1) dX8_listRings_5 rfl hl.1 (ar := 0) (by decide +kernel) rfl (by refine ⟨?_, ?_, hG.rc, hG.rs⟩ <;> first | exact Nat.le_of_ble_eq_true rfl | (simp only [gRm]; omega)) (Nat.le_of_ble_eq_true rfl) (fun rv uu H locs hp hGc => ?_)
    obtain ⟨rfl, rfl⟩ := hp
    refine wz ?_
    replace hG := hG.same hGc
    clear hGc
    obtain ⟨hg_42, hM⟩ := gd_some hM
    refine gi_if_eq (tgt := 16) hx hb dX8_listRings_8 (by decide) hg_42 (fun c_43 => ?_) (fun c_43 => ?_)
    · replace hM := ifp hM c_43
      cases hM
      exact g_vret S hr hlk hG.1 hG.2.1 dX8_listRings_16 ⟨hG.rc, hG.rs⟩ rfl
    · replace hM := ifn hM c_43
      refine lv_aload_n hx hb dX8_listRings_11 rfl (lv_at hl 0 rfl) ?_
      refine lv_aload_n hx hb dX8_listRings_12 rfl (lv_at hl 3 rfl) ?_
      obtain ⟨S_45, hc_44, hg_46, hg_47, hM⟩ := bdG1_some hM
      have hg_48 : gle S_45 o1 := ⟨Nat.le_trans hg_47.1 gle_rfl.1, Nat.le_trans hg_47.2 gle_rfl.2⟩
      refine g_vv (As := [.ref (b + ph (Int.toNat a3))]) (rest := []) S hG.1 hG.2.1 (vX8_enlist_61_dO l hG.2.2.2.1 a3 hc_44) wV_8_108 (ec_61 (b := b) (cy := cy) (X := XD b cy S0) _) cpX8 (Nat.lt_of_lt_of_le (Nat.le_of_ble_eq_true rfl) hG.2.2.2.1) dX8_listRings_13 rfl hl.1 (ar := 1) (by decide +kernel) rfl (by refine ⟨?_, ?_, hG.gc hg_46 hg_48, hG.gs hg_46 hg_48⟩ <;> first | exact Nat.le_of_ble_eq_true rfl | (simp only [gRm]; omega)) (Nat.le_of_ble_eq_true rfl) (fun uu H locs hp hGc => ?_)
      obtain rfl := hp
      replace hG := hG.grow hg_46 hg_48 hGc
      clear hGc
      cases hM
      exact g_vret S hr hlk hG.1 hG.2.1 dX8_listRings_16 ⟨hG.rc, hG.rs⟩ rfl
def mX8_listRingsBy_61_dO_37 (rec : Nat → Int → Int → Int → Int → Int → St → Option (St)) (x_7 : Int) (x_1 : Int) (a1 : Int) (a2 : Int) (a4 : Int) (a5 : Int) : Nat → Int → St → Option (St)
  | 0, _, _ => none
  | f + 1, v_8, S_9 => gd (inI v_8) <| gd ((inL v_8) ∧ (inL x_7)) <| if x_7 ≤ v_8 then (some (S_9)) else (gd (0 ≤ x_1 ∧ x_1 < 8) <| nx (up S_9 62 x_1 ((a2 * 1024) + v_8)) fun S_23 => nx (up S_23 61 2 (x_1 + 1)) fun S_24 => bdG1 S_24 (fun o : St => o) (rec 0 a1 (a4 - a2) a5 0 0 S_24) fun S_26 => nx (up S_26 61 2 x_1) fun S_30 => mX8_listRingsBy_61_dO_37 rec x_7 x_1 a1 a2 a4 a5 f (v_8 + 1) S_30)
def bX8_listRingsBy_61_dO (rec : Nat → Int → Int → Int → Int → Int → St → Option (St)) (S0 : St) (a1 : Int) (a2 : Int) (a3 : Int) (a4 : Int) (a5 : Int) : Option (St) := entG S0 (fun o : St => o) (nx (S0 61 2) fun x_1 => gd (inI x_1) <| if x_1 < 8 then (bd1 (mX0_of_40 S0 (S0 61 5) a2) fun r_5 => gd (inL r_5) <| nx (min 1024 r_5) fun x_7 => bdG1 S0 (fun o : St => o) (mX8_listRingsBy_61_dO_37 rec x_7 x_1 a1 a2 a4 a5 FU a3 S0) fun S_10 => some (S_10)) else (some (S0)))
set_option maxHeartbeats 4000000 in
set_option maxRecDepth 100000 in
theorem spX8_listRingsBy_61_dO (l : Launch) {D : va_G} {cy : Nat → ClassId} {b : Nat} (rec : Nat → Int → Int → Int → Int → Int → St → Option (St)) (d : Nat) (hd : 2 ≤ d) (hr0 : ∀ (S0 : St) (a1 : Int) (a2 : Int) (a3 : Int) (o1 : St), 102 ≤ nn S0 - 3 → rec 0 a1 a2 a3 0 0 S0 = some o1 → gV l yX8_listRings cX8_listRings 6 d (nn o1 - nn S0) (zz o1 - zz S0) D cy b (nn S0 - 3) (eG b cy S0) [.ref (b + 59), .int (iI a1), .int (iI a2), .ref (b + ph (Int.toNat a3))] (fun u => u = (nn o1 - 3, eG b cy o1))) (hr1 : ∀ (S0 : St) (a1 : Int) (a2 : Int) (a3 : Int) (a4 : Int) (a5 : Int) (o1 : St), 102 ≤ nn S0 - 3 → rec 1 a1 a2 a3 a4 a5 S0 = some o1 → gV l yX8_listRingsBy cX8_listRingsBy 10 d (nn o1 - nn S0) (zz o1 - zz S0) D cy b (nn S0 - 3) (eG b cy S0) [.ref (b + 59), .int (iI a1), .int (iI a2), .int (iI a3), .int (iI a4), .ref (b + ph (Int.toNat a5))] (fun u => u = (nn o1 - 3, eG b cy o1))) (S0 : St) (a1 : Int) (a2 : Int) (a3 : Int) (a4 : Int) (a5 : Int) (o1 : St) (hn : 102 ≤ nn S0 - 3) (hM : bX8_listRingsBy_61_dO rec S0 a1 a2 a3 a4 a5 = some o1) : gV l yX8_listRingsBy cX8_listRingsBy 10 (d + 1) (nn o1 - nn S0) (zz o1 - zz S0) D cy b (nn S0 - 3) (eG b cy S0) [.ref (b + 59), .int (iI a1), .int (iI a2), .int (iI a3), .int (iI a4), .ref (b + ph (Int.toNat a5))] (fun u => u = (nn o1 - 3, eG b cy o1)) := by
  refine gV_of (by decide) (Nat.le_of_ble_eq_true rfl) ?_
  intro p e s m args below meth c S hr hlk hin hsz ls hl hG
  have hx := S.1
  have hb := S.2.1
  have hl : lv_has ls 10 [(0, .ref (b + 59)), (1, .int (iI a1)), (2, .int (iI a2)), (3, .int (iI a3)), (4, .int (iI a4)), (5, .ref (b + ph (Int.toNat a5)))] := hl
  replace hG : gW D cy b (nn S0 - 3) s s.heap [] (eG b cy S0) := hG
  obtain ⟨H, eH⟩ : ∃ H, H = s.heap := ⟨_, rfl⟩
  obtain ⟨locs, elocs⟩ : ∃ locs : List Loc, locs = [] := ⟨_, rfl⟩
  rw [← eH, ← elocs] at hG
  rw [← eH, ← elocs]
  clear eH elocs
  unfold bX8_listRingsBy_61_dO at hM
  obtain ⟨hge, hM⟩ := entG_some hM
  replace hG : gX D cy b s H locs S0 0 0 S0 o1 := gX.start hG hsz hn hge
  refine lv_aload_n hx hb dX8_listRingsBy_0 rfl (lv_at hl 0 rfl) ?_
  refine m_get S hG.1 59 61 2 rfl ec_61 cpX8 wm_472 dX8_listRingsBy_1 rfl (Nat.lt_of_lt_of_le (Nat.le_of_ble_eq_true rfl) hG.2.2.2.1) (by decide) ?_
  refine gi_nm (fun x_1 ex_1 => ?_)
  replace hM := nx_at hM ex_1
  clear ex_1
  refine lv_istore (lv' := [(6, .int (iI x_1)), (0, .ref (b + 59)), (1, .int (iI a1)), (2, .int (iI a2)), (3, .int (iI a3)), (4, .int (iI a4)), (5, .ref (b + ph (Int.toNat a5)))]) hx hb dX8_listRingsBy_4 hl (by decide) rfl (fun ls hl => ?_)
  refine lv_iload hx hb dX8_listRingsBy_6 (lv_at hl 0 rfl) ?_
  refine lv_bipush (v := iI 8) hx hb dX8_listRingsBy_8 (by decide) ?_
  obtain ⟨hg_2, hM⟩ := gd_some hM
  refine gi_icmp_lt (tgt := 14) hx hb dX8_listRingsBy_10 (by decide) hg_2 (by decide) (fun c_3 => ?_) (fun c_3 => ?_)
  · replace hM := ifp hM c_3
    refine lv_ldc2 (v := 1024) hx hb S.2.2.2.1 (S.2.2.2.2 _ wm_1358) dX8_listRingsBy_14 ?_
    refine gj_as 1024 (by decide) ?_
    refine lv_aload_n hx hb dX8_listRingsBy_17 rfl (lv_at hl 1 rfl) ?_
    refine m_get S hG.1 59 61 1 rfl ec_61 cpX8 wm_471 dX8_listRingsBy_18 rfl (Nat.lt_of_lt_of_le (Nat.le_of_ble_eq_true rfl) hG.2.2.2.1) (by decide) ?_
    refine lv_aload_n hx hb dX8_listRingsBy_21 rfl (lv_at hl 1 rfl) ?_
    refine m_get S hG.1 59 61 5 rfl ec_61 cpX8 wm_477 dX8_listRingsBy_22 rfl (Nat.lt_of_lt_of_le (Nat.le_of_ble_eq_true rfl) hG.2.2.2.1) (by decide) ?_
    refine lv_iload_n hx hb dX8_listRingsBy_25 rfl (lv_at hl 3 rfl) ?_
    obtain ⟨r_5, hc_4, hM⟩ := bd1_some hM
    refine g_vl (As := [.int (iI (S0 61 5)), .int (iI a2)]) (rest := [.long (jJ 1024)]) S hG.1 hG.2.1 (vX0_of_40 l hG.2.2.2.1 (S0 61 5) a2 hc_4) wV_8_49 (ec_40 (b := b) (cy := cy) (X := XD b cy S0) _) cpX0 (Nat.lt_of_lt_of_le (Nat.le_of_ble_eq_true rfl) hG.2.2.2.1) dX8_listRingsBy_26 rfl hl.1 (ar := 2) (by decide +kernel) rfl (by refine ⟨?_, ?_, hG.rc, hG.rs⟩ <;> first | exact Nat.le_of_ble_eq_true rfl | (simp only [gRm]; omega)) (Nat.le_of_ble_eq_true rfl) (fun rv uu H locs hp hGc => ?_)
    obtain ⟨rfl, rfl⟩ := hp
    refine wz ?_
    replace hG := hG.same hGc
    clear hGc
    obtain ⟨hg_6, hM⟩ := gd_some hM
    refine gj_min S wm_1332 wm_1149 wm_190 wm_1150 hl.1 dX8_listRingsBy_29 (by refine ⟨?_, ?_, hG.rc, hG.rs⟩ <;> first | exact Nat.le_of_ble_eq_true rfl | (simp only [gRm]; omega)) (by decide) hg_6 ?_
    refine gj_nm (fun x_7 ex_7 => ?_)
    replace hM := nx_at hM ex_7
    clear ex_7
    refine lv_lstore (lv' := [(7, .long (jJ x_7)), (6, .int (iI x_1)), (0, .ref (b + 59)), (1, .int (iI a1)), (2, .int (iI a2)), (3, .int (iI a3)), (4, .int (iI a4)), (5, .ref (b + ph (Int.toNat a5)))]) hx hb dX8_listRingsBy_32 hl (by decide) rfl (fun ls hl => ?_)
    refine lv_iload_n hx hb dX8_listRingsBy_34 rfl (lv_at hl 5 rfl) ?_
    refine lv_istore (lv' := [(9, .int (iI a3)), (7, .long (jJ x_7)), (6, .int (iI x_1)), (0, .ref (b + 59)), (1, .int (iI a1)), (2, .int (iI a2)), (3, .int (iI a3)), (4, .int (iI a4)), (5, .ref (b + ph (Int.toNat a5)))]) hx hb dX8_listRingsBy_35 hl (by decide) rfl (fun ls hl => ?_)
    obtain ⟨S_10, hc_11, hg_12, hg_13, hM⟩ := bdG1_some hM
    have hub_14 : gle S_10 o1 := ⟨Nat.le_trans hg_13.1 gle_rfl.1, Nat.le_trans hg_13.2 gle_rfl.2⟩
    have hK_15 : ∀ (ce sl : Nat) (H : Heap) (locs : List Loc) (ls : Array Slot), gX D cy b s H locs S_10 ce sl S0 o1 → lv_has ls 10 [] → W p l e (gRm (d + 1) (nn o1 - nn S0) (zz o1 - zz S0)) s m args below meth c H locs ce sl (gQV D cy b s args below (nn o1 - nn S0) (zz o1 - zz S0) (fun u => u = (nn o1 - 3, eG b cy o1))) (F0 m 92 ls []) := by
      intro ce sl H locs ls hG hl
      cases hM
      exact g_vret S hr hlk hG.1 hG.2.1 dX8_listRingsBy_92 ⟨hG.rc, hG.rs⟩ rfl
    have loop_16 : ∀ (f : Nat) (v_8 : Int) (S_9 : St) (ce sl : Nat) (H : Heap) (locs : List Loc) (ls : Array Slot), mX8_listRingsBy_61_dO_37 rec x_7 x_1 a1 a2 a4 a5 f v_8 S_9 = some S_10 → gX D cy b s H locs S_9 ce sl S0 o1 → lv_has ls 10 [(9, .int (iI v_8)), (7, .long (jJ x_7)), (6, .int (iI x_1)), (0, .ref (b + 59)), (1, .int (iI a1)), (2, .int (iI a2)), (4, .int (iI a4)), (5, .ref (b + ph (Int.toNat a5)))] → W p l e (gRm (d + 1) (nn o1 - nn S0) (zz o1 - zz S0)) s m args below meth c H locs ce sl (gQV D cy b s args below (nn o1 - nn S0) (zz o1 - zz S0) (fun u => u = (nn o1 - 3, eG b cy o1))) (F0 m 37 ls []) := by
      clear hM
      intro f
      induction f with
      | zero => intro v_8 S_9 ce sl H locs ls hM; rw [mX8_listRingsBy_61_dO_37] at hM; cases hM
      | succ f_18 ih_17 =>
        intro v_8 S_9 ce sl H locs ls hM hG hl
        rw [mX8_listRingsBy_61_dO_37] at hM
        refine lv_iload hx hb dX8_listRingsBy_37 (lv_at hl 0 rfl) ?_
        obtain ⟨hg_19, hM⟩ := gd_some hM
        refine gi_i2l hx hb dX8_listRingsBy_39 hg_19 ?_
        refine lv_lload hx hb dX8_listRingsBy_40 (lv_at hl 1 rfl) ?_
        obtain ⟨hg_20, hM⟩ := gd_some hM
        refine gj_cmp_ge (tgt := 92) hx hb dX8_listRingsBy_42 dX8_listRingsBy_43 (by decide) hg_20.1 hg_20.2 (fun c_21 => ?_) (fun c_21 => ?_)
        · replace hM := ifp hM c_21
          cases hM
          exact hK_15 _ _ H locs ls hG (lv_sub hl [] rfl)
        · replace hM := ifn hM c_21
          refine lv_aload_n hx hb dX8_listRingsBy_46 rfl (lv_at hl 3 rfl) ?_
          refine m_get S hG.1 59 61 3 rfl ec_61 cpX8 wm_474 dX8_listRingsBy_47 rfl (Nat.lt_of_lt_of_le (Nat.le_of_ble_eq_true rfl) hG.2.2.2.1) (by decide) ?_
          refine lv_iload hx hb dX8_listRingsBy_50 (lv_at hl 2 rfl) ?_
          refine lv_iload_n hx hb dX8_listRingsBy_52 rfl (lv_at hl 5 rfl) ?_
          refine lv_sipush (v := iI 1024) hx hb dX8_listRingsBy_53 (by decide) ?_
          refine gi_mul hx hb dX8_listRingsBy_56 ?_
          refine lv_iload hx hb dX8_listRingsBy_57 (lv_at hl 0 rfl) ?_
          refine gi_add hx hb dX8_listRingsBy_59 ?_
          obtain ⟨hg_22, hM⟩ := gd_some hM
          refine ni_ast S hG 60 62 rfl ec_62 (by decide) dX8_listRingsBy_60 hg_22 (by decide) (fun H locs S_23 eS_23 hG => ?_)
          replace hM := nx_at hM eS_23
          clear eS_23
          refine lv_aload_n hx hb dX8_listRingsBy_61 rfl (lv_at hl 3 rfl) ?_
          refine lv_iload hx hb dX8_listRingsBy_62 (lv_at hl 2 rfl) ?_
          refine lv_iconst (v := iI 1) hx hb dX8_listRingsBy_64 (by decide) ?_
          refine gi_add hx hb dX8_listRingsBy_65 ?_
          refine n_put S hG 59 61 2 rfl 2 (x_1 + 1) ec_61 cpX8 wm_472 dX8_listRingsBy_66 (pf_61_2) (by decide) (by decide) (Nat.le_of_ble_eq_true rfl) rfl rfl rfl (fun H locs S_24 eS_24 hG => ?_)
          replace hM := nx_at hM eS_24
          clear eS_24
          refine lv_aload_n hx hb dX8_listRingsBy_69 rfl (lv_at hl 3 rfl) ?_
          refine lv_iload_n hx hb dX8_listRingsBy_70 rfl (lv_at hl 4 rfl) ?_
          refine lv_iload hx hb dX8_listRingsBy_71 (lv_at hl 6 rfl) ?_
          refine lv_iload_n hx hb dX8_listRingsBy_73 rfl (lv_at hl 5 rfl) ?_
          refine gi_sub hx hb dX8_listRingsBy_74 ?_
          refine lv_aload hx hb dX8_listRingsBy_75 (lv_at hl 7 rfl) ?_
          obtain ⟨S_26, hc_25, hg_27, hg_28, hM⟩ := bdG1_some hM
          have hg_29 : gle S_26 o1 := ⟨Nat.le_trans hg_28.1 hub_14.1, Nat.le_trans hg_28.2 hub_14.2⟩
          refine g_vv (As := [.int (iI a1), .int (iI (a4 - a2)), .ref (b + ph (Int.toNat a5))]) (rest := []) S hG.1 hG.2.1 (hr0 _ a1 (a4 - a2) a5 _ hG.2.2.2.1 hc_25) wV_8_99 (ec_61 (b := b) (cy := cy) (X := XD b cy S_24) _) cpX8 (Nat.lt_of_lt_of_le (Nat.le_of_ble_eq_true rfl) hG.2.2.2.1) dX8_listRingsBy_77 rfl hl.1 (ar := 3) (by decide +kernel) rfl (by refine ⟨?_, ?_, hG.gc hg_27 hg_29, hG.gs hg_27 hg_29⟩ <;> first | exact Nat.le_of_ble_eq_true rfl | (simp only [gRm]; omega)) (Nat.le_of_ble_eq_true rfl) (fun uu H locs hp hGc => ?_)
          obtain rfl := hp
          replace hG := hG.grow hg_27 hg_29 hGc
          clear hGc
          refine lv_aload_n hx hb dX8_listRingsBy_80 rfl (lv_at hl 3 rfl) ?_
          refine lv_iload hx hb dX8_listRingsBy_81 (lv_at hl 2 rfl) ?_
          refine n_put S hG 59 61 2 rfl 2 x_1 ec_61 cpX8 wm_472 dX8_listRingsBy_83 (pf_61_2) (by decide) (by decide) (Nat.le_of_ble_eq_true rfl) rfl rfl rfl (fun H locs S_30 eS_30 hG => ?_)
          replace hM := nx_at hM eS_30
          clear eS_30
          refine lv_iinc (v := iI (v_8 + 1)) (lv' := [(9, .int (iI (v_8 + 1))), (7, .long (jJ x_7)), (6, .int (iI x_1)), (0, .ref (b + 59)), (1, .int (iI a1)), (2, .int (iI a2)), (4, .int (iI a4)), (5, .ref (b + ph (Int.toNat a5)))]) hx hb dX8_listRingsBy_86 hl (k := 0) rfl ((iI_add v_8 (1)).trans (congrArg iI (by omega))) (by decide) rfl (fun ls hl => ?_)
          refine lv_goto (tgt := 37) hx hb dX8_listRingsBy_89 (by decide) ?_
          exact ih_17 (v_8 + 1) S_30 _ _ H locs ls hM hG (lv_sub hl [0, 1, 2, 3, 4, 5, 6, 7] rfl)
    exact loop_16 FU a3 S0 _ _ H locs ls hc_11 hG (lv_sub hl [0, 1, 2, 3, 4, 5, 7, 8] rfl)
  · replace hM := ifn hM c_3
    cases hM
    exact g_vret S hr hlk hG.1 hG.2.1 dX8_listRingsBy_13 ⟨hG.rc, hG.rs⟩ rfl
def RX8_listRings : Nat → Nat → Int → Int → Int → Int → Int → St → Option (St)
  | 0, _, _, _, _, _, _, _ => none
  | f + 1, t, x1, x2, x3, x4, x5, S0 => if t = 0 then (bX8_listRings_61_dO (RX8_listRings f) S0 x1 x2 x3) else (if t = 1 then (bX8_listRingsBy_61_dO (RX8_listRings f) S0 x1 x2 x3 x4 x5) else (none))
set_option maxHeartbeats 4000000 in
theorem vRX8_listRings (l : Launch) {D : va_G} {cy : Nat → ClassId} {b : Nat} : ∀ f : Nat, (∀ (S0 : St) (a1 : Int) (a2 : Int) (a3 : Int) (o1 : St), 102 ≤ nn S0 - 3 → RX8_listRings f 0 a1 a2 a3 0 0 S0 = some o1 → gV l yX8_listRings cX8_listRings 6 (2 + f) (nn o1 - nn S0) (zz o1 - zz S0) D cy b (nn S0 - 3) (eG b cy S0) [.ref (b + 59), .int (iI a1), .int (iI a2), .ref (b + ph (Int.toNat a3))] (fun u => u = (nn o1 - 3, eG b cy o1))) ∧ (∀ (S0 : St) (a1 : Int) (a2 : Int) (a3 : Int) (a4 : Int) (a5 : Int) (o1 : St), 102 ≤ nn S0 - 3 → RX8_listRings f 1 a1 a2 a3 a4 a5 S0 = some o1 → gV l yX8_listRingsBy cX8_listRingsBy 10 (2 + f) (nn o1 - nn S0) (zz o1 - zz S0) D cy b (nn S0 - 3) (eG b cy S0) [.ref (b + 59), .int (iI a1), .int (iI a2), .int (iI a3), .int (iI a4), .ref (b + ph (Int.toNat a5))] (fun u => u = (nn o1 - 3, eG b cy o1))) := by
  intro f
  induction f with
  | zero =>
    refine ⟨?_, ?_⟩
    all_goals
      intros; rename_i hM; rw [RX8_listRings] at hM; cases hM
  | succ f ih =>
    obtain ⟨hr0, hr1⟩ := ih
    refine ⟨?_, ?_⟩
    · intro S0 a1 a2 a3 o1 hn hM
      rw [RX8_listRings] at hM
      replace hM := ifp hM rfl
      exact spX8_listRings_61_dO l (RX8_listRings f) (2 + f) (Nat.le_add_right _ _) hr0 hr1 S0 a1 a2 a3 o1 hn hM
    · intro S0 a1 a2 a3 a4 a5 o1 hn hM
      rw [RX8_listRings] at hM
      replace hM := ifn hM (by decide)
      replace hM := ifp hM rfl
      exact spX8_listRingsBy_61_dO l (RX8_listRings f) (2 + f) (Nat.le_add_right _ _) hr0 hr1 S0 a1 a2 a3 a4 a5 o1 hn hM
def mX8_listRings_61_dO (S0 : St) (a1 : Int) (a2 : Int) (a3 : Int) : Option (St) := RX8_listRings 24 0 a1 a2 a3 0 0 S0
theorem vX8_listRings_61_dO (l : Launch) {D : va_G} {cy : Nat → ClassId} {b : Nat} {S0 : St} (hn : 102 ≤ nn S0 - 3) (a1 : Int) (a2 : Int) (a3 : Int) {o1 : St} (hM : mX8_listRings_61_dO S0 a1 a2 a3 = some o1) : gV l yX8_listRings cX8_listRings 6 26 (nn o1 - nn S0) (zz o1 - zz S0) D cy b (nn S0 - 3) (eG b cy S0) [.ref (b + 59), .int (iI a1), .int (iI a2), .ref (b + ph (Int.toNat a3))] (fun u => u = (nn o1 - 3, eG b cy o1)) := (vRX8_listRings l 24).1 S0 a1 a2 a3 o1 hn hM
def mX8_listRingsBy_61_dO (S0 : St) (a1 : Int) (a2 : Int) (a3 : Int) (a4 : Int) (a5 : Int) : Option (St) := RX8_listRings 24 1 a1 a2 a3 a4 a5 S0
theorem vX8_listRingsBy_61_dO (l : Launch) {D : va_G} {cy : Nat → ClassId} {b : Nat} {S0 : St} (hn : 102 ≤ nn S0 - 3) (a1 : Int) (a2 : Int) (a3 : Int) (a4 : Int) (a5 : Int) {o1 : St} (hM : mX8_listRingsBy_61_dO S0 a1 a2 a3 a4 a5 = some o1) : gV l yX8_listRingsBy cX8_listRingsBy 10 26 (nn o1 - nn S0) (zz o1 - zz S0) D cy b (nn S0 - 3) (eG b cy S0) [.ref (b + 59), .int (iI a1), .int (iI a2), .int (iI a3), .int (iI a4), .ref (b + ph (Int.toNat a5))] (fun u => u = (nn o1 - 3, eG b cy o1)) := (vRX8_listRings l 24).2 S0 a1 a2 a3 a4 a5 o1 hn hM
def mX8_findRing_97 (a3 : Int) (y_4 : Int) : Nat → Int → St → Option (St)
  | 0, _, _ => none
  | f + 1, v_19, S_20 => gd (dT S_20 y_4 1) <| gd ((inI a3) ∧ (inI (S_20 (Int.toNat y_4) 1))) <| if (S_20 (Int.toNat y_4) 1) ≤ a3 then (some (S_20)) else (gd (inI v_19) <| if 8 ≤ v_19 then (some (S_20)) else (gd ((dT S_20 (S_20 (Int.toNat y_4) 2) 2) ∧ (0 ≤ ((a3 * 8) + v_19) ∧ ((a3 * 8) + v_19) < 1600)) <| gd (inI (S_20 (Int.toNat (S_20 (Int.toNat y_4) 2)) ((a3 * 8) + v_19))) <| if (S_20 (Int.toNat (S_20 (Int.toNat y_4) 2)) ((a3 * 8) + v_19)) = 0 then (some (S_20)) else (gd (0 ≤ v_19 ∧ v_19 < 8) <| nx (up S_20 62 v_19 (S_20 (Int.toNat (S_20 (Int.toNat y_4) 2)) ((a3 * 8) + v_19))) fun S_36 => nx (up S_36 61 2 ((S_36 61 2) + 1)) fun S_37 => mX8_findRing_97 a3 y_4 f (v_19 + 1) S_37)))
def mX8_findRing (S0 : St) (a1 : Int) (a2 : Int) (a3 : Int) (a4 : Int) : Option (St) := entG S0 (fun o : St => o) (gd (0 ≤ a1 ∧ a1 < 24) <| nx (up S0 61 5 (S0 5 a1)) fun S_2 => nx ((a1 * 8) + a2) fun x_3 => bdG2 S_2 (fun o : St => o) (gd (0 ≤ x_3 ∧ x_3 < 192) <| nx (S_2 63 x_3) fun x_50 => if x_50 < 0 then (bdG1 S_2 (fun o : Int × St => o.2) (some (mkRing S_2)) fun S_52 => nx ((nn S_2 : Nat) : Int) fun x_57 => gd (dT S_52 x_57 1) <| nx (up S_52 63 x_3 x_57) fun S_59 => some (x_57, S_59)) else (some (x_50, S_2))) fun y_4 S_5 => gd (dT S_5 y_4 1) <| bdG1 S_5 (fun o : St => o) (gd ((inI (S_5 (Int.toNat y_4) 0)) ∧ (inI a4)) <| if (S_5 (Int.toNat y_4) 0) = a4 then (some (S_5)) else (nx (up S_5 (Int.toNat y_4) 0 a4) fun S_40 => gd (dT S_40 y_4 1) <| nx (up S_40 (Int.toNat y_4) 1 0) fun S_41 => nx (up S_41 61 2 0) fun S_43 => bdG1 S_43 (fun o : St => o) (mX8_listRings_61_dO S_43 a1 a2 y_4) fun S_45 => some (S_45))) fun S_12 => nx (up S_12 61 2 0) fun S_18 => bd1 (mX8_findRing_97 a3 y_4 FU 0 S_18) fun S_21 => some (S_21))
set_option maxHeartbeats 4000000 in
set_option maxRecDepth 100000 in
theorem vX8_findRing (l : Launch) {D : va_G} {cy : Nat → ClassId} {b : Nat} {S0 : St} (hn : 102 ≤ nn S0 - 3) (a1 : Int) (a2 : Int) (a3 : Int) (a4 : Int) {o1 : St} (hM : mX8_findRing S0 a1 a2 a3 a4 = some o1) : gV l yX8_findRing cX8_findRing 8 27 (nn o1 - nn S0) (zz o1 - zz S0) D cy b (nn S0 - 3) (eG b cy S0) [.ref (b + 59), .int (iI a1), .int (iI a2), .int (iI a3), .int (iI a4)] (fun u => u = (nn o1 - 3, eG b cy o1)) := by
  refine gV_of (by decide) (Nat.le_of_ble_eq_true rfl) ?_
  intro p e s m args below meth c S hr hlk hin hsz ls hl hG
  have hx := S.1
  have hb := S.2.1
  have hl : lv_has ls 8 [(0, .ref (b + 59)), (1, .int (iI a1)), (2, .int (iI a2)), (3, .int (iI a3)), (4, .int (iI a4))] := hl
  replace hG : gW D cy b (nn S0 - 3) s s.heap [] (eG b cy S0) := hG
  obtain ⟨H, eH⟩ : ∃ H, H = s.heap := ⟨_, rfl⟩
  obtain ⟨locs, elocs⟩ : ∃ locs : List Loc, locs = [] := ⟨_, rfl⟩
  rw [← eH, ← elocs] at hG
  rw [← eH, ← elocs]
  clear eH elocs
  unfold mX8_findRing at hM
  obtain ⟨hge, hM⟩ := entG_some hM
  replace hG : gX D cy b s H locs S0 0 0 S0 o1 := gX.start hG hsz hn hge
  refine lv_aload_n hx hb dX8_findRing_0 rfl (lv_at hl 0 rfl) ?_
  refine lv_aload_n hx hb dX8_findRing_1 rfl (lv_at hl 0 rfl) ?_
  refine m_get S hG.1 59 61 0 rfl ec_61 cpX8 wm_470 dX8_findRing_2 rfl (Nat.lt_of_lt_of_le (Nat.le_of_ble_eq_true rfl) hG.2.2.2.1) (by decide) ?_
  refine m_get S hG.1 2 2 7 rfl ec_2 cpX2 wm_248 dX8_findRing_5 rfl (Nat.lt_of_lt_of_le (Nat.le_of_ble_eq_true rfl) hG.2.2.2.1) (by decide) ?_
  refine lv_iload_n hx hb dX8_findRing_8 rfl (lv_at hl 1 rfl) ?_
  obtain ⟨hg_1, hM⟩ := gd_some hM
  refine mi_ald S hG.1 5 5 rfl ec_5 (Nat.lt_of_lt_of_le (Nat.le_of_ble_eq_true rfl) hG.2.2.2.1) dX8_findRing_9 hg_1 (by decide) ?_
  refine n_put S hG 59 61 5 rfl 5 (S0 5 a1) ec_61 cpX8 wm_477 dX8_findRing_10 (pf_61_5) (by decide) (by decide) (Nat.le_of_ble_eq_true rfl) rfl rfl rfl (fun H locs S_2 eS_2 hG => ?_)
  replace hM := nx_at hM eS_2
  clear eS_2
  refine lv_iload_n hx hb dX8_findRing_13 rfl (lv_at hl 1 rfl) ?_
  refine lv_bipush (v := iI 8) hx hb dX8_findRing_14 (by decide) ?_
  refine gi_mul hx hb dX8_findRing_16 ?_
  refine lv_iload_n hx hb dX8_findRing_17 rfl (lv_at hl 2 rfl) ?_
  refine gi_add hx hb dX8_findRing_18 ?_
  refine gi_nm (fun x_3 ex_3 => ?_)
  replace hM := nx_at hM ex_3
  clear ex_3
  refine lv_istore (lv' := [(5, .int (iI x_3)), (0, .ref (b + 59)), (1, .int (iI a1)), (2, .int (iI a2)), (3, .int (iI a3)), (4, .int (iI a4))]) hx hb dX8_findRing_19 hl (by decide) rfl (fun ls hl => ?_)
  refine lv_aload_n hx hb dX8_findRing_21 rfl (lv_at hl 1 rfl) ?_
  refine m_get S hG.1 59 61 4 rfl ec_61 cpX8 wm_476 dX8_findRing_22 rfl (Nat.lt_of_lt_of_le (Nat.le_of_ble_eq_true rfl) hG.2.2.2.1) (by decide) ?_
  refine lv_iload hx hb dX8_findRing_25 (lv_at hl 0 rfl) ?_
  obtain ⟨y_4, S_5, hc_6, hg_7, hg_8, hM⟩ := bdG2_some hM
  have hub_9 : gle S_5 o1 := ⟨Nat.le_trans hg_8.1 gle_rfl.1, Nat.le_trans hg_8.2 gle_rfl.2⟩
  have hK_10 : ∀ (ce sl : Nat) (H : Heap) (locs : List Loc) (ls : Array Slot), gX D cy b s H locs S_5 ce sl S0 o1 → lv_has ls 8 [(0, .ref (b + 59)), (1, .int (iI a1)), (2, .int (iI a2)), (3, .int (iI a3)), (4, .int (iI a4)), (6, .ref (b + ph (Int.toNat y_4)))] → W p l e (gRm 27 (nn o1 - nn S0) (zz o1 - zz S0)) s m args below meth c H locs ce sl (gQV D cy b s args below (nn o1 - nn S0) (zz o1 - zz S0) (fun u => u = (nn o1 - 3, eG b cy o1))) (F0 m 53 ls []) := by
    intro ce sl H locs ls hG hl
    refine lv_aload hx hb dX8_findRing_53 (lv_at hl 5 rfl) ?_
    obtain ⟨hg_11, hM⟩ := gd_some hM
    refine nd_get S hG hg_11 0 wm_1381 dX8_findRing_55 rfl (by decide) ?_
    refine lv_iload hx hb dX8_findRing_58 (lv_at hl 4 rfl) ?_
    obtain ⟨S_12, hc_13, hg_14, hg_15, hM⟩ := bdG1_some hM
    have hub_16 : gle S_12 o1 := ⟨Nat.le_trans hg_15.1 gle_rfl.1, Nat.le_trans hg_15.2 gle_rfl.2⟩
    have hK_17 : ∀ (ce sl : Nat) (H : Heap) (locs : List Loc) (ls : Array Slot), gX D cy b s H locs S_12 ce sl S0 o1 → lv_has ls 8 [(0, .ref (b + 59)), (3, .int (iI a3)), (6, .ref (b + ph (Int.toNat y_4)))] → W p l e (gRm 27 (nn o1 - nn S0) (zz o1 - zz S0)) s m args below meth c H locs ce sl (gQV D cy b s args below (nn o1 - nn S0) (zz o1 - zz S0) (fun u => u = (nn o1 - 3, eG b cy o1))) (F0 m 89 ls []) := by
      intro ce sl H locs ls hG hl
      refine lv_aload_n hx hb dX8_findRing_89 rfl (lv_at hl 0 rfl) ?_
      refine lv_iconst (v := iI 0) hx hb dX8_findRing_90 (by decide) ?_
      refine n_put S hG 59 61 2 rfl 2 0 ec_61 cpX8 wm_472 dX8_findRing_91 (pf_61_2) (by decide) (by decide) (Nat.le_of_ble_eq_true rfl) rfl rfl rfl (fun H locs S_18 eS_18 hG => ?_)
      replace hM := nx_at hM eS_18
      clear eS_18
      refine lv_iconst (v := iI 0) hx hb dX8_findRing_94 (by decide) ?_
      refine lv_istore (lv' := [(7, .int (iI 0)), (0, .ref (b + 59)), (3, .int (iI a3)), (6, .ref (b + ph (Int.toNat y_4)))]) hx hb dX8_findRing_95 hl (by decide) rfl (fun ls hl => ?_)
      obtain ⟨S_21, hc_22, hM⟩ := bd1_some hM
      have hK_23 : ∀ (ce sl : Nat) (H : Heap) (locs : List Loc) (ls : Array Slot), gX D cy b s H locs S_21 ce sl S0 o1 → lv_has ls 8 [] → W p l e (gRm 27 (nn o1 - nn S0) (zz o1 - zz S0)) s m args below meth c H locs ce sl (gQV D cy b s args below (nn o1 - nn S0) (zz o1 - zz S0) (fun u => u = (nn o1 - 3, eG b cy o1))) (F0 m 165 ls []) := by
        intro ce sl H locs ls hG hl
        cases hM
        exact g_vret S hr hlk hG.1 hG.2.1 dX8_findRing_165 ⟨hG.rc, hG.rs⟩ rfl
      have loop_24 : ∀ (f : Nat) (v_19 : Int) (S_20 : St) (ce sl : Nat) (H : Heap) (locs : List Loc) (ls : Array Slot), mX8_findRing_97 a3 y_4 f v_19 S_20 = some S_21 → gX D cy b s H locs S_20 ce sl S0 o1 → lv_has ls 8 [(7, .int (iI v_19)), (0, .ref (b + 59)), (3, .int (iI a3)), (6, .ref (b + ph (Int.toNat y_4)))] → W p l e (gRm 27 (nn o1 - nn S0) (zz o1 - zz S0)) s m args below meth c H locs ce sl (gQV D cy b s args below (nn o1 - nn S0) (zz o1 - zz S0) (fun u => u = (nn o1 - 3, eG b cy o1))) (F0 m 97 ls []) := by
        clear hM
        intro f
        induction f with
        | zero => intro v_19 S_20 ce sl H locs ls hM; rw [mX8_findRing_97] at hM; cases hM
        | succ f_26 ih_25 =>
          intro v_19 S_20 ce sl H locs ls hM hG hl
          rw [mX8_findRing_97] at hM
          refine lv_iload_n hx hb dX8_findRing_97 rfl (lv_at hl 2 rfl) ?_
          refine lv_aload hx hb dX8_findRing_98 (lv_at hl 3 rfl) ?_
          obtain ⟨hg_27, hM⟩ := gd_some hM
          refine nd_get S hG hg_27 1 wm_1383 dX8_findRing_100 rfl (by decide) ?_
          obtain ⟨hg_28, hM⟩ := gd_some hM
          refine gi_icmp_ge (tgt := 165) hx hb dX8_findRing_103 (by decide) hg_28.1 hg_28.2 (fun c_29 => ?_) (fun c_29 => ?_)
          · replace hM := ifp hM c_29
            cases hM
            exact hK_23 _ _ H locs ls hG (lv_sub hl [] rfl)
          · replace hM := ifn hM c_29
            refine lv_iload hx hb dX8_findRing_106 (lv_at hl 0 rfl) ?_
            refine lv_bipush (v := iI 8) hx hb dX8_findRing_108 (by decide) ?_
            obtain ⟨hg_30, hM⟩ := gd_some hM
            refine gi_icmp_ge (tgt := 165) hx hb dX8_findRing_110 (by decide) hg_30 (by decide) (fun c_31 => ?_) (fun c_31 => ?_)
            · replace hM := ifp hM c_31
              cases hM
              exact hK_23 _ _ H locs ls hG (lv_sub hl [] rfl)
            · replace hM := ifn hM c_31
              refine lv_aload hx hb dX8_findRing_113 (lv_at hl 3 rfl) ?_
              refine nd_get S hG hg_27 2 wm_1385 dX8_findRing_115 rfl (by decide) ?_
              refine lv_iload_n hx hb dX8_findRing_118 rfl (lv_at hl 2 rfl) ?_
              refine lv_bipush (v := iI 8) hx hb dX8_findRing_119 (by decide) ?_
              refine gi_mul hx hb dX8_findRing_121 ?_
              refine lv_iload hx hb dX8_findRing_122 (lv_at hl 0 rfl) ?_
              refine gi_add hx hb dX8_findRing_124 ?_
              obtain ⟨hg_32, hM⟩ := gd_some hM
              refine nd_iald (N := 1600) S hG hg_32.1 (by decide) dX8_findRing_125 hg_32.2 ?_
              obtain ⟨hg_33, hM⟩ := gd_some hM
              refine gi_if_eq (tgt := 165) hx hb dX8_findRing_126 (by decide) hg_33 (fun c_34 => ?_) (fun c_34 => ?_)
              · replace hM := ifp hM c_34
                cases hM
                exact hK_23 _ _ H locs ls hG (lv_sub hl [] rfl)
              · replace hM := ifn hM c_34
                refine lv_aload_n hx hb dX8_findRing_129 rfl (lv_at hl 1 rfl) ?_
                refine m_get S hG.1 59 61 3 rfl ec_61 cpX8 wm_474 dX8_findRing_130 rfl (Nat.lt_of_lt_of_le (Nat.le_of_ble_eq_true rfl) hG.2.2.2.1) (by decide) ?_
                refine lv_iload hx hb dX8_findRing_133 (lv_at hl 0 rfl) ?_
                refine lv_aload hx hb dX8_findRing_135 (lv_at hl 3 rfl) ?_
                refine nd_get S hG hg_27 2 wm_1385 dX8_findRing_137 rfl (by decide) ?_
                refine lv_iload_n hx hb dX8_findRing_140 rfl (lv_at hl 2 rfl) ?_
                refine lv_bipush (v := iI 8) hx hb dX8_findRing_141 (by decide) ?_
                refine gi_mul hx hb dX8_findRing_143 ?_
                refine lv_iload hx hb dX8_findRing_144 (lv_at hl 0 rfl) ?_
                refine gi_add hx hb dX8_findRing_146 ?_
                refine nd_iald (N := 1600) S hG hg_32.1 (by decide) dX8_findRing_147 hg_32.2 ?_
                obtain ⟨hg_35, hM⟩ := gd_some hM
                refine ni_ast S hG 60 62 rfl ec_62 (by decide) dX8_findRing_148 hg_35 (by decide) (fun H locs S_36 eS_36 hG => ?_)
                replace hM := nx_at hM eS_36
                clear eS_36
                refine lv_aload_n hx hb dX8_findRing_149 rfl (lv_at hl 1 rfl) ?_
                refine lv_dup hx hb dX8_findRing_150 rfl ?_
                refine m_get S hG.1 59 61 2 rfl ec_61 cpX8 wm_472 dX8_findRing_151 rfl (Nat.lt_of_lt_of_le (Nat.le_of_ble_eq_true rfl) hG.2.2.2.1) (by decide) ?_
                refine lv_iconst (v := iI 1) hx hb dX8_findRing_154 (by decide) ?_
                refine gi_add hx hb dX8_findRing_155 ?_
                refine n_put S hG 59 61 2 rfl 2 ((S_36 61 2) + 1) ec_61 cpX8 wm_472 dX8_findRing_156 (pf_61_2) (by decide) (by decide) (Nat.le_of_ble_eq_true rfl) rfl rfl rfl (fun H locs S_37 eS_37 hG => ?_)
                replace hM := nx_at hM eS_37
                clear eS_37
                refine lv_iinc (v := iI (v_19 + 1)) (lv' := [(7, .int (iI (v_19 + 1))), (0, .ref (b + 59)), (3, .int (iI a3)), (6, .ref (b + ph (Int.toNat y_4)))]) hx hb dX8_findRing_159 hl (k := 0) rfl ((iI_add v_19 (1)).trans (congrArg iI (by omega))) (by decide) rfl (fun ls hl => ?_)
                refine lv_goto (tgt := 97) hx hb dX8_findRing_162 (by decide) ?_
                exact ih_25 (v_19 + 1) S_37 _ _ H locs ls hM hG (lv_sub hl [0, 1, 2, 3] rfl)
      exact loop_24 FU 0 S_18 _ _ H locs ls hc_22 hG (lv_sub hl [0, 1, 2, 3] rfl)
    clear hM
    replace hM := hc_13
    obtain ⟨hg_38, hM⟩ := gd_some hM
    refine gi_icmp_eq (tgt := 89) hx hb dX8_findRing_60 (by decide) hg_38.1 hg_38.2 (fun c_39 => ?_) (fun c_39 => ?_)
    · replace hM := ifp hM c_39
      cases hM
      exact hK_17 _ _ H locs ls hG (lv_sub hl [0, 3, 5] rfl)
    · replace hM := ifn hM c_39
      refine lv_aload hx hb dX8_findRing_63 (lv_at hl 5 rfl) ?_
      refine lv_iload hx hb dX8_findRing_65 (lv_at hl 4 rfl) ?_
      refine nd_put S hG hg_11 0 a4 (by decide) wm_1381 dX8_findRing_67 rfl rfl rfl (fun H locs S_40 eS_40 hG => ?_)
      replace hM := nx_at hM eS_40
      clear eS_40
      refine lv_aload hx hb dX8_findRing_70 (lv_at hl 5 rfl) ?_
      refine lv_iconst (v := iI 0) hx hb dX8_findRing_72 (by decide) ?_
      obtain ⟨hg_42, hM⟩ := gd_some hM
      refine nd_put S hG hg_42 1 0 (by decide) wm_1383 dX8_findRing_73 rfl rfl rfl (fun H locs S_41 eS_41 hG => ?_)
      replace hM := nx_at hM eS_41
      clear eS_41
      refine lv_aload_n hx hb dX8_findRing_76 rfl (lv_at hl 0 rfl) ?_
      refine lv_iconst (v := iI 0) hx hb dX8_findRing_77 (by decide) ?_
      refine n_put S hG 59 61 2 rfl 2 0 ec_61 cpX8 wm_472 dX8_findRing_78 (pf_61_2) (by decide) (by decide) (Nat.le_of_ble_eq_true rfl) rfl rfl rfl (fun H locs S_43 eS_43 hG => ?_)
      replace hM := nx_at hM eS_43
      clear eS_43
      refine lv_aload_n hx hb dX8_findRing_81 rfl (lv_at hl 0 rfl) ?_
      refine lv_iload_n hx hb dX8_findRing_82 rfl (lv_at hl 1 rfl) ?_
      refine lv_iload_n hx hb dX8_findRing_83 rfl (lv_at hl 2 rfl) ?_
      refine lv_aload hx hb dX8_findRing_84 (lv_at hl 5 rfl) ?_
      obtain ⟨S_45, hc_44, hg_46, hg_47, hM⟩ := bdG1_some hM
      have hg_48 : gle S_45 o1 := ⟨Nat.le_trans hg_47.1 hub_16.1, Nat.le_trans hg_47.2 hub_16.2⟩
      refine g_vv (As := [.int (iI a1), .int (iI a2), .ref (b + ph (Int.toNat y_4))]) (rest := []) S hG.1 hG.2.1 (vX8_listRings_61_dO l hG.2.2.2.1 a1 a2 y_4 hc_44) wV_8_99 (ec_61 (b := b) (cy := cy) (X := XD b cy S_43) _) cpX8 (Nat.lt_of_lt_of_le (Nat.le_of_ble_eq_true rfl) hG.2.2.2.1) dX8_findRing_86 rfl hl.1 (ar := 3) (by decide +kernel) rfl ⟨Nat.le_of_ble_eq_true rfl, Nat.le_of_ble_eq_true rfl, hG.gc hg_46 hg_48, hG.gs hg_46 hg_48⟩ (Nat.le_of_ble_eq_true rfl) (fun uu H locs hp hGc => ?_)
      obtain rfl := hp
      replace hG := hG.grow hg_46 hg_48 hGc
      clear hGc
      cases hM
      exact hK_17 _ _ H locs ls hG (lv_sub hl [0, 3, 5] rfl)
  clear hM
  replace hM := hc_6
  obtain ⟨hg_49, hM⟩ := gd_some hM
  refine n_aald S hG dX8_findRing_27 hg_49 ?_
  refine gq_nm (fun x_50 ex_50 => ?_)
  replace hM := nx_at hM ex_50
  clear ex_50
  rcases Int.lt_or_le x_50 0 with c_51 | c_51
  · replace hM := ifp hM c_51
    rw [qv_n c_51]
    refine lv_astoreN (lv' := [(6, .null), (5, .int (iI x_3)), (0, .ref (b + 59)), (1, .int (iI a1)), (2, .int (iI a2)), (3, .int (iI a3)), (4, .int (iI a4))]) hx hb dX8_findRing_28 hl (by decide) rfl (fun ls hl => ?_)
    refine lv_aloadN hx hb dX8_findRing_30 (lv_at hl 0 rfl) ?_
    refine lv_ifnonnullN hx hb dX8_findRing_32 ?_
    obtain ⟨S_52, hc_53, hg_54, hg_55, hM⟩ := bdG1_some hM
    have hg_56 : gle S_52 o1 := ⟨Nat.le_trans hg_55.1 hub_9.1, Nat.le_trans hg_55.2 hub_9.2⟩
    refine n_ring S hG (Option.some.inj hc_53) hg_56 dX8_findRing_35 dX8_findRing_38 dX8_findRing_39 hl.1 ⟨Nat.le_of_ble_eq_true rfl, Nat.le_of_ble_eq_true rfl, Nat.le_refl _, Nat.le_refl _⟩ (fun x_57 H locs ex_57 hG => ?_)
    replace hM := nx_at hM ex_57
    clear ex_57
    refine lv_astore (lv' := [(6, .ref (b + ph (Int.toNat x_57))), (5, .int (iI x_3)), (0, .ref (b + 59)), (1, .int (iI a1)), (2, .int (iI a2)), (3, .int (iI a3)), (4, .int (iI a4))]) hx hb dX8_findRing_42 hl (by decide) rfl (fun ls hl => ?_)
    refine lv_aload_n hx hb dX8_findRing_44 rfl (lv_at hl 2 rfl) ?_
    refine m_get S hG.1 59 61 4 rfl ec_61 cpX8 wm_476 dX8_findRing_45 rfl (Nat.lt_of_lt_of_le (Nat.le_of_ble_eq_true rfl) hG.2.2.2.1) (by decide) ?_
    refine lv_iload hx hb dX8_findRing_48 (lv_at hl 1 rfl) ?_
    refine lv_aload hx hb dX8_findRing_50 (lv_at hl 0 rfl) ?_
    obtain ⟨hg_58, hM⟩ := gd_some hM
    refine n_aast S hG hg_58 dX8_findRing_52 hg_49 (fun H locs S_59 eS_59 hG => ?_)
    replace hM := nx_at hM eS_59
    clear eS_59
    cases hM
    exact hK_10 _ _ H locs ls hG (lv_sub hl [2, 3, 4, 5, 6, 0] rfl)
  · replace hM := ifn hM (Int.not_lt.mpr c_51)
    rw [qv_p (Int.not_lt.mpr c_51)]
    refine lv_astore (lv' := [(6, .ref (b + ph (Int.toNat x_50))), (5, .int (iI x_3)), (0, .ref (b + 59)), (1, .int (iI a1)), (2, .int (iI a2)), (3, .int (iI a3)), (4, .int (iI a4))]) hx hb dX8_findRing_28 hl (by decide) rfl (fun ls hl => ?_)
    refine lv_aload hx hb dX8_findRing_30 (lv_at hl 0 rfl) ?_
    refine lv_ifnonnull (tgt := 53) hx hb dX8_findRing_32 (by decide) ?_
    cases hM
    exact hK_10 _ _ H locs ls hG (lv_sub hl [2, 3, 4, 5, 6, 0] rfl)
