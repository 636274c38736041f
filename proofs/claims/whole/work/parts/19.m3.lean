theorem dX12_hangs_0 : decode cX12_hangs 0 = .ok (.aload_n 0, 1) := by decide +kernel
theorem dX12_hangs_1 : decode cX12_hangs 1 = .ok (.iload_n 1, 1) := by decide +kernel
theorem dX12_hangs_2 : decode cX12_hangs 2 = .ok (.invokevirtual 225, 3) := by decide +kernel
theorem dX12_hangs_5 : decode cX12_hangs 5 = .ok (.ifCond .eq 11, 3) := by decide +kernel
theorem dX12_hangs_16 : decode cX12_hangs 16 = .ok (.bipush (-2), 2) := by decide +kernel
theorem dX12_hangs_18 : decode cX12_hangs 18 = .ok (.ireturn, 1) := by decide +kernel
theorem dX12_hangs_8 : decode cX12_hangs 8 = .ok (.aload_n 0, 1) := by decide +kernel
theorem dX12_hangs_9 : decode cX12_hangs 9 = .ok (.iload_n 2, 1) := by decide +kernel
theorem dX12_hangs_10 : decode cX12_hangs 10 = .ok (.invokevirtual 334, 3) := by decide +kernel
theorem dX12_hangs_13 : decode cX12_hangs 13 = .ok (.ifCond .ne 6, 3) := by decide +kernel
theorem dX12_hangs_19 : decode cX12_hangs 19 = .ok (.aload_n 0, 1) := by decide +kernel
theorem dX12_hangs_20 : decode cX12_hangs 20 = .ok (.iconst (-1), 1) := by decide +kernel
theorem dX12_hangs_21 : decode cX12_hangs 21 = .ok (.invokevirtual 324, 3) := by decide +kernel
theorem dX12_hangs_24 : decode cX12_hangs 24 = .ok (.aload_n 0, 1) := by decide +kernel
theorem dX12_hangs_25 : decode cX12_hangs 25 = .ok (.iload_n 1, 1) := by decide +kernel
theorem dX12_hangs_26 : decode cX12_hangs 26 = .ok (.iload_n 2, 1) := by decide +kernel
theorem dX12_hangs_27 : decode cX12_hangs 27 = .ok (.invokevirtual 320, 3) := by decide +kernel
theorem dX12_hangs_30 : decode cX12_hangs 30 = .ok (.lstore_n 3, 1) := by decide +kernel
theorem dX12_hangs_31 : decode cX12_hangs 31 = .ok (.iconst (-1), 1) := by decide +kernel
theorem dX12_hangs_32 : decode cX12_hangs 32 = .ok (.istore 5, 2) := by decide +kernel
theorem dX12_hangs_34 : decode cX12_hangs 34 = .ok (.iconst 0, 1) := by decide +kernel
theorem dX12_hangs_35 : decode cX12_hangs 35 = .ok (.istore 6, 2) := by decide +kernel
theorem dX12_hangs_37 : decode cX12_hangs 37 = .ok (.iload 6, 2) := by decide +kernel
theorem dX12_hangs_39 : decode cX12_hangs 39 = .ok (.aload_n 0, 1) := by decide +kernel
theorem dX12_hangs_40 : decode cX12_hangs 40 = .ok (.getfield 15, 3) := by decide +kernel
theorem dX12_hangs_43 : decode cX12_hangs 43 = .ok (.iconst 0, 1) := by decide +kernel
theorem dX12_hangs_44 : decode cX12_hangs 44 = .ok (.iaload, 1) := by decide +kernel
theorem dX12_hangs_45 : decode cX12_hangs 45 = .ok (.bipush 10, 2) := by decide +kernel
theorem dX12_hangs_47 : decode cX12_hangs 47 = .ok (.imul, 1) := by decide +kernel
theorem dX12_hangs_48 : decode cX12_hangs 48 = .ok (.if_icmp .ge 61, 3) := by decide +kernel
theorem dX12_hangs_51 : decode cX12_hangs 51 = .ok (.aload_n 0, 1) := by decide +kernel
theorem dX12_hangs_52 : decode cX12_hangs 52 = .ok (.iload 6, 2) := by decide +kernel
theorem dX12_hangs_54 : decode cX12_hangs 54 = .ok (.bipush 10, 2) := by decide +kernel
theorem dX12_hangs_56 : decode cX12_hangs 56 = .ok (.idiv, 1) := by decide +kernel
theorem dX12_hangs_57 : decode cX12_hangs 57 = .ok (.iload 6, 2) := by decide +kernel
theorem dX12_hangs_59 : decode cX12_hangs 59 = .ok (.bipush 10, 2) := by decide +kernel
theorem dX12_hangs_61 : decode cX12_hangs 61 = .ok (.irem, 1) := by decide +kernel
theorem dX12_hangs_62 : decode cX12_hangs 62 = .ok (.invokevirtual 344, 3) := by decide +kernel
theorem dX12_hangs_65 : decode cX12_hangs 65 = .ok (.ifCond .ne 6, 3) := by decide +kernel
theorem dX12_hangs_71 : decode cX12_hangs 71 = .ok (.aload_n 0, 1) := by decide +kernel
theorem dX12_hangs_72 : decode cX12_hangs 72 = .ok (.iload 6, 2) := by decide +kernel
theorem dX12_hangs_74 : decode cX12_hangs 74 = .ok (.bipush 10, 2) := by decide +kernel
theorem dX12_hangs_76 : decode cX12_hangs 76 = .ok (.idiv, 1) := by decide +kernel
theorem dX12_hangs_77 : decode cX12_hangs 77 = .ok (.iload 6, 2) := by decide +kernel
theorem dX12_hangs_79 : decode cX12_hangs 79 = .ok (.bipush 10, 2) := by decide +kernel
theorem dX12_hangs_81 : decode cX12_hangs 81 = .ok (.irem, 1) := by decide +kernel
theorem dX12_hangs_82 : decode cX12_hangs 82 = .ok (.iload_n 1, 1) := by decide +kernel
theorem dX12_hangs_83 : decode cX12_hangs 83 = .ok (.iload_n 2, 1) := by decide +kernel
theorem dX12_hangs_84 : decode cX12_hangs 84 = .ok (.invokevirtual 350, 3) := by decide +kernel
theorem dX12_hangs_87 : decode cX12_hangs 87 = .ok (.lstore 7, 2) := by decide +kernel
theorem dX12_hangs_89 : decode cX12_hangs 89 = .ok (.lload 7, 2) := by decide +kernel
theorem dX12_hangs_91 : decode cX12_hangs 91 = .ok (.lload_n 3, 1) := by decide +kernel
theorem dX12_hangs_92 : decode cX12_hangs 92 = .ok (.lcmp, 1) := by decide +kernel
theorem dX12_hangs_93 : decode cX12_hangs 93 = .ok (.ifCond .ge 10, 3) := by decide +kernel
theorem dX12_hangs_103 : decode cX12_hangs 103 = .ok (.iinc 6 1, 3) := by decide +kernel
theorem dX12_hangs_106 : decode cX12_hangs 106 = .ok (.goto (-69), 3) := by decide +kernel
theorem dX12_hangs_96 : decode cX12_hangs 96 = .ok (.lload 7, 2) := by decide +kernel
theorem dX12_hangs_98 : decode cX12_hangs 98 = .ok (.lstore_n 3, 1) := by decide +kernel
theorem dX12_hangs_99 : decode cX12_hangs 99 = .ok (.iload 6, 2) := by decide +kernel
theorem dX12_hangs_101 : decode cX12_hangs 101 = .ok (.istore 5, 2) := by decide +kernel
theorem dX12_hangs_68 : decode cX12_hangs 68 = .ok (.goto 35, 3) := by decide +kernel
theorem dX12_hangs_109 : decode cX12_hangs 109 = .ok (.iload 5, 2) := by decide +kernel
theorem dX12_hangs_111 : decode cX12_hangs 111 = .ok (.ireturn, 1) := by decide +kernel
theorem dX12_idle_0 : decode cX12_idle 0 = .ok (.aload_n 0, 1) := by decide +kernel
theorem dX12_idle_1 : decode cX12_idle 1 = .ok (.getfield 15, 3) := by decide +kernel
theorem dX12_idle_4 : decode cX12_idle 4 = .ok (.iconst 3, 1) := by decide +kernel
theorem dX12_idle_5 : decode cX12_idle 5 = .ok (.iaload, 1) := by decide +kernel
theorem dX12_idle_6 : decode cX12_idle 6 = .ok (.ifCond .ne 6, 3) := by decide +kernel
theorem dX12_idle_12 : decode cX12_idle 12 = .ok (.aload_n 0, 1) := by decide +kernel
theorem dX12_idle_13 : decode cX12_idle 13 = .ok (.iconst (-1), 1) := by decide +kernel
theorem dX12_idle_14 : decode cX12_idle 14 = .ok (.invokevirtual 324, 3) := by decide +kernel
theorem dX12_idle_17 : decode cX12_idle 17 = .ok (.iconst 0, 1) := by decide +kernel
theorem dX12_idle_18 : decode cX12_idle 18 = .ok (.istore_n 1, 1) := by decide +kernel
theorem dX12_idle_19 : decode cX12_idle 19 = .ok (.iconst 0, 1) := by decide +kernel
theorem dX12_idle_20 : decode cX12_idle 20 = .ok (.istore_n 2, 1) := by decide +kernel
theorem dX12_idle_21 : decode cX12_idle 21 = .ok (.iload_n 2, 1) := by decide +kernel
theorem dX12_idle_22 : decode cX12_idle 22 = .ok (.aload_n 0, 1) := by decide +kernel
theorem dX12_idle_23 : decode cX12_idle 23 = .ok (.getfield 15, 3) := by decide +kernel
theorem dX12_idle_26 : decode cX12_idle 26 = .ok (.iconst 0, 1) := by decide +kernel
theorem dX12_idle_27 : decode cX12_idle 27 = .ok (.iaload, 1) := by decide +kernel
theorem dX12_idle_28 : decode cX12_idle 28 = .ok (.bipush 10, 2) := by decide +kernel
theorem dX12_idle_30 : decode cX12_idle 30 = .ok (.imul, 1) := by decide +kernel
theorem dX12_idle_31 : decode cX12_idle 31 = .ok (.if_icmp .ge 106, 3) := by decide +kernel
theorem dX12_idle_34 : decode cX12_idle 34 = .ok (.iload_n 2, 1) := by decide +kernel
theorem dX12_idle_35 : decode cX12_idle 35 = .ok (.bipush 10, 2) := by decide +kernel
theorem dX12_idle_37 : decode cX12_idle 37 = .ok (.idiv, 1) := by decide +kernel
theorem dX12_idle_38 : decode cX12_idle 38 = .ok (.istore_n 3, 1) := by decide +kernel
theorem dX12_idle_39 : decode cX12_idle 39 = .ok (.iload_n 2, 1) := by decide +kernel
theorem dX12_idle_40 : decode cX12_idle 40 = .ok (.bipush 10, 2) := by decide +kernel
theorem dX12_idle_42 : decode cX12_idle 42 = .ok (.irem, 1) := by decide +kernel
theorem dX12_idle_43 : decode cX12_idle 43 = .ok (.istore 4, 2) := by decide +kernel
theorem dX12_idle_45 : decode cX12_idle 45 = .ok (.aload_n 0, 1) := by decide +kernel
theorem dX12_idle_46 : decode cX12_idle 46 = .ok (.iload_n 3, 1) := by decide +kernel
theorem dX12_idle_47 : decode cX12_idle 47 = .ok (.iload 4, 2) := by decide +kernel
theorem dX12_idle_49 : decode cX12_idle 49 = .ok (.invokevirtual 344, 3) := by decide +kernel
theorem dX12_idle_52 : decode cX12_idle 52 = .ok (.ifCond .eq 17, 3) := by decide +kernel
theorem dX12_idle_69 : decode cX12_idle 69 = .ok (.iconst 0, 1) := by decide +kernel
theorem dX12_idle_55 : decode cX12_idle 55 = .ok (.aload_n 0, 1) := by decide +kernel
theorem dX12_idle_56 : decode cX12_idle 56 = .ok (.iload_n 3, 1) := by decide +kernel
theorem dX12_idle_57 : decode cX12_idle 57 = .ok (.iload 4, 2) := by decide +kernel
theorem dX12_idle_59 : decode cX12_idle 59 = .ok (.invokevirtual 231, 3) := by decide +kernel
theorem dX12_idle_62 : decode cX12_idle 62 = .ok (.ifCond .ne 7, 3) := by decide +kernel
theorem dX12_idle_65 : decode cX12_idle 65 = .ok (.iconst 1, 1) := by decide +kernel
theorem dX12_idle_66 : decode cX12_idle 66 = .ok (.goto 4, 3) := by decide +kernel
theorem dX12_idle_70 : decode cX12_idle 70 = .ok (.istore 5, 2) := by decide +kernel
theorem dX12_idle_72 : decode cX12_idle 72 = .ok (.iconst 0, 1) := by decide +kernel
theorem dX12_idle_73 : decode cX12_idle 73 = .ok (.istore 6, 2) := by decide +kernel
theorem dX12_idle_75 : decode cX12_idle 75 = .ok (.iload 6, 2) := by decide +kernel
theorem dX12_idle_77 : decode cX12_idle 77 = .ok (.aload_n 0, 1) := by decide +kernel
theorem dX12_idle_78 : decode cX12_idle 78 = .ok (.getfield 15, 3) := by decide +kernel
theorem dX12_idle_81 : decode cX12_idle 81 = .ok (.iconst 1, 1) := by decide +kernel
theorem dX12_idle_82 : decode cX12_idle 82 = .ok (.iaload, 1) := by decide +kernel
theorem dX12_idle_83 : decode cX12_idle 83 = .ok (.if_icmp .gt 35, 3) := by decide +kernel
theorem dX12_idle_86 : decode cX12_idle 86 = .ok (.iload 5, 2) := by decide +kernel
theorem dX12_idle_88 : decode cX12_idle 88 = .ok (.ifCond .eq 30, 3) := by decide +kernel
theorem dX12_idle_91 : decode cX12_idle 91 = .ok (.aload_n 0, 1) := by decide +kernel
theorem dX12_idle_92 : decode cX12_idle 92 = .ok (.iload_n 3, 1) := by decide +kernel
theorem dX12_idle_93 : decode cX12_idle 93 = .ok (.iload 6, 2) := by decide +kernel
theorem dX12_idle_95 : decode cX12_idle 95 = .ok (.iload 4, 2) := by decide +kernel
theorem dX12_idle_97 : decode cX12_idle 97 = .ok (.invokevirtual 347, 3) := by decide +kernel
theorem dX12_idle_100 : decode cX12_idle 100 = .ok (.lconst 0, 1) := by decide +kernel
theorem dX12_idle_101 : decode cX12_idle 101 = .ok (.lcmp, 1) := by decide +kernel
theorem dX12_idle_102 : decode cX12_idle 102 = .ok (.ifCond .ne 7, 3) := by decide +kernel
theorem dX12_idle_109 : decode cX12_idle 109 = .ok (.iconst 0, 1) := by decide +kernel
theorem dX12_idle_110 : decode cX12_idle 110 = .ok (.istore 5, 2) := by decide +kernel
theorem dX12_idle_112 : decode cX12_idle 112 = .ok (.iinc 6 1, 3) := by decide +kernel
theorem dX12_idle_115 : decode cX12_idle 115 = .ok (.goto (-40), 3) := by decide +kernel
theorem dX12_idle_105 : decode cX12_idle 105 = .ok (.iconst 1, 1) := by decide +kernel
theorem dX12_idle_106 : decode cX12_idle 106 = .ok (.goto 4, 3) := by decide +kernel
theorem dX12_idle_118 : decode cX12_idle 118 = .ok (.iload_n 1, 1) := by decide +kernel
theorem dX12_idle_119 : decode cX12_idle 119 = .ok (.iload 5, 2) := by decide +kernel
theorem dX12_idle_121 : decode cX12_idle 121 = .ok (.ifCond .eq 7, 3) := by decide +kernel
theorem dX12_idle_128 : decode cX12_idle 128 = .ok (.iconst 0, 1) := by decide +kernel
theorem dX12_idle_129 : decode cX12_idle 129 = .ok (.iadd, 1) := by decide +kernel
theorem dX12_idle_130 : decode cX12_idle 130 = .ok (.istore_n 1, 1) := by decide +kernel
theorem dX12_idle_131 : decode cX12_idle 131 = .ok (.iinc 2 1, 3) := by decide +kernel
theorem dX12_idle_134 : decode cX12_idle 134 = .ok (.goto (-113), 3) := by decide +kernel
theorem dX12_idle_124 : decode cX12_idle 124 = .ok (.iconst 1, 1) := by decide +kernel
theorem dX12_idle_125 : decode cX12_idle 125 = .ok (.goto 4, 3) := by decide +kernel
theorem dX12_idle_137 : decode cX12_idle 137 = .ok (.iload_n 1, 1) := by decide +kernel
theorem dX12_idle_138 : decode cX12_idle 138 = .ok (.ireturn, 1) := by decide +kernel
theorem dX12_idle_9 : decode cX12_idle 9 = .ok (.bipush (-2), 2) := by decide +kernel
theorem dX12_idle_11 : decode cX12_idle 11 = .ok (.ireturn, 1) := by decide +kernel
theorem dX12_namedExpr_0 : decode cX12_namedExpr 0 = .ok (.lconst 0, 1) := by decide +kernel
theorem dX12_namedExpr_1 : decode cX12_namedExpr 1 = .ok (.lstore_n 3, 1) := by decide +kernel
theorem dX12_namedExpr_2 : decode cX12_namedExpr 2 = .ok (.iconst 0, 1) := by decide +kernel
theorem dX12_namedExpr_3 : decode cX12_namedExpr 3 = .ok (.istore 5, 2) := by decide +kernel
theorem dX12_namedExpr_5 : decode cX12_namedExpr 5 = .ok (.aload_n 0, 1) := by decide +kernel
theorem dX12_namedExpr_6 : decode cX12_namedExpr 6 = .ok (.getfield 15, 3) := by decide +kernel
theorem dX12_namedExpr_9 : decode cX12_namedExpr 9 = .ok (.sipush 168, 3) := by decide +kernel
theorem dX12_namedExpr_12 : decode cX12_namedExpr 12 = .ok (.iload_n 1, 1) := by decide +kernel
theorem dX12_namedExpr_13 : decode cX12_namedExpr 13 = .ok (.iadd, 1) := by decide +kernel
theorem dX12_namedExpr_14 : decode cX12_namedExpr 14 = .ok (.iaload, 1) := by decide +kernel
theorem dX12_namedExpr_15 : decode cX12_namedExpr 15 = .ok (.istore 6, 2) := by decide +kernel
theorem dX12_namedExpr_17 : decode cX12_namedExpr 17 = .ok (.iload 6, 2) := by decide +kernel
theorem dX12_namedExpr_19 : decode cX12_namedExpr 19 = .ok (.ifCond .lt 64, 3) := by decide +kernel
theorem dX12_namedExpr_22 : decode cX12_namedExpr 22 = .ok (.lload_n 3, 1) := by decide +kernel
theorem dX12_namedExpr_23 : decode cX12_namedExpr 23 = .ok (.aload_n 0, 1) := by decide +kernel
theorem dX12_namedExpr_24 : decode cX12_namedExpr 24 = .ok (.iload_n 1, 1) := by decide +kernel
theorem dX12_namedExpr_25 : decode cX12_namedExpr 25 = .ok (.iload 5, 2) := by decide +kernel
theorem dX12_namedExpr_27 : decode cX12_namedExpr 27 = .ok (.invokevirtual 231, 3) := by decide +kernel
theorem dX12_namedExpr_30 : decode cX12_namedExpr 30 = .ok (.ifCond .eq 7, 3) := by decide +kernel
theorem dX12_namedExpr_37 : decode cX12_namedExpr 37 = .ok (.aload_n 0, 1) := by decide +kernel
theorem dX12_namedExpr_38 : decode cX12_namedExpr 38 = .ok (.getfield 52, 3) := by decide +kernel
theorem dX12_namedExpr_41 : decode cX12_namedExpr 41 = .ok (.aload_n 0, 1) := by decide +kernel
theorem dX12_namedExpr_42 : decode cX12_namedExpr 42 = .ok (.getfield 15, 3) := by decide +kernel
theorem dX12_namedExpr_45 : decode cX12_namedExpr 45 = .ok (.bipush 120, 2) := by decide +kernel
theorem dX12_namedExpr_47 : decode cX12_namedExpr 47 = .ok (.iload 6, 2) := by decide +kernel
theorem dX12_namedExpr_49 : decode cX12_namedExpr 49 = .ok (.iadd, 1) := by decide +kernel
theorem dX12_namedExpr_50 : decode cX12_namedExpr 50 = .ok (.iaload, 1) := by decide +kernel
theorem dX12_namedExpr_51 : decode cX12_namedExpr 51 = .ok (.bipush 8, 2) := by decide +kernel
theorem dX12_namedExpr_53 : decode cX12_namedExpr 53 = .ok (.imul, 1) := by decide +kernel
theorem dX12_namedExpr_54 : decode cX12_namedExpr 54 = .ok (.iload_n 2, 1) := by decide +kernel
theorem dX12_namedExpr_55 : decode cX12_namedExpr 55 = .ok (.iadd, 1) := by decide +kernel
theorem dX12_namedExpr_56 : decode cX12_namedExpr 56 = .ok (.laload, 1) := by decide +kernel
theorem dX12_namedExpr_33 : decode cX12_namedExpr 33 = .ok (.lconst 0, 1) := by decide +kernel
theorem dX12_namedExpr_34 : decode cX12_namedExpr 34 = .ok (.goto 23, 3) := by decide +kernel
theorem dX12_namedExpr_57 : decode cX12_namedExpr 57 = .ok (.ldc2_w 280, 3) := by decide +kernel
theorem dX12_namedExpr_60 : decode cX12_namedExpr 60 = .ok (.invokestatic 282, 3) := by decide +kernel
theorem dX12_namedExpr_63 : decode cX12_namedExpr 63 = .ok (.lstore_n 3, 1) := by decide +kernel
theorem dX12_namedExpr_64 : decode cX12_namedExpr 64 = .ok (.iinc 5 1, 3) := by decide +kernel
theorem dX12_namedExpr_67 : decode cX12_namedExpr 67 = .ok (.aload_n 0, 1) := by decide +kernel
theorem dX12_namedExpr_68 : decode cX12_namedExpr 68 = .ok (.getfield 15, 3) := by decide +kernel
theorem dX12_namedExpr_71 : decode cX12_namedExpr 71 = .ok (.sipush 144, 3) := by decide +kernel
theorem dX12_namedExpr_74 : decode cX12_namedExpr 74 = .ok (.iload 6, 2) := by decide +kernel
theorem dX12_namedExpr_76 : decode cX12_namedExpr 76 = .ok (.iadd, 1) := by decide +kernel
theorem dX12_namedExpr_77 : decode cX12_namedExpr 77 = .ok (.iaload, 1) := by decide +kernel
theorem dX12_namedExpr_78 : decode cX12_namedExpr 78 = .ok (.istore 6, 2) := by decide +kernel
theorem dX12_namedExpr_80 : decode cX12_namedExpr 80 = .ok (.goto (-63), 3) := by decide +kernel
theorem dX12_namedExpr_83 : decode cX12_namedExpr 83 = .ok (.lload_n 3, 1) := by decide +kernel
theorem dX12_namedExpr_84 : decode cX12_namedExpr 84 = .ok (.lreturn, 1) := by decide +kernel
theorem dX12_namesRest_0 : decode cX12_namesRest 0 = .ok (.aload_n 0, 1) := by decide +kernel
theorem dX12_namesRest_1 : decode cX12_namesRest 1 = .ok (.getfield 15, 3) := by decide +kernel
theorem dX12_namesRest_4 : decode cX12_namesRest 4 = .ok (.bipush 96, 2) := by decide +kernel
theorem dX12_namesRest_6 : decode cX12_namesRest 6 = .ok (.iload_n 1, 1) := by decide +kernel
theorem dX12_namesRest_7 : decode cX12_namesRest 7 = .ok (.iadd, 1) := by decide +kernel
theorem dX12_namesRest_8 : decode cX12_namesRest 8 = .ok (.iaload, 1) := by decide +kernel
theorem dX12_namesRest_9 : decode cX12_namesRest 9 = .ok (.istore_n 3, 1) := by decide +kernel
theorem dX12_namesRest_10 : decode cX12_namesRest 10 = .ok (.iload_n 3, 1) := by decide +kernel
theorem dX12_namesRest_11 : decode cX12_namesRest 11 = .ok (.ifCond .ge 17, 3) := by decide +kernel
theorem dX12_namesRest_28 : decode cX12_namesRest 28 = .ok (.lconst 0, 1) := by decide +kernel
theorem dX12_namesRest_14 : decode cX12_namesRest 14 = .ok (.aload_n 0, 1) := by decide +kernel
theorem dX12_namesRest_15 : decode cX12_namesRest 15 = .ok (.getfield 49, 3) := by decide +kernel
theorem dX12_namesRest_18 : decode cX12_namesRest 18 = .ok (.iload_n 1, 1) := by decide +kernel
theorem dX12_namesRest_19 : decode cX12_namesRest 19 = .ok (.bipush 8, 2) := by decide +kernel
theorem dX12_namesRest_21 : decode cX12_namesRest 21 = .ok (.imul, 1) := by decide +kernel
theorem dX12_namesRest_22 : decode cX12_namesRest 22 = .ok (.iload_n 2, 1) := by decide +kernel
theorem dX12_namesRest_23 : decode cX12_namesRest 23 = .ok (.iadd, 1) := by decide +kernel
theorem dX12_namesRest_24 : decode cX12_namesRest 24 = .ok (.laload, 1) := by decide +kernel
theorem dX12_namesRest_25 : decode cX12_namesRest 25 = .ok (.goto 4, 3) := by decide +kernel
theorem dX12_namesRest_29 : decode cX12_namesRest 29 = .ok (.lstore 4, 2) := by decide +kernel
theorem dX12_namesRest_31 : decode cX12_namesRest 31 = .ok (.iconst 0, 1) := by decide +kernel
theorem dX12_namesRest_32 : decode cX12_namesRest 32 = .ok (.istore 6, 2) := by decide +kernel
theorem dX12_namesRest_34 : decode cX12_namesRest 34 = .ok (.iload 6, 2) := by decide +kernel
theorem dX12_namesRest_36 : decode cX12_namesRest 36 = .ok (.iload_n 2, 1) := by decide +kernel
theorem dX12_namesRest_37 : decode cX12_namesRest 37 = .ok (.if_icmp .gt 71, 3) := by decide +kernel
theorem dX12_namesRest_40 : decode cX12_namesRest 40 = .ok (.iload_n 3, 1) := by decide +kernel
theorem dX12_namesRest_41 : decode cX12_namesRest 41 = .ok (.ifCond .lt 67, 3) := by decide +kernel
theorem dX12_namesRest_44 : decode cX12_namesRest 44 = .ok (.aload_n 0, 1) := by decide +kernel
theorem dX12_namesRest_45 : decode cX12_namesRest 45 = .ok (.getfield 49, 3) := by decide +kernel
theorem dX12_namesRest_48 : decode cX12_namesRest 48 = .ok (.iload_n 1, 1) := by decide +kernel
theorem dX12_namesRest_49 : decode cX12_namesRest 49 = .ok (.bipush 8, 2) := by decide +kernel
theorem dX12_namesRest_51 : decode cX12_namesRest 51 = .ok (.imul, 1) := by decide +kernel
theorem dX12_namesRest_52 : decode cX12_namesRest 52 = .ok (.iload 6, 2) := by decide +kernel
theorem dX12_namesRest_54 : decode cX12_namesRest 54 = .ok (.iadd, 1) := by decide +kernel
theorem dX12_namesRest_55 : decode cX12_namesRest 55 = .ok (.laload, 1) := by decide +kernel
theorem dX12_namesRest_56 : decode cX12_namesRest 56 = .ok (.aload_n 0, 1) := by decide +kernel
theorem dX12_namesRest_57 : decode cX12_namesRest 57 = .ok (.getfield 52, 3) := by decide +kernel
theorem dX12_namesRest_60 : decode cX12_namesRest 60 = .ok (.iload_n 3, 1) := by decide +kernel
theorem dX12_namesRest_61 : decode cX12_namesRest 61 = .ok (.bipush 8, 2) := by decide +kernel
theorem dX12_namesRest_63 : decode cX12_namesRest 63 = .ok (.imul, 1) := by decide +kernel
theorem dX12_namesRest_64 : decode cX12_namesRest 64 = .ok (.iload_n 2, 1) := by decide +kernel
theorem dX12_namesRest_65 : decode cX12_namesRest 65 = .ok (.iadd, 1) := by decide +kernel
theorem dX12_namesRest_66 : decode cX12_namesRest 66 = .ok (.iload 6, 2) := by decide +kernel
theorem dX12_namesRest_68 : decode cX12_namesRest 68 = .ok (.isub, 1) := by decide +kernel
theorem dX12_namesRest_69 : decode cX12_namesRest 69 = .ok (.laload, 1) := by decide +kernel
theorem dX12_namesRest_70 : decode cX12_namesRest 70 = .ok (.ldc2_w 280, 3) := by decide +kernel
theorem dX12_namesRest_73 : decode cX12_namesRest 73 = .ok (.invokestatic 286, 3) := by decide +kernel
theorem dX12_namesRest_76 : decode cX12_namesRest 76 = .ok (.lstore 7, 2) := by decide +kernel
theorem dX12_namesRest_78 : decode cX12_namesRest 78 = .ok (.lload 4, 2) := by decide +kernel
theorem dX12_namesRest_80 : decode cX12_namesRest 80 = .ok (.iload_n 2, 1) := by decide +kernel
theorem dX12_namesRest_81 : decode cX12_namesRest 81 = .ok (.iload 6, 2) := by decide +kernel
theorem dX12_namesRest_83 : decode cX12_namesRest 83 = .ok (.invokestatic 362, 3) := by decide +kernel
theorem wm_2164 : (Jvm.Cond.methodLink "GrownKindsModel" (362 : Nat) ({ cls := "GrownKindsModel", name := "ofAll", desc := "(II)J" } : Jvm.MethodName)) ∈ gT := gT_in (List.mem_of_getElem? (i := 2164) (by decide +kernel)) (by decide +kernel)
theorem wm_2165 : (Jvm.Cond.static ({ cls := "GrownKindsModel", name := "ofAll", desc := "(II)J" } : Jvm.MethodName)) ∈ gT := gT_in (List.mem_of_getElem? (i := 2165) (by decide +kernel)) (by decide +kernel)
theorem wm_2166 : (Jvm.Cond.code ({ cls := "GrownKindsModel", name := "ofAll", desc := "(II)J" } : Jvm.MethodName) prog_14_method_78_code (5 : Nat) (Option.some Jvm.ClassFile.FieldType.long)) ∈ gT := gT_in (List.mem_of_getElem? (i := 2166) (by decide +kernel)) (by decide +kernel)
theorem dX12_namesRest_86 : decode cX12_namesRest 86 = .ok (.lload 7, 2) := by decide +kernel
theorem dX12_namesRest_88 : decode cX12_namesRest 88 = .ok (.ldc2_w 280, 3) := by decide +kernel
theorem dX12_namesRest_91 : decode cX12_namesRest 91 = .ok (.invokestatic 286, 3) := by decide +kernel
theorem dX12_namesRest_94 : decode cX12_namesRest 94 = .ok (.ldc2_w 280, 3) := by decide +kernel
theorem dX12_namesRest_97 : decode cX12_namesRest 97 = .ok (.invokestatic 282, 3) := by decide +kernel
theorem dX12_namesRest_100 : decode cX12_namesRest 100 = .ok (.lstore 4, 2) := by decide +kernel
theorem dX12_namesRest_102 : decode cX12_namesRest 102 = .ok (.iinc 6 1, 3) := by decide +kernel
theorem dX12_namesRest_105 : decode cX12_namesRest 105 = .ok (.goto (-71), 3) := by decide +kernel
theorem dX12_namesRest_108 : decode cX12_namesRest 108 = .ok (.aload_n 0, 1) := by decide +kernel
theorem dX12_namesRest_109 : decode cX12_namesRest 109 = .ok (.getfield 52, 3) := by decide +kernel
theorem dX12_namesRest_112 : decode cX12_namesRest 112 = .ok (.iload_n 1, 1) := by decide +kernel
theorem dX12_namesRest_113 : decode cX12_namesRest 113 = .ok (.bipush 8, 2) := by decide +kernel
theorem dX12_namesRest_115 : decode cX12_namesRest 115 = .ok (.imul, 1) := by decide +kernel
theorem dX12_namesRest_116 : decode cX12_namesRest 116 = .ok (.iload_n 2, 1) := by decide +kernel
theorem dX12_namesRest_117 : decode cX12_namesRest 117 = .ok (.iadd, 1) := by decide +kernel
theorem dX12_namesRest_118 : decode cX12_namesRest 118 = .ok (.lload 4, 2) := by decide +kernel
theorem dX12_namesRest_120 : decode cX12_namesRest 120 = .ok (.lastore, 1) := by decide +kernel
theorem dX12_namesRest_121 : decode cX12_namesRest 121 = .ok (.return_, 1) := by decide +kernel
theorem dX12_namedIn_0 : decode cX12_namedIn 0 = .ok (.iconst 0, 1) := by decide +kernel
theorem dX12_namedIn_1 : decode cX12_namedIn 1 = .ok (.istore 5, 2) := by decide +kernel
theorem dX12_namedIn_3 : decode cX12_namedIn 3 = .ok (.iload 5, 2) := by decide +kernel
theorem dX12_namedIn_5 : decode cX12_namedIn 5 = .ok (.aload_n 0, 1) := by decide +kernel
theorem dX12_namedIn_6 : decode cX12_namedIn 6 = .ok (.getfield 55, 3) := by decide +kernel
theorem dX12_namedIn_9 : decode cX12_namedIn 9 = .ok (.arraylength, 1) := by decide +kernel
theorem dX12_namedIn_10 : decode cX12_namedIn 10 = .ok (.if_icmp .ge 17, 3) := by decide +kernel
theorem dX12_namedIn_13 : decode cX12_namedIn 13 = .ok (.aload_n 0, 1) := by decide +kernel
theorem dX12_namedIn_14 : decode cX12_namedIn 14 = .ok (.getfield 55, 3) := by decide +kernel
theorem dX12_namedIn_17 : decode cX12_namedIn 17 = .ok (.iload 5, 2) := by decide +kernel
theorem dX12_namedIn_19 : decode cX12_namedIn 19 = .ok (.lconst 0, 1) := by decide +kernel
theorem dX12_namedIn_20 : decode cX12_namedIn 20 = .ok (.lastore, 1) := by decide +kernel
theorem dX12_namedIn_21 : decode cX12_namedIn 21 = .ok (.iinc 5 1, 3) := by decide +kernel
theorem dX12_namedIn_24 : decode cX12_namedIn 24 = .ok (.goto (-21), 3) := by decide +kernel
theorem dX12_namedIn_27 : decode cX12_namedIn 27 = .ok (.aload_n 0, 1) := by decide +kernel
theorem dX12_namedIn_28 : decode cX12_namedIn 28 = .ok (.getfield 55, 3) := by decide +kernel
theorem dX12_namedIn_31 : decode cX12_namedIn 31 = .ok (.iconst 0, 1) := by decide +kernel
theorem dX12_namedIn_32 : decode cX12_namedIn 32 = .ok (.lconst 1, 1) := by decide +kernel
theorem dX12_namedIn_33 : decode cX12_namedIn 33 = .ok (.lastore, 1) := by decide +kernel
theorem dX12_namedIn_34 : decode cX12_namedIn 34 = .ok (.iconst 1, 1) := by decide +kernel
theorem dX12_namedIn_35 : decode cX12_namedIn 35 = .ok (.istore 5, 2) := by decide +kernel
theorem dX12_namedIn_37 : decode cX12_namedIn 37 = .ok (.iload 5, 2) := by decide +kernel
theorem dX12_namedIn_39 : decode cX12_namedIn 39 = .ok (.iload 4, 2) := by decide +kernel
theorem dX12_namedIn_41 : decode cX12_namedIn 41 = .ok (.if_icmp .gt 128, 3) := by decide +kernel
theorem dX12_namedIn_44 : decode cX12_namedIn 44 = .ok (.iload 5, 2) := by decide +kernel
theorem dX12_namedIn_46 : decode cX12_namedIn 46 = .ok (.istore 6, 2) := by decide +kernel
theorem dX12_namedIn_48 : decode cX12_namedIn 48 = .ok (.iload 6, 2) := by decide +kernel
theorem dX12_namedIn_50 : decode cX12_namedIn 50 = .ok (.iload 4, 2) := by decide +kernel
theorem dX12_namedIn_52 : decode cX12_namedIn 52 = .ok (.if_icmp .gt 111, 3) := by decide +kernel
theorem dX12_namedIn_55 : decode cX12_namedIn 55 = .ok (.lconst 0, 1) := by decide +kernel
theorem dX12_namedIn_56 : decode cX12_namedIn 56 = .ok (.lstore 7, 2) := by decide +kernel
theorem dX12_namedIn_58 : decode cX12_namedIn 58 = .ok (.iconst 1, 1) := by decide +kernel
theorem dX12_namedIn_59 : decode cX12_namedIn 59 = .ok (.istore 9, 2) := by decide +kernel
theorem dX12_namedIn_61 : decode cX12_namedIn 61 = .ok (.iload 9, 2) := by decide +kernel
theorem dX12_namedIn_63 : decode cX12_namedIn 63 = .ok (.iload 6, 2) := by decide +kernel
theorem dX12_namedIn_65 : decode cX12_namedIn 65 = .ok (.iload 5, 2) := by decide +kernel
theorem dX12_namedIn_67 : decode cX12_namedIn 67 = .ok (.isub, 1) := by decide +kernel
theorem dX12_namedIn_68 : decode cX12_namedIn 68 = .ok (.iconst 1, 1) := by decide +kernel
theorem dX12_namedIn_69 : decode cX12_namedIn 69 = .ok (.iadd, 1) := by decide +kernel
theorem dX12_namedIn_70 : decode cX12_namedIn 70 = .ok (.if_icmp .gt 72, 3) := by decide +kernel
theorem dX12_namedIn_73 : decode cX12_namedIn 73 = .ok (.aload_n 0, 1) := by decide +kernel
theorem dX12_namedIn_74 : decode cX12_namedIn 74 = .ok (.getfield 49, 3) := by decide +kernel
theorem dX12_namedIn_77 : decode cX12_namedIn 77 = .ok (.iload_n 3, 1) := by decide +kernel
theorem dX12_namedIn_78 : decode cX12_namedIn 78 = .ok (.bipush 8, 2) := by decide +kernel
theorem dX12_namedIn_80 : decode cX12_namedIn 80 = .ok (.imul, 1) := by decide +kernel
theorem dX12_namedIn_81 : decode cX12_namedIn 81 = .ok (.iload 9, 2) := by decide +kernel
theorem dX12_namedIn_83 : decode cX12_namedIn 83 = .ok (.iadd, 1) := by decide +kernel
theorem dX12_namedIn_84 : decode cX12_namedIn 84 = .ok (.laload, 1) := by decide +kernel
theorem dX12_namedIn_85 : decode cX12_namedIn 85 = .ok (.aload_n 0, 1) := by decide +kernel
theorem dX12_namedIn_86 : decode cX12_namedIn 86 = .ok (.getfield 55, 3) := by decide +kernel
theorem dX12_namedIn_89 : decode cX12_namedIn 89 = .ok (.iload 5, 2) := by decide +kernel
theorem dX12_namedIn_91 : decode cX12_namedIn 91 = .ok (.iconst 1, 1) := by decide +kernel
theorem dX12_namedIn_92 : decode cX12_namedIn 92 = .ok (.isub, 1) := by decide +kernel
theorem dX12_namedIn_93 : decode cX12_namedIn 93 = .ok (.bipush 8, 2) := by decide +kernel
theorem dX12_namedIn_95 : decode cX12_namedIn 95 = .ok (.imul, 1) := by decide +kernel
theorem dX12_namedIn_96 : decode cX12_namedIn 96 = .ok (.iload 6, 2) := by decide +kernel
theorem dX12_namedIn_98 : decode cX12_namedIn 98 = .ok (.iadd, 1) := by decide +kernel
theorem dX12_namedIn_99 : decode cX12_namedIn 99 = .ok (.iload 9, 2) := by decide +kernel
theorem dX12_namedIn_101 : decode cX12_namedIn 101 = .ok (.isub, 1) := by decide +kernel
theorem dX12_namedIn_102 : decode cX12_namedIn 102 = .ok (.laload, 1) := by decide +kernel
theorem dX12_namedIn_103 : decode cX12_namedIn 103 = .ok (.ldc2_w 306, 3) := by decide +kernel
theorem dX12_namedIn_106 : decode cX12_namedIn 106 = .ok (.invokestatic 286, 3) := by decide +kernel
theorem dX12_namedIn_109 : decode cX12_namedIn 109 = .ok (.lstore 10, 2) := by decide +kernel
theorem dX12_namedIn_111 : decode cX12_namedIn 111 = .ok (.lload 7, 2) := by decide +kernel
theorem dX12_namedIn_113 : decode cX12_namedIn 113 = .ok (.iload 6, 2) := by decide +kernel
theorem dX12_namedIn_115 : decode cX12_namedIn 115 = .ok (.iload 9, 2) := by decide +kernel
theorem dX12_namedIn_117 : decode cX12_namedIn 117 = .ok (.invokestatic 362, 3) := by decide +kernel
theorem dX12_namedIn_120 : decode cX12_namedIn 120 = .ok (.lload 10, 2) := by decide +kernel
theorem dX12_namedIn_122 : decode cX12_namedIn 122 = .ok (.ldc2_w 306, 3) := by decide +kernel
theorem dX12_namedIn_125 : decode cX12_namedIn 125 = .ok (.invokestatic 286, 3) := by decide +kernel
theorem dX12_namedIn_128 : decode cX12_namedIn 128 = .ok (.ldc2_w 306, 3) := by decide +kernel
theorem dX12_namedIn_131 : decode cX12_namedIn 131 = .ok (.invokestatic 282, 3) := by decide +kernel
theorem dX12_namedIn_134 : decode cX12_namedIn 134 = .ok (.lstore 7, 2) := by decide +kernel
theorem dX12_namedIn_136 : decode cX12_namedIn 136 = .ok (.iinc 9 1, 3) := by decide +kernel
theorem dX12_namedIn_139 : decode cX12_namedIn 139 = .ok (.goto (-78), 3) := by decide +kernel
theorem dX12_namedIn_142 : decode cX12_namedIn 142 = .ok (.aload_n 0, 1) := by decide +kernel
theorem dX12_namedIn_143 : decode cX12_namedIn 143 = .ok (.getfield 55, 3) := by decide +kernel
theorem dX12_namedIn_146 : decode cX12_namedIn 146 = .ok (.iload 5, 2) := by decide +kernel
theorem dX12_namedIn_148 : decode cX12_namedIn 148 = .ok (.bipush 8, 2) := by decide +kernel
theorem dX12_namedIn_150 : decode cX12_namedIn 150 = .ok (.imul, 1) := by decide +kernel
theorem dX12_namedIn_151 : decode cX12_namedIn 151 = .ok (.iload 6, 2) := by decide +kernel
theorem dX12_namedIn_153 : decode cX12_namedIn 153 = .ok (.iadd, 1) := by decide +kernel
theorem dX12_namedIn_154 : decode cX12_namedIn 154 = .ok (.lload 7, 2) := by decide +kernel
theorem dX12_namedIn_156 : decode cX12_namedIn 156 = .ok (.lastore, 1) := by decide +kernel
theorem dX12_namedIn_157 : decode cX12_namedIn 157 = .ok (.iinc 6 1, 3) := by decide +kernel
theorem dX12_namedIn_160 : decode cX12_namedIn 160 = .ok (.goto (-112), 3) := by decide +kernel
theorem dX12_namedIn_163 : decode cX12_namedIn 163 = .ok (.iinc 5 1, 3) := by decide +kernel
theorem dX12_namedIn_166 : decode cX12_namedIn 166 = .ok (.goto (-129), 3) := by decide +kernel
theorem dX12_namedIn_169 : decode cX12_namedIn 169 = .ok (.lconst 0, 1) := by decide +kernel
theorem dX12_namedIn_170 : decode cX12_namedIn 170 = .ok (.lstore 5, 2) := by decide +kernel
theorem dX12_namedIn_172 : decode cX12_namedIn 172 = .ok (.iload_n 1, 1) := by decide +kernel
theorem dX12_namedIn_173 : decode cX12_namedIn 173 = .ok (.bipush 6, 2) := by decide +kernel
theorem dX12_namedIn_175 : decode cX12_namedIn 175 = .ok (.if_icmp .ne 7, 3) := by decide +kernel
theorem dX12_namedIn_182 : decode cX12_namedIn 182 = .ok (.iconst 0, 1) := by decide +kernel
theorem dX12_namedIn_178 : decode cX12_namedIn 178 = .ok (.iconst 1, 1) := by decide +kernel
theorem dX12_namedIn_179 : decode cX12_namedIn 179 = .ok (.goto 4, 3) := by decide +kernel
theorem dX12_namedIn_183 : decode cX12_namedIn 183 = .ok (.istore 7, 2) := by decide +kernel
theorem dX12_namedIn_185 : decode cX12_namedIn 185 = .ok (.iload 7, 2) := by decide +kernel
theorem dX12_namedIn_187 : decode cX12_namedIn 187 = .ok (.iload 4, 2) := by decide +kernel
theorem dX12_namedIn_189 : decode cX12_namedIn 189 = .ok (.if_icmp .gt 83, 3) := by decide +kernel
theorem dX12_namedIn_192 : decode cX12_namedIn 192 = .ok (.iload_n 1, 1) := by decide +kernel
theorem dX12_namedIn_193 : decode cX12_namedIn 193 = .ok (.iconst 3, 1) := by decide +kernel
theorem dX12_namedIn_194 : decode cX12_namedIn 194 = .ok (.if_icmp .ne 7, 3) := by decide +kernel
theorem dX12_namedIn_201 : decode cX12_namedIn 201 = .ok (.iload_n 1, 1) := by decide +kernel
theorem dX12_namedIn_202 : decode cX12_namedIn 202 = .ok (.bipush 6, 2) := by decide +kernel
theorem dX12_namedIn_204 : decode cX12_namedIn 204 = .ok (.if_icmp .ne 9, 3) := by decide +kernel
theorem dX12_namedIn_213 : decode cX12_namedIn 213 = .ok (.iload 7, 2) := by decide +kernel
theorem dX12_namedIn_215 : decode cX12_namedIn 215 = .ok (.invokestatic 368, 3) := by decide +kernel
theorem wm_2167 : (Jvm.Cond.methodLink "GrownKindsModel" (368 : Nat) ({ cls := "GrownKindsModel", name := "factorial", desc := "(I)J" } : Jvm.MethodName)) ∈ gT := gT_in (List.mem_of_getElem? (i := 2167) (by decide +kernel)) (by decide +kernel)
theorem wm_2168 : (Jvm.Cond.static ({ cls := "GrownKindsModel", name := "factorial", desc := "(I)J" } : Jvm.MethodName)) ∈ gT := gT_in (List.mem_of_getElem? (i := 2168) (by decide +kernel)) (by decide +kernel)
theorem wm_2169 : (Jvm.Cond.code ({ cls := "GrownKindsModel", name := "factorial", desc := "(I)J" } : Jvm.MethodName) prog_14_method_79_code (4 : Nat) (Option.some Jvm.ClassFile.FieldType.long)) ∈ gT := gT_in (List.mem_of_getElem? (i := 2169) (by decide +kernel)) (by decide +kernel)
theorem dX12_namedIn_207 : decode cX12_namedIn 207 = .ok (.iload 7, 2) := by decide +kernel
theorem dX12_namedIn_209 : decode cX12_namedIn 209 = .ok (.i2l, 1) := by decide +kernel
theorem dX12_namedIn_210 : decode cX12_namedIn 210 = .ok (.goto 8, 3) := by decide +kernel
theorem dX12_namedIn_197 : decode cX12_namedIn 197 = .ok (.lconst 1, 1) := by decide +kernel
theorem dX12_namedIn_198 : decode cX12_namedIn 198 = .ok (.goto 20, 3) := by decide +kernel
theorem dX12_namedIn_218 : decode cX12_namedIn 218 = .ok (.lstore 8, 2) := by decide +kernel
theorem dX12_namedIn_220 : decode cX12_namedIn 220 = .ok (.lload 5, 2) := by decide +kernel
theorem dX12_namedIn_222 : decode cX12_namedIn 222 = .ok (.iload_n 2, 1) := by decide +kernel
theorem dX12_namedIn_223 : decode cX12_namedIn 223 = .ok (.ifCond .eq 9, 3) := by decide +kernel
theorem dX12_namedIn_232 : decode cX12_namedIn 232 = .ok (.ldc2_w 280, 3) := by decide +kernel
theorem dX12_namedIn_235 : decode cX12_namedIn 235 = .ok (.aload_n 0, 1) := by decide +kernel
theorem dX12_namedIn_236 : decode cX12_namedIn 236 = .ok (.getfield 55, 3) := by decide +kernel
theorem dX12_namedIn_239 : decode cX12_namedIn 239 = .ok (.iload 7, 2) := by decide +kernel
theorem dX12_namedIn_241 : decode cX12_namedIn 241 = .ok (.bipush 8, 2) := by decide +kernel
theorem dX12_namedIn_243 : decode cX12_namedIn 243 = .ok (.imul, 1) := by decide +kernel
theorem dX12_namedIn_244 : decode cX12_namedIn 244 = .ok (.iload 4, 2) := by decide +kernel
theorem dX12_namedIn_246 : decode cX12_namedIn 246 = .ok (.iadd, 1) := by decide +kernel
theorem dX12_namedIn_247 : decode cX12_namedIn 247 = .ok (.laload, 1) := by decide +kernel
theorem dX12_namedIn_248 : decode cX12_namedIn 248 = .ok (.lload 8, 2) := by decide +kernel
theorem dX12_namedIn_250 : decode cX12_namedIn 250 = .ok (.ldiv, 1) := by decide +kernel
theorem dX12_namedIn_251 : decode cX12_namedIn 251 = .ok (.invokestatic 1, 3) := by decide +kernel
theorem dX12_namedIn_254 : decode cX12_namedIn 254 = .ok (.goto 4, 3) := by decide +kernel
theorem dX12_namedIn_258 : decode cX12_namedIn 258 = .ok (.ldc2_w 280, 3) := by decide +kernel
theorem dX12_namedIn_261 : decode cX12_namedIn 261 = .ok (.invokestatic 282, 3) := by decide +kernel
theorem dX12_namedIn_264 : decode cX12_namedIn 264 = .ok (.lstore 5, 2) := by decide +kernel
theorem dX12_namedIn_266 : decode cX12_namedIn 266 = .ok (.iinc 7 1, 3) := by decide +kernel
theorem dX12_namedIn_269 : decode cX12_namedIn 269 = .ok (.goto (-84), 3) := by decide +kernel
theorem dX12_namedIn_226 : decode cX12_namedIn 226 = .ok (.iload_n 2, 1) := by decide +kernel
theorem dX12_namedIn_227 : decode cX12_namedIn 227 = .ok (.iload 7, 2) := by decide +kernel
theorem dX12_namedIn_229 : decode cX12_namedIn 229 = .ok (.if_icmp .ne 28, 3) := by decide +kernel
theorem dX12_namedIn_257 : decode cX12_namedIn 257 = .ok (.lconst 0, 1) := by decide +kernel
theorem dX12_namedIn_272 : decode cX12_namedIn 272 = .ok (.lload 5, 2) := by decide +kernel
theorem dX12_namedIn_274 : decode cX12_namedIn 274 = .ok (.lreturn, 1) := by decide +kernel
theorem dX12_namedPart_0 : decode cX12_namedPart 0 = .ok (.aload_n 0, 1) := by decide +kernel
theorem dX12_namedPart_1 : decode cX12_namedPart 1 = .ok (.getfield 15, 3) := by decide +kernel
theorem dX12_namedPart_4 : decode cX12_namedPart 4 = .ok (.bipush 24, 2) := by decide +kernel
theorem dX12_namedPart_6 : decode cX12_namedPart 6 = .ok (.iload_n 1, 1) := by decide +kernel
theorem dX12_namedPart_7 : decode cX12_namedPart 7 = .ok (.iadd, 1) := by decide +kernel
theorem dX12_namedPart_8 : decode cX12_namedPart 8 = .ok (.iaload, 1) := by decide +kernel
theorem dX12_namedPart_9 : decode cX12_namedPart 9 = .ok (.tableswitch 106 0 7 #[47, 58, 68, 106, 106, 106, 106, 91], 47) := by decide +kernel
theorem dX12_namedPart_56 : decode cX12_namedPart 56 = .ok (.iload_n 2, 1) := by decide +kernel
theorem dX12_namedPart_57 : decode cX12_namedPart 57 = .ok (.iconst 1, 1) := by decide +kernel
theorem dX12_namedPart_58 : decode cX12_namedPart 58 = .ok (.if_icmp .ne 7, 3) := by decide +kernel
theorem dX12_namedPart_65 : decode cX12_namedPart 65 = .ok (.lconst 0, 1) := by decide +kernel
theorem dX12_namedPart_66 : decode cX12_namedPart 66 = .ok (.lreturn, 1) := by decide +kernel
theorem dX12_namedPart_61 : decode cX12_namedPart 61 = .ok (.lconst 1, 1) := by decide +kernel
theorem dX12_namedPart_62 : decode cX12_namedPart 62 = .ok (.goto 4, 3) := by decide +kernel
theorem dX12_namedPart_67 : decode cX12_namedPart 67 = .ok (.iload_n 2, 1) := by decide +kernel
theorem dX12_namedPart_68 : decode cX12_namedPart 68 = .ok (.ifCond .ne 7, 3) := by decide +kernel
theorem dX12_namedPart_75 : decode cX12_namedPart 75 = .ok (.lconst 0, 1) := by decide +kernel
theorem dX12_namedPart_76 : decode cX12_namedPart 76 = .ok (.lreturn, 1) := by decide +kernel
theorem dX12_namedPart_71 : decode cX12_namedPart 71 = .ok (.lconst 1, 1) := by decide +kernel
theorem dX12_namedPart_72 : decode cX12_namedPart 72 = .ok (.goto 4, 3) := by decide +kernel
theorem dX12_namedPart_77 : decode cX12_namedPart 77 = .ok (.aload_n 0, 1) := by decide +kernel
theorem dX12_namedPart_78 : decode cX12_namedPart 78 = .ok (.getfield 49, 3) := by decide +kernel
theorem dX12_namedPart_81 : decode cX12_namedPart 81 = .ok (.bipush 24, 2) := by decide +kernel
theorem dX12_namedPart_83 : decode cX12_namedPart 83 = .ok (.aload_n 0, 1) := by decide +kernel
theorem dX12_namedPart_84 : decode cX12_namedPart 84 = .ok (.getfield 15, 3) := by decide +kernel
theorem dX12_namedPart_87 : decode cX12_namedPart 87 = .ok (.bipush 48, 2) := by decide +kernel
theorem dX12_namedPart_89 : decode cX12_namedPart 89 = .ok (.iload_n 1, 1) := by decide +kernel
theorem dX12_namedPart_90 : decode cX12_namedPart 90 = .ok (.iadd, 1) := by decide +kernel
theorem dX12_namedPart_91 : decode cX12_namedPart 91 = .ok (.iaload, 1) := by decide +kernel
theorem dX12_namedPart_92 : decode cX12_namedPart 92 = .ok (.iadd, 1) := by decide +kernel
theorem dX12_namedPart_93 : decode cX12_namedPart 93 = .ok (.bipush 8, 2) := by decide +kernel
theorem dX12_namedPart_95 : decode cX12_namedPart 95 = .ok (.imul, 1) := by decide +kernel
theorem dX12_namedPart_96 : decode cX12_namedPart 96 = .ok (.iload_n 2, 1) := by decide +kernel
theorem dX12_namedPart_97 : decode cX12_namedPart 97 = .ok (.iadd, 1) := by decide +kernel
theorem dX12_namedPart_98 : decode cX12_namedPart 98 = .ok (.laload, 1) := by decide +kernel
theorem dX12_namedPart_99 : decode cX12_namedPart 99 = .ok (.lreturn, 1) := by decide +kernel
theorem dX12_namedPart_115 : decode cX12_namedPart 115 = .ok (.aload_n 0, 1) := by decide +kernel
theorem dX12_namedPart_116 : decode cX12_namedPart 116 = .ok (.aload_n 0, 1) := by decide +kernel
theorem dX12_namedPart_117 : decode cX12_namedPart 117 = .ok (.getfield 15, 3) := by decide +kernel
theorem dX12_namedPart_120 : decode cX12_namedPart 120 = .ok (.bipush 24, 2) := by decide +kernel
theorem dX12_namedPart_122 : decode cX12_namedPart 122 = .ok (.iload_n 1, 1) := by decide +kernel
theorem dX12_namedPart_123 : decode cX12_namedPart 123 = .ok (.iadd, 1) := by decide +kernel
theorem dX12_namedPart_124 : decode cX12_namedPart 124 = .ok (.iaload, 1) := by decide +kernel
theorem dX12_namedPart_125 : decode cX12_namedPart 125 = .ok (.aload_n 0, 1) := by decide +kernel
theorem dX12_namedPart_126 : decode cX12_namedPart 126 = .ok (.getfield 15, 3) := by decide +kernel
theorem dX12_namedPart_129 : decode cX12_namedPart 129 = .ok (.bipush 48, 2) := by decide +kernel
theorem dX12_namedPart_131 : decode cX12_namedPart 131 = .ok (.iload_n 1, 1) := by decide +kernel
theorem dX12_namedPart_132 : decode cX12_namedPart 132 = .ok (.iadd, 1) := by decide +kernel
theorem dX12_namedPart_133 : decode cX12_namedPart 133 = .ok (.iaload, 1) := by decide +kernel
theorem dX12_namedPart_134 : decode cX12_namedPart 134 = .ok (.aload_n 0, 1) := by decide +kernel
theorem dX12_namedPart_135 : decode cX12_namedPart 135 = .ok (.getfield 15, 3) := by decide +kernel
theorem dX12_namedPart_138 : decode cX12_namedPart 138 = .ok (.bipush 72, 2) := by decide +kernel
theorem dX12_namedPart_140 : decode cX12_namedPart 140 = .ok (.iload_n 1, 1) := by decide +kernel
theorem dX12_namedPart_141 : decode cX12_namedPart 141 = .ok (.iadd, 1) := by decide +kernel
theorem dX12_namedPart_142 : decode cX12_namedPart 142 = .ok (.iaload, 1) := by decide +kernel
theorem dX12_namedPart_143 : decode cX12_namedPart 143 = .ok (.iload_n 2, 1) := by decide +kernel
theorem dX12_namedPart_144 : decode cX12_namedPart 144 = .ok (.invokevirtual 365, 3) := by decide +kernel
theorem wm_2160 : (Jvm.Cond.methodLink "GrownKindsModel" (365 : Nat) ({ cls := "GrownKindsModel", name := "namedIn", desc := "(IIII)J" } : Jvm.MethodName)) ∈ gT := gT_in (List.mem_of_getElem? (i := 2160) (by decide +kernel)) (by decide +kernel)
theorem wm_2162 : (Jvm.Cond.instanceMethod ({ cls := "GrownKindsModel", name := "namedIn", desc := "(IIII)J" } : Jvm.MethodName)) ∈ gT := gT_in (List.mem_of_getElem? (i := 2162) (by decide +kernel)) (by decide +kernel)
theorem wm_135 : Cond.selects "GrownKindsModel" ⟨"GrownKindsModel", "namedIn", "(IIII)J"⟩ ⟨"GrownKindsModel", "namedIn", "(IIII)J"⟩ ∈ gT := gT_in (List.mem_of_getElem? (i := 135) (by decide +kernel)) (by decide +kernel)
theorem wm_2163 : (Jvm.Cond.code ({ cls := "GrownKindsModel", name := "namedIn", desc := "(IIII)J" } : Jvm.MethodName) prog_14_method_84_code (12 : Nat) (Option.some Jvm.ClassFile.FieldType.long)) ∈ gT := gT_in (List.mem_of_getElem? (i := 2163) (by decide +kernel)) (by decide +kernel)
theorem dX12_namedPart_147 : decode cX12_namedPart 147 = .ok (.lreturn, 1) := by decide +kernel
theorem dX12_namedPart_100 : decode cX12_namedPart 100 = .ok (.aload_n 0, 1) := by decide +kernel
theorem dX12_namedPart_101 : decode cX12_namedPart 101 = .ok (.aload_n 0, 1) := by decide +kernel
theorem dX12_namedPart_102 : decode cX12_namedPart 102 = .ok (.getfield 15, 3) := by decide +kernel
theorem dX12_namedPart_105 : decode cX12_namedPart 105 = .ok (.bipush 48, 2) := by decide +kernel
theorem dX12_namedPart_107 : decode cX12_namedPart 107 = .ok (.iload_n 1, 1) := by decide +kernel
theorem dX12_namedPart_108 : decode cX12_namedPart 108 = .ok (.iadd, 1) := by decide +kernel
theorem dX12_namedPart_109 : decode cX12_namedPart 109 = .ok (.iaload, 1) := by decide +kernel
theorem dX12_namedPart_110 : decode cX12_namedPart 110 = .ok (.iload_n 2, 1) := by decide +kernel
theorem dX12_namedPart_111 : decode cX12_namedPart 111 = .ok (.invokevirtual 359, 3) := by decide +kernel
theorem wm_2156 : (Jvm.Cond.methodLink "GrownKindsModel" (359 : Nat) ({ cls := "GrownKindsModel", name := "namedExpr", desc := "(II)J" } : Jvm.MethodName)) ∈ gT := gT_in (List.mem_of_getElem? (i := 2156) (by decide +kernel)) (by decide +kernel)
theorem wm_2158 : (Jvm.Cond.instanceMethod ({ cls := "GrownKindsModel", name := "namedExpr", desc := "(II)J" } : Jvm.MethodName)) ∈ gT := gT_in (List.mem_of_getElem? (i := 2158) (by decide +kernel)) (by decide +kernel)
theorem wm_134 : Cond.selects "GrownKindsModel" ⟨"GrownKindsModel", "namedExpr", "(II)J"⟩ ⟨"GrownKindsModel", "namedExpr", "(II)J"⟩ ∈ gT := gT_in (List.mem_of_getElem? (i := 134) (by decide +kernel)) (by decide +kernel)
theorem wm_2159 : (Jvm.Cond.code ({ cls := "GrownKindsModel", name := "namedExpr", desc := "(II)J" } : Jvm.MethodName) prog_14_method_81_code (7 : Nat) (Option.some Jvm.ClassFile.FieldType.long)) ∈ gT := gT_in (List.mem_of_getElem? (i := 2159) (by decide +kernel)) (by decide +kernel)
theorem dX12_namedPart_114 : decode cX12_namedPart 114 = .ok (.lreturn, 1) := by decide +kernel
theorem dX12_names_0 : decode cX12_names 0 = .ok (.iconst 0, 1) := by decide +kernel
theorem dX12_names_1 : decode cX12_names 1 = .ok (.istore_n 1, 1) := by decide +kernel
theorem dX12_names_2 : decode cX12_names 2 = .ok (.iload_n 1, 1) := by decide +kernel
theorem dX12_names_3 : decode cX12_names 3 = .ok (.aload_n 0, 1) := by decide +kernel
theorem dX12_names_4 : decode cX12_names 4 = .ok (.getfield 49, 3) := by decide +kernel
theorem dX12_names_7 : decode cX12_names 7 = .ok (.arraylength, 1) := by decide +kernel
theorem dX12_names_8 : decode cX12_names 8 = .ok (.if_icmp .ge 16, 3) := by decide +kernel
theorem dX12_names_11 : decode cX12_names 11 = .ok (.aload_n 0, 1) := by decide +kernel
theorem dX12_names_12 : decode cX12_names 12 = .ok (.getfield 49, 3) := by decide +kernel
theorem dX12_names_15 : decode cX12_names 15 = .ok (.iload_n 1, 1) := by decide +kernel
theorem dX12_names_16 : decode cX12_names 16 = .ok (.lconst 0, 1) := by decide +kernel
theorem dX12_names_17 : decode cX12_names 17 = .ok (.lastore, 1) := by decide +kernel
theorem dX12_names_18 : decode cX12_names 18 = .ok (.iinc 1 1, 3) := by decide +kernel
theorem dX12_names_21 : decode cX12_names 21 = .ok (.goto (-19), 3) := by decide +kernel
theorem dX12_names_24 : decode cX12_names 24 = .ok (.iconst 0, 1) := by decide +kernel
theorem dX12_names_25 : decode cX12_names 25 = .ok (.istore_n 1, 1) := by decide +kernel
theorem dX12_names_26 : decode cX12_names 26 = .ok (.iload_n 1, 1) := by decide +kernel
theorem dX12_names_27 : decode cX12_names 27 = .ok (.aload_n 0, 1) := by decide +kernel
theorem dX12_names_28 : decode cX12_names 28 = .ok (.getfield 52, 3) := by decide +kernel
theorem dX12_names_31 : decode cX12_names 31 = .ok (.arraylength, 1) := by decide +kernel
theorem dX12_names_32 : decode cX12_names 32 = .ok (.if_icmp .ge 16, 3) := by decide +kernel
theorem dX12_names_35 : decode cX12_names 35 = .ok (.aload_n 0, 1) := by decide +kernel
theorem dX12_names_36 : decode cX12_names 36 = .ok (.getfield 52, 3) := by decide +kernel
theorem dX12_names_39 : decode cX12_names 39 = .ok (.iload_n 1, 1) := by decide +kernel
theorem dX12_names_40 : decode cX12_names 40 = .ok (.lconst 0, 1) := by decide +kernel
theorem dX12_names_41 : decode cX12_names 41 = .ok (.lastore, 1) := by decide +kernel
theorem dX12_names_42 : decode cX12_names 42 = .ok (.iinc 1 1, 3) := by decide +kernel
theorem dX12_names_45 : decode cX12_names 45 = .ok (.goto (-19), 3) := by decide +kernel
theorem dX12_names_48 : decode cX12_names 48 = .ok (.iconst 0, 1) := by decide +kernel
theorem dX12_names_49 : decode cX12_names 49 = .ok (.istore_n 1, 1) := by decide +kernel
theorem dX12_names_50 : decode cX12_names 50 = .ok (.iload_n 1, 1) := by decide +kernel
theorem dX12_names_51 : decode cX12_names 51 = .ok (.bipush 8, 2) := by decide +kernel
theorem dX12_names_53 : decode cX12_names 53 = .ok (.if_icmp .ge 134, 3) := by decide +kernel
theorem dX12_names_56 : decode cX12_names 56 = .ok (.iconst 1, 1) := by decide +kernel
theorem dX12_names_57 : decode cX12_names 57 = .ok (.istore_n 2, 1) := by decide +kernel
theorem dX12_names_58 : decode cX12_names 58 = .ok (.iload_n 2, 1) := by decide +kernel
theorem dX12_names_59 : decode cX12_names 59 = .ok (.ifCond .eq 122, 3) := by decide +kernel
theorem dX12_names_62 : decode cX12_names 62 = .ok (.iconst 0, 1) := by decide +kernel
theorem dX12_names_63 : decode cX12_names 63 = .ok (.istore_n 2, 1) := by decide +kernel
theorem dX12_names_64 : decode cX12_names 64 = .ok (.aload_n 0, 1) := by decide +kernel
theorem dX12_names_65 : decode cX12_names 65 = .ok (.getfield 15, 3) := by decide +kernel
theorem dX12_names_68 : decode cX12_names 68 = .ok (.iconst 2, 1) := by decide +kernel
theorem dX12_names_69 : decode cX12_names 69 = .ok (.iaload, 1) := by decide +kernel
theorem dX12_names_70 : decode cX12_names 70 = .ok (.iconst 1, 1) := by decide +kernel
theorem dX12_names_71 : decode cX12_names 71 = .ok (.isub, 1) := by decide +kernel
theorem dX12_names_72 : decode cX12_names 72 = .ok (.istore_n 3, 1) := by decide +kernel
theorem dX12_names_73 : decode cX12_names 73 = .ok (.iload_n 3, 1) := by decide +kernel
theorem dX12_names_74 : decode cX12_names 74 = .ok (.ifCond .lt 32, 3) := by decide +kernel
theorem dX12_names_77 : decode cX12_names 77 = .ok (.aload_n 0, 1) := by decide +kernel
theorem dX12_names_78 : decode cX12_names 78 = .ok (.getfield 49, 3) := by decide +kernel
theorem dX12_names_81 : decode cX12_names 81 = .ok (.iload_n 3, 1) := by decide +kernel
theorem dX12_names_82 : decode cX12_names 82 = .ok (.bipush 8, 2) := by decide +kernel
theorem dX12_names_84 : decode cX12_names 84 = .ok (.imul, 1) := by decide +kernel
theorem dX12_names_85 : decode cX12_names 85 = .ok (.iload_n 1, 1) := by decide +kernel
theorem dX12_names_86 : decode cX12_names 86 = .ok (.iadd, 1) := by decide +kernel
theorem dX12_names_87 : decode cX12_names 87 = .ok (.aload_n 0, 1) := by decide +kernel
theorem dX12_names_88 : decode cX12_names 88 = .ok (.iload_n 3, 1) := by decide +kernel
theorem dX12_names_89 : decode cX12_names 89 = .ok (.iload_n 1, 1) := by decide +kernel
theorem dX12_names_90 : decode cX12_names 90 = .ok (.invokevirtual 353, 3) := by decide +kernel
theorem wm_2152 : (Jvm.Cond.methodLink "GrownKindsModel" (353 : Nat) ({ cls := "GrownKindsModel", name := "namedPart", desc := "(II)J" } : Jvm.MethodName)) ∈ gT := gT_in (List.mem_of_getElem? (i := 2152) (by decide +kernel)) (by decide +kernel)
theorem wm_2154 : (Jvm.Cond.instanceMethod ({ cls := "GrownKindsModel", name := "namedPart", desc := "(II)J" } : Jvm.MethodName)) ∈ gT := gT_in (List.mem_of_getElem? (i := 2154) (by decide +kernel)) (by decide +kernel)
theorem wm_133 : Cond.selects "GrownKindsModel" ⟨"GrownKindsModel", "namedPart", "(II)J"⟩ ⟨"GrownKindsModel", "namedPart", "(II)J"⟩ ∈ gT := gT_in (List.mem_of_getElem? (i := 133) (by decide +kernel)) (by decide +kernel)
theorem wm_2155 : (Jvm.Cond.code ({ cls := "GrownKindsModel", name := "namedPart", desc := "(II)J" } : Jvm.MethodName) prog_14_method_83_code (3 : Nat) (Option.some Jvm.ClassFile.FieldType.long)) ∈ gT := gT_in (List.mem_of_getElem? (i := 2155) (by decide +kernel)) (by decide +kernel)
theorem dX12_names_93 : decode cX12_names 93 = .ok (.lastore, 1) := by decide +kernel
theorem dX12_names_94 : decode cX12_names 94 = .ok (.aload_n 0, 1) := by decide +kernel
theorem dX12_names_95 : decode cX12_names 95 = .ok (.iload_n 3, 1) := by decide +kernel
theorem dX12_names_96 : decode cX12_names 96 = .ok (.iload_n 1, 1) := by decide +kernel
theorem dX12_names_97 : decode cX12_names 97 = .ok (.invokevirtual 356, 3) := by decide +kernel
theorem wm_2170 : (Jvm.Cond.methodLink "GrownKindsModel" (356 : Nat) ({ cls := "GrownKindsModel", name := "namesRest", desc := "(II)V" } : Jvm.MethodName)) ∈ gT := gT_in (List.mem_of_getElem? (i := 2170) (by decide +kernel)) (by decide +kernel)
theorem wm_2172 : (Jvm.Cond.instanceMethod ({ cls := "GrownKindsModel", name := "namesRest", desc := "(II)V" } : Jvm.MethodName)) ∈ gT := gT_in (List.mem_of_getElem? (i := 2172) (by decide +kernel)) (by decide +kernel)
theorem wm_136 : Cond.selects "GrownKindsModel" ⟨"GrownKindsModel", "namesRest", "(II)V"⟩ ⟨"GrownKindsModel", "namesRest", "(II)V"⟩ ∈ gT := gT_in (List.mem_of_getElem? (i := 136) (by decide +kernel)) (by decide +kernel)
theorem wm_2173 : (Jvm.Cond.code ({ cls := "GrownKindsModel", name := "namesRest", desc := "(II)V" } : Jvm.MethodName) prog_14_method_82_code (9 : Nat) (Option.none : Option Jvm.ClassFile.FieldType)) ∈ gT := gT_in (List.mem_of_getElem? (i := 2173) (by decide +kernel)) (by decide +kernel)
theorem dX12_names_100 : decode cX12_names 100 = .ok (.iinc 3 (-1), 3) := by decide +kernel
theorem dX12_names_103 : decode cX12_names 103 = .ok (.goto (-30), 3) := by decide +kernel
theorem dX12_names_106 : decode cX12_names 106 = .ok (.iconst 0, 1) := by decide +kernel
theorem dX12_names_107 : decode cX12_names 107 = .ok (.istore_n 3, 1) := by decide +kernel
theorem dX12_names_108 : decode cX12_names 108 = .ok (.iload_n 3, 1) := by decide +kernel
theorem dX12_names_109 : decode cX12_names 109 = .ok (.aload_n 0, 1) := by decide +kernel
theorem dX12_names_110 : decode cX12_names 110 = .ok (.getfield 15, 3) := by decide +kernel
theorem dX12_names_113 : decode cX12_names 113 = .ok (.iconst 0, 1) := by decide +kernel
theorem dX12_names_114 : decode cX12_names 114 = .ok (.iaload, 1) := by decide +kernel
theorem dX12_names_115 : decode cX12_names 115 = .ok (.if_icmp .ge 63, 3) := by decide +kernel
theorem dX12_names_118 : decode cX12_names 118 = .ok (.aload_n 0, 1) := by decide +kernel
theorem dX12_names_119 : decode cX12_names 119 = .ok (.iload_n 3, 1) := by decide +kernel
theorem dX12_names_120 : decode cX12_names 120 = .ok (.iload_n 1, 1) := by decide +kernel
theorem dX12_names_121 : decode cX12_names 121 = .ok (.invokevirtual 359, 3) := by decide +kernel
theorem dX12_names_124 : decode cX12_names 124 = .ok (.lstore 4, 2) := by decide +kernel
theorem dX12_names_126 : decode cX12_names 126 = .ok (.iload_n 2, 1) := by decide +kernel
theorem dX12_names_127 : decode cX12_names 127 = .ok (.ifCond .ne 23, 3) := by decide +kernel
theorem dX12_names_150 : decode cX12_names 150 = .ok (.iconst 1, 1) := by decide +kernel
theorem dX12_names_151 : decode cX12_names 151 = .ok (.goto 4, 3) := by decide +kernel
theorem dX12_names_130 : decode cX12_names 130 = .ok (.lload 4, 2) := by decide +kernel
theorem dX12_names_132 : decode cX12_names 132 = .ok (.aload_n 0, 1) := by decide +kernel
theorem dX12_names_133 : decode cX12_names 133 = .ok (.getfield 49, 3) := by decide +kernel
theorem dX12_names_136 : decode cX12_names 136 = .ok (.bipush 24, 2) := by decide +kernel
theorem dX12_names_138 : decode cX12_names 138 = .ok (.iload_n 3, 1) := by decide +kernel
theorem dX12_names_139 : decode cX12_names 139 = .ok (.iadd, 1) := by decide +kernel
theorem dX12_names_140 : decode cX12_names 140 = .ok (.bipush 8, 2) := by decide +kernel
theorem dX12_names_142 : decode cX12_names 142 = .ok (.imul, 1) := by decide +kernel
theorem dX12_names_143 : decode cX12_names 143 = .ok (.iload_n 1, 1) := by decide +kernel
theorem dX12_names_144 : decode cX12_names 144 = .ok (.iadd, 1) := by decide +kernel
theorem dX12_names_145 : decode cX12_names 145 = .ok (.laload, 1) := by decide +kernel
theorem dX12_names_146 : decode cX12_names 146 = .ok (.lcmp, 1) := by decide +kernel
theorem dX12_names_147 : decode cX12_names 147 = .ok (.ifCond .eq 7, 3) := by decide +kernel
theorem dX12_names_154 : decode cX12_names 154 = .ok (.iconst 0, 1) := by decide +kernel
theorem dX12_names_155 : decode cX12_names 155 = .ok (.istore_n 2, 1) := by decide +kernel
theorem dX12_names_156 : decode cX12_names 156 = .ok (.aload_n 0, 1) := by decide +kernel
theorem dX12_names_157 : decode cX12_names 157 = .ok (.getfield 49, 3) := by decide +kernel
theorem dX12_names_160 : decode cX12_names 160 = .ok (.bipush 24, 2) := by decide +kernel
theorem dX12_names_162 : decode cX12_names 162 = .ok (.iload_n 3, 1) := by decide +kernel
theorem dX12_names_163 : decode cX12_names 163 = .ok (.iadd, 1) := by decide +kernel
theorem dX12_names_164 : decode cX12_names 164 = .ok (.bipush 8, 2) := by decide +kernel
theorem dX12_names_166 : decode cX12_names 166 = .ok (.imul, 1) := by decide +kernel
theorem dX12_names_167 : decode cX12_names 167 = .ok (.iload_n 1, 1) := by decide +kernel
theorem dX12_names_168 : decode cX12_names 168 = .ok (.iadd, 1) := by decide +kernel
theorem dX12_names_169 : decode cX12_names 169 = .ok (.lload 4, 2) := by decide +kernel
theorem dX12_names_171 : decode cX12_names 171 = .ok (.lastore, 1) := by decide +kernel
theorem dX12_names_172 : decode cX12_names 172 = .ok (.iinc 3 1, 3) := by decide +kernel
theorem dX12_names_175 : decode cX12_names 175 = .ok (.goto (-67), 3) := by decide +kernel
theorem dX12_names_178 : decode cX12_names 178 = .ok (.goto (-120), 3) := by decide +kernel
theorem dX12_names_181 : decode cX12_names 181 = .ok (.iinc 1 1, 3) := by decide +kernel
theorem dX12_names_184 : decode cX12_names 184 = .ok (.goto (-134), 3) := by decide +kernel
theorem dX12_names_187 : decode cX12_names 187 = .ok (.return_, 1) := by decide +kernel
theorem dX12_labelled_0 : decode cX12_labelled 0 = .ok (.aload_n 0, 1) := by decide +kernel
theorem dX12_labelled_1 : decode cX12_labelled 1 = .ok (.iload_n 1, 1) := by decide +kernel
theorem dX12_labelled_2 : decode cX12_labelled 2 = .ok (.invokevirtual 225, 3) := by decide +kernel
theorem dX12_labelled_5 : decode cX12_labelled 5 = .ok (.ifCond .eq 11, 3) := by decide +kernel
theorem dX12_labelled_16 : decode cX12_labelled 16 = .ok (.ldc2_w 337, 3) := by decide +kernel
theorem dX12_labelled_19 : decode cX12_labelled 19 = .ok (.lreturn, 1) := by decide +kernel
theorem dX12_labelled_8 : decode cX12_labelled 8 = .ok (.aload_n 0, 1) := by decide +kernel
theorem dX12_labelled_9 : decode cX12_labelled 9 = .ok (.iload_n 2, 1) := by decide +kernel
theorem dX12_labelled_10 : decode cX12_labelled 10 = .ok (.invokevirtual 334, 3) := by decide +kernel
theorem dX12_labelled_13 : decode cX12_labelled 13 = .ok (.ifCond .ne 7, 3) := by decide +kernel
theorem dX12_labelled_20 : decode cX12_labelled 20 = .ok (.aload_n 0, 1) := by decide +kernel
theorem dX12_labelled_21 : decode cX12_labelled 21 = .ok (.invokevirtual 372, 3) := by decide +kernel
theorem wm_2148 : (Jvm.Cond.methodLink "GrownKindsModel" (372 : Nat) ({ cls := "GrownKindsModel", name := "names", desc := "()V" } : Jvm.MethodName)) ∈ gT := gT_in (List.mem_of_getElem? (i := 2148) (by decide +kernel)) (by decide +kernel)
theorem wm_2150 : (Jvm.Cond.instanceMethod ({ cls := "GrownKindsModel", name := "names", desc := "()V" } : Jvm.MethodName)) ∈ gT := gT_in (List.mem_of_getElem? (i := 2150) (by decide +kernel)) (by decide +kernel)
theorem wm_132 : Cond.selects "GrownKindsModel" ⟨"GrownKindsModel", "names", "()V"⟩ ⟨"GrownKindsModel", "names", "()V"⟩ ∈ gT := gT_in (List.mem_of_getElem? (i := 132) (by decide +kernel)) (by decide +kernel)
theorem wm_2151 : (Jvm.Cond.code ({ cls := "GrownKindsModel", name := "names", desc := "()V" } : Jvm.MethodName) prog_14_method_80_code (6 : Nat) (Option.none : Option Jvm.ClassFile.FieldType)) ∈ gT := gT_in (List.mem_of_getElem? (i := 2151) (by decide +kernel)) (by decide +kernel)
theorem dX12_labelled_24 : decode cX12_labelled 24 = .ok (.aload_n 0, 1) := by decide +kernel
theorem dX12_labelled_25 : decode cX12_labelled 25 = .ok (.getfield 49, 3) := by decide +kernel
theorem dX12_labelled_28 : decode cX12_labelled 28 = .ok (.bipush 24, 2) := by decide +kernel
theorem dX12_labelled_30 : decode cX12_labelled 30 = .ok (.iload_n 1, 1) := by decide +kernel
theorem dX12_labelled_31 : decode cX12_labelled 31 = .ok (.iadd, 1) := by decide +kernel
theorem dX12_labelled_32 : decode cX12_labelled 32 = .ok (.bipush 8, 2) := by decide +kernel
theorem dX12_labelled_34 : decode cX12_labelled 34 = .ok (.imul, 1) := by decide +kernel
theorem dX12_labelled_35 : decode cX12_labelled 35 = .ok (.iload_n 2, 1) := by decide +kernel
theorem dX12_labelled_36 : decode cX12_labelled 36 = .ok (.iadd, 1) := by decide +kernel
theorem dX12_labelled_37 : decode cX12_labelled 37 = .ok (.laload, 1) := by decide +kernel
theorem dX12_labelled_38 : decode cX12_labelled 38 = .ok (.lreturn, 1) := by decide +kernel
theorem dX12_signs_0 : decode cX12_signs 0 = .ok (.aload_n 0, 1) := by decide +kernel
theorem dX12_signs_1 : decode cX12_signs 1 = .ok (.aload_n 0, 1) := by decide +kernel
theorem dX12_signs_2 : decode cX12_signs 2 = .ok (.getfield 374, 3) := by decide +kernel
theorem wm_1693 : (Jvm.Cond.fieldLink "GrownKindsModel" (374 : Nat) "GrownKindsModel" "long0" "I") ∈ gT := gT_in (List.mem_of_getElem? (i := 1693) (by decide +kernel)) (by decide +kernel)
theorem dX12_signs_5 : decode cX12_signs 5 = .ok (.aload_n 0, 1) := by decide +kernel
theorem dX12_signs_6 : decode cX12_signs 6 = .ok (.getfield 377, 3) := by decide +kernel
theorem wm_1694 : (Jvm.Cond.fieldLink "GrownKindsModel" (377 : Nat) "GrownKindsModel" "wanted" "I") ∈ gT := gT_in (List.mem_of_getElem? (i := 1694) (by decide +kernel)) (by decide +kernel)
theorem dX12_signs_9 : decode cX12_signs 9 = .ok (.if_icmp .ne 7, 3) := by decide +kernel
theorem dX12_signs_16 : decode cX12_signs 16 = .ok (.aload_n 0, 1) := by decide +kernel
theorem dX12_signs_17 : decode cX12_signs 17 = .ok (.getfield 380, 3) := by decide +kernel
theorem wm_1695 : (Jvm.Cond.fieldLink "GrownKindsModel" (380 : Nat) "GrownKindsModel" "found" "I") ∈ gT := gT_in (List.mem_of_getElem? (i := 1695) (by decide +kernel)) (by decide +kernel)
theorem dX12_signs_12 : decode cX12_signs 12 = .ok (.iload_n 1, 1) := by decide +kernel
theorem dX12_signs_13 : decode cX12_signs 13 = .ok (.goto 7, 3) := by decide +kernel
theorem dX12_signs_20 : decode cX12_signs 20 = .ok (.putfield 380, 3) := by decide +kernel
theorem dX12_signs_23 : decode cX12_signs 23 = .ok (.aload_n 0, 1) := by decide +kernel
theorem dX12_signs_24 : decode cX12_signs 24 = .ok (.getfield 374, 3) := by decide +kernel
theorem dX12_signs_27 : decode cX12_signs 27 = .ok (.bipush 40, 2) := by decide +kernel
theorem dX12_signs_29 : decode cX12_signs 29 = .ok (.if_icmp .ge 13, 3) := by decide +kernel
theorem dX12_signs_32 : decode cX12_signs 32 = .ok (.aload_n 0, 1) := by decide +kernel
theorem dX12_signs_33 : decode cX12_signs 33 = .ok (.getfield 58, 3) := by decide +kernel
theorem dX12_signs_36 : decode cX12_signs 36 = .ok (.aload_n 0, 1) := by decide +kernel
theorem dX12_signs_37 : decode cX12_signs 37 = .ok (.getfield 374, 3) := by decide +kernel
theorem dX12_signs_40 : decode cX12_signs 40 = .ok (.iload_n 1, 1) := by decide +kernel
theorem dX12_signs_41 : decode cX12_signs 41 = .ok (.iastore, 1) := by decide +kernel
theorem dX12_signs_42 : decode cX12_signs 42 = .ok (.aload_n 0, 1) := by decide +kernel
theorem dX12_signs_43 : decode cX12_signs 43 = .ok (.dup, 1) := by decide +kernel
theorem dX12_signs_44 : decode cX12_signs 44 = .ok (.getfield 374, 3) := by decide +kernel
theorem dX12_signs_47 : decode cX12_signs 47 = .ok (.iconst 1, 1) := by decide +kernel
theorem dX12_signs_48 : decode cX12_signs 48 = .ok (.iadd, 1) := by decide +kernel
theorem dX12_signs_49 : decode cX12_signs 49 = .ok (.putfield 374, 3) := by decide +kernel
theorem dX12_signs_52 : decode cX12_signs 52 = .ok (.return_, 1) := by decide +kernel
theorem dX12_behind_0 : decode cX12_behind 0 = .ok (.aload_n 0, 1) := by decide +kernel
theorem dX12_behind_1 : decode cX12_behind 1 = .ok (.getfield 15, 3) := by decide +kernel
theorem dX12_behind_4 : decode cX12_behind 4 = .ok (.bipush 96, 2) := by decide +kernel
theorem dX12_behind_6 : decode cX12_behind 6 = .ok (.iload_n 1, 1) := by decide +kernel
theorem dX12_behind_7 : decode cX12_behind 7 = .ok (.iadd, 1) := by decide +kernel
theorem dX12_behind_8 : decode cX12_behind 8 = .ok (.iaload, 1) := by decide +kernel
theorem dX12_behind_9 : decode cX12_behind 9 = .ok (.ifCond .ge 15, 3) := by decide +kernel
theorem dX12_behind_24 : decode cX12_behind 24 = .ok (.aload_n 0, 1) := by decide +kernel
theorem dX12_behind_25 : decode cX12_behind 25 = .ok (.getfield 43, 3) := by decide +kernel
theorem dX12_behind_28 : decode cX12_behind 28 = .ok (.aload_n 0, 1) := by decide +kernel
theorem dX12_behind_29 : decode cX12_behind 29 = .ok (.getfield 15, 3) := by decide +kernel
theorem dX12_behind_32 : decode cX12_behind 32 = .ok (.bipush 96, 2) := by decide +kernel
theorem dX12_behind_34 : decode cX12_behind 34 = .ok (.iload_n 1, 1) := by decide +kernel
theorem dX12_behind_35 : decode cX12_behind 35 = .ok (.iadd, 1) := by decide +kernel
theorem dX12_behind_36 : decode cX12_behind 36 = .ok (.iaload, 1) := by decide +kernel
theorem dX12_behind_37 : decode cX12_behind 37 = .ok (.iload_n 2, 1) := by decide +kernel
theorem dX12_behind_38 : decode cX12_behind 38 = .ok (.iconst 0, 1) := by decide +kernel
theorem dX12_behind_39 : decode cX12_behind 39 = .ok (.invokestatic 276, 3) := by decide +kernel
theorem dX12_behind_42 : decode cX12_behind 42 = .ok (.laload, 1) := by decide +kernel
theorem dX12_behind_43 : decode cX12_behind 43 = .ok (.lreturn, 1) := by decide +kernel
theorem dX12_behind_12 : decode cX12_behind 12 = .ok (.iload_n 2, 1) := by decide +kernel
theorem dX12_behind_13 : decode cX12_behind 13 = .ok (.ifCond .ne 7, 3) := by decide +kernel
theorem dX12_behind_20 : decode cX12_behind 20 = .ok (.lconst 0, 1) := by decide +kernel
theorem dX12_behind_21 : decode cX12_behind 21 = .ok (.goto 22, 3) := by decide +kernel
theorem dX12_behind_16 : decode cX12_behind 16 = .ok (.lconst 1, 1) := by decide +kernel
theorem dX12_behind_17 : decode cX12_behind 17 = .ok (.goto 26, 3) := by decide +kernel
theorem dX12_pairs_0 : decode cX12_pairs 0 = .ok (.aload_n 0, 1) := by decide +kernel
theorem dX12_pairs_1 : decode cX12_pairs 1 = .ok (.getfield 39, 3) := by decide +kernel
theorem dX12_pairs_4 : decode cX12_pairs 4 = .ok (.iload_n 1, 1) := by decide +kernel
theorem dX12_pairs_5 : decode cX12_pairs 5 = .ok (.iload_n 2, 1) := by decide +kernel
theorem dX12_pairs_6 : decode cX12_pairs 6 = .ok (.iconst 0, 1) := by decide +kernel
theorem dX12_pairs_7 : decode cX12_pairs 7 = .ok (.invokestatic 276, 3) := by decide +kernel
theorem dX12_pairs_10 : decode cX12_pairs 10 = .ok (.laload, 1) := by decide +kernel
theorem dX12_pairs_11 : decode cX12_pairs 11 = .ok (.aload_n 0, 1) := by decide +kernel
theorem dX12_pairs_12 : decode cX12_pairs 12 = .ok (.iload_n 1, 1) := by decide +kernel
theorem dX12_pairs_13 : decode cX12_pairs 13 = .ok (.iload_n 3, 1) := by decide +kernel
theorem dX12_pairs_14 : decode cX12_pairs 14 = .ok (.iload_n 2, 1) := by decide +kernel
theorem dX12_pairs_15 : decode cX12_pairs 15 = .ok (.isub, 1) := by decide +kernel
theorem dX12_pairs_16 : decode cX12_pairs 16 = .ok (.invokevirtual 411, 3) := by decide +kernel
theorem wm_2199 : (Jvm.Cond.methodLink "GrownKindsModel" (411 : Nat) ({ cls := "GrownKindsModel", name := "behind", desc := "(II)J" } : Jvm.MethodName)) ∈ gT := gT_in (List.mem_of_getElem? (i := 2199) (by decide +kernel)) (by decide +kernel)
theorem wm_2201 : (Jvm.Cond.instanceMethod ({ cls := "GrownKindsModel", name := "behind", desc := "(II)J" } : Jvm.MethodName)) ∈ gT := gT_in (List.mem_of_getElem? (i := 2201) (by decide +kernel)) (by decide +kernel)
theorem wm_142 : Cond.selects "GrownKindsModel" ⟨"GrownKindsModel", "behind", "(II)J"⟩ ⟨"GrownKindsModel", "behind", "(II)J"⟩ ∈ gT := gT_in (List.mem_of_getElem? (i := 142) (by decide +kernel)) (by decide +kernel)
theorem wm_2202 : (Jvm.Cond.code ({ cls := "GrownKindsModel", name := "behind", desc := "(II)J" } : Jvm.MethodName) prog_14_method_89_code (3 : Nat) (Option.some Jvm.ClassFile.FieldType.long)) ∈ gT := gT_in (List.mem_of_getElem? (i := 2202) (by decide +kernel)) (by decide +kernel)
theorem dX12_pairs_19 : decode cX12_pairs 19 = .ok (.ldc2_w 280, 3) := by decide +kernel
theorem dX12_pairs_22 : decode cX12_pairs 22 = .ok (.invokestatic 286, 3) := by decide +kernel
theorem dX12_pairs_25 : decode cX12_pairs 25 = .ok (.lreturn, 1) := by decide +kernel
theorem dX12_pushes_0 : decode cX12_pushes 0 = .ok (.aload_n 0, 1) := by decide +kernel
theorem dX12_pushes_1 : decode cX12_pushes 1 = .ok (.getfield 61, 3) := by decide +kernel
theorem dX12_pushes_4 : decode cX12_pushes 4 = .ok (.aload_n 0, 1) := by decide +kernel
theorem dX12_pushes_5 : decode cX12_pushes 5 = .ok (.getfield 398, 3) := by decide +kernel
theorem wm_1704 : (Jvm.Cond.fieldLink "GrownKindsModel" (398 : Nat) "GrownKindsModel" "top" "I") ∈ gT := gT_in (List.mem_of_getElem? (i := 1704) (by decide +kernel)) (by decide +kernel)
theorem dX12_pushes_8 : decode cX12_pushes 8 = .ok (.iload_n 1, 1) := by decide +kernel
theorem dX12_pushes_9 : decode cX12_pushes 9 = .ok (.iastore, 1) := by decide +kernel
theorem dX12_pushes_10 : decode cX12_pushes 10 = .ok (.aload_n 0, 1) := by decide +kernel
theorem dX12_pushes_11 : decode cX12_pushes 11 = .ok (.getfield 64, 3) := by decide +kernel
theorem dX12_pushes_14 : decode cX12_pushes 14 = .ok (.aload_n 0, 1) := by decide +kernel
theorem dX12_pushes_15 : decode cX12_pushes 15 = .ok (.getfield 398, 3) := by decide +kernel
theorem dX12_pushes_18 : decode cX12_pushes 18 = .ok (.iload_n 2, 1) := by decide +kernel
theorem dX12_pushes_19 : decode cX12_pushes 19 = .ok (.iastore, 1) := by decide +kernel
theorem dX12_pushes_20 : decode cX12_pushes 20 = .ok (.aload_n 0, 1) := by decide +kernel
theorem dX12_pushes_21 : decode cX12_pushes 21 = .ok (.dup, 1) := by decide +kernel
theorem dX12_pushes_22 : decode cX12_pushes 22 = .ok (.getfield 398, 3) := by decide +kernel
theorem dX12_pushes_25 : decode cX12_pushes 25 = .ok (.iconst 1, 1) := by decide +kernel
theorem dX12_pushes_26 : decode cX12_pushes 26 = .ok (.iadd, 1) := by decide +kernel
theorem dX12_pushes_27 : decode cX12_pushes 27 = .ok (.putfield 398, 3) := by decide +kernel
theorem dX12_pushes_30 : decode cX12_pushes 30 = .ok (.return_, 1) := by decide +kernel
theorem dX12_areAlike_0 : decode cX12_areAlike 0 = .ok (.aload_n 0, 1) := by decide +kernel
theorem dX12_areAlike_1 : decode cX12_areAlike 1 = .ok (.getfield 61, 3) := by decide +kernel
theorem dX12_areAlike_4 : decode cX12_areAlike 4 = .ok (.iload_n 1, 1) := by decide +kernel
theorem dX12_areAlike_5 : decode cX12_areAlike 5 = .ok (.iaload, 1) := by decide +kernel
theorem dX12_areAlike_6 : decode cX12_areAlike 6 = .ok (.aload_n 0, 1) := by decide +kernel
theorem dX12_areAlike_7 : decode cX12_areAlike 7 = .ok (.getfield 61, 3) := by decide +kernel
theorem dX12_areAlike_10 : decode cX12_areAlike 10 = .ok (.iload_n 2, 1) := by decide +kernel
theorem dX12_areAlike_11 : decode cX12_areAlike 11 = .ok (.iaload, 1) := by decide +kernel
theorem dX12_areAlike_12 : decode cX12_areAlike 12 = .ok (.if_icmp .ne 22, 3) := by decide +kernel
theorem dX12_areAlike_34 : decode cX12_areAlike 34 = .ok (.iconst 0, 1) := by decide +kernel
theorem dX12_areAlike_35 : decode cX12_areAlike 35 = .ok (.ireturn, 1) := by decide +kernel
theorem dX12_areAlike_15 : decode cX12_areAlike 15 = .ok (.aload_n 0, 1) := by decide +kernel
theorem dX12_areAlike_16 : decode cX12_areAlike 16 = .ok (.getfield 64, 3) := by decide +kernel
theorem dX12_areAlike_19 : decode cX12_areAlike 19 = .ok (.iload_n 1, 1) := by decide +kernel
theorem dX12_areAlike_20 : decode cX12_areAlike 20 = .ok (.iaload, 1) := by decide +kernel
theorem dX12_areAlike_21 : decode cX12_areAlike 21 = .ok (.aload_n 0, 1) := by decide +kernel
theorem dX12_areAlike_22 : decode cX12_areAlike 22 = .ok (.getfield 64, 3) := by decide +kernel
theorem dX12_areAlike_25 : decode cX12_areAlike 25 = .ok (.iload_n 2, 1) := by decide +kernel
theorem dX12_areAlike_26 : decode cX12_areAlike 26 = .ok (.iaload, 1) := by decide +kernel
theorem dX12_areAlike_27 : decode cX12_areAlike 27 = .ok (.if_icmp .ne 7, 3) := by decide +kernel
theorem dX12_areAlike_30 : decode cX12_areAlike 30 = .ok (.iconst 1, 1) := by decide +kernel
theorem dX12_areAlike_31 : decode cX12_areAlike 31 = .ok (.goto 4, 3) := by decide +kernel
theorem dX12_changes_0 : decode cX12_changes 0 = .ok (.iconst 1, 1) := by decide +kernel
theorem dX12_changes_1 : decode cX12_changes 1 = .ok (.istore_n 3, 1) := by decide +kernel
theorem dX12_changes_2 : decode cX12_changes 2 = .ok (.iconst 1, 1) := by decide +kernel
theorem dX12_changes_3 : decode cX12_changes 3 = .ok (.istore 4, 2) := by decide +kernel
theorem dX12_changes_5 : decode cX12_changes 5 = .ok (.iload_n 1, 1) := by decide +kernel
theorem dX12_changes_6 : decode cX12_changes 6 = .ok (.iconst 1, 1) := by decide +kernel
theorem dX12_changes_7 : decode cX12_changes 7 = .ok (.iadd, 1) := by decide +kernel
theorem dX12_changes_8 : decode cX12_changes 8 = .ok (.istore 5, 2) := by decide +kernel
theorem dX12_changes_10 : decode cX12_changes 10 = .ok (.iload 5, 2) := by decide +kernel
theorem dX12_changes_12 : decode cX12_changes 12 = .ok (.iload_n 2, 1) := by decide +kernel
theorem dX12_changes_13 : decode cX12_changes 13 = .ok (.if_icmp .ge 37, 3) := by decide +kernel
theorem dX12_changes_16 : decode cX12_changes 16 = .ok (.aload_n 0, 1) := by decide +kernel
theorem dX12_changes_17 : decode cX12_changes 17 = .ok (.iload 5, 2) := by decide +kernel
theorem dX12_changes_19 : decode cX12_changes 19 = .ok (.iconst 1, 1) := by decide +kernel
theorem dX12_changes_20 : decode cX12_changes 20 = .ok (.isub, 1) := by decide +kernel
theorem dX12_changes_21 : decode cX12_changes 21 = .ok (.iload 5, 2) := by decide +kernel
theorem dX12_changes_23 : decode cX12_changes 23 = .ok (.invokevirtual 447, 3) := by decide +kernel
theorem wm_2234 : (Jvm.Cond.methodLink "GrownKindsModel" (447 : Nat) ({ cls := "GrownKindsModel", name := "areAlike", desc := "(II)Z" } : Jvm.MethodName)) ∈ gT := gT_in (List.mem_of_getElem? (i := 2234) (by decide +kernel)) (by decide +kernel)
theorem wm_2236 : (Jvm.Cond.instanceMethod ({ cls := "GrownKindsModel", name := "areAlike", desc := "(II)Z" } : Jvm.MethodName)) ∈ gT := gT_in (List.mem_of_getElem? (i := 2236) (by decide +kernel)) (by decide +kernel)
theorem wm_150 : Cond.selects "GrownKindsModel" ⟨"GrownKindsModel", "areAlike", "(II)Z"⟩ ⟨"GrownKindsModel", "areAlike", "(II)Z"⟩ ∈ gT := gT_in (List.mem_of_getElem? (i := 150) (by decide +kernel)) (by decide +kernel)
theorem wm_2237 : (Jvm.Cond.code ({ cls := "GrownKindsModel", name := "areAlike", desc := "(II)Z" } : Jvm.MethodName) prog_14_method_94_code (3 : Nat) (Option.some Jvm.ClassFile.FieldType.boolean)) ∈ gT := gT_in (List.mem_of_getElem? (i := 2237) (by decide +kernel)) (by decide +kernel)
theorem dX12_changes_26 : decode cX12_changes 26 = .ok (.ifCond .eq 10, 3) := by decide +kernel
theorem dX12_changes_36 : decode cX12_changes 36 = .ok (.iconst 1, 1) := by decide +kernel
theorem dX12_changes_29 : decode cX12_changes 29 = .ok (.iload 4, 2) := by decide +kernel
theorem dX12_changes_31 : decode cX12_changes 31 = .ok (.iconst 1, 1) := by decide +kernel
theorem dX12_changes_32 : decode cX12_changes 32 = .ok (.iadd, 1) := by decide +kernel
theorem dX12_changes_33 : decode cX12_changes 33 = .ok (.goto 4, 3) := by decide +kernel
theorem dX12_changes_37 : decode cX12_changes 37 = .ok (.istore 4, 2) := by decide +kernel
theorem dX12_changes_39 : decode cX12_changes 39 = .ok (.iload_n 3, 1) := by decide +kernel
theorem dX12_changes_40 : decode cX12_changes 40 = .ok (.iload 4, 2) := by decide +kernel
theorem dX12_changes_42 : decode cX12_changes 42 = .ok (.imul, 1) := by decide +kernel
theorem dX12_changes_43 : decode cX12_changes 43 = .ok (.istore_n 3, 1) := by decide +kernel
theorem dX12_changes_44 : decode cX12_changes 44 = .ok (.iinc 5 1, 3) := by decide +kernel
theorem dX12_changes_47 : decode cX12_changes 47 = .ok (.goto (-37), 3) := by decide +kernel
theorem dX12_changes_50 : decode cX12_changes 50 = .ok (.iload_n 3, 1) := by decide +kernel
theorem dX12_changes_51 : decode cX12_changes 51 = .ok (.ireturn, 1) := by decide +kernel
theorem dX12_turnsIn_0 : decode cX12_turnsIn 0 = .ok (.iload_n 2, 1) := by decide +kernel
theorem dX12_turnsIn_1 : decode cX12_turnsIn 1 = .ok (.iload_n 1, 1) := by decide +kernel
theorem dX12_turnsIn_2 : decode cX12_turnsIn 2 = .ok (.isub, 1) := by decide +kernel
theorem dX12_turnsIn_3 : decode cX12_turnsIn 3 = .ok (.istore_n 3, 1) := by decide +kernel
theorem dX12_turnsIn_4 : decode cX12_turnsIn 4 = .ok (.iconst 0, 1) := by decide +kernel
theorem dX12_turnsIn_5 : decode cX12_turnsIn 5 = .ok (.istore 4, 2) := by decide +kernel
theorem dX12_turnsIn_7 : decode cX12_turnsIn 7 = .ok (.iconst 0, 1) := by decide +kernel
theorem dX12_turnsIn_8 : decode cX12_turnsIn 8 = .ok (.istore 5, 2) := by decide +kernel
theorem dX12_turnsIn_10 : decode cX12_turnsIn 10 = .ok (.iload 5, 2) := by decide +kernel
theorem dX12_turnsIn_12 : decode cX12_turnsIn 12 = .ok (.iload_n 3, 1) := by decide +kernel
theorem dX12_turnsIn_13 : decode cX12_turnsIn 13 = .ok (.if_icmp .ge 66, 3) := by decide +kernel
theorem dX12_turnsIn_16 : decode cX12_turnsIn 16 = .ok (.iconst 1, 1) := by decide +kernel
theorem dX12_turnsIn_17 : decode cX12_turnsIn 17 = .ok (.istore 6, 2) := by decide +kernel
theorem dX12_turnsIn_19 : decode cX12_turnsIn 19 = .ok (.iconst 0, 1) := by decide +kernel
theorem dX12_turnsIn_20 : decode cX12_turnsIn 20 = .ok (.istore 7, 2) := by decide +kernel
theorem dX12_turnsIn_22 : decode cX12_turnsIn 22 = .ok (.iload 7, 2) := by decide +kernel
theorem dX12_turnsIn_24 : decode cX12_turnsIn 24 = .ok (.iload_n 3, 1) := by decide +kernel
theorem dX12_turnsIn_25 : decode cX12_turnsIn 25 = .ok (.if_icmp .ge 33, 3) := by decide +kernel
theorem dX12_turnsIn_28 : decode cX12_turnsIn 28 = .ok (.iload 6, 2) := by decide +kernel
theorem dX12_turnsIn_30 : decode cX12_turnsIn 30 = .ok (.ifCond .eq 28, 3) := by decide +kernel
theorem dX12_turnsIn_33 : decode cX12_turnsIn 33 = .ok (.aload_n 0, 1) := by decide +kernel
theorem dX12_turnsIn_34 : decode cX12_turnsIn 34 = .ok (.iload_n 1, 1) := by decide +kernel
theorem dX12_turnsIn_35 : decode cX12_turnsIn 35 = .ok (.iload 7, 2) := by decide +kernel
theorem dX12_turnsIn_37 : decode cX12_turnsIn 37 = .ok (.iadd, 1) := by decide +kernel
theorem dX12_turnsIn_38 : decode cX12_turnsIn 38 = .ok (.iload_n 1, 1) := by decide +kernel
theorem dX12_turnsIn_39 : decode cX12_turnsIn 39 = .ok (.iload 7, 2) := by decide +kernel
theorem dX12_turnsIn_41 : decode cX12_turnsIn 41 = .ok (.iload 5, 2) := by decide +kernel
theorem dX12_turnsIn_43 : decode cX12_turnsIn 43 = .ok (.iadd, 1) := by decide +kernel
theorem dX12_turnsIn_44 : decode cX12_turnsIn 44 = .ok (.iload_n 3, 1) := by decide +kernel
theorem dX12_turnsIn_45 : decode cX12_turnsIn 45 = .ok (.irem, 1) := by decide +kernel
theorem dX12_turnsIn_46 : decode cX12_turnsIn 46 = .ok (.iadd, 1) := by decide +kernel
theorem dX12_turnsIn_47 : decode cX12_turnsIn 47 = .ok (.invokevirtual 447, 3) := by decide +kernel
theorem dX12_turnsIn_50 : decode cX12_turnsIn 50 = .ok (.istore 6, 2) := by decide +kernel
theorem dX12_turnsIn_52 : decode cX12_turnsIn 52 = .ok (.iinc 7 1, 3) := by decide +kernel
theorem dX12_turnsIn_55 : decode cX12_turnsIn 55 = .ok (.goto (-33), 3) := by decide +kernel
theorem dX12_turnsIn_58 : decode cX12_turnsIn 58 = .ok (.iload 4, 2) := by decide +kernel
theorem dX12_turnsIn_60 : decode cX12_turnsIn 60 = .ok (.iload 6, 2) := by decide +kernel
theorem dX12_turnsIn_62 : decode cX12_turnsIn 62 = .ok (.ifCond .eq 7, 3) := by decide +kernel
theorem dX12_turnsIn_69 : decode cX12_turnsIn 69 = .ok (.iconst 0, 1) := by decide +kernel
theorem dX12_turnsIn_70 : decode cX12_turnsIn 70 = .ok (.iadd, 1) := by decide +kernel
theorem dX12_turnsIn_71 : decode cX12_turnsIn 71 = .ok (.istore 4, 2) := by decide +kernel
theorem dX12_turnsIn_73 : decode cX12_turnsIn 73 = .ok (.iinc 5 1, 3) := by decide +kernel
theorem dX12_turnsIn_76 : decode cX12_turnsIn 76 = .ok (.goto (-66), 3) := by decide +kernel
theorem dX12_turnsIn_65 : decode cX12_turnsIn 65 = .ok (.iconst 1, 1) := by decide +kernel
theorem dX12_turnsIn_66 : decode cX12_turnsIn 66 = .ok (.goto 4, 3) := by decide +kernel
theorem dX12_turnsIn_79 : decode cX12_turnsIn 79 = .ok (.iload 4, 2) := by decide +kernel
theorem dX12_turnsIn_81 : decode cX12_turnsIn 81 = .ok (.ireturn, 1) := by decide +kernel
theorem dX12_isBelow_0 : decode cX12_isBelow 0 = .ok (.iload_n 1, 1) := by decide +kernel
theorem dX12_isBelow_1 : decode cX12_isBelow 1 = .ok (.aload_n 0, 1) := by decide +kernel
theorem dX12_isBelow_2 : decode cX12_isBelow 2 = .ok (.getfield 61, 3) := by decide +kernel
theorem dX12_isBelow_5 : decode cX12_isBelow 5 = .ok (.iload_n 3, 1) := by decide +kernel
theorem dX12_isBelow_6 : decode cX12_isBelow 6 = .ok (.iaload, 1) := by decide +kernel
theorem dX12_isBelow_7 : decode cX12_isBelow 7 = .ok (.if_icmp .lt 23, 3) := by decide +kernel
theorem dX12_isBelow_30 : decode cX12_isBelow 30 = .ok (.iconst 1, 1) := by decide +kernel
theorem dX12_isBelow_31 : decode cX12_isBelow 31 = .ok (.goto 4, 3) := by decide +kernel
theorem dX12_isBelow_35 : decode cX12_isBelow 35 = .ok (.ireturn, 1) := by decide +kernel
theorem dX12_isBelow_10 : decode cX12_isBelow 10 = .ok (.iload_n 1, 1) := by decide +kernel
theorem dX12_isBelow_11 : decode cX12_isBelow 11 = .ok (.aload_n 0, 1) := by decide +kernel
theorem dX12_isBelow_12 : decode cX12_isBelow 12 = .ok (.getfield 61, 3) := by decide +kernel
theorem dX12_isBelow_15 : decode cX12_isBelow 15 = .ok (.iload_n 3, 1) := by decide +kernel
theorem dX12_isBelow_16 : decode cX12_isBelow 16 = .ok (.iaload, 1) := by decide +kernel
theorem dX12_isBelow_17 : decode cX12_isBelow 17 = .ok (.if_icmp .ne 17, 3) := by decide +kernel
theorem dX12_isBelow_34 : decode cX12_isBelow 34 = .ok (.iconst 0, 1) := by decide +kernel
theorem dX12_isBelow_20 : decode cX12_isBelow 20 = .ok (.iload_n 2, 1) := by decide +kernel
theorem dX12_isBelow_21 : decode cX12_isBelow 21 = .ok (.aload_n 0, 1) := by decide +kernel
theorem dX12_isBelow_22 : decode cX12_isBelow 22 = .ok (.getfield 64, 3) := by decide +kernel
theorem dX12_isBelow_25 : decode cX12_isBelow 25 = .ok (.iload_n 3, 1) := by decide +kernel
theorem dX12_isBelow_26 : decode cX12_isBelow 26 = .ok (.iaload, 1) := by decide +kernel
theorem dX12_isBelow_27 : decode cX12_isBelow 27 = .ok (.if_icmp .ge 7, 3) := by decide +kernel
theorem dX12_isLeast_0 : decode cX12_isLeast 0 = .ok (.aload_n 0, 1) := by decide +kernel
theorem dX12_isLeast_1 : decode cX12_isLeast 1 = .ok (.getfield 398, 3) := by decide +kernel
theorem dX12_isLeast_4 : decode cX12_isLeast 4 = .ok (.iload_n 1, 1) := by decide +kernel
theorem dX12_isLeast_5 : decode cX12_isLeast 5 = .ok (.isub, 1) := by decide +kernel
theorem dX12_isLeast_6 : decode cX12_isLeast 6 = .ok (.istore_n 2, 1) := by decide +kernel
theorem dX12_isLeast_7 : decode cX12_isLeast 7 = .ok (.iconst 1, 1) := by decide +kernel
theorem dX12_isLeast_8 : decode cX12_isLeast 8 = .ok (.istore_n 3, 1) := by decide +kernel
theorem dX12_isLeast_9 : decode cX12_isLeast 9 = .ok (.iload_n 3, 1) := by decide +kernel
theorem dX12_isLeast_10 : decode cX12_isLeast 10 = .ok (.iload_n 2, 1) := by decide +kernel
theorem dX12_isLeast_11 : decode cX12_isLeast 11 = .ok (.if_icmp .ge 88, 3) := by decide +kernel
theorem dX12_isLeast_14 : decode cX12_isLeast 14 = .ok (.iconst 0, 1) := by decide +kernel
theorem dX12_isLeast_15 : decode cX12_isLeast 15 = .ok (.istore 4, 2) := by decide +kernel
theorem dX12_isLeast_17 : decode cX12_isLeast 17 = .ok (.iload 4, 2) := by decide +kernel
theorem dX12_isLeast_19 : decode cX12_isLeast 19 = .ok (.iload_n 2, 1) := by decide +kernel
theorem dX12_isLeast_20 : decode cX12_isLeast 20 = .ok (.if_icmp .ge 28, 3) := by decide +kernel
theorem dX12_isLeast_23 : decode cX12_isLeast 23 = .ok (.aload_n 0, 1) := by decide +kernel
theorem dX12_isLeast_24 : decode cX12_isLeast 24 = .ok (.iload_n 1, 1) := by decide +kernel
theorem dX12_isLeast_25 : decode cX12_isLeast 25 = .ok (.iload 4, 2) := by decide +kernel
theorem dX12_isLeast_27 : decode cX12_isLeast 27 = .ok (.iadd, 1) := by decide +kernel
theorem dX12_isLeast_28 : decode cX12_isLeast 28 = .ok (.iload_n 1, 1) := by decide +kernel
theorem dX12_isLeast_29 : decode cX12_isLeast 29 = .ok (.iload 4, 2) := by decide +kernel
theorem dX12_isLeast_31 : decode cX12_isLeast 31 = .ok (.iload_n 3, 1) := by decide +kernel
theorem dX12_isLeast_32 : decode cX12_isLeast 32 = .ok (.iadd, 1) := by decide +kernel
theorem dX12_isLeast_33 : decode cX12_isLeast 33 = .ok (.iload_n 2, 1) := by decide +kernel
theorem dX12_isLeast_34 : decode cX12_isLeast 34 = .ok (.irem, 1) := by decide +kernel
theorem dX12_isLeast_35 : decode cX12_isLeast 35 = .ok (.iadd, 1) := by decide +kernel
theorem dX12_isLeast_36 : decode cX12_isLeast 36 = .ok (.invokevirtual 447, 3) := by decide +kernel
theorem dX12_isLeast_39 : decode cX12_isLeast 39 = .ok (.ifCond .eq 9, 3) := by decide +kernel
theorem dX12_isLeast_42 : decode cX12_isLeast 42 = .ok (.iinc 4 1, 3) := by decide +kernel
theorem dX12_isLeast_45 : decode cX12_isLeast 45 = .ok (.goto (-28), 3) := by decide +kernel
theorem dX12_isLeast_48 : decode cX12_isLeast 48 = .ok (.iload 4, 2) := by decide +kernel
theorem dX12_isLeast_50 : decode cX12_isLeast 50 = .ok (.iload_n 2, 1) := by decide +kernel
theorem dX12_isLeast_51 : decode cX12_isLeast 51 = .ok (.if_icmp .ge 42, 3) := by decide +kernel
theorem dX12_isLeast_93 : decode cX12_isLeast 93 = .ok (.iinc 3 1, 3) := by decide +kernel
theorem dX12_isLeast_96 : decode cX12_isLeast 96 = .ok (.goto (-87), 3) := by decide +kernel
theorem dX12_isLeast_54 : decode cX12_isLeast 54 = .ok (.aload_n 0, 1) := by decide +kernel
theorem dX12_isLeast_55 : decode cX12_isLeast 55 = .ok (.aload_n 0, 1) := by decide +kernel
theorem dX12_isLeast_56 : decode cX12_isLeast 56 = .ok (.getfield 61, 3) := by decide +kernel
theorem dX12_isLeast_59 : decode cX12_isLeast 59 = .ok (.iload_n 1, 1) := by decide +kernel
theorem dX12_isLeast_60 : decode cX12_isLeast 60 = .ok (.iload 4, 2) := by decide +kernel
theorem dX12_isLeast_62 : decode cX12_isLeast 62 = .ok (.iload_n 3, 1) := by decide +kernel
theorem dX12_isLeast_63 : decode cX12_isLeast 63 = .ok (.iadd, 1) := by decide +kernel
theorem dX12_isLeast_64 : decode cX12_isLeast 64 = .ok (.iload_n 2, 1) := by decide +kernel
theorem dX12_isLeast_65 : decode cX12_isLeast 65 = .ok (.irem, 1) := by decide +kernel
theorem dX12_isLeast_66 : decode cX12_isLeast 66 = .ok (.iadd, 1) := by decide +kernel
theorem dX12_isLeast_67 : decode cX12_isLeast 67 = .ok (.iaload, 1) := by decide +kernel
theorem dX12_isLeast_68 : decode cX12_isLeast 68 = .ok (.aload_n 0, 1) := by decide +kernel
theorem dX12_isLeast_69 : decode cX12_isLeast 69 = .ok (.getfield 64, 3) := by decide +kernel
theorem dX12_isLeast_72 : decode cX12_isLeast 72 = .ok (.iload_n 1, 1) := by decide +kernel
theorem dX12_isLeast_73 : decode cX12_isLeast 73 = .ok (.iload 4, 2) := by decide +kernel
theorem dX12_isLeast_75 : decode cX12_isLeast 75 = .ok (.iload_n 3, 1) := by decide +kernel
theorem dX12_isLeast_76 : decode cX12_isLeast 76 = .ok (.iadd, 1) := by decide +kernel
theorem dX12_isLeast_77 : decode cX12_isLeast 77 = .ok (.iload_n 2, 1) := by decide +kernel
theorem dX12_isLeast_78 : decode cX12_isLeast 78 = .ok (.irem, 1) := by decide +kernel
theorem dX12_isLeast_79 : decode cX12_isLeast 79 = .ok (.iadd, 1) := by decide +kernel
theorem dX12_isLeast_80 : decode cX12_isLeast 80 = .ok (.iaload, 1) := by decide +kernel
theorem dX12_isLeast_81 : decode cX12_isLeast 81 = .ok (.iload_n 1, 1) := by decide +kernel
theorem dX12_isLeast_82 : decode cX12_isLeast 82 = .ok (.iload 4, 2) := by decide +kernel
theorem dX12_isLeast_84 : decode cX12_isLeast 84 = .ok (.iadd, 1) := by decide +kernel
theorem dX12_isLeast_85 : decode cX12_isLeast 85 = .ok (.invokevirtual 463, 3) := by decide +kernel
theorem wm_2238 : (Jvm.Cond.methodLink "GrownKindsModel" (463 : Nat) ({ cls := "GrownKindsModel", name := "isBelow", desc := "(III)Z" } : Jvm.MethodName)) ∈ gT := gT_in (List.mem_of_getElem? (i := 2238) (by decide +kernel)) (by decide +kernel)
theorem wm_2240 : (Jvm.Cond.instanceMethod ({ cls := "GrownKindsModel", name := "isBelow", desc := "(III)Z" } : Jvm.MethodName)) ∈ gT := gT_in (List.mem_of_getElem? (i := 2240) (by decide +kernel)) (by decide +kernel)
theorem wm_151 : Cond.selects "GrownKindsModel" ⟨"GrownKindsModel", "isBelow", "(III)Z"⟩ ⟨"GrownKindsModel", "isBelow", "(III)Z"⟩ ∈ gT := gT_in (List.mem_of_getElem? (i := 151) (by decide +kernel)) (by decide +kernel)
theorem wm_2241 : (Jvm.Cond.code ({ cls := "GrownKindsModel", name := "isBelow", desc := "(III)Z" } : Jvm.MethodName) prog_14_method_102_code (4 : Nat) (Option.some Jvm.ClassFile.FieldType.boolean)) ∈ gT := gT_in (List.mem_of_getElem? (i := 2241) (by decide +kernel)) (by decide +kernel)
theorem dX12_isLeast_88 : decode cX12_isLeast 88 = .ok (.ifCond .eq 5, 3) := by decide +kernel
theorem dX12_isLeast_91 : decode cX12_isLeast 91 = .ok (.iconst 0, 1) := by decide +kernel
theorem dX12_isLeast_92 : decode cX12_isLeast 92 = .ok (.ireturn, 1) := by decide +kernel
theorem dX12_isLeast_99 : decode cX12_isLeast 99 = .ok (.iconst 1, 1) := by decide +kernel
theorem dX12_isLeast_100 : decode cX12_isLeast 100 = .ok (.ireturn, 1) := by decide +kernel
theorem dX12_whyNot_0 : decode cX12_whyNot 0 = .ok (.aload_n 0, 1) := by decide +kernel
theorem dX12_whyNot_1 : decode cX12_whyNot 1 = .ok (.iload_n 1, 1) := by decide +kernel
theorem dX12_whyNot_2 : decode cX12_whyNot 2 = .ok (.invokevirtual 225, 3) := by decide +kernel
theorem dX12_whyNot_5 : decode cX12_whyNot 5 = .ok (.ifCond .eq 11, 3) := by decide +kernel
theorem dX12_whyNot_16 : decode cX12_whyNot 16 = .ok (.bipush (-2), 2) := by decide +kernel
theorem dX12_whyNot_18 : decode cX12_whyNot 18 = .ok (.ireturn, 1) := by decide +kernel
theorem dX12_whyNot_8 : decode cX12_whyNot 8 = .ok (.aload_n 0, 1) := by decide +kernel
theorem dX12_whyNot_9 : decode cX12_whyNot 9 = .ok (.iload_n 2, 1) := by decide +kernel
theorem dX12_whyNot_10 : decode cX12_whyNot 10 = .ok (.invokevirtual 334, 3) := by decide +kernel
theorem dX12_whyNot_13 : decode cX12_whyNot 13 = .ok (.ifCond .ne 6, 3) := by decide +kernel
theorem dX12_whyNot_19 : decode cX12_whyNot 19 = .ok (.aload_n 0, 1) := by decide +kernel
theorem dX12_whyNot_20 : decode cX12_whyNot 20 = .ok (.iconst (-1), 1) := by decide +kernel
theorem dX12_whyNot_21 : decode cX12_whyNot 21 = .ok (.invokevirtual 324, 3) := by decide +kernel
theorem dX12_whyNot_24 : decode cX12_whyNot 24 = .ok (.aload_n 0, 1) := by decide +kernel
theorem dX12_whyNot_25 : decode cX12_whyNot 25 = .ok (.iload_n 1, 1) := by decide +kernel
theorem dX12_whyNot_26 : decode cX12_whyNot 26 = .ok (.iload_n 2, 1) := by decide +kernel
theorem dX12_whyNot_27 : decode cX12_whyNot 27 = .ok (.invokevirtual 320, 3) := by decide +kernel
theorem dX12_whyNot_30 : decode cX12_whyNot 30 = .ok (.ldc2_w 470, 3) := by decide +kernel
theorem wm_2182 : (Jvm.Cond.constantLong "GrownKindsModel" (470 : Nat) (200 : Int64)) ∈ gT := gT_in (List.mem_of_getElem? (i := 2182) (by decide +kernel)) (by decide +kernel)
theorem dX12_whyNot_33 : decode cX12_whyNot 33 = .ok (.lcmp, 1) := by decide +kernel
theorem dX12_whyNot_34 : decode cX12_whyNot 34 = .ok (.ifCond .le 6, 3) := by decide +kernel
theorem dX12_whyNot_40 : decode cX12_whyNot 40 = .ok (.iload_n 3, 1) := by decide +kernel
theorem dX12_whyNot_41 : decode cX12_whyNot 41 = .ok (.i2l, 1) := by decide +kernel
theorem dX12_whyNot_42 : decode cX12_whyNot 42 = .ok (.lconst 0, 1) := by decide +kernel
theorem dX12_whyNot_43 : decode cX12_whyNot 43 = .ok (.aload_n 0, 1) := by decide +kernel
theorem dX12_whyNot_44 : decode cX12_whyNot 44 = .ok (.iload_n 1, 1) := by decide +kernel
theorem dX12_whyNot_45 : decode cX12_whyNot 45 = .ok (.iload_n 2, 1) := by decide +kernel
theorem dX12_whyNot_46 : decode cX12_whyNot 46 = .ok (.invokevirtual 320, 3) := by decide +kernel
theorem dX12_whyNot_49 : decode cX12_whyNot 49 = .ok (.lconst 1, 1) := by decide +kernel
theorem dX12_whyNot_50 : decode cX12_whyNot 50 = .ok (.lsub, 1) := by decide +kernel
theorem dX12_whyNot_51 : decode cX12_whyNot 51 = .ok (.invokestatic 97, 3) := by decide +kernel
theorem dX12_whyNot_54 : decode cX12_whyNot 54 = .ok (.ifCond .eq 7, 3) := by decide +kernel
theorem dX12_whyNot_61 : decode cX12_whyNot 61 = .ok (.bipush (-2), 2) := by decide +kernel
theorem dX12_whyNot_63 : decode cX12_whyNot 63 = .ok (.ireturn, 1) := by decide +kernel
theorem dX12_whyNot_57 : decode cX12_whyNot 57 = .ok (.iconst 0, 1) := by decide +kernel
theorem dX12_whyNot_58 : decode cX12_whyNot 58 = .ok (.goto 5, 3) := by decide +kernel
theorem dX12_whyNot_37 : decode cX12_whyNot 37 = .ok (.bipush (-3), 2) := by decide +kernel
theorem dX12_whyNot_39 : decode cX12_whyNot 39 = .ok (.ireturn, 1) := by decide +kernel
theorem dX12_whyNone_0 : decode cX12_whyNone 0 = .ok (.aload_n 0, 1) := by decide +kernel
theorem dX12_whyNone_1 : decode cX12_whyNone 1 = .ok (.iload_n 1, 1) := by decide +kernel
theorem dX12_whyNone_2 : decode cX12_whyNone 2 = .ok (.invokevirtual 225, 3) := by decide +kernel
theorem dX12_whyNone_5 : decode cX12_whyNone 5 = .ok (.ifCond .eq 11, 3) := by decide +kernel
theorem dX12_whyNone_16 : decode cX12_whyNone 16 = .ok (.bipush (-2), 2) := by decide +kernel
theorem dX12_whyNone_18 : decode cX12_whyNone 18 = .ok (.ireturn, 1) := by decide +kernel
theorem dX12_whyNone_8 : decode cX12_whyNone 8 = .ok (.aload_n 0, 1) := by decide +kernel
theorem dX12_whyNone_9 : decode cX12_whyNone 9 = .ok (.iload_n 2, 1) := by decide +kernel
theorem dX12_whyNone_10 : decode cX12_whyNone 10 = .ok (.invokevirtual 334, 3) := by decide +kernel
theorem dX12_whyNone_13 : decode cX12_whyNone 13 = .ok (.ifCond .ne 6, 3) := by decide +kernel
theorem dX12_whyNone_19 : decode cX12_whyNone 19 = .ok (.aload_n 0, 1) := by decide +kernel
theorem dX12_whyNone_20 : decode cX12_whyNone 20 = .ok (.iconst (-1), 1) := by decide +kernel
theorem dX12_whyNone_21 : decode cX12_whyNone 21 = .ok (.invokevirtual 324, 3) := by decide +kernel
theorem dX12_whyNone_24 : decode cX12_whyNone 24 = .ok (.aload_n 0, 1) := by decide +kernel
theorem dX12_whyNone_25 : decode cX12_whyNone 25 = .ok (.iload_n 1, 1) := by decide +kernel
theorem dX12_whyNone_26 : decode cX12_whyNone 26 = .ok (.iload_n 2, 1) := by decide +kernel
theorem dX12_whyNone_27 : decode cX12_whyNone 27 = .ok (.invokevirtual 320, 3) := by decide +kernel
theorem dX12_whyNone_30 : decode cX12_whyNone 30 = .ok (.ldc2_w 470, 3) := by decide +kernel
theorem dX12_whyNone_33 : decode cX12_whyNone 33 = .ok (.lcmp, 1) := by decide +kernel
theorem dX12_whyNone_34 : decode cX12_whyNone 34 = .ok (.ifCond .le 8, 3) := by decide +kernel
theorem dX12_whyNone_42 : decode cX12_whyNone 42 = .ok (.aload_n 0, 1) := by decide +kernel
theorem dX12_whyNone_43 : decode cX12_whyNone 43 = .ok (.iload_n 1, 1) := by decide +kernel
theorem dX12_whyNone_44 : decode cX12_whyNone 44 = .ok (.iload_n 2, 1) := by decide +kernel
theorem dX12_whyNone_45 : decode cX12_whyNone 45 = .ok (.invokevirtual 320, 3) := by decide +kernel
theorem dX12_whyNone_48 : decode cX12_whyNone 48 = .ok (.lconst 0, 1) := by decide +kernel
theorem dX12_whyNone_49 : decode cX12_whyNone 49 = .ok (.lcmp, 1) := by decide +kernel
theorem dX12_whyNone_50 : decode cX12_whyNone 50 = .ok (.ifCond .ne 7, 3) := by decide +kernel
theorem dX12_whyNone_57 : decode cX12_whyNone 57 = .ok (.iconst 0, 1) := by decide +kernel
theorem dX12_whyNone_58 : decode cX12_whyNone 58 = .ok (.ireturn, 1) := by decide +kernel
theorem dX12_whyNone_53 : decode cX12_whyNone 53 = .ok (.iconst (-1), 1) := by decide +kernel
theorem dX12_whyNone_54 : decode cX12_whyNone 54 = .ok (.goto 4, 3) := by decide +kernel
theorem dX12_whyNone_37 : decode cX12_whyNone 37 = .ok (.bipush (-3), 2) := by decide +kernel
theorem dX12_whyNone_39 : decode cX12_whyNone 39 = .ok (.goto 19, 3) := by decide +kernel
theorem dX12_node_0 : decode cX12_node 0 = .ok (.aload_n 0, 1) := by decide +kernel
theorem dX12_node_1 : decode cX12_node 1 = .ok (.getfield 67, 3) := by decide +kernel
theorem dX12_node_4 : decode cX12_node 4 = .ok (.aload_n 0, 1) := by decide +kernel
theorem dX12_node_5 : decode cX12_node 5 = .ok (.getfield 482, 3) := by decide +kernel
theorem wm_1711 : (Jvm.Cond.fieldLink "GrownKindsModel" (482 : Nat) "GrownKindsModel" "nodes" "I") ∈ gT := gT_in (List.mem_of_getElem? (i := 1711) (by decide +kernel)) (by decide +kernel)
theorem dX12_node_8 : decode cX12_node 8 = .ok (.iload_n 1, 1) := by decide +kernel
theorem dX12_node_9 : decode cX12_node 9 = .ok (.iastore, 1) := by decide +kernel
theorem dX12_node_10 : decode cX12_node 10 = .ok (.aload_n 0, 1) := by decide +kernel
theorem dX12_node_11 : decode cX12_node 11 = .ok (.getfield 70, 3) := by decide +kernel
theorem dX12_node_14 : decode cX12_node 14 = .ok (.aload_n 0, 1) := by decide +kernel
theorem dX12_node_15 : decode cX12_node 15 = .ok (.getfield 482, 3) := by decide +kernel
theorem dX12_node_18 : decode cX12_node 18 = .ok (.iload_n 2, 1) := by decide +kernel
theorem dX12_node_19 : decode cX12_node 19 = .ok (.iastore, 1) := by decide +kernel
theorem dX12_node_20 : decode cX12_node 20 = .ok (.aload_n 0, 1) := by decide +kernel
theorem dX12_node_21 : decode cX12_node 21 = .ok (.getfield 73, 3) := by decide +kernel
theorem dX12_node_24 : decode cX12_node 24 = .ok (.aload_n 0, 1) := by decide +kernel
theorem dX12_node_25 : decode cX12_node 25 = .ok (.getfield 482, 3) := by decide +kernel
theorem dX12_node_28 : decode cX12_node 28 = .ok (.iload_n 3, 1) := by decide +kernel
theorem dX12_node_29 : decode cX12_node 29 = .ok (.iastore, 1) := by decide +kernel
theorem dX12_node_30 : decode cX12_node 30 = .ok (.aload_n 0, 1) := by decide +kernel
theorem dX12_node_31 : decode cX12_node 31 = .ok (.getfield 76, 3) := by decide +kernel
theorem dX12_node_34 : decode cX12_node 34 = .ok (.aload_n 0, 1) := by decide +kernel
theorem dX12_node_35 : decode cX12_node 35 = .ok (.getfield 482, 3) := by decide +kernel
theorem dX12_node_38 : decode cX12_node 38 = .ok (.iconst (-1), 1) := by decide +kernel
theorem dX12_node_39 : decode cX12_node 39 = .ok (.iastore, 1) := by decide +kernel
theorem dX12_node_40 : decode cX12_node 40 = .ok (.aload_n 0, 1) := by decide +kernel
theorem dX12_node_41 : decode cX12_node 41 = .ok (.getfield 79, 3) := by decide +kernel
theorem dX12_node_44 : decode cX12_node 44 = .ok (.aload_n 0, 1) := by decide +kernel
theorem dX12_node_45 : decode cX12_node 45 = .ok (.getfield 482, 3) := by decide +kernel
theorem dX12_node_48 : decode cX12_node 48 = .ok (.iconst (-1), 1) := by decide +kernel
theorem dX12_node_49 : decode cX12_node 49 = .ok (.iastore, 1) := by decide +kernel
theorem dX12_node_50 : decode cX12_node 50 = .ok (.aload_n 0, 1) := by decide +kernel
theorem dX12_node_51 : decode cX12_node 51 = .ok (.dup, 1) := by decide +kernel
theorem dX12_node_52 : decode cX12_node 52 = .ok (.getfield 482, 3) := by decide +kernel
theorem dX12_node_55 : decode cX12_node 55 = .ok (.iconst 1, 1) := by decide +kernel
theorem dX12_node_56 : decode cX12_node 56 = .ok (.iadd, 1) := by decide +kernel
theorem dX12_node_57 : decode cX12_node 57 = .ok (.putfield 482, 3) := by decide +kernel
theorem dX12_node_60 : decode cX12_node 60 = .ok (.aload_n 0, 1) := by decide +kernel
theorem dX12_node_61 : decode cX12_node 61 = .ok (.getfield 482, 3) := by decide +kernel
theorem dX12_node_64 : decode cX12_node 64 = .ok (.iconst 1, 1) := by decide +kernel
theorem dX12_node_65 : decode cX12_node 65 = .ok (.isub, 1) := by decide +kernel
theorem dX12_node_66 : decode cX12_node 66 = .ok (.ireturn, 1) := by decide +kernel
theorem dX12_here_0 : decode cX12_here 0 = .ok (.aload_n 0, 1) := by decide +kernel
theorem dX12_here_1 : decode cX12_here 1 = .ok (.getfield 485, 3) := by decide +kernel
theorem wm_1714 : (Jvm.Cond.fieldLink "GrownKindsModel" (485 : Nat) "GrownKindsModel" "read" "I") ∈ gT := gT_in (List.mem_of_getElem? (i := 1714) (by decide +kernel)) (by decide +kernel)
theorem dX12_here_4 : decode cX12_here 4 = .ok (.aload_n 0, 1) := by decide +kernel
theorem dX12_here_5 : decode cX12_here 5 = .ok (.getfield 488, 3) := by decide +kernel
theorem wm_1713 : (Jvm.Cond.fieldLink "GrownKindsModel" (488 : Nat) "GrownKindsModel" "sourceLong" "I") ∈ gT := gT_in (List.mem_of_getElem? (i := 1713) (by decide +kernel)) (by decide +kernel)
theorem dX12_here_8 : decode cX12_here 8 = .ok (.if_icmp .ge 15, 3) := by decide +kernel
theorem dX12_here_23 : decode cX12_here 23 = .ok (.iconst (-1), 1) := by decide +kernel
theorem dX12_here_24 : decode cX12_here 24 = .ok (.ireturn, 1) := by decide +kernel
theorem dX12_here_11 : decode cX12_here 11 = .ok (.aload_n 0, 1) := by decide +kernel
theorem dX12_here_12 : decode cX12_here 12 = .ok (.getfield 82, 3) := by decide +kernel
theorem dX12_here_15 : decode cX12_here 15 = .ok (.aload_n 0, 1) := by decide +kernel
theorem dX12_here_16 : decode cX12_here 16 = .ok (.getfield 485, 3) := by decide +kernel
theorem dX12_here_19 : decode cX12_here 19 = .ok (.iaload, 1) := by decide +kernel
theorem dX12_here_20 : decode cX12_here 20 = .ok (.goto 4, 3) := by decide +kernel
theorem dX12_isBlank_0 : decode cX12_isBlank 0 = .ok (.iconst 0, 1) := by decide +kernel
theorem dX12_isBlank_1 : decode cX12_isBlank 1 = .ok (.istore_n 2, 1) := by decide +kernel
theorem dX12_isBlank_2 : decode cX12_isBlank 2 = .ok (.iload_n 2, 1) := by decide +kernel
theorem dX12_isBlank_3 : decode cX12_isBlank 3 = .ok (.bipush 8, 2) := by decide +kernel
theorem dX12_isBlank_5 : decode cX12_isBlank 5 = .ok (.if_icmp .ge 27, 3) := by decide +kernel
theorem dX12_isBlank_8 : decode cX12_isBlank 8 = .ok (.aload_n 0, 1) := by decide +kernel
theorem dX12_isBlank_9 : decode cX12_isBlank 9 = .ok (.getfield 39, 3) := by decide +kernel
theorem dX12_isBlank_12 : decode cX12_isBlank 12 = .ok (.iload_n 1, 1) := by decide +kernel
theorem dX12_isBlank_13 : decode cX12_isBlank 13 = .ok (.iload_n 2, 1) := by decide +kernel
theorem dX12_isBlank_14 : decode cX12_isBlank 14 = .ok (.iconst 0, 1) := by decide +kernel
theorem dX12_isBlank_15 : decode cX12_isBlank 15 = .ok (.invokestatic 276, 3) := by decide +kernel
theorem dX12_isBlank_18 : decode cX12_isBlank 18 = .ok (.laload, 1) := by decide +kernel
theorem dX12_isBlank_19 : decode cX12_isBlank 19 = .ok (.lconst 0, 1) := by decide +kernel
theorem dX12_isBlank_20 : decode cX12_isBlank 20 = .ok (.lcmp, 1) := by decide +kernel
theorem dX12_isBlank_21 : decode cX12_isBlank 21 = .ok (.ifCond .le 5, 3) := by decide +kernel
theorem dX12_isBlank_26 : decode cX12_isBlank 26 = .ok (.iinc 2 1, 3) := by decide +kernel
theorem dX12_isBlank_29 : decode cX12_isBlank 29 = .ok (.goto (-27), 3) := by decide +kernel
theorem dX12_isBlank_24 : decode cX12_isBlank 24 = .ok (.iconst 0, 1) := by decide +kernel
theorem dX12_isBlank_25 : decode cX12_isBlank 25 = .ok (.ireturn, 1) := by decide +kernel
theorem dX12_isBlank_32 : decode cX12_isBlank 32 = .ok (.iconst 1, 1) := by decide +kernel
theorem dX12_isBlank_33 : decode cX12_isBlank 33 = .ok (.ireturn, 1) := by decide +kernel
theorem dX12_partOf_0 : decode cX12_partOf 0 = .ok (.iload_n 1, 1) := by decide +kernel
theorem dX12_partOf_1 : decode cX12_partOf 1 = .ok (.istore_n 2, 1) := by decide +kernel
theorem dX12_partOf_2 : decode cX12_partOf 2 = .ok (.aload_n 0, 1) := by decide +kernel
theorem dX12_partOf_3 : decode cX12_partOf 3 = .ok (.getfield 15, 3) := by decide +kernel
theorem dX12_partOf_6 : decode cX12_partOf 6 = .ok (.bipush 24, 2) := by decide +kernel
theorem dX12_partOf_8 : decode cX12_partOf 8 = .ok (.iload_n 2, 1) := by decide +kernel
theorem dX12_partOf_9 : decode cX12_partOf 9 = .ok (.iadd, 1) := by decide +kernel
theorem dX12_partOf_10 : decode cX12_partOf 10 = .ok (.iaload, 1) := by decide +kernel
theorem dX12_partOf_11 : decode cX12_partOf 11 = .ok (.iconst 2, 1) := by decide +kernel
theorem dX12_partOf_12 : decode cX12_partOf 12 = .ok (.if_icmp .eq 17, 3) := by decide +kernel
theorem dX12_partOf_15 : decode cX12_partOf 15 = .ok (.aload_n 0, 1) := by decide +kernel
theorem dX12_partOf_16 : decode cX12_partOf 16 = .ok (.getfield 15, 3) := by decide +kernel
theorem dX12_partOf_19 : decode cX12_partOf 19 = .ok (.bipush 24, 2) := by decide +kernel
theorem dX12_partOf_21 : decode cX12_partOf 21 = .ok (.iload_n 2, 1) := by decide +kernel
theorem dX12_partOf_22 : decode cX12_partOf 22 = .ok (.iadd, 1) := by decide +kernel
theorem dX12_partOf_23 : decode cX12_partOf 23 = .ok (.iaload, 1) := by decide +kernel
theorem dX12_partOf_24 : decode cX12_partOf 24 = .ok (.bipush 7, 2) := by decide +kernel
theorem dX12_partOf_26 : decode cX12_partOf 26 = .ok (.if_icmp .ne 88, 3) := by decide +kernel
theorem dX12_partOf_29 : decode cX12_partOf 29 = .ok (.aload_n 0, 1) := by decide +kernel
theorem dX12_partOf_30 : decode cX12_partOf 30 = .ok (.getfield 15, 3) := by decide +kernel
theorem dX12_partOf_33 : decode cX12_partOf 33 = .ok (.bipush 48, 2) := by decide +kernel
theorem dX12_partOf_35 : decode cX12_partOf 35 = .ok (.iload_n 2, 1) := by decide +kernel
theorem dX12_partOf_36 : decode cX12_partOf 36 = .ok (.iadd, 1) := by decide +kernel
theorem dX12_partOf_37 : decode cX12_partOf 37 = .ok (.iaload, 1) := by decide +kernel
theorem dX12_partOf_38 : decode cX12_partOf 38 = .ok (.istore_n 3, 1) := by decide +kernel
theorem dX12_partOf_39 : decode cX12_partOf 39 = .ok (.aload_n 0, 1) := by decide +kernel
theorem dX12_partOf_40 : decode cX12_partOf 40 = .ok (.iload_n 2, 1) := by decide +kernel
theorem dX12_partOf_41 : decode cX12_partOf 41 = .ok (.invokevirtual 491, 3) := by decide +kernel
theorem wm_2314 : (Jvm.Cond.methodLink "GrownKindsModel" (491 : Nat) ({ cls := "GrownKindsModel", name := "isBlank", desc := "(I)Z" } : Jvm.MethodName)) ∈ gT := gT_in (List.mem_of_getElem? (i := 2314) (by decide +kernel)) (by decide +kernel)
theorem wm_2316 : (Jvm.Cond.instanceMethod ({ cls := "GrownKindsModel", name := "isBlank", desc := "(I)Z" } : Jvm.MethodName)) ∈ gT := gT_in (List.mem_of_getElem? (i := 2316) (by decide +kernel)) (by decide +kernel)
theorem wm_162 : Cond.selects "GrownKindsModel" ⟨"GrownKindsModel", "isBlank", "(I)Z"⟩ ⟨"GrownKindsModel", "isBlank", "(I)Z"⟩ ∈ gT := gT_in (List.mem_of_getElem? (i := 162) (by decide +kernel)) (by decide +kernel)
theorem wm_2317 : (Jvm.Cond.code ({ cls := "GrownKindsModel", name := "isBlank", desc := "(I)Z" } : Jvm.MethodName) prog_14_method_115_code (3 : Nat) (Option.some Jvm.ClassFile.FieldType.boolean)) ∈ gT := gT_in (List.mem_of_getElem? (i := 2317) (by decide +kernel)) (by decide +kernel)
theorem dX12_partOf_44 : decode cX12_partOf 44 = .ok (.ifCond .ne 46, 3) := by decide +kernel
theorem dX12_partOf_47 : decode cX12_partOf 47 = .ok (.aload_n 0, 1) := by decide +kernel
theorem dX12_partOf_48 : decode cX12_partOf 48 = .ok (.getfield 15, 3) := by decide +kernel
theorem dX12_partOf_51 : decode cX12_partOf 51 = .ok (.sipush 198, 3) := by decide +kernel
theorem dX12_partOf_54 : decode cX12_partOf 54 = .ok (.iload_n 3, 1) := by decide +kernel
theorem dX12_partOf_55 : decode cX12_partOf 55 = .ok (.iadd, 1) := by decide +kernel
theorem dX12_partOf_56 : decode cX12_partOf 56 = .ok (.iaload, 1) := by decide +kernel
theorem dX12_partOf_57 : decode cX12_partOf 57 = .ok (.iconst 1, 1) := by decide +kernel
theorem dX12_partOf_58 : decode cX12_partOf 58 = .ok (.if_icmp .ne 32, 3) := by decide +kernel
theorem dX12_partOf_61 : decode cX12_partOf 61 = .ok (.aload_n 0, 1) := by decide +kernel
theorem dX12_partOf_62 : decode cX12_partOf 62 = .ok (.getfield 15, 3) := by decide +kernel
theorem dX12_partOf_65 : decode cX12_partOf 65 = .ok (.bipush 96, 2) := by decide +kernel
theorem dX12_partOf_67 : decode cX12_partOf 67 = .ok (.aload_n 0, 1) := by decide +kernel
theorem dX12_partOf_68 : decode cX12_partOf 68 = .ok (.getfield 15, 3) := by decide +kernel
theorem dX12_partOf_71 : decode cX12_partOf 71 = .ok (.bipush 120, 2) := by decide +kernel
theorem dX12_partOf_73 : decode cX12_partOf 73 = .ok (.aload_n 0, 1) := by decide +kernel
theorem dX12_partOf_74 : decode cX12_partOf 74 = .ok (.getfield 15, 3) := by decide +kernel
theorem dX12_partOf_77 : decode cX12_partOf 77 = .ok (.sipush 168, 3) := by decide +kernel
theorem dX12_partOf_80 : decode cX12_partOf 80 = .ok (.iload_n 3, 1) := by decide +kernel
theorem dX12_partOf_81 : decode cX12_partOf 81 = .ok (.iadd, 1) := by decide +kernel
theorem dX12_partOf_82 : decode cX12_partOf 82 = .ok (.iaload, 1) := by decide +kernel
theorem dX12_partOf_83 : decode cX12_partOf 83 = .ok (.iadd, 1) := by decide +kernel
theorem dX12_partOf_84 : decode cX12_partOf 84 = .ok (.iaload, 1) := by decide +kernel
theorem dX12_partOf_85 : decode cX12_partOf 85 = .ok (.iadd, 1) := by decide +kernel
theorem dX12_partOf_86 : decode cX12_partOf 86 = .ok (.iaload, 1) := by decide +kernel
theorem dX12_partOf_87 : decode cX12_partOf 87 = .ok (.ifCond .lt 5, 3) := by decide +kernel
theorem dX12_partOf_92 : decode cX12_partOf 92 = .ok (.aload_n 0, 1) := by decide +kernel
theorem dX12_partOf_93 : decode cX12_partOf 93 = .ok (.getfield 15, 3) := by decide +kernel
theorem dX12_partOf_96 : decode cX12_partOf 96 = .ok (.bipush 120, 2) := by decide +kernel
theorem dX12_partOf_98 : decode cX12_partOf 98 = .ok (.aload_n 0, 1) := by decide +kernel
theorem dX12_partOf_99 : decode cX12_partOf 99 = .ok (.getfield 15, 3) := by decide +kernel
theorem dX12_partOf_102 : decode cX12_partOf 102 = .ok (.sipush 168, 3) := by decide +kernel
theorem dX12_partOf_105 : decode cX12_partOf 105 = .ok (.iload_n 3, 1) := by decide +kernel
theorem dX12_partOf_106 : decode cX12_partOf 106 = .ok (.iadd, 1) := by decide +kernel
theorem dX12_partOf_107 : decode cX12_partOf 107 = .ok (.iaload, 1) := by decide +kernel
theorem dX12_partOf_108 : decode cX12_partOf 108 = .ok (.iadd, 1) := by decide +kernel
theorem dX12_partOf_109 : decode cX12_partOf 109 = .ok (.iaload, 1) := by decide +kernel
theorem dX12_partOf_110 : decode cX12_partOf 110 = .ok (.istore_n 2, 1) := by decide +kernel
theorem dX12_partOf_111 : decode cX12_partOf 111 = .ok (.goto (-109), 3) := by decide +kernel
theorem dX12_partOf_90 : decode cX12_partOf 90 = .ok (.iload_n 2, 1) := by decide +kernel
theorem dX12_partOf_91 : decode cX12_partOf 91 = .ok (.ireturn, 1) := by decide +kernel
theorem dX12_partOf_114 : decode cX12_partOf 114 = .ok (.iload_n 2, 1) := by decide +kernel
theorem dX12_partOf_115 : decode cX12_partOf 115 = .ok (.ireturn, 1) := by decide +kernel
theorem dX12_comesBehind_0 : decode cX12_comesBehind 0 = .ok (.iload_n 2, 1) := by decide +kernel
theorem dX12_comesBehind_1 : decode cX12_comesBehind 1 = .ok (.ifCond .ge 13, 3) := by decide +kernel
theorem dX12_comesBehind_14 : decode cX12_comesBehind 14 = .ok (.aload_n 0, 1) := by decide +kernel
theorem dX12_comesBehind_15 : decode cX12_comesBehind 15 = .ok (.getfield 79, 3) := by decide +kernel
theorem dX12_comesBehind_18 : decode cX12_comesBehind 18 = .ok (.iload_n 2, 1) := by decide +kernel
theorem dX12_comesBehind_19 : decode cX12_comesBehind 19 = .ok (.iload_n 3, 1) := by decide +kernel
theorem dX12_comesBehind_20 : decode cX12_comesBehind 20 = .ok (.iastore, 1) := by decide +kernel
theorem dX12_comesBehind_4 : decode cX12_comesBehind 4 = .ok (.aload_n 0, 1) := by decide +kernel
theorem dX12_comesBehind_5 : decode cX12_comesBehind 5 = .ok (.getfield 76, 3) := by decide +kernel
theorem dX12_comesBehind_8 : decode cX12_comesBehind 8 = .ok (.iload_n 1, 1) := by decide +kernel
theorem dX12_comesBehind_9 : decode cX12_comesBehind 9 = .ok (.iload_n 3, 1) := by decide +kernel
theorem dX12_comesBehind_10 : decode cX12_comesBehind 10 = .ok (.iastore, 1) := by decide +kernel
theorem dX12_comesBehind_11 : decode cX12_comesBehind 11 = .ok (.goto 10, 3) := by decide +kernel
theorem dX12_comesBehind_21 : decode cX12_comesBehind 21 = .ok (.aload_n 0, 1) := by decide +kernel
theorem dX12_comesBehind_22 : decode cX12_comesBehind 22 = .ok (.getfield 73, 3) := by decide +kernel
theorem dX12_comesBehind_25 : decode cX12_comesBehind 25 = .ok (.iload_n 1, 1) := by decide +kernel
theorem dX12_comesBehind_26 : decode cX12_comesBehind 26 = .ok (.dup2, 1) := by decide +kernel
theorem dX12_comesBehind_27 : decode cX12_comesBehind 27 = .ok (.iaload, 1) := by decide +kernel
theorem dX12_comesBehind_28 : decode cX12_comesBehind 28 = .ok (.iload 4, 2) := by decide +kernel
theorem dX12_comesBehind_30 : decode cX12_comesBehind 30 = .ok (.iadd, 1) := by decide +kernel
theorem dX12_comesBehind_31 : decode cX12_comesBehind 31 = .ok (.iastore, 1) := by decide +kernel
theorem dX12_comesBehind_32 : decode cX12_comesBehind 32 = .ok (.iload_n 3, 1) := by decide +kernel
theorem dX12_comesBehind_33 : decode cX12_comesBehind 33 = .ok (.ireturn, 1) := by decide +kernel
theorem dX12_takesSpelled_0 : decode cX12_takesSpelled 0 = .ok (.aload_n 0, 1) := by decide +kernel
theorem dX12_takesSpelled_1 : decode cX12_takesSpelled 1 = .ok (.aload_n 0, 1) := by decide +kernel
theorem dX12_takesSpelled_2 : decode cX12_takesSpelled 2 = .ok (.getfield 374, 3) := by decide +kernel
theorem dX12_takesSpelled_5 : decode cX12_takesSpelled 5 = .ok (.putfield 488, 3) := by decide +kernel
theorem dX12_takesSpelled_8 : decode cX12_takesSpelled 8 = .ok (.iconst 0, 1) := by decide +kernel
theorem dX12_takesSpelled_9 : decode cX12_takesSpelled 9 = .ok (.istore_n 1, 1) := by decide +kernel
theorem dX12_takesSpelled_10 : decode cX12_takesSpelled 10 = .ok (.iload_n 1, 1) := by decide +kernel
theorem dX12_takesSpelled_11 : decode cX12_takesSpelled 11 = .ok (.aload_n 0, 1) := by decide +kernel
theorem dX12_takesSpelled_12 : decode cX12_takesSpelled 12 = .ok (.getfield 374, 3) := by decide +kernel
theorem dX12_takesSpelled_15 : decode cX12_takesSpelled 15 = .ok (.if_icmp .ge 21, 3) := by decide +kernel
theorem dX12_takesSpelled_18 : decode cX12_takesSpelled 18 = .ok (.aload_n 0, 1) := by decide +kernel
theorem dX12_takesSpelled_19 : decode cX12_takesSpelled 19 = .ok (.getfield 82, 3) := by decide +kernel
theorem dX12_takesSpelled_22 : decode cX12_takesSpelled 22 = .ok (.iload_n 1, 1) := by decide +kernel
theorem dX12_takesSpelled_23 : decode cX12_takesSpelled 23 = .ok (.aload_n 0, 1) := by decide +kernel
theorem dX12_takesSpelled_24 : decode cX12_takesSpelled 24 = .ok (.getfield 58, 3) := by decide +kernel
theorem dX12_takesSpelled_27 : decode cX12_takesSpelled 27 = .ok (.iload_n 1, 1) := by decide +kernel
theorem dX12_takesSpelled_28 : decode cX12_takesSpelled 28 = .ok (.iaload, 1) := by decide +kernel
theorem dX12_takesSpelled_29 : decode cX12_takesSpelled 29 = .ok (.iastore, 1) := by decide +kernel
theorem dX12_takesSpelled_30 : decode cX12_takesSpelled 30 = .ok (.iinc 1 1, 3) := by decide +kernel
theorem dX12_takesSpelled_33 : decode cX12_takesSpelled 33 = .ok (.goto (-23), 3) := by decide +kernel
theorem dX12_takesSpelled_36 : decode cX12_takesSpelled 36 = .ok (.return_, 1) := by decide +kernel
theorem dX12_told_0 : decode cX12_told 0 = .ok (.iload_n 1, 1) := by decide +kernel
theorem dX12_told_1 : decode cX12_told 1 = .ok (.ifCond .ne 10, 3) := by decide +kernel
theorem dX12_told_11 : decode cX12_told 11 = .ok (.iload_n 1, 1) := by decide +kernel
theorem dX12_told_12 : decode cX12_told 12 = .ok (.iconst 1, 1) := by decide +kernel
theorem dX12_told_13 : decode cX12_told 13 = .ok (.if_icmp .ne 10, 3) := by decide +kernel
theorem dX12_told_23 : decode cX12_told 23 = .ok (.iconst (-1), 1) := by decide +kernel
theorem dX12_told_24 : decode cX12_told 24 = .ok (.ireturn, 1) := by decide +kernel
theorem dX12_told_16 : decode cX12_told 16 = .ok (.aload_n 0, 1) := by decide +kernel
theorem dX12_told_17 : decode cX12_told 17 = .ok (.getfield 88, 3) := by decide +kernel
theorem dX12_told_20 : decode cX12_told 20 = .ok (.goto 4, 3) := by decide +kernel
theorem dX12_told_4 : decode cX12_told 4 = .ok (.aload_n 0, 1) := by decide +kernel
theorem dX12_told_5 : decode cX12_told 5 = .ok (.getfield 85, 3) := by decide +kernel
theorem dX12_told_8 : decode cX12_told 8 = .ok (.goto 16, 3) := by decide +kernel
theorem dX12_chance_0 : decode cX12_chance 0 = .ok (.aload_n 0, 1) := by decide +kernel
theorem dX12_chance_1 : decode cX12_chance 1 = .ok (.iload_n 1, 1) := by decide +kernel
theorem dX12_chance_2 : decode cX12_chance 2 = .ok (.iload_n 3, 1) := by decide +kernel
theorem dX12_chance_3 : decode cX12_chance 3 = .ok (.invokevirtual 344, 3) := by decide +kernel
theorem dX12_chance_6 : decode cX12_chance 6 = .ok (.ifCond .eq 23, 3) := by decide +kernel
theorem dX12_chance_29 : decode cX12_chance 29 = .ok (.bipush (-2), 2) := by decide +kernel
theorem dX12_chance_9 : decode cX12_chance 9 = .ok (.iload 4, 2) := by decide +kernel
theorem dX12_chance_11 : decode cX12_chance 11 = .ok (.i2l, 1) := by decide +kernel
theorem dX12_chance_12 : decode cX12_chance 12 = .ok (.lconst 0, 1) := by decide +kernel
theorem dX12_chance_13 : decode cX12_chance 13 = .ok (.lconst 1, 1) := by decide +kernel
theorem dX12_chance_14 : decode cX12_chance 14 = .ok (.invokestatic 97, 3) := by decide +kernel
theorem dX12_chance_17 : decode cX12_chance 17 = .ok (.ifCond .eq 12, 3) := by decide +kernel
theorem dX12_chance_20 : decode cX12_chance 20 = .ok (.aload_n 0, 1) := by decide +kernel
theorem dX12_chance_21 : decode cX12_chance 21 = .ok (.iload_n 1, 1) := by decide +kernel
theorem dX12_chance_22 : decode cX12_chance 22 = .ok (.iload_n 2, 1) := by decide +kernel
theorem dX12_chance_23 : decode cX12_chance 23 = .ok (.invokevirtual 534, 3) := by decide +kernel
theorem wm_2354 : (Jvm.Cond.methodLink "GrownKindsModel" (534 : Nat) ({ cls := "GrownKindsModel", name := "whyNone", desc := "(II)I" } : Jvm.MethodName)) ∈ gT := gT_in (List.mem_of_getElem? (i := 2354) (by decide +kernel)) (by decide +kernel)
theorem wm_2356 : (Jvm.Cond.instanceMethod ({ cls := "GrownKindsModel", name := "whyNone", desc := "(II)I" } : Jvm.MethodName)) ∈ gT := gT_in (List.mem_of_getElem? (i := 2356) (by decide +kernel)) (by decide +kernel)
theorem wm_170 : Cond.selects "GrownKindsModel" ⟨"GrownKindsModel", "whyNone", "(II)I"⟩ ⟨"GrownKindsModel", "whyNone", "(II)I"⟩ ∈ gT := gT_in (List.mem_of_getElem? (i := 170) (by decide +kernel)) (by decide +kernel)
theorem wm_2357 : (Jvm.Cond.code ({ cls := "GrownKindsModel", name := "whyNone", desc := "(II)I" } : Jvm.MethodName) prog_14_method_129_code (3 : Nat) (Option.some Jvm.ClassFile.FieldType.int)) ∈ gT := gT_in (List.mem_of_getElem? (i := 2357) (by decide +kernel)) (by decide +kernel)
theorem dX12_chance_26 : decode cX12_chance 26 = .ok (.goto 5, 3) := by decide +kernel
theorem dX12_chance_31 : decode cX12_chance 31 = .ok (.istore 5, 2) := by decide +kernel
theorem dX12_chance_33 : decode cX12_chance 33 = .ok (.iload 5, 2) := by decide +kernel
theorem dX12_chance_35 : decode cX12_chance 35 = .ok (.ifCond .ge 8, 3) := by decide +kernel
theorem dX12_chance_43 : decode cX12_chance 43 = .ok (.aload_n 0, 1) := by decide +kernel
theorem dX12_chance_44 : decode cX12_chance 44 = .ok (.iload_n 1, 1) := by decide +kernel
theorem dX12_chance_45 : decode cX12_chance 45 = .ok (.iload_n 2, 1) := by decide +kernel
theorem dX12_chance_46 : decode cX12_chance 46 = .ok (.iload_n 3, 1) := by decide +kernel
theorem dX12_chance_47 : decode cX12_chance 47 = .ok (.invokevirtual 347, 3) := by decide +kernel
theorem dX12_chance_50 : decode cX12_chance 50 = .ok (.l2i, 1) := by decide +kernel
theorem dX12_chance_51 : decode cX12_chance 51 = .ok (.aload_n 0, 1) := by decide +kernel
theorem dX12_chance_52 : decode cX12_chance 52 = .ok (.iload_n 1, 1) := by decide +kernel
theorem dX12_chance_53 : decode cX12_chance 53 = .ok (.iload_n 2, 1) := by decide +kernel
theorem dX12_chance_54 : decode cX12_chance 54 = .ok (.invokevirtual 320, 3) := by decide +kernel
theorem dX12_chance_57 : decode cX12_chance 57 = .ok (.l2i, 1) := by decide +kernel
theorem dX12_chance_58 : decode cX12_chance 58 = .ok (.iload 4, 2) := by decide +kernel
theorem dX12_chance_60 : decode cX12_chance 60 = .ok (.invokestatic 542, 3) := by decide +kernel
theorem wm_2378 : (Jvm.Cond.methodLink "GrownKindsModel" (542 : Nat) ({ cls := "GrownKindsModel", name := "part", desc := "(III)I" } : Jvm.MethodName)) ∈ gT := gT_in (List.mem_of_getElem? (i := 2378) (by decide +kernel)) (by decide +kernel)
theorem wm_2379 : (Jvm.Cond.static ({ cls := "GrownKindsModel", name := "part", desc := "(III)I" } : Jvm.MethodName)) ∈ gT := gT_in (List.mem_of_getElem? (i := 2379) (by decide +kernel)) (by decide +kernel)
theorem wm_2380 : (Jvm.Cond.code ({ cls := "GrownKindsModel", name := "part", desc := "(III)I" } : Jvm.MethodName) prog_14_method_136_code (3 : Nat) (Option.some Jvm.ClassFile.FieldType.int)) ∈ gT := gT_in (List.mem_of_getElem? (i := 2380) (by decide +kernel)) (by decide +kernel)
theorem dX12_chance_63 : decode cX12_chance 63 = .ok (.ireturn, 1) := by decide +kernel
theorem dX12_chance_38 : decode cX12_chance 38 = .ok (.iload 5, 2) := by decide +kernel
theorem dX12_chance_40 : decode cX12_chance 40 = .ok (.goto 23, 3) := by decide +kernel
theorem dX12_boxed_0 : decode cX12_boxed 0 = .ok (.aload_n 0, 1) := by decide +kernel
theorem dX12_boxed_1 : decode cX12_boxed 1 = .ok (.iload_n 1, 1) := by decide +kernel
theorem dX12_boxed_2 : decode cX12_boxed 2 = .ok (.iload_n 2, 1) := by decide +kernel
theorem dX12_boxed_3 : decode cX12_boxed 3 = .ok (.iload_n 3, 1) := by decide +kernel
theorem dX12_boxed_4 : decode cX12_boxed 4 = .ok (.invokevirtual 545, 3) := by decide +kernel
theorem wm_2392 : (Jvm.Cond.methodLink "GrownKindsModel" (545 : Nat) ({ cls := "GrownKindsModel", name := "isBox", desc := "(III)Z" } : Jvm.MethodName)) ∈ gT := gT_in (List.mem_of_getElem? (i := 2392) (by decide +kernel)) (by decide +kernel)
theorem wm_2394 : (Jvm.Cond.instanceMethod ({ cls := "GrownKindsModel", name := "isBox", desc := "(III)Z" } : Jvm.MethodName)) ∈ gT := gT_in (List.mem_of_getElem? (i := 2394) (by decide +kernel)) (by decide +kernel)
theorem wm_172 : Cond.selects "GrownKindsModel" ⟨"GrownKindsModel", "isBox", "(III)Z"⟩ ⟨"GrownKindsModel", "isBox", "(III)Z"⟩ ∈ gT := gT_in (List.mem_of_getElem? (i := 172) (by decide +kernel)) (by decide +kernel)
theorem wm_2395 : (Jvm.Cond.code ({ cls := "GrownKindsModel", name := "isBox", desc := "(III)Z" } : Jvm.MethodName) prog_14_method_139_code (4 : Nat) (Option.some Jvm.ClassFile.FieldType.boolean)) ∈ gT := gT_in (List.mem_of_getElem? (i := 2395) (by decide +kernel)) (by decide +kernel)
theorem dX12_boxed_7 : decode cX12_boxed 7 = .ok (.ifCond .ne 7, 3) := by decide +kernel
theorem dX12_boxed_14 : decode cX12_boxed 14 = .ok (.aload_n 0, 1) := by decide +kernel
theorem dX12_boxed_15 : decode cX12_boxed 15 = .ok (.iconst (-1), 1) := by decide +kernel
theorem dX12_boxed_16 : decode cX12_boxed 16 = .ok (.invokevirtual 324, 3) := by decide +kernel
theorem dX12_boxed_19 : decode cX12_boxed 19 = .ok (.aload_n 0, 1) := by decide +kernel
theorem dX12_boxed_20 : decode cX12_boxed 20 = .ok (.iload_n 1, 1) := by decide +kernel
theorem dX12_boxed_21 : decode cX12_boxed 21 = .ok (.iload_n 2, 1) := by decide +kernel
theorem dX12_boxed_22 : decode cX12_boxed 22 = .ok (.iload_n 3, 1) := by decide +kernel
theorem dX12_boxed_23 : decode cX12_boxed 23 = .ok (.invokevirtual 327, 3) := by decide +kernel
theorem dX12_boxed_26 : decode cX12_boxed 26 = .ok (.lreturn, 1) := by decide +kernel
theorem dX12_boxed_10 : decode cX12_boxed 10 = .ok (.ldc2_w 337, 3) := by decide +kernel
theorem dX12_boxed_13 : decode cX12_boxed 13 = .ok (.lreturn, 1) := by decide +kernel
theorem dX12_inBox_0 : decode cX12_inBox 0 = .ok (.aload_n 0, 1) := by decide +kernel
theorem dX12_inBox_1 : decode cX12_inBox 1 = .ok (.iload_n 1, 1) := by decide +kernel
theorem dX12_inBox_2 : decode cX12_inBox 2 = .ok (.iload_n 2, 1) := by decide +kernel
theorem dX12_inBox_3 : decode cX12_inBox 3 = .ok (.iload_n 3, 1) := by decide +kernel
theorem dX12_inBox_4 : decode cX12_inBox 4 = .ok (.invokevirtual 545, 3) := by decide +kernel
theorem dX12_inBox_7 : decode cX12_inBox 7 = .ok (.ifCond .ne 6, 3) := by decide +kernel
theorem dX12_inBox_13 : decode cX12_inBox 13 = .ok (.aload_n 0, 1) := by decide +kernel
theorem dX12_inBox_14 : decode cX12_inBox 14 = .ok (.iconst (-1), 1) := by decide +kernel
theorem dX12_inBox_15 : decode cX12_inBox 15 = .ok (.invokevirtual 324, 3) := by decide +kernel
theorem dX12_inBox_18 : decode cX12_inBox 18 = .ok (.aload_n 0, 1) := by decide +kernel
theorem dX12_inBox_19 : decode cX12_inBox 19 = .ok (.iload_n 1, 1) := by decide +kernel
theorem dX12_inBox_20 : decode cX12_inBox 20 = .ok (.iload_n 2, 1) := by decide +kernel
theorem dX12_inBox_21 : decode cX12_inBox 21 = .ok (.iload_n 3, 1) := by decide +kernel
theorem dX12_inBox_22 : decode cX12_inBox 22 = .ok (.invokevirtual 327, 3) := by decide +kernel
theorem dX12_inBox_25 : decode cX12_inBox 25 = .ok (.lstore 5, 2) := by decide +kernel
theorem dX12_inBox_27 : decode cX12_inBox 27 = .ok (.lload 5, 2) := by decide +kernel
theorem dX12_inBox_29 : decode cX12_inBox 29 = .ok (.iload 4, 2) := by decide +kernel
theorem dX12_inBox_31 : decode cX12_inBox 31 = .ok (.i2l, 1) := by decide +kernel
theorem dX12_inBox_32 : decode cX12_inBox 32 = .ok (.lcmp, 1) := by decide +kernel
theorem dX12_inBox_33 : decode cX12_inBox 33 = .ok (.ifCond .le 8, 3) := by decide +kernel
theorem dX12_inBox_41 : decode cX12_inBox 41 = .ok (.lload 5, 2) := by decide +kernel
theorem dX12_inBox_43 : decode cX12_inBox 43 = .ok (.lconst 0, 1) := by decide +kernel
theorem dX12_inBox_44 : decode cX12_inBox 44 = .ok (.lcmp, 1) := by decide +kernel
theorem dX12_inBox_45 : decode cX12_inBox 45 = .ok (.ifCond .ne 7, 3) := by decide +kernel
theorem dX12_inBox_52 : decode cX12_inBox 52 = .ok (.lload 5, 2) := by decide +kernel
theorem dX12_inBox_54 : decode cX12_inBox 54 = .ok (.l2i, 1) := by decide +kernel
theorem dX12_inBox_55 : decode cX12_inBox 55 = .ok (.ireturn, 1) := by decide +kernel
theorem dX12_inBox_48 : decode cX12_inBox 48 = .ok (.iconst (-1), 1) := by decide +kernel
theorem dX12_inBox_49 : decode cX12_inBox 49 = .ok (.goto 6, 3) := by decide +kernel
theorem dX12_inBox_36 : decode cX12_inBox 36 = .ok (.bipush (-3), 2) := by decide +kernel
theorem dX12_inBox_38 : decode cX12_inBox 38 = .ok (.goto 17, 3) := by decide +kernel
theorem dX12_inBox_10 : decode cX12_inBox 10 = .ok (.bipush (-2), 2) := by decide +kernel
theorem dX12_inBox_12 : decode cX12_inBox 12 = .ok (.ireturn, 1) := by decide +kernel
theorem dX12_bits_0 : decode cX12_bits 0 = .ok (.aload_n 0, 1) := by decide +kernel
theorem dX12_bits_1 : decode cX12_bits 1 = .ok (.iload_n 1, 1) := by decide +kernel
theorem dX12_bits_2 : decode cX12_bits 2 = .ok (.iload_n 2, 1) := by decide +kernel
theorem dX12_bits_3 : decode cX12_bits 3 = .ok (.iload_n 3, 1) := by decide +kernel
theorem dX12_bits_4 : decode cX12_bits 4 = .ok (.ldc_w 548, 3) := by decide +kernel
theorem wm_2400 : (Jvm.Cond.constant "GrownKindsModel" (548 : Nat) (1000000 : Int32)) ∈ gT := gT_in (List.mem_of_getElem? (i := 2400) (by decide +kernel)) (by decide +kernel)
theorem dX12_bits_7 : decode cX12_bits 7 = .ok (.invokevirtual 549, 3) := by decide +kernel
theorem wm_2401 : (Jvm.Cond.methodLink "GrownKindsModel" (549 : Nat) ({ cls := "GrownKindsModel", name := "inBox", desc := "(IIII)I" } : Jvm.MethodName)) ∈ gT := gT_in (List.mem_of_getElem? (i := 2401) (by decide +kernel)) (by decide +kernel)
theorem wm_2403 : (Jvm.Cond.instanceMethod ({ cls := "GrownKindsModel", name := "inBox", desc := "(IIII)I" } : Jvm.MethodName)) ∈ gT := gT_in (List.mem_of_getElem? (i := 2403) (by decide +kernel)) (by decide +kernel)
theorem wm_173 : Cond.selects "GrownKindsModel" ⟨"GrownKindsModel", "inBox", "(IIII)I"⟩ ⟨"GrownKindsModel", "inBox", "(IIII)I"⟩ ∈ gT := gT_in (List.mem_of_getElem? (i := 173) (by decide +kernel)) (by decide +kernel)
theorem wm_2404 : (Jvm.Cond.code ({ cls := "GrownKindsModel", name := "inBox", desc := "(IIII)I" } : Jvm.MethodName) prog_14_method_142_code (7 : Nat) (Option.some Jvm.ClassFile.FieldType.int)) ∈ gT := gT_in (List.mem_of_getElem? (i := 2404) (by decide +kernel)) (by decide +kernel)
theorem dX12_bits_10 : decode cX12_bits 10 = .ok (.istore 4, 2) := by decide +kernel
theorem dX12_bits_12 : decode cX12_bits 12 = .ok (.iload 4, 2) := by decide +kernel
theorem dX12_bits_14 : decode cX12_bits 14 = .ok (.ifCond .ge 8, 3) := by decide +kernel
theorem dX12_bits_22 : decode cX12_bits 22 = .ok (.iload 4, 2) := by decide +kernel
theorem dX12_bits_24 : decode cX12_bits 24 = .ok (.i2l, 1) := by decide +kernel
theorem dX12_bits_25 : decode cX12_bits 25 = .ok (.invokestatic 552, 3) := by decide +kernel
theorem wm_2405 : (Jvm.Cond.methodLink "GrownKindsModel" (552 : Nat) ({ cls := "GrownKindsModel", name := "bitsFor", desc := "(J)I" } : Jvm.MethodName)) ∈ gT := gT_in (List.mem_of_getElem? (i := 2405) (by decide +kernel)) (by decide +kernel)
theorem wm_2406 : (Jvm.Cond.static ({ cls := "GrownKindsModel", name := "bitsFor", desc := "(J)I" } : Jvm.MethodName)) ∈ gT := gT_in (List.mem_of_getElem? (i := 2406) (by decide +kernel)) (by decide +kernel)
theorem wm_2407 : (Jvm.Cond.code ({ cls := "GrownKindsModel", name := "bitsFor", desc := "(J)I" } : Jvm.MethodName) prog_14_method_140_code (3 : Nat) (Option.some Jvm.ClassFile.FieldType.int)) ∈ gT := gT_in (List.mem_of_getElem? (i := 2407) (by decide +kernel)) (by decide +kernel)
theorem dX12_bits_28 : decode cX12_bits 28 = .ok (.ireturn, 1) := by decide +kernel
theorem dX12_bits_17 : decode cX12_bits 17 = .ok (.iload 4, 2) := by decide +kernel
theorem dX12_bits_19 : decode cX12_bits 19 = .ok (.goto 9, 3) := by decide +kernel
theorem dX12_rankIn_0 : decode cX12_rankIn 0 = .ok (.iload_n 2, 1) := by decide +kernel
theorem dX12_rankIn_1 : decode cX12_rankIn 1 = .ok (.istore 4, 2) := by decide +kernel
theorem dX12_rankIn_3 : decode cX12_rankIn 3 = .ok (.iload_n 3, 1) := by decide +kernel
theorem dX12_rankIn_4 : decode cX12_rankIn 4 = .ok (.i2l, 1) := by decide +kernel
theorem dX12_rankIn_5 : decode cX12_rankIn 5 = .ok (.lstore 5, 2) := by decide +kernel
theorem dX12_rankIn_7 : decode cX12_rankIn 7 = .ok (.lload 5, 2) := by decide +kernel
theorem dX12_rankIn_9 : decode cX12_rankIn 9 = .ok (.aload_n 0, 1) := by decide +kernel
theorem dX12_rankIn_10 : decode cX12_rankIn 10 = .ok (.iload_n 1, 1) := by decide +kernel
theorem dX12_rankIn_11 : decode cX12_rankIn 11 = .ok (.iload 4, 2) := by decide +kernel
theorem dX12_rankIn_13 : decode cX12_rankIn 13 = .ok (.invokevirtual 320, 3) := by decide +kernel
theorem dX12_rankIn_16 : decode cX12_rankIn 16 = .ok (.lcmp, 1) := by decide +kernel
theorem dX12_rankIn_17 : decode cX12_rankIn 17 = .ok (.ifCond .lt 21, 3) := by decide +kernel
theorem dX12_rankIn_20 : decode cX12_rankIn 20 = .ok (.lload 5, 2) := by decide +kernel
theorem dX12_rankIn_22 : decode cX12_rankIn 22 = .ok (.aload_n 0, 1) := by decide +kernel
theorem dX12_rankIn_23 : decode cX12_rankIn 23 = .ok (.iload_n 1, 1) := by decide +kernel
theorem dX12_rankIn_24 : decode cX12_rankIn 24 = .ok (.iload 4, 2) := by decide +kernel
theorem dX12_rankIn_26 : decode cX12_rankIn 26 = .ok (.invokevirtual 320, 3) := by decide +kernel
theorem dX12_rankIn_29 : decode cX12_rankIn 29 = .ok (.lsub, 1) := by decide +kernel
theorem dX12_rankIn_30 : decode cX12_rankIn 30 = .ok (.lstore 5, 2) := by decide +kernel
theorem dX12_rankIn_32 : decode cX12_rankIn 32 = .ok (.iinc 4 1, 3) := by decide +kernel
theorem dX12_rankIn_35 : decode cX12_rankIn 35 = .ok (.goto (-28), 3) := by decide +kernel
theorem dX12_rankIn_38 : decode cX12_rankIn 38 = .ok (.aload_n 0, 1) := by decide +kernel
theorem dX12_rankIn_39 : decode cX12_rankIn 39 = .ok (.iload 4, 2) := by decide +kernel
theorem dX12_rankIn_41 : decode cX12_rankIn 41 = .ok (.putfield 556, 3) := by decide +kernel
theorem wm_1717 : (Jvm.Cond.fieldLink "GrownKindsModel" (556 : Nat) "GrownKindsModel" "boxSize" "I") ∈ gT := gT_in (List.mem_of_getElem? (i := 1717) (by decide +kernel)) (by decide +kernel)
theorem dX12_rankIn_44 : decode cX12_rankIn 44 = .ok (.lload 5, 2) := by decide +kernel
theorem dX12_rankIn_46 : decode cX12_rankIn 46 = .ok (.l2i, 1) := by decide +kernel
theorem dX12_rankIn_47 : decode cX12_rankIn 47 = .ok (.ireturn, 1) := by decide +kernel
theorem dX12_drawn_0 : decode cX12_drawn 0 = .ok (.iload 4, 2) := by decide +kernel
theorem dX12_drawn_2 : decode cX12_drawn 2 = .ok (.i2l, 1) := by decide +kernel
theorem dX12_drawn_3 : decode cX12_drawn 3 = .ok (.lconst 0, 1) := by decide +kernel
theorem dX12_drawn_4 : decode cX12_drawn 4 = .ok (.ldc2_w 559, 3) := by decide +kernel
theorem wm_2412 : (Jvm.Cond.constantLong "GrownKindsModel" (559 : Nat) (1073741823 : Int64)) ∈ gT := gT_in (List.mem_of_getElem? (i := 2412) (by decide +kernel)) (by decide +kernel)
theorem dX12_drawn_7 : decode cX12_drawn 7 = .ok (.invokestatic 97, 3) := by decide +kernel
theorem dX12_drawn_10 : decode cX12_drawn 10 = .ok (.ifCond .eq 27, 3) := by decide +kernel
theorem dX12_drawn_37 : decode cX12_drawn 37 = .ok (.bipush (-2), 2) := by decide +kernel
theorem dX12_drawn_13 : decode cX12_drawn 13 = .ok (.iload 5, 2) := by decide +kernel
theorem dX12_drawn_15 : decode cX12_drawn 15 = .ok (.i2l, 1) := by decide +kernel
theorem dX12_drawn_16 : decode cX12_drawn 16 = .ok (.lconst 0, 1) := by decide +kernel
theorem dX12_drawn_17 : decode cX12_drawn 17 = .ok (.lconst 1, 1) := by decide +kernel
theorem dX12_drawn_18 : decode cX12_drawn 18 = .ok (.invokestatic 97, 3) := by decide +kernel
theorem dX12_drawn_21 : decode cX12_drawn 21 = .ok (.ifCond .eq 16, 3) := by decide +kernel
theorem dX12_drawn_24 : decode cX12_drawn 24 = .ok (.aload_n 0, 1) := by decide +kernel
theorem dX12_drawn_25 : decode cX12_drawn 25 = .ok (.iload_n 1, 1) := by decide +kernel
theorem dX12_drawn_26 : decode cX12_drawn 26 = .ok (.iload_n 2, 1) := by decide +kernel
theorem dX12_drawn_27 : decode cX12_drawn 27 = .ok (.iload_n 3, 1) := by decide +kernel
theorem dX12_drawn_28 : decode cX12_drawn 28 = .ok (.ldc_w 548, 3) := by decide +kernel
theorem dX12_drawn_31 : decode cX12_drawn 31 = .ok (.invokevirtual 549, 3) := by decide +kernel
theorem dX12_drawn_34 : decode cX12_drawn 34 = .ok (.goto 5, 3) := by decide +kernel
theorem dX12_drawn_39 : decode cX12_drawn 39 = .ok (.istore 6, 2) := by decide +kernel
theorem dX12_drawn_41 : decode cX12_drawn 41 = .ok (.iload 6, 2) := by decide +kernel
theorem dX12_drawn_43 : decode cX12_drawn 43 = .ok (.ifCond .ge 6, 3) := by decide +kernel
theorem dX12_drawn_49 : decode cX12_drawn 49 = .ok (.iload 6, 2) := by decide +kernel
theorem dX12_drawn_51 : decode cX12_drawn 51 = .ok (.i2l, 1) := by decide +kernel
theorem dX12_drawn_52 : decode cX12_drawn 52 = .ok (.invokestatic 552, 3) := by decide +kernel
theorem dX12_drawn_55 : decode cX12_drawn 55 = .ok (.istore 7, 2) := by decide +kernel
theorem dX12_drawn_57 : decode cX12_drawn 57 = .ok (.iload 7, 2) := by decide +kernel
theorem dX12_drawn_59 : decode cX12_drawn 59 = .ok (.ifCond .ne 7, 3) := by decide +kernel
theorem dX12_drawn_66 : decode cX12_drawn 66 = .ok (.iconst (-1), 1) := by decide +kernel
theorem dX12_drawn_62 : decode cX12_drawn 62 = .ok (.iconst 0, 1) := by decide +kernel
theorem dX12_drawn_63 : decode cX12_drawn 63 = .ok (.goto 4, 3) := by decide +kernel
theorem dX12_drawn_67 : decode cX12_drawn 67 = .ok (.istore 8, 2) := by decide +kernel
theorem dX12_drawn_69 : decode cX12_drawn 69 = .ok (.iconst 0, 1) := by decide +kernel
theorem dX12_drawn_70 : decode cX12_drawn 70 = .ok (.istore 9, 2) := by decide +kernel
theorem dX12_drawn_72 : decode cX12_drawn 72 = .ok (.iload 7, 2) := by decide +kernel
theorem dX12_drawn_74 : decode cX12_drawn 74 = .ok (.ifCond .le 56, 3) := by decide +kernel
theorem dX12_drawn_77 : decode cX12_drawn 77 = .ok (.iload 9, 2) := by decide +kernel
theorem dX12_drawn_79 : decode cX12_drawn 79 = .ok (.bipush 30, 2) := by decide +kernel
theorem dX12_drawn_81 : decode cX12_drawn 81 = .ok (.iload 7, 2) := by decide +kernel
theorem dX12_drawn_83 : decode cX12_drawn 83 = .ok (.idiv, 1) := by decide +kernel
theorem dX12_drawn_84 : decode cX12_drawn 84 = .ok (.if_icmp .ge 46, 3) := by decide +kernel
theorem dX12_drawn_87 : decode cX12_drawn 87 = .ok (.iload 8, 2) := by decide +kernel
theorem dX12_drawn_89 : decode cX12_drawn 89 = .ok (.ifCond .ge 41, 3) := by decide +kernel
theorem dX12_drawn_92 : decode cX12_drawn 92 = .ok (.iload 4, 2) := by decide +kernel
theorem dX12_drawn_94 : decode cX12_drawn 94 = .ok (.iload 9, 2) := by decide +kernel
theorem dX12_drawn_96 : decode cX12_drawn 96 = .ok (.iload 7, 2) := by decide +kernel
theorem dX12_drawn_98 : decode cX12_drawn 98 = .ok (.imul, 1) := by decide +kernel
theorem dX12_drawn_99 : decode cX12_drawn 99 = .ok (.ishr, 1) := by decide +kernel
theorem dX12_drawn_100 : decode cX12_drawn 100 = .ok (.iconst 1, 1) := by decide +kernel
theorem dX12_drawn_101 : decode cX12_drawn 101 = .ok (.iload 7, 2) := by decide +kernel
theorem dX12_drawn_103 : decode cX12_drawn 103 = .ok (.ishl, 1) := by decide +kernel
theorem dX12_drawn_104 : decode cX12_drawn 104 = .ok (.iconst 1, 1) := by decide +kernel
theorem dX12_drawn_105 : decode cX12_drawn 105 = .ok (.isub, 1) := by decide +kernel
theorem dX12_drawn_106 : decode cX12_drawn 106 = .ok (.iand, 1) := by decide +kernel
theorem dX12_drawn_107 : decode cX12_drawn 107 = .ok (.istore 10, 2) := by decide +kernel
theorem dX12_drawn_109 : decode cX12_drawn 109 = .ok (.iload 10, 2) := by decide +kernel
theorem dX12_drawn_111 : decode cX12_drawn 111 = .ok (.iload 6, 2) := by decide +kernel
theorem dX12_drawn_113 : decode cX12_drawn 113 = .ok (.if_icmp .ge 8, 3) := by decide +kernel
theorem dX12_drawn_121 : decode cX12_drawn 121 = .ok (.iconst (-1), 1) := by decide +kernel
theorem dX12_drawn_122 : decode cX12_drawn 122 = .ok (.istore 8, 2) := by decide +kernel
theorem dX12_drawn_124 : decode cX12_drawn 124 = .ok (.iinc 9 1, 3) := by decide +kernel
theorem dX12_drawn_127 : decode cX12_drawn 127 = .ok (.goto (-55), 3) := by decide +kernel
theorem dX12_drawn_116 : decode cX12_drawn 116 = .ok (.iload 10, 2) := by decide +kernel
theorem dX12_drawn_118 : decode cX12_drawn 118 = .ok (.goto 4, 3) := by decide +kernel
theorem dX12_drawn_130 : decode cX12_drawn 130 = .ok (.iload 8, 2) := by decide +kernel
theorem dX12_drawn_132 : decode cX12_drawn 132 = .ok (.ifCond .ge 5, 3) := by decide +kernel
theorem dX12_drawn_137 : decode cX12_drawn 137 = .ok (.aload_n 0, 1) := by decide +kernel
theorem dX12_drawn_138 : decode cX12_drawn 138 = .ok (.iload_n 1, 1) := by decide +kernel
theorem dX12_drawn_139 : decode cX12_drawn 139 = .ok (.iload_n 2, 1) := by decide +kernel
theorem dX12_drawn_140 : decode cX12_drawn 140 = .ok (.iload 8, 2) := by decide +kernel
theorem dX12_drawn_142 : decode cX12_drawn 142 = .ok (.invokevirtual 561, 3) := by decide +kernel
theorem wm_2413 : (Jvm.Cond.methodLink "GrownKindsModel" (561 : Nat) ({ cls := "GrownKindsModel", name := "rankIn", desc := "(III)I" } : Jvm.MethodName)) ∈ gT := gT_in (List.mem_of_getElem? (i := 2413) (by decide +kernel)) (by decide +kernel)
theorem wm_2415 : (Jvm.Cond.instanceMethod ({ cls := "GrownKindsModel", name := "rankIn", desc := "(III)I" } : Jvm.MethodName)) ∈ gT := gT_in (List.mem_of_getElem? (i := 2415) (by decide +kernel)) (by decide +kernel)
theorem wm_174 : Cond.selects "GrownKindsModel" ⟨"GrownKindsModel", "rankIn", "(III)I"⟩ ⟨"GrownKindsModel", "rankIn", "(III)I"⟩ ∈ gT := gT_in (List.mem_of_getElem? (i := 174) (by decide +kernel)) (by decide +kernel)
theorem wm_2416 : (Jvm.Cond.code ({ cls := "GrownKindsModel", name := "rankIn", desc := "(III)I" } : Jvm.MethodName) prog_14_method_144_code (7 : Nat) (Option.some Jvm.ClassFile.FieldType.int)) ∈ gT := gT_in (List.mem_of_getElem? (i := 2416) (by decide +kernel)) (by decide +kernel)
theorem dX12_drawn_145 : decode cX12_drawn 145 = .ok (.istore 9, 2) := by decide +kernel
theorem dX12_drawn_147 : decode cX12_drawn 147 = .ok (.iload 5, 2) := by decide +kernel
theorem dX12_drawn_149 : decode cX12_drawn 149 = .ok (.ifCond .ne 10, 3) := by decide +kernel
theorem dX12_drawn_159 : decode cX12_drawn 159 = .ok (.iload 9, 2) := by decide +kernel
theorem dX12_drawn_161 : decode cX12_drawn 161 = .ok (.ireturn, 1) := by decide +kernel
theorem dX12_drawn_152 : decode cX12_drawn 152 = .ok (.aload_n 0, 1) := by decide +kernel
theorem dX12_drawn_153 : decode cX12_drawn 153 = .ok (.getfield 556, 3) := by decide +kernel
theorem dX12_drawn_156 : decode cX12_drawn 156 = .ok (.goto 5, 3) := by decide +kernel
theorem dX12_drawn_135 : decode cX12_drawn 135 = .ok (.iconst (-1), 1) := by decide +kernel
theorem dX12_drawn_136 : decode cX12_drawn 136 = .ok (.ireturn, 1) := by decide +kernel
theorem dX12_drawn_46 : decode cX12_drawn 46 = .ok (.iload 6, 2) := by decide +kernel
theorem dX12_drawn_48 : decode cX12_drawn 48 = .ok (.ireturn, 1) := by decide +kernel
theorem dX12_deal_0 : decode cX12_deal 0 = .ok (.iload 4, 2) := by decide +kernel
theorem dX12_deal_2 : decode cX12_deal 2 = .ok (.i2l, 1) := by decide +kernel
theorem dX12_deal_3 : decode cX12_deal 3 = .ok (.lconst 0, 1) := by decide +kernel
theorem dX12_deal_4 : decode cX12_deal 4 = .ok (.ldc2_w 564, 3) := by decide +kernel
theorem wm_2421 : (Jvm.Cond.constantLong "GrownKindsModel" (564 : Nat) (2000000000 : Int64)) ∈ gT := gT_in (List.mem_of_getElem? (i := 2421) (by decide +kernel)) (by decide +kernel)
theorem dX12_deal_7 : decode cX12_deal 7 = .ok (.invokestatic 97, 3) := by decide +kernel
theorem dX12_deal_10 : decode cX12_deal 10 = .ok (.ifCond .eq 16, 3) := by decide +kernel
theorem dX12_deal_26 : decode cX12_deal 26 = .ok (.bipush (-2), 2) := by decide +kernel
theorem dX12_deal_13 : decode cX12_deal 13 = .ok (.aload_n 0, 1) := by decide +kernel
theorem dX12_deal_14 : decode cX12_deal 14 = .ok (.iload_n 1, 1) := by decide +kernel
theorem dX12_deal_15 : decode cX12_deal 15 = .ok (.iload_n 2, 1) := by decide +kernel
theorem dX12_deal_16 : decode cX12_deal 16 = .ok (.iload_n 3, 1) := by decide +kernel
theorem dX12_deal_17 : decode cX12_deal 17 = .ok (.sipush 1000, 3) := by decide +kernel
theorem dX12_deal_20 : decode cX12_deal 20 = .ok (.invokevirtual 549, 3) := by decide +kernel
theorem dX12_deal_23 : decode cX12_deal 23 = .ok (.goto 5, 3) := by decide +kernel
theorem dX12_deal_28 : decode cX12_deal 28 = .ok (.istore 5, 2) := by decide +kernel
theorem dX12_deal_30 : decode cX12_deal 30 = .ok (.iload 5, 2) := by decide +kernel
theorem dX12_deal_32 : decode cX12_deal 32 = .ok (.iconst (-1), 1) := by decide +kernel
theorem dX12_deal_33 : decode cX12_deal 33 = .ok (.if_icmp .ge 6, 3) := by decide +kernel
theorem dX12_deal_39 : decode cX12_deal 39 = .ok (.aload_n 0, 1) := by decide +kernel
theorem dX12_deal_40 : decode cX12_deal 40 = .ok (.iconst 1, 1) := by decide +kernel
theorem dX12_deal_41 : decode cX12_deal 41 = .ok (.putfield 222, 3) := by decide +kernel
theorem wm_1718 : (Jvm.Cond.fieldLink "GrownKindsModel" (222 : Nat) "GrownKindsModel" "isDealing" "Z") ∈ gT := gT_in (List.mem_of_getElem? (i := 1718) (by decide +kernel)) (by decide +kernel)
theorem dX12_deal_44 : decode cX12_deal 44 = .ok (.aload_n 0, 1) := by decide +kernel
theorem dX12_deal_45 : decode cX12_deal 45 = .ok (.iload_n 1, 1) := by decide +kernel
theorem dX12_deal_46 : decode cX12_deal 46 = .ok (.putfield 566, 3) := by decide +kernel
theorem wm_1719 : (Jvm.Cond.fieldLink "GrownKindsModel" (566 : Nat) "GrownKindsModel" "dealKind" "I") ∈ gT := gT_in (List.mem_of_getElem? (i := 1719) (by decide +kernel)) (by decide +kernel)
theorem dX12_deal_49 : decode cX12_deal 49 = .ok (.aload_n 0, 1) := by decide +kernel
theorem dX12_deal_50 : decode cX12_deal 50 = .ok (.iload_n 2, 1) := by decide +kernel
theorem dX12_deal_51 : decode cX12_deal 51 = .ok (.putfield 569, 3) := by decide +kernel
theorem wm_1720 : (Jvm.Cond.fieldLink "GrownKindsModel" (569 : Nat) "GrownKindsModel" "dealLow" "I") ∈ gT := gT_in (List.mem_of_getElem? (i := 1720) (by decide +kernel)) (by decide +kernel)
theorem dX12_deal_54 : decode cX12_deal 54 = .ok (.aload_n 0, 1) := by decide +kernel
theorem dX12_deal_55 : decode cX12_deal 55 = .ok (.iconst 0, 1) := by decide +kernel
theorem dX12_deal_56 : decode cX12_deal 56 = .ok (.iload 5, 2) := by decide +kernel
theorem dX12_deal_58 : decode cX12_deal 58 = .ok (.invokestatic 440, 3) := by decide +kernel
theorem wm_2258 : (Jvm.Cond.methodLink "GrownKindsModel" (440 : Nat) ({ cls := "java/lang/Math", name := "max", desc := "(II)I" } : Jvm.MethodName)) ∈ gT := gT_in (List.mem_of_getElem? (i := 2258) (by decide +kernel)) (by decide +kernel)
theorem wm_1338 : (Jvm.Cond.static ({ cls := "java/lang/Math", name := "max", desc := "(II)I" } : Jvm.MethodName)) ∈ gT := gT_in (List.mem_of_getElem? (i := 1338) (by decide +kernel)) (by decide +kernel)
theorem wm_1339 : (Jvm.Cond.code ({ cls := "java/lang/Math", name := "max", desc := "(II)I" } : Jvm.MethodName) prog_17_method_65_code (2 : Nat) (Option.some Jvm.ClassFile.FieldType.int)) ∈ gT := gT_in (List.mem_of_getElem? (i := 1339) (by decide +kernel)) (by decide +kernel)
theorem dX12_deal_61 : decode cX12_deal 61 = .ok (.putfield 572, 3) := by decide +kernel
theorem wm_1721 : (Jvm.Cond.fieldLink "GrownKindsModel" (572 : Nat) "GrownKindsModel" "dealMany" "I") ∈ gT := gT_in (List.mem_of_getElem? (i := 1721) (by decide +kernel)) (by decide +kernel)
theorem dX12_deal_64 : decode cX12_deal 64 = .ok (.aload_n 0, 1) := by decide +kernel
theorem dX12_deal_65 : decode cX12_deal 65 = .ok (.aload_n 0, 1) := by decide +kernel
theorem dX12_deal_66 : decode cX12_deal 66 = .ok (.getfield 572, 3) := by decide +kernel
theorem dX12_deal_69 : decode cX12_deal 69 = .ok (.putfield 575, 3) := by decide +kernel
theorem wm_1722 : (Jvm.Cond.fieldLink "GrownKindsModel" (575 : Nat) "GrownKindsModel" "dealLeft" "I") ∈ gT := gT_in (List.mem_of_getElem? (i := 1722) (by decide +kernel)) (by decide +kernel)
theorem dX12_deal_72 : decode cX12_deal 72 = .ok (.aload_n 0, 1) := by decide +kernel
theorem dX12_deal_73 : decode cX12_deal 73 = .ok (.iconst 1, 1) := by decide +kernel
theorem dX12_deal_74 : decode cX12_deal 74 = .ok (.aload_n 0, 1) := by decide +kernel
theorem dX12_deal_75 : decode cX12_deal 75 = .ok (.getfield 572, 3) := by decide +kernel
theorem dX12_deal_78 : decode cX12_deal 78 = .ok (.i2l, 1) := by decide +kernel
theorem dX12_deal_79 : decode cX12_deal 79 = .ok (.invokestatic 552, 3) := by decide +kernel
theorem dX12_deal_82 : decode cX12_deal 82 = .ok (.ishl, 1) := by decide +kernel
theorem dX12_deal_83 : decode cX12_deal 83 = .ok (.putfield 578, 3) := by decide +kernel
theorem wm_1723 : (Jvm.Cond.fieldLink "GrownKindsModel" (578 : Nat) "GrownKindsModel" "dealRound" "I") ∈ gT := gT_in (List.mem_of_getElem? (i := 1723) (by decide +kernel)) (by decide +kernel)
theorem dX12_deal_86 : decode cX12_deal 86 = .ok (.aload_n 0, 1) := by decide +kernel
theorem dX12_deal_87 : decode cX12_deal 87 = .ok (.iload 4, 2) := by decide +kernel
theorem dX12_deal_89 : decode cX12_deal 89 = .ok (.aload_n 0, 1) := by decide +kernel
theorem dX12_deal_90 : decode cX12_deal 90 = .ok (.getfield 578, 3) := by decide +kernel
theorem dX12_deal_93 : decode cX12_deal 93 = .ok (.irem, 1) := by decide +kernel
theorem dX12_deal_94 : decode cX12_deal 94 = .ok (.putfield 581, 3) := by decide +kernel
theorem wm_1724 : (Jvm.Cond.fieldLink "GrownKindsModel" (581 : Nat) "GrownKindsModel" "dealX" "I") ∈ gT := gT_in (List.mem_of_getElem? (i := 1724) (by decide +kernel)) (by decide +kernel)
theorem dX12_deal_97 : decode cX12_deal 97 = .ok (.aload_n 0, 1) := by decide +kernel
theorem dX12_deal_98 : decode cX12_deal 98 = .ok (.getfield 572, 3) := by decide +kernel
theorem dX12_deal_101 : decode cX12_deal 101 = .ok (.ireturn, 1) := by decide +kernel
theorem dX12_deal_36 : decode cX12_deal 36 = .ok (.iload 5, 2) := by decide +kernel
theorem dX12_deal_38 : decode cX12_deal 38 = .ok (.ireturn, 1) := by decide +kernel
theorem dX12_dealt_0 : decode cX12_dealt 0 = .ok (.aload_n 0, 1) := by decide +kernel
theorem dX12_dealt_1 : decode cX12_dealt 1 = .ok (.getfield 222, 3) := by decide +kernel
theorem dX12_dealt_4 : decode cX12_dealt 4 = .ok (.ifCond .eq 10, 3) := by decide +kernel
theorem dX12_dealt_14 : decode cX12_dealt 14 = .ok (.iconst (-1), 1) := by decide +kernel
theorem dX12_dealt_15 : decode cX12_dealt 15 = .ok (.ireturn, 1) := by decide +kernel
theorem dX12_dealt_7 : decode cX12_dealt 7 = .ok (.aload_n 0, 1) := by decide +kernel
theorem dX12_dealt_8 : decode cX12_dealt 8 = .ok (.getfield 575, 3) := by decide +kernel
theorem dX12_dealt_11 : decode cX12_dealt 11 = .ok (.ifCond .ne 5, 3) := by decide +kernel
theorem dX12_dealt_16 : decode cX12_dealt 16 = .ok (.aload_n 0, 1) := by decide +kernel
theorem dX12_dealt_17 : decode cX12_dealt 17 = .ok (.getfield 581, 3) := by decide +kernel
theorem dX12_dealt_20 : decode cX12_dealt 20 = .ok (.aload_n 0, 1) := by decide +kernel
theorem dX12_dealt_21 : decode cX12_dealt 21 = .ok (.getfield 572, 3) := by decide +kernel
theorem dX12_dealt_24 : decode cX12_dealt 24 = .ok (.if_icmp .lt 23, 3) := by decide +kernel
theorem dX12_dealt_27 : decode cX12_dealt 27 = .ok (.aload_n 0, 1) := by decide +kernel
theorem dX12_dealt_28 : decode cX12_dealt 28 = .ok (.iconst 5, 1) := by decide +kernel
theorem dX12_dealt_29 : decode cX12_dealt 29 = .ok (.aload_n 0, 1) := by decide +kernel
theorem dX12_dealt_30 : decode cX12_dealt 30 = .ok (.getfield 581, 3) := by decide +kernel
theorem dX12_dealt_33 : decode cX12_dealt 33 = .ok (.imul, 1) := by decide +kernel
theorem dX12_dealt_34 : decode cX12_dealt 34 = .ok (.iconst 3, 1) := by decide +kernel
theorem dX12_dealt_35 : decode cX12_dealt 35 = .ok (.iadd, 1) := by decide +kernel
theorem dX12_dealt_36 : decode cX12_dealt 36 = .ok (.aload_n 0, 1) := by decide +kernel
theorem dX12_dealt_37 : decode cX12_dealt 37 = .ok (.getfield 578, 3) := by decide +kernel
theorem dX12_dealt_40 : decode cX12_dealt 40 = .ok (.irem, 1) := by decide +kernel
theorem dX12_dealt_41 : decode cX12_dealt 41 = .ok (.putfield 581, 3) := by decide +kernel
theorem dX12_dealt_44 : decode cX12_dealt 44 = .ok (.goto (-28), 3) := by decide +kernel
theorem dX12_dealt_47 : decode cX12_dealt 47 = .ok (.aload_n 0, 1) := by decide +kernel
theorem dX12_dealt_48 : decode cX12_dealt 48 = .ok (.getfield 581, 3) := by decide +kernel
theorem dX12_dealt_51 : decode cX12_dealt 51 = .ok (.istore_n 1, 1) := by decide +kernel
theorem dX12_dealt_52 : decode cX12_dealt 52 = .ok (.aload_n 0, 1) := by decide +kernel
theorem dX12_dealt_53 : decode cX12_dealt 53 = .ok (.iconst 5, 1) := by decide +kernel
theorem dX12_dealt_54 : decode cX12_dealt 54 = .ok (.aload_n 0, 1) := by decide +kernel
theorem dX12_dealt_55 : decode cX12_dealt 55 = .ok (.getfield 581, 3) := by decide +kernel
theorem dX12_dealt_58 : decode cX12_dealt 58 = .ok (.imul, 1) := by decide +kernel
theorem dX12_dealt_59 : decode cX12_dealt 59 = .ok (.iconst 3, 1) := by decide +kernel
theorem dX12_dealt_60 : decode cX12_dealt 60 = .ok (.iadd, 1) := by decide +kernel
theorem dX12_dealt_61 : decode cX12_dealt 61 = .ok (.aload_n 0, 1) := by decide +kernel
theorem dX12_dealt_62 : decode cX12_dealt 62 = .ok (.getfield 578, 3) := by decide +kernel
theorem dX12_dealt_65 : decode cX12_dealt 65 = .ok (.irem, 1) := by decide +kernel
theorem dX12_dealt_66 : decode cX12_dealt 66 = .ok (.putfield 581, 3) := by decide +kernel
theorem dX12_dealt_69 : decode cX12_dealt 69 = .ok (.aload_n 0, 1) := by decide +kernel
theorem dX12_dealt_70 : decode cX12_dealt 70 = .ok (.dup, 1) := by decide +kernel
theorem dX12_dealt_71 : decode cX12_dealt 71 = .ok (.getfield 575, 3) := by decide +kernel
theorem dX12_dealt_74 : decode cX12_dealt 74 = .ok (.iconst 1, 1) := by decide +kernel
theorem dX12_dealt_75 : decode cX12_dealt 75 = .ok (.isub, 1) := by decide +kernel
theorem dX12_dealt_76 : decode cX12_dealt 76 = .ok (.putfield 575, 3) := by decide +kernel
theorem dX12_dealt_79 : decode cX12_dealt 79 = .ok (.aload_n 0, 1) := by decide +kernel
theorem dX12_dealt_80 : decode cX12_dealt 80 = .ok (.iconst (-1), 1) := by decide +kernel
theorem dX12_dealt_81 : decode cX12_dealt 81 = .ok (.invokevirtual 324, 3) := by decide +kernel
theorem dX12_dealt_84 : decode cX12_dealt 84 = .ok (.aload_n 0, 1) := by decide +kernel
theorem dX12_dealt_85 : decode cX12_dealt 85 = .ok (.aload_n 0, 1) := by decide +kernel
theorem dX12_dealt_86 : decode cX12_dealt 86 = .ok (.getfield 566, 3) := by decide +kernel
theorem dX12_dealt_89 : decode cX12_dealt 89 = .ok (.aload_n 0, 1) := by decide +kernel
theorem dX12_dealt_90 : decode cX12_dealt 90 = .ok (.getfield 569, 3) := by decide +kernel
theorem dX12_dealt_93 : decode cX12_dealt 93 = .ok (.iload_n 1, 1) := by decide +kernel
theorem dX12_dealt_94 : decode cX12_dealt 94 = .ok (.invokevirtual 561, 3) := by decide +kernel
theorem dX12_dealt_97 : decode cX12_dealt 97 = .ok (.istore_n 2, 1) := by decide +kernel
theorem dX12_dealt_98 : decode cX12_dealt 98 = .ok (.sipush 10000, 3) := by decide +kernel
theorem dX12_dealt_101 : decode cX12_dealt 101 = .ok (.aload_n 0, 1) := by decide +kernel
theorem dX12_dealt_102 : decode cX12_dealt 102 = .ok (.getfield 556, 3) := by decide +kernel
theorem dX12_dealt_105 : decode cX12_dealt 105 = .ok (.imul, 1) := by decide +kernel
theorem dX12_dealt_106 : decode cX12_dealt 106 = .ok (.iload_n 2, 1) := by decide +kernel
theorem dX12_dealt_107 : decode cX12_dealt 107 = .ok (.iadd, 1) := by decide +kernel
theorem dX12_dealt_108 : decode cX12_dealt 108 = .ok (.ireturn, 1) := by decide +kernel
theorem dX12_left_0 : decode cX12_left 0 = .ok (.aload_n 0, 1) := by decide +kernel
theorem dX12_left_1 : decode cX12_left 1 = .ok (.getfield 222, 3) := by decide +kernel
theorem dX12_left_4 : decode cX12_left 4 = .ok (.ifCond .eq 10, 3) := by decide +kernel
theorem dX12_left_14 : decode cX12_left 14 = .ok (.iconst 0, 1) := by decide +kernel
theorem dX12_left_15 : decode cX12_left 15 = .ok (.ireturn, 1) := by decide +kernel
theorem dX12_left_7 : decode cX12_left 7 = .ok (.aload_n 0, 1) := by decide +kernel
theorem dX12_left_8 : decode cX12_left 8 = .ok (.getfield 575, 3) := by decide +kernel
theorem dX12_left_11 : decode cX12_left 11 = .ok (.goto 4, 3) := by decide +kernel
theorem dX12_takes_0 : decode cX12_takes 0 = .ok (.aload_n 0, 1) := by decide +kernel
theorem dX12_takes_1 : decode cX12_takes 1 = .ok (.iload_n 1, 1) := by decide +kernel
theorem dX12_takes_2 : decode cX12_takes 2 = .ok (.iload_n 2, 1) := by decide +kernel
theorem dX12_takes_3 : decode cX12_takes 3 = .ok (.invokevirtual 344, 3) := by decide +kernel
theorem dX12_takes_6 : decode cX12_takes 6 = .ok (.ifCond .ne 6, 3) := by decide +kernel
theorem dX12_takes_12 : decode cX12_takes 12 = .ok (.aload_n 0, 1) := by decide +kernel
theorem dX12_takes_13 : decode cX12_takes 13 = .ok (.iload_n 1, 1) := by decide +kernel
theorem dX12_takes_14 : decode cX12_takes 14 = .ok (.iload_n 2, 1) := by decide +kernel
theorem dX12_takes_15 : decode cX12_takes 15 = .ok (.invokevirtual 231, 3) := by decide +kernel
theorem dX12_takes_18 : decode cX12_takes 18 = .ok (.ifCond .ne 14, 3) := by decide +kernel
theorem dX12_takes_32 : decode cX12_takes 32 = .ok (.bipush (-5), 2) := by decide +kernel
theorem dX12_takes_34 : decode cX12_takes 34 = .ok (.ireturn, 1) := by decide +kernel
theorem dX12_takes_21 : decode cX12_takes 21 = .ok (.aload_n 0, 1) := by decide +kernel
theorem dX12_takes_22 : decode cX12_takes 22 = .ok (.getfield 15, 3) := by decide +kernel
theorem dX12_takes_25 : decode cX12_takes 25 = .ok (.iconst 4, 1) := by decide +kernel
theorem dX12_takes_26 : decode cX12_takes 26 = .ok (.iaload, 1) := by decide +kernel
theorem dX12_takes_27 : decode cX12_takes 27 = .ok (.bipush 10, 2) := by decide +kernel
theorem dX12_takes_29 : decode cX12_takes 29 = .ok (.if_icmp .ne 6, 3) := by decide +kernel
theorem dX12_takes_35 : decode cX12_takes 35 = .ok (.aload_n 0, 1) := by decide +kernel
theorem dX12_takes_36 : decode cX12_takes 36 = .ok (.getfield 15, 3) := by decide +kernel
theorem dX12_takes_39 : decode cX12_takes 39 = .ok (.bipush 6, 2) := by decide +kernel
theorem dX12_takes_41 : decode cX12_takes 41 = .ok (.iload_n 1, 1) := by decide +kernel
theorem dX12_takes_42 : decode cX12_takes 42 = .ok (.iadd, 1) := by decide +kernel
theorem dX12_takes_43 : decode cX12_takes 43 = .ok (.dup2, 1) := by decide +kernel
theorem dX12_takes_44 : decode cX12_takes 44 = .ok (.iaload, 1) := by decide +kernel
theorem dX12_takes_45 : decode cX12_takes 45 = .ok (.iconst 1, 1) := by decide +kernel
theorem dX12_takes_46 : decode cX12_takes 46 = .ok (.iload_n 2, 1) := by decide +kernel
theorem dX12_takes_47 : decode cX12_takes 47 = .ok (.ishl, 1) := by decide +kernel
theorem dX12_takes_48 : decode cX12_takes 48 = .ok (.ior, 1) := by decide +kernel
theorem dX12_takes_49 : decode cX12_takes 49 = .ok (.iastore, 1) := by decide +kernel
theorem dX12_takes_50 : decode cX12_takes 50 = .ok (.aload_n 0, 1) := by decide +kernel
theorem dX12_takes_51 : decode cX12_takes 51 = .ok (.getfield 15, 3) := by decide +kernel
theorem dX12_takes_54 : decode cX12_takes 54 = .ok (.bipush 12, 2) := by decide +kernel
theorem dX12_takes_56 : decode cX12_takes 56 = .ok (.aload_n 0, 1) := by decide +kernel
theorem dX12_takes_57 : decode cX12_takes 57 = .ok (.getfield 15, 3) := by decide +kernel
theorem dX12_takes_60 : decode cX12_takes 60 = .ok (.iconst 4, 1) := by decide +kernel
theorem dX12_takes_61 : decode cX12_takes 61 = .ok (.iaload, 1) := by decide +kernel
theorem dX12_takes_62 : decode cX12_takes 62 = .ok (.iadd, 1) := by decide +kernel
theorem dX12_takes_63 : decode cX12_takes 63 = .ok (.iload_n 1, 1) := by decide +kernel
theorem dX12_takes_64 : decode cX12_takes 64 = .ok (.bipush 10, 2) := by decide +kernel
theorem dX12_takes_66 : decode cX12_takes 66 = .ok (.imul, 1) := by decide +kernel
theorem dX12_takes_67 : decode cX12_takes 67 = .ok (.iload_n 2, 1) := by decide +kernel
theorem dX12_takes_68 : decode cX12_takes 68 = .ok (.iadd, 1) := by decide +kernel
theorem dX12_takes_69 : decode cX12_takes 69 = .ok (.iastore, 1) := by decide +kernel
theorem dX12_takes_70 : decode cX12_takes 70 = .ok (.aload_n 0, 1) := by decide +kernel
theorem dX12_takes_71 : decode cX12_takes 71 = .ok (.getfield 15, 3) := by decide +kernel
theorem dX12_takes_74 : decode cX12_takes 74 = .ok (.iconst 4, 1) := by decide +kernel
theorem dX12_takes_75 : decode cX12_takes 75 = .ok (.dup2, 1) := by decide +kernel
theorem dX12_takes_76 : decode cX12_takes 76 = .ok (.iaload, 1) := by decide +kernel
theorem dX12_takes_77 : decode cX12_takes 77 = .ok (.iconst 1, 1) := by decide +kernel
theorem dX12_takes_78 : decode cX12_takes 78 = .ok (.iadd, 1) := by decide +kernel
theorem dX12_takes_79 : decode cX12_takes 79 = .ok (.iastore, 1) := by decide +kernel
theorem dX12_takes_80 : decode cX12_takes 80 = .ok (.aload_n 0, 1) := by decide +kernel
theorem dX12_takes_81 : decode cX12_takes 81 = .ok (.iconst 0, 1) := by decide +kernel
theorem dX12_takes_82 : decode cX12_takes 82 = .ok (.putfield 222, 3) := by decide +kernel
theorem dX12_takes_85 : decode cX12_takes 85 = .ok (.aload_n 0, 1) := by decide +kernel
theorem dX12_takes_86 : decode cX12_takes 86 = .ok (.getfield 15, 3) := by decide +kernel
theorem dX12_takes_89 : decode cX12_takes 89 = .ok (.sipush 198, 3) := by decide +kernel
theorem dX12_takes_92 : decode cX12_takes 92 = .ok (.iload_n 1, 1) := by decide +kernel
theorem dX12_takes_93 : decode cX12_takes 93 = .ok (.iadd, 1) := by decide +kernel
theorem dX12_takes_94 : decode cX12_takes 94 = .ok (.iaload, 1) := by decide +kernel
theorem dX12_takes_95 : decode cX12_takes 95 = .ok (.aload_n 0, 1) := by decide +kernel
theorem dX12_takes_96 : decode cX12_takes 96 = .ok (.getfield 15, 3) := by decide +kernel
theorem dX12_takes_99 : decode cX12_takes 99 = .ok (.bipush 6, 2) := by decide +kernel
theorem dX12_takes_101 : decode cX12_takes 101 = .ok (.iload_n 1, 1) := by decide +kernel
theorem dX12_takes_102 : decode cX12_takes 102 = .ok (.iadd, 1) := by decide +kernel
theorem dX12_takes_103 : decode cX12_takes 103 = .ok (.iaload, 1) := by decide +kernel
theorem dX12_takes_104 : decode cX12_takes 104 = .ok (.invokestatic 584, 3) := by decide +kernel
theorem wm_2434 : (Jvm.Cond.methodLink "GrownKindsModel" (584 : Nat) ({ cls := "GrownKindsModel", name := "bitsOf", desc := "(I)I" } : Jvm.MethodName)) ∈ gT := gT_in (List.mem_of_getElem? (i := 2434) (by decide +kernel)) (by decide +kernel)
theorem wm_2435 : (Jvm.Cond.static ({ cls := "GrownKindsModel", name := "bitsOf", desc := "(I)I" } : Jvm.MethodName)) ∈ gT := gT_in (List.mem_of_getElem? (i := 2435) (by decide +kernel)) (by decide +kernel)
theorem wm_2436 : (Jvm.Cond.code ({ cls := "GrownKindsModel", name := "bitsOf", desc := "(I)I" } : Jvm.MethodName) prog_14_method_3_code (3 : Nat) (Option.some Jvm.ClassFile.FieldType.int)) ∈ gT := gT_in (List.mem_of_getElem? (i := 2436) (by decide +kernel)) (by decide +kernel)
theorem dX12_takes_107 : decode cX12_takes 107 = .ok (.isub, 1) := by decide +kernel
theorem dX12_takes_108 : decode cX12_takes 108 = .ok (.ireturn, 1) := by decide +kernel
theorem dX12_takes_9 : decode cX12_takes 9 = .ok (.bipush (-2), 2) := by decide +kernel
theorem dX12_takes_11 : decode cX12_takes 11 = .ok (.ireturn, 1) := by decide +kernel
theorem dX12_takesBack_0 : decode cX12_takesBack 0 = .ok (.aload_n 0, 1) := by decide +kernel
theorem dX12_takesBack_1 : decode cX12_takesBack 1 = .ok (.getfield 15, 3) := by decide +kernel
theorem dX12_takesBack_4 : decode cX12_takesBack 4 = .ok (.iconst 4, 1) := by decide +kernel
theorem dX12_takesBack_5 : decode cX12_takesBack 5 = .ok (.dup2, 1) := by decide +kernel
theorem dX12_takesBack_6 : decode cX12_takesBack 6 = .ok (.iaload, 1) := by decide +kernel
theorem dX12_takesBack_7 : decode cX12_takesBack 7 = .ok (.iconst 1, 1) := by decide +kernel
theorem dX12_takesBack_8 : decode cX12_takesBack 8 = .ok (.isub, 1) := by decide +kernel
theorem dX12_takesBack_9 : decode cX12_takesBack 9 = .ok (.iastore, 1) := by decide +kernel
theorem dX12_takesBack_10 : decode cX12_takesBack 10 = .ok (.aload_n 0, 1) := by decide +kernel
theorem dX12_takesBack_11 : decode cX12_takesBack 11 = .ok (.getfield 15, 3) := by decide +kernel
theorem dX12_takesBack_14 : decode cX12_takesBack 14 = .ok (.bipush 12, 2) := by decide +kernel
theorem dX12_takesBack_16 : decode cX12_takesBack 16 = .ok (.aload_n 0, 1) := by decide +kernel
theorem dX12_takesBack_17 : decode cX12_takesBack 17 = .ok (.getfield 15, 3) := by decide +kernel
theorem dX12_takesBack_20 : decode cX12_takesBack 20 = .ok (.iconst 4, 1) := by decide +kernel
theorem dX12_takesBack_21 : decode cX12_takesBack 21 = .ok (.iaload, 1) := by decide +kernel
theorem dX12_takesBack_22 : decode cX12_takesBack 22 = .ok (.iadd, 1) := by decide +kernel
theorem dX12_takesBack_23 : decode cX12_takesBack 23 = .ok (.iaload, 1) := by decide +kernel
theorem dX12_takesBack_24 : decode cX12_takesBack 24 = .ok (.istore_n 1, 1) := by decide +kernel
theorem dX12_takesBack_25 : decode cX12_takesBack 25 = .ok (.aload_n 0, 1) := by decide +kernel
theorem dX12_takesBack_26 : decode cX12_takesBack 26 = .ok (.getfield 15, 3) := by decide +kernel
theorem dX12_takesBack_29 : decode cX12_takesBack 29 = .ok (.bipush 6, 2) := by decide +kernel
theorem dX12_takesBack_31 : decode cX12_takesBack 31 = .ok (.iload_n 1, 1) := by decide +kernel
theorem dX12_takesBack_32 : decode cX12_takesBack 32 = .ok (.bipush 10, 2) := by decide +kernel
theorem dX12_takesBack_34 : decode cX12_takesBack 34 = .ok (.idiv, 1) := by decide +kernel
theorem dX12_takesBack_35 : decode cX12_takesBack 35 = .ok (.iadd, 1) := by decide +kernel
theorem dX12_takesBack_36 : decode cX12_takesBack 36 = .ok (.dup2, 1) := by decide +kernel
theorem dX12_takesBack_37 : decode cX12_takesBack 37 = .ok (.iaload, 1) := by decide +kernel
theorem dX12_takesBack_38 : decode cX12_takesBack 38 = .ok (.iconst 1, 1) := by decide +kernel
theorem dX12_takesBack_39 : decode cX12_takesBack 39 = .ok (.iload_n 1, 1) := by decide +kernel
theorem dX12_takesBack_40 : decode cX12_takesBack 40 = .ok (.bipush 10, 2) := by decide +kernel
theorem dX12_takesBack_42 : decode cX12_takesBack 42 = .ok (.irem, 1) := by decide +kernel
theorem dX12_takesBack_43 : decode cX12_takesBack 43 = .ok (.ishl, 1) := by decide +kernel
theorem dX12_takesBack_44 : decode cX12_takesBack 44 = .ok (.isub, 1) := by decide +kernel
theorem dX12_takesBack_45 : decode cX12_takesBack 45 = .ok (.iastore, 1) := by decide +kernel
theorem dX12_takesBack_46 : decode cX12_takesBack 46 = .ok (.aload_n 0, 1) := by decide +kernel
theorem dX12_takesBack_47 : decode cX12_takesBack 47 = .ok (.iconst 0, 1) := by decide +kernel
theorem dX12_takesBack_48 : decode cX12_takesBack 48 = .ok (.putfield 222, 3) := by decide +kernel
theorem dX12_takesBack_51 : decode cX12_takesBack 51 = .ok (.return_, 1) := by decide +kernel
theorem dX12_undo_0 : decode cX12_undo 0 = .ok (.aload_n 0, 1) := by decide +kernel
theorem dX12_undo_1 : decode cX12_undo 1 = .ok (.getfield 15, 3) := by decide +kernel
theorem dX12_undo_4 : decode cX12_undo 4 = .ok (.iconst 3, 1) := by decide +kernel
theorem dX12_undo_5 : decode cX12_undo 5 = .ok (.iaload, 1) := by decide +kernel
theorem dX12_undo_6 : decode cX12_undo 6 = .ok (.ifCond .ne 6, 3) := by decide +kernel
theorem dX12_undo_12 : decode cX12_undo 12 = .ok (.aload_n 0, 1) := by decide +kernel
theorem dX12_undo_13 : decode cX12_undo 13 = .ok (.getfield 15, 3) := by decide +kernel
theorem dX12_undo_16 : decode cX12_undo 16 = .ok (.iconst 4, 1) := by decide +kernel
theorem dX12_undo_17 : decode cX12_undo 17 = .ok (.iaload, 1) := by decide +kernel
theorem dX12_undo_18 : decode cX12_undo 18 = .ok (.ifCond .ne 6, 3) := by decide +kernel
theorem dX12_undo_24 : decode cX12_undo 24 = .ok (.aload_n 0, 1) := by decide +kernel
theorem dX12_undo_25 : decode cX12_undo 25 = .ok (.invokevirtual 587, 3) := by decide +kernel
theorem wm_2441 : (Jvm.Cond.methodLink "GrownKindsModel" (587 : Nat) ({ cls := "GrownKindsModel", name := "takesBack", desc := "()V" } : Jvm.MethodName)) ∈ gT := gT_in (List.mem_of_getElem? (i := 2441) (by decide +kernel)) (by decide +kernel)
theorem wm_2443 : (Jvm.Cond.instanceMethod ({ cls := "GrownKindsModel", name := "takesBack", desc := "()V" } : Jvm.MethodName)) ∈ gT := gT_in (List.mem_of_getElem? (i := 2443) (by decide +kernel)) (by decide +kernel)
theorem wm_175 : Cond.selects "GrownKindsModel" ⟨"GrownKindsModel", "takesBack", "()V"⟩ ⟨"GrownKindsModel", "takesBack", "()V"⟩ ∈ gT := gT_in (List.mem_of_getElem? (i := 175) (by decide +kernel)) (by decide +kernel)
theorem wm_2444 : (Jvm.Cond.code ({ cls := "GrownKindsModel", name := "takesBack", desc := "()V" } : Jvm.MethodName) prog_14_method_150_code (2 : Nat) (Option.none : Option Jvm.ClassFile.FieldType)) ∈ gT := gT_in (List.mem_of_getElem? (i := 2444) (by decide +kernel)) (by decide +kernel)
theorem dX12_undo_28 : decode cX12_undo 28 = .ok (.aload_n 0, 1) := by decide +kernel
theorem dX12_undo_29 : decode cX12_undo 29 = .ok (.getfield 15, 3) := by decide +kernel
theorem dX12_undo_32 : decode cX12_undo 32 = .ok (.iconst 4, 1) := by decide +kernel
theorem dX12_undo_33 : decode cX12_undo 33 = .ok (.iaload, 1) := by decide +kernel
theorem dX12_undo_34 : decode cX12_undo 34 = .ok (.ireturn, 1) := by decide +kernel
theorem dX12_undo_21 : decode cX12_undo 21 = .ok (.bipush (-5), 2) := by decide +kernel
theorem dX12_undo_23 : decode cX12_undo 23 = .ok (.ireturn, 1) := by decide +kernel
theorem dX12_undo_9 : decode cX12_undo 9 = .ok (.bipush (-2), 2) := by decide +kernel
theorem dX12_undo_11 : decode cX12_undo 11 = .ok (.ireturn, 1) := by decide +kernel
theorem dX12_anew_0 : decode cX12_anew 0 = .ok (.aload_n 0, 1) := by decide +kernel
theorem dX12_anew_1 : decode cX12_anew 1 = .ok (.getfield 15, 3) := by decide +kernel
theorem dX12_anew_4 : decode cX12_anew 4 = .ok (.iconst 3, 1) := by decide +kernel
theorem dX12_anew_5 : decode cX12_anew 5 = .ok (.iaload, 1) := by decide +kernel
theorem dX12_anew_6 : decode cX12_anew 6 = .ok (.ifCond .ne 6, 3) := by decide +kernel
theorem dX12_anew_12 : decode cX12_anew 12 = .ok (.aload_n 0, 1) := by decide +kernel
theorem dX12_anew_13 : decode cX12_anew 13 = .ok (.getfield 15, 3) := by decide +kernel
theorem dX12_anew_16 : decode cX12_anew 16 = .ok (.iconst 4, 1) := by decide +kernel
theorem dX12_anew_17 : decode cX12_anew 17 = .ok (.iaload, 1) := by decide +kernel
theorem dX12_anew_18 : decode cX12_anew 18 = .ok (.istore_n 1, 1) := by decide +kernel
theorem dX12_anew_19 : decode cX12_anew 19 = .ok (.aload_n 0, 1) := by decide +kernel
theorem dX12_anew_20 : decode cX12_anew 20 = .ok (.getfield 15, 3) := by decide +kernel
theorem dX12_anew_23 : decode cX12_anew 23 = .ok (.iconst 4, 1) := by decide +kernel
theorem dX12_anew_24 : decode cX12_anew 24 = .ok (.iaload, 1) := by decide +kernel
theorem dX12_anew_25 : decode cX12_anew 25 = .ok (.ifCond .le 10, 3) := by decide +kernel
theorem dX12_anew_28 : decode cX12_anew 28 = .ok (.aload_n 0, 1) := by decide +kernel
theorem dX12_anew_29 : decode cX12_anew 29 = .ok (.invokevirtual 587, 3) := by decide +kernel
theorem dX12_anew_32 : decode cX12_anew 32 = .ok (.goto (-13), 3) := by decide +kernel
theorem dX12_anew_35 : decode cX12_anew 35 = .ok (.aload_n 0, 1) := by decide +kernel
theorem dX12_anew_36 : decode cX12_anew 36 = .ok (.iconst 0, 1) := by decide +kernel
theorem dX12_anew_37 : decode cX12_anew 37 = .ok (.putfield 222, 3) := by decide +kernel
theorem dX12_anew_40 : decode cX12_anew 40 = .ok (.iload_n 1, 1) := by decide +kernel
theorem dX12_anew_41 : decode cX12_anew 41 = .ok (.ireturn, 1) := by decide +kernel
theorem dX12_anew_9 : decode cX12_anew 9 = .ok (.bipush (-2), 2) := by decide +kernel
theorem dX12_anew_11 : decode cX12_anew 11 = .ok (.ireturn, 1) := by decide +kernel
def mX12_hangs_37 (a1 : Int) (a2 : Int) : Nat → Int → Int → Int → St → Option (Int × St)
  | 0, _, _, _, _ => none
  | f + 1, v_13, v_14, v_15, S_16 => gd ((inI v_13) ∧ (inI ((S_16 84 0) * 10))) <| if ((S_16 84 0) * 10) ≤ v_13 then (some (v_14, S_16)) else (gd (0 ≤ v_13 ∧ v_13 ≤ 2147483647) <| bd1 (mX12_isTerm S_16 (v_13 / 10) (v_13 % 10)) fun r_28 => gd (inI r_28) <| if r_28 = 0 then (mX12_hangs_37 a1 a2 f (v_13 + 1) v_14 v_15 S_16) else (bd2 (mX12_manyWithout S_16 (v_13 / 10) (v_13 % 10) a1 a2) fun r_32 S_33 => gd ((inL r_32) ∧ (inL v_15)) <| if v_15 ≤ r_32 then (mX12_hangs_37 a1 a2 f (v_13 + 1) v_14 v_15 S_33) else (mX12_hangs_37 a1 a2 f (v_13 + 1) v_13 r_32 S_33)))
def mX12_hangs (S0 : St) (a1 : Int) (a2 : Int) : Option (Int × St) := bd1 (mX12_isKind S0 a1) fun r_2 => gd (inI r_2) <| if r_2 = 0 then (some ((-2), S0)) else (bd1 (mX12_isSize S0 a2) fun r_6 => gd (inI r_6) <| if r_6 = 0 then (some ((-2), S0)) else (bd1 (mX12_counts S0 (-1)) fun S_10 => bd1 (mX12_kindMany S_10 a1 a2) fun r_12 => bd2 (mX12_hangs_37 a1 a2 FU 0 (-1) r_12 S_10) fun y_17 S_18 => some (y_17, S_18)))
set_option maxHeartbeats 4000000 in
set_option maxRecDepth 100000 in
theorem vX12_hangs (l : Launch) {D : va_G} {cy : Nat → ClassId} {b n : Nat} (hn : 102 ≤ n) {X : Nat → va_E} {S0 : St} (a1 : Int) (a2 : Int) {o1 : Int} {o2 : St} (hM : mX12_hangs S0 a1 a2 = some (o1, o2)) : gI l yX12_hangs cX12_hangs 9 (some .int) 7 0 0 D cy b n (enc b cy X S0) [.ref (b + 80), .int (iI a1), .int (iI a2)] (fun r u => r = iI o1 ∧ u = (n, enc b cy X o2)) := by
  refine gI_of (by decide) (Nat.le_of_ble_eq_true rfl) ?_
  intro p e s m args below meth c S hr hlk hin hsz ls hl hG
  have hx := S.1
  have hb := S.2.1
  have hl : lv_has ls 9 [(0, .ref (b + 80)), (1, .int (iI a1)), (2, .int (iI a2))] := hl
  replace hG : gW D cy b n s s.heap [] (enc b cy X S0) := hG
  obtain ⟨H, eH⟩ : ∃ H, H = s.heap := ⟨_, rfl⟩
  obtain ⟨locs, elocs⟩ : ∃ locs : List Loc, locs = [] := ⟨_, rfl⟩
  rw [← eH, ← elocs] at hG
  rw [← eH, ← elocs]
  clear eH elocs
  unfold mX12_hangs at hM
  refine lv_aload_n hx hb dX12_hangs_0 rfl (lv_at hl 0 rfl) ?_
  refine lv_iload_n hx hb dX12_hangs_1 rfl (lv_at hl 1 rfl) ?_
  obtain ⟨r_2, hc_1, hM⟩ := bd1_some hM
  refine g_vi (As := [.int (iI a1)]) (rest := []) S hG hsz (vX12_isKind l hn a1 hc_1) wV_12_225 (ec_83 _) cpX12 (Nat.lt_of_lt_of_le (Nat.le_of_ble_eq_true rfl) hn) dX12_hangs_2 rfl hl.1 (ar := 1) (by decide +kernel) rfl ⟨Nat.le_of_ble_eq_true rfl, Nat.le_of_ble_eq_true rfl, Nat.le_of_ble_eq_true rfl, Nat.le_of_ble_eq_true rfl⟩ (Nat.le_of_ble_eq_true rfl) (fun rv uu H locs hp hG => ?_)
  obtain ⟨rfl, rfl⟩ := hp
  replace hG : gW D cy b n s H locs (enc b cy X S0) := hG
  obtain ⟨hg_3, hM⟩ := gd_some hM
  refine gi_if_eq (tgt := 16) hx hb dX12_hangs_5 (by decide) hg_3 (fun c_4 => ?_) (fun c_4 => ?_)
  · replace hM := ifp hM c_4
    refine lv_bipush (v := iI (-2)) hx hb dX12_hangs_16 (by decide) ?_
    cases hM
    exact g_iret S hr hlk hG hsz dX12_hangs_18 ⟨Nat.le_of_ble_eq_true rfl, Nat.le_of_ble_eq_true rfl⟩ ⟨rfl, rfl⟩
  · replace hM := ifn hM c_4
    refine lv_aload_n hx hb dX12_hangs_8 rfl (lv_at hl 0 rfl) ?_
    refine lv_iload_n hx hb dX12_hangs_9 rfl (lv_at hl 2 rfl) ?_
    obtain ⟨r_6, hc_5, hM⟩ := bd1_some hM
    refine g_vi (As := [.int (iI a2)]) (rest := []) S hG hsz (vX12_isSize l hn a2 hc_5) wV_12_334 (ec_83 _) cpX12 (Nat.lt_of_lt_of_le (Nat.le_of_ble_eq_true rfl) hn) dX12_hangs_10 rfl hl.1 (ar := 1) (by decide +kernel) rfl ⟨Nat.le_of_ble_eq_true rfl, Nat.le_of_ble_eq_true rfl, Nat.le_of_ble_eq_true rfl, Nat.le_of_ble_eq_true rfl⟩ (Nat.le_of_ble_eq_true rfl) (fun rv uu H locs hp hG => ?_)
    obtain ⟨rfl, rfl⟩ := hp
    replace hG : gW D cy b n s H locs (enc b cy X S0) := hG
    obtain ⟨hg_7, hM⟩ := gd_some hM
    refine gi_if_ne (tgt := 19) hx hb dX12_hangs_13 (by decide) hg_7 (fun c_8 => ?_) (fun c_8 => ?_)
    · replace hM := ifn hM c_8
      refine lv_aload_n hx hb dX12_hangs_19 rfl (lv_at hl 0 rfl) ?_
      refine lv_iconst (v := iI (-1)) hx hb dX12_hangs_20 (by decide) ?_
      obtain ⟨S_10, hc_9, hM⟩ := bd1_some hM
      refine g_vv (As := [.int (iI (-1))]) (rest := []) S hG hsz (vX12_counts l hn (-1) hc_9) wV_12_324 (ec_83 _) cpX12 (Nat.lt_of_lt_of_le (Nat.le_of_ble_eq_true rfl) hn) dX12_hangs_21 rfl hl.1 (ar := 1) (by decide +kernel) rfl ⟨Nat.le_of_ble_eq_true rfl, Nat.le_of_ble_eq_true rfl, Nat.le_of_ble_eq_true rfl, Nat.le_of_ble_eq_true rfl⟩ (Nat.le_of_ble_eq_true rfl) (fun uu H locs hp hG => ?_)
      obtain rfl := hp
      replace hG : gW D cy b n s H locs (enc b cy X S_10) := hG
      refine lv_aload_n hx hb dX12_hangs_24 rfl (lv_at hl 0 rfl) ?_
      refine lv_iload_n hx hb dX12_hangs_25 rfl (lv_at hl 1 rfl) ?_
      refine lv_iload_n hx hb dX12_hangs_26 rfl (lv_at hl 2 rfl) ?_
      obtain ⟨r_12, hc_11, hM⟩ := bd1_some hM
      refine g_vl (As := [.int (iI a1), .int (iI a2)]) (rest := []) S hG hsz (vX12_kindMany l hn a1 a2 hc_11) wV_12_320 (ec_83 _) cpX12 (Nat.lt_of_lt_of_le (Nat.le_of_ble_eq_true rfl) hn) dX12_hangs_27 rfl hl.1 (ar := 2) (by decide +kernel) rfl ⟨Nat.le_of_ble_eq_true rfl, Nat.le_of_ble_eq_true rfl, Nat.le_of_ble_eq_true rfl, Nat.le_of_ble_eq_true rfl⟩ (Nat.le_of_ble_eq_true rfl) (fun rv uu H locs hp hG => ?_)
      obtain ⟨rfl, rfl⟩ := hp
      replace hG : gW D cy b n s H locs (enc b cy X S_10) := hG
      refine lv_lstore_n (lv' := [(3, .long (jJ r_12)), (0, .ref (b + 80)), (1, .int (iI a1)), (2, .int (iI a2))]) hx hb dX12_hangs_30 rfl hl (by decide) rfl (fun ls hl => ?_)
      refine lv_iconst (v := iI (-1)) hx hb dX12_hangs_31 (by decide) ?_
      refine lv_istore (lv' := [(5, .int (iI (-1))), (3, .long (jJ r_12)), (0, .ref (b + 80)), (1, .int (iI a1)), (2, .int (iI a2))]) hx hb dX12_hangs_32 hl (by decide) rfl (fun ls hl => ?_)
      refine lv_iconst (v := iI 0) hx hb dX12_hangs_34 (by decide) ?_
      refine lv_istore (lv' := [(6, .int (iI 0)), (5, .int (iI (-1))), (3, .long (jJ r_12)), (0, .ref (b + 80)), (1, .int (iI a1)), (2, .int (iI a2))]) hx hb dX12_hangs_35 hl (by decide) rfl (fun ls hl => ?_)
      obtain ⟨y_17, S_18, hc_19, hM⟩ := bd2_some hM
      have hK_20 : ∀ (H : Heap) (locs : List Loc) (ls : Array Slot), gW D cy b n s H locs (enc b cy X S_18) → lv_has ls 9 [(5, .int (iI y_17))] → W p l e (gRm 7 0 0) s m args below meth c H locs 0 0 (gQI D cy b s args below 0 0 (fun r u => r = iI o1 ∧ u = (n, enc b cy X o2))) (F0 m 109 ls []) := by
        intro H locs ls hG hl
        refine lv_iload hx hb dX12_hangs_109 (lv_at hl 0 rfl) ?_
        cases hM
        exact g_iret S hr hlk hG hsz dX12_hangs_111 ⟨Nat.le_of_ble_eq_true rfl, Nat.le_of_ble_eq_true rfl⟩ ⟨rfl, rfl⟩
      have loop_21 : ∀ (f : Nat) (v_13 : Int) (v_14 : Int) (v_15 : Int) (S_16 : St) (H : Heap) (locs : List Loc) (ls : Array Slot), mX12_hangs_37 a1 a2 f v_13 v_14 v_15 S_16 = some (y_17, S_18) → gW D cy b n s H locs (enc b cy X S_16) → lv_has ls 9 [(6, .int (iI v_13)), (5, .int (iI v_14)), (3, .long (jJ v_15)), (0, .ref (b + 80)), (1, .int (iI a1)), (2, .int (iI a2))] → W p l e (gRm 7 0 0) s m args below meth c H locs 0 0 (gQI D cy b s args below 0 0 (fun r u => r = iI o1 ∧ u = (n, enc b cy X o2))) (F0 m 37 ls []) := by
        clear hM
        intro f
        induction f with
        | zero => intro v_13 v_14 v_15 S_16 H locs ls hM; rw [mX12_hangs_37] at hM; cases hM
        | succ f_23 ih_22 =>
          intro v_13 v_14 v_15 S_16 H locs ls hM hG hl
          rw [mX12_hangs_37] at hM
          refine lv_iload hx hb dX12_hangs_37 (lv_at hl 0 rfl) ?_
          refine lv_aload_n hx hb dX12_hangs_39 rfl (lv_at hl 3 rfl) ?_
          refine m_get S hG 80 83 0 rfl ec_83 cpX12 wm_1673 dX12_hangs_40 rfl (Nat.lt_of_lt_of_le (Nat.le_of_ble_eq_true rfl) hn) (by decide) ?_
          refine lv_iconst (v := iI 0) hx hb dX12_hangs_43 (by decide) ?_
          refine mi_ald S hG 81 84 rfl ec_84 (Nat.lt_of_lt_of_le (Nat.le_of_ble_eq_true rfl) hn) dX12_hangs_44 (by decide) (by decide) ?_
          refine lv_bipush (v := iI 10) hx hb dX12_hangs_45 (by decide) ?_
          refine gi_mul hx hb dX12_hangs_47 ?_
          obtain ⟨hg_24, hM⟩ := gd_some hM
          refine gi_icmp_ge (tgt := 109) hx hb dX12_hangs_48 (by decide) hg_24.1 hg_24.2 (fun c_25 => ?_) (fun c_25 => ?_)
          · replace hM := ifp hM c_25
            cases hM
            exact hK_20 H locs ls hG (lv_sub hl [1] rfl)
          · replace hM := ifn hM c_25
            refine lv_aload_n hx hb dX12_hangs_51 rfl (lv_at hl 3 rfl) ?_
            refine lv_iload hx hb dX12_hangs_52 (lv_at hl 0 rfl) ?_
            refine lv_bipush (v := iI 10) hx hb dX12_hangs_54 (by decide) ?_
            obtain ⟨hg_26, hM⟩ := gd_some hM
            refine gi_div hx hb dX12_hangs_56 hg_26 (by decide) ?_
            refine lv_iload hx hb dX12_hangs_57 (lv_at hl 0 rfl) ?_
            refine lv_bipush (v := iI 10) hx hb dX12_hangs_59 (by decide) ?_
            refine gi_rem hx hb dX12_hangs_61 hg_26 (by decide) ?_
            obtain ⟨r_28, hc_27, hM⟩ := bd1_some hM
            refine g_vi (As := [.int (iI (v_13 / 10)), .int (iI (v_13 % 10))]) (rest := []) S hG hsz (vX12_isTerm l hn (v_13 / 10) (v_13 % 10) hc_27) wV_12_344 (ec_83 _) cpX12 (Nat.lt_of_lt_of_le (Nat.le_of_ble_eq_true rfl) hn) dX12_hangs_62 rfl hl.1 (ar := 2) (by decide +kernel) rfl ⟨Nat.le_of_ble_eq_true rfl, Nat.le_of_ble_eq_true rfl, Nat.le_of_ble_eq_true rfl, Nat.le_of_ble_eq_true rfl⟩ (Nat.le_of_ble_eq_true rfl) (fun rv uu H locs hp hG => ?_)
            obtain ⟨rfl, rfl⟩ := hp
            replace hG : gW D cy b n s H locs (enc b cy X S_16) := hG
            obtain ⟨hg_29, hM⟩ := gd_some hM
            refine gi_if_ne (tgt := 71) hx hb dX12_hangs_65 (by decide) hg_29 (fun c_30 => ?_) (fun c_30 => ?_)
            · replace hM := ifn hM c_30
              refine lv_aload_n hx hb dX12_hangs_71 rfl (lv_at hl 3 rfl) ?_
              refine lv_iload hx hb dX12_hangs_72 (lv_at hl 0 rfl) ?_
              refine lv_bipush (v := iI 10) hx hb dX12_hangs_74 (by decide) ?_
              refine gi_div hx hb dX12_hangs_76 hg_26 (by decide) ?_
              refine lv_iload hx hb dX12_hangs_77 (lv_at hl 0 rfl) ?_
              refine lv_bipush (v := iI 10) hx hb dX12_hangs_79 (by decide) ?_
              refine gi_rem hx hb dX12_hangs_81 hg_26 (by decide) ?_
              refine lv_iload_n hx hb dX12_hangs_82 rfl (lv_at hl 4 rfl) ?_
              refine lv_iload_n hx hb dX12_hangs_83 rfl (lv_at hl 5 rfl) ?_
              obtain ⟨r_32, S_33, hc_31, hM⟩ := bd2_some hM
              refine g_vl (As := [.int (iI (v_13 / 10)), .int (iI (v_13 % 10)), .int (iI a1), .int (iI a2)]) (rest := []) S hG hsz (vX12_manyWithout l hn (v_13 / 10) (v_13 % 10) a1 a2 hc_31) wV_12_350 (ec_83 _) cpX12 (Nat.lt_of_lt_of_le (Nat.le_of_ble_eq_true rfl) hn) dX12_hangs_84 rfl hl.1 (ar := 4) (by decide +kernel) rfl ⟨Nat.le_of_ble_eq_true rfl, Nat.le_of_ble_eq_true rfl, Nat.le_of_ble_eq_true rfl, Nat.le_of_ble_eq_true rfl⟩ (Nat.le_of_ble_eq_true rfl) (fun rv uu H locs hp hG => ?_)
              obtain ⟨rfl, rfl⟩ := hp
              replace hG : gW D cy b n s H locs (enc b cy X S_33) := hG
              refine lv_lstore (lv' := [(7, .long (jJ r_32)), (6, .int (iI v_13)), (5, .int (iI v_14)), (3, .long (jJ v_15)), (0, .ref (b + 80)), (1, .int (iI a1)), (2, .int (iI a2))]) hx hb dX12_hangs_87 hl (by decide) rfl (fun ls hl => ?_)
              refine lv_lload hx hb dX12_hangs_89 (lv_at hl 0 rfl) ?_
              refine lv_lload_n hx hb dX12_hangs_91 rfl (lv_at hl 3 rfl) ?_
              obtain ⟨hg_34, hM⟩ := gd_some hM
              refine gj_cmp_ge (tgt := 103) hx hb dX12_hangs_92 dX12_hangs_93 (by decide) hg_34.1 hg_34.2 (fun c_35 => ?_) (fun c_35 => ?_)
              · replace hM := ifp hM c_35
                refine lv_iinc (v := iI (v_13 + 1)) (lv' := [(6, .int (iI (v_13 + 1))), (7, .long (jJ r_32)), (5, .int (iI v_14)), (3, .long (jJ v_15)), (0, .ref (b + 80)), (1, .int (iI a1)), (2, .int (iI a2))]) hx hb dX12_hangs_103 hl (k := 1) rfl ((iI_add v_13 (1)).trans (congrArg iI (by omega))) (by decide) rfl (fun ls hl => ?_)
                refine lv_goto (tgt := 37) hx hb dX12_hangs_106 (by decide) ?_
                exact ih_22 (v_13 + 1) v_14 v_15 S_33 H locs ls hM hG (lv_sub hl [0, 2, 3, 4, 5, 6] rfl)
              · replace hM := ifn hM c_35
                refine lv_lload hx hb dX12_hangs_96 (lv_at hl 0 rfl) ?_
                refine lv_lstore_n (lv' := [(3, .long (jJ r_32)), (7, .long (jJ r_32)), (6, .int (iI v_13)), (5, .int (iI v_14)), (0, .ref (b + 80)), (1, .int (iI a1)), (2, .int (iI a2))]) hx hb dX12_hangs_98 rfl hl (by decide) rfl (fun ls hl => ?_)
                refine lv_iload hx hb dX12_hangs_99 (lv_at hl 2 rfl) ?_
                refine lv_istore (lv' := [(5, .int (iI v_13)), (3, .long (jJ r_32)), (7, .long (jJ r_32)), (6, .int (iI v_13)), (0, .ref (b + 80)), (1, .int (iI a1)), (2, .int (iI a2))]) hx hb dX12_hangs_101 hl (by decide) rfl (fun ls hl => ?_)
                refine lv_iinc (v := iI (v_13 + 1)) (lv' := [(6, .int (iI (v_13 + 1))), (5, .int (iI v_13)), (3, .long (jJ r_32)), (7, .long (jJ r_32)), (0, .ref (b + 80)), (1, .int (iI a1)), (2, .int (iI a2))]) hx hb dX12_hangs_103 hl (k := 3) rfl ((iI_add v_13 (1)).trans (congrArg iI (by omega))) (by decide) rfl (fun ls hl => ?_)
                refine lv_goto (tgt := 37) hx hb dX12_hangs_106 (by decide) ?_
                exact ih_22 (v_13 + 1) v_13 r_32 S_33 H locs ls hM hG (lv_sub hl [0, 1, 2, 4, 5, 6] rfl)
            · replace hM := ifp hM c_30
              refine lv_goto (tgt := 103) hx hb dX12_hangs_68 (by decide) ?_
              refine lv_iinc (v := iI (v_13 + 1)) (lv' := [(6, .int (iI (v_13 + 1))), (5, .int (iI v_14)), (3, .long (jJ v_15)), (0, .ref (b + 80)), (1, .int (iI a1)), (2, .int (iI a2))]) hx hb dX12_hangs_103 hl (k := 0) rfl ((iI_add v_13 (1)).trans (congrArg iI (by omega))) (by decide) rfl (fun ls hl => ?_)
              refine lv_goto (tgt := 37) hx hb dX12_hangs_106 (by decide) ?_
              exact ih_22 (v_13 + 1) v_14 v_15 S_16 H locs ls hM hG (lv_sub hl [0, 1, 2, 3, 4, 5] rfl)
      exact loop_21 FU 0 (-1) r_12 S_10 H locs ls hc_19 hG (lv_sub hl [0, 1, 2, 3, 4, 5] rfl)
    · replace hM := ifp hM c_8
      refine lv_bipush (v := iI (-2)) hx hb dX12_hangs_16 (by decide) ?_
      cases hM
      exact g_iret S hr hlk hG hsz dX12_hangs_18 ⟨Nat.le_of_ble_eq_true rfl, Nat.le_of_ble_eq_true rfl⟩ ⟨rfl, rfl⟩
def mX12_idle_75 (S_4 : St) (x_17 : Int) (x_16 : Int) (v_5 : Int) (v_6 : Int) : Nat → Int → Int → Option (Int)
  | 0, _, _ => none
  | f + 1, v_23, v_24 => gd ((inI v_23) ∧ (inI (S_4 84 1))) <| if (S_4 84 1) < v_23 then (some (v_24)) else (gd (inI v_24) <| if v_24 = 0 then (some (v_24)) else (bd1 (mX12_byTerm S_4 x_16 v_23 x_17) fun r_40 => gd (inL r_40) <| if r_40 = 0 then (mX12_idle_75 S_4 x_17 x_16 v_5 v_6 f (v_23 + 1) 1) else (mX12_idle_75 S_4 x_17 x_16 v_5 v_6 f (v_23 + 1) 0)))
def mX12_idle_21 (S_4 : St)  : Nat → Int → Int → Option (Int)
  | 0, _, _ => none
  | f + 1, v_5, v_6 => gd ((inI v_5) ∧ (inI ((S_4 84 0) * 10))) <| if ((S_4 84 0) * 10) ≤ v_5 then (some (v_6)) else (gd (0 ≤ v_5 ∧ v_5 ≤ 2147483647) <| nx (v_5 / 10) fun x_16 => nx (v_5 % 10) fun x_17 => bd1 (mX12_isTerm S_4 x_16 x_17) fun r_19 => bd1 (gd (inI r_19) <| if r_19 = 0 then (some (0)) else (bd1 (mX12_isOff S_4 x_16 x_17) fun r_46 => gd (inI r_46) <| if r_46 = 0 then (some (1)) else (some (0)))) fun z_20 => bd1 (mX12_idle_75 S_4 x_17 x_16 v_5 v_6 FU 0 z_20) fun y_25 => gd (inI y_25) <| if y_25 = 0 then (nx (v_6 + 0) fun x_30 => mX12_idle_21 S_4 f (v_5 + 1) x_30) else (nx (v_6 + 1) fun x_31 => mX12_idle_21 S_4 f (v_5 + 1) x_31))
def mX12_idle (S0 : St)  : Option (Int × St) := gd (inI (S0 84 3)) <| if (S0 84 3) = 0 then (some ((-2), S0)) else (bd1 (mX12_counts S0 (-1)) fun S_4 => bd1 (mX12_idle_21 S_4 FU 0 0) fun y_7 => some (y_7, S_4))
set_option maxHeartbeats 4000000 in
set_option maxRecDepth 100000 in
theorem vX12_idle (l : Launch) {D : va_G} {cy : Nat → ClassId} {b n : Nat} (hn : 102 ≤ n) {X : Nat → va_E} {S0 : St}  {o1 : Int} {o2 : St} (hM : mX12_idle S0  = some (o1, o2)) : gI l yX12_idle cX12_idle 7 (some .int) 6 0 0 D cy b n (enc b cy X S0) [.ref (b + 80)] (fun r u => r = iI o1 ∧ u = (n, enc b cy X o2)) := by
  refine gI_of (by decide) (Nat.le_of_ble_eq_true rfl) ?_
  intro p e s m args below meth c S hr hlk hin hsz ls hl hG
  have hx := S.1
  have hb := S.2.1
  have hl : lv_has ls 7 [(0, .ref (b + 80))] := hl
  replace hG : gW D cy b n s s.heap [] (enc b cy X S0) := hG
  obtain ⟨H, eH⟩ : ∃ H, H = s.heap := ⟨_, rfl⟩
  obtain ⟨locs, elocs⟩ : ∃ locs : List Loc, locs = [] := ⟨_, rfl⟩
  rw [← eH, ← elocs] at hG
  rw [← eH, ← elocs]
  clear eH elocs
  unfold mX12_idle at hM
  refine lv_aload_n hx hb dX12_idle_0 rfl (lv_at hl 0 rfl) ?_
  refine m_get S hG 80 83 0 rfl ec_83 cpX12 wm_1673 dX12_idle_1 rfl (Nat.lt_of_lt_of_le (Nat.le_of_ble_eq_true rfl) hn) (by decide) ?_
  refine lv_iconst (v := iI 3) hx hb dX12_idle_4 (by decide) ?_
  refine mi_ald S hG 81 84 rfl ec_84 (Nat.lt_of_lt_of_le (Nat.le_of_ble_eq_true rfl) hn) dX12_idle_5 (by decide) (by decide) ?_
  obtain ⟨hg_1, hM⟩ := gd_some hM
  refine gi_if_ne (tgt := 12) hx hb dX12_idle_6 (by decide) hg_1 (fun c_2 => ?_) (fun c_2 => ?_)
  · replace hM := ifn hM c_2
    refine lv_aload_n hx hb dX12_idle_12 rfl (lv_at hl 0 rfl) ?_
    refine lv_iconst (v := iI (-1)) hx hb dX12_idle_13 (by decide) ?_
    obtain ⟨S_4, hc_3, hM⟩ := bd1_some hM
    refine g_vv (As := [.int (iI (-1))]) (rest := []) S hG hsz (vX12_counts l hn (-1) hc_3) wV_12_324 (ec_83 _) cpX12 (Nat.lt_of_lt_of_le (Nat.le_of_ble_eq_true rfl) hn) dX12_idle_14 rfl hl.1 (ar := 1) (by decide +kernel) rfl ⟨Nat.le_of_ble_eq_true rfl, Nat.le_of_ble_eq_true rfl, Nat.le_of_ble_eq_true rfl, Nat.le_of_ble_eq_true rfl⟩ (Nat.le_of_ble_eq_true rfl) (fun uu H locs hp hG => ?_)
    obtain rfl := hp
    replace hG : gW D cy b n s H locs (enc b cy X S_4) := hG
    refine lv_iconst (v := iI 0) hx hb dX12_idle_17 (by decide) ?_
    refine lv_istore_n (lv' := [(1, .int (iI 0)), (0, .ref (b + 80))]) hx hb dX12_idle_18 rfl hl (by decide) rfl (fun ls hl => ?_)
    refine lv_iconst (v := iI 0) hx hb dX12_idle_19 (by decide) ?_
    refine lv_istore_n (lv' := [(2, .int (iI 0)), (1, .int (iI 0)), (0, .ref (b + 80))]) hx hb dX12_idle_20 rfl hl (by decide) rfl (fun ls hl => ?_)
    obtain ⟨y_7, hc_8, hM⟩ := bd1_some hM
    have hK_9 : ∀ (H : Heap) (locs : List Loc) (ls : Array Slot), gW D cy b n s H locs (enc b cy X S_4) → lv_has ls 7 [(1, .int (iI y_7))] → W p l e (gRm 6 0 0) s m args below meth c H locs 0 0 (gQI D cy b s args below 0 0 (fun r u => r = iI o1 ∧ u = (n, enc b cy X o2))) (F0 m 137 ls []) := by
      intro H locs ls hG hl
      refine lv_iload_n hx hb dX12_idle_137 rfl (lv_at hl 0 rfl) ?_
      cases hM
      exact g_iret S hr hlk hG hsz dX12_idle_138 ⟨Nat.le_of_ble_eq_true rfl, Nat.le_of_ble_eq_true rfl⟩ ⟨rfl, rfl⟩
    have loop_10 : ∀ (f : Nat) (v_5 : Int) (v_6 : Int) (H : Heap) (locs : List Loc) (ls : Array Slot), mX12_idle_21 S_4 f v_5 v_6 = some y_7 → gW D cy b n s H locs (enc b cy X S_4) → lv_has ls 7 [(2, .int (iI v_5)), (1, .int (iI v_6)), (0, .ref (b + 80))] → W p l e (gRm 6 0 0) s m args below meth c H locs 0 0 (gQI D cy b s args below 0 0 (fun r u => r = iI o1 ∧ u = (n, enc b cy X o2))) (F0 m 21 ls []) := by
      clear hM
      intro f
      induction f with
      | zero => intro v_5 v_6 H locs ls hM; rw [mX12_idle_21] at hM; cases hM
      | succ f_12 ih_11 =>
        intro v_5 v_6 H locs ls hM hG hl
        rw [mX12_idle_21] at hM
        refine lv_iload_n hx hb dX12_idle_21 rfl (lv_at hl 0 rfl) ?_
        refine lv_aload_n hx hb dX12_idle_22 rfl (lv_at hl 2 rfl) ?_
        refine m_get S hG 80 83 0 rfl ec_83 cpX12 wm_1673 dX12_idle_23 rfl (Nat.lt_of_lt_of_le (Nat.le_of_ble_eq_true rfl) hn) (by decide) ?_
        refine lv_iconst (v := iI 0) hx hb dX12_idle_26 (by decide) ?_
        refine mi_ald S hG 81 84 rfl ec_84 (Nat.lt_of_lt_of_le (Nat.le_of_ble_eq_true rfl) hn) dX12_idle_27 (by decide) (by decide) ?_
        refine lv_bipush (v := iI 10) hx hb dX12_idle_28 (by decide) ?_
        refine gi_mul hx hb dX12_idle_30 ?_
        obtain ⟨hg_13, hM⟩ := gd_some hM
        refine gi_icmp_ge (tgt := 137) hx hb dX12_idle_31 (by decide) hg_13.1 hg_13.2 (fun c_14 => ?_) (fun c_14 => ?_)
        · replace hM := ifp hM c_14
          cases hM
          exact hK_9 H locs ls hG (lv_sub hl [1] rfl)
        · replace hM := ifn hM c_14
          refine lv_iload_n hx hb dX12_idle_34 rfl (lv_at hl 0 rfl) ?_
          refine lv_bipush (v := iI 10) hx hb dX12_idle_35 (by decide) ?_
          obtain ⟨hg_15, hM⟩ := gd_some hM
          refine gi_div hx hb dX12_idle_37 hg_15 (by decide) ?_
          refine gi_nm (fun x_16 ex_16 => ?_)
          replace hM := nx_at hM ex_16
          clear ex_16
          refine lv_istore_n (lv' := [(3, .int (iI x_16)), (2, .int (iI v_5)), (1, .int (iI v_6)), (0, .ref (b + 80))]) hx hb dX12_idle_38 rfl hl (by decide) rfl (fun ls hl => ?_)
          refine lv_iload_n hx hb dX12_idle_39 rfl (lv_at hl 1 rfl) ?_
          refine lv_bipush (v := iI 10) hx hb dX12_idle_40 (by decide) ?_
          refine gi_rem hx hb dX12_idle_42 hg_15 (by decide) ?_
          refine gi_nm (fun x_17 ex_17 => ?_)
          replace hM := nx_at hM ex_17
          clear ex_17
          refine lv_istore (lv' := [(4, .int (iI x_17)), (3, .int (iI x_16)), (2, .int (iI v_5)), (1, .int (iI v_6)), (0, .ref (b + 80))]) hx hb dX12_idle_43 hl (by decide) rfl (fun ls hl => ?_)
          refine lv_aload_n hx hb dX12_idle_45 rfl (lv_at hl 4 rfl) ?_
          refine lv_iload_n hx hb dX12_idle_46 rfl (lv_at hl 1 rfl) ?_
          refine lv_iload hx hb dX12_idle_47 (lv_at hl 0 rfl) ?_
          obtain ⟨r_19, hc_18, hM⟩ := bd1_some hM
          refine g_vi (As := [.int (iI x_16), .int (iI x_17)]) (rest := []) S hG hsz (vX12_isTerm l hn x_16 x_17 hc_18) wV_12_344 (ec_83 _) cpX12 (Nat.lt_of_lt_of_le (Nat.le_of_ble_eq_true rfl) hn) dX12_idle_49 rfl hl.1 (ar := 2) (by decide +kernel) rfl ⟨Nat.le_of_ble_eq_true rfl, Nat.le_of_ble_eq_true rfl, Nat.le_of_ble_eq_true rfl, Nat.le_of_ble_eq_true rfl⟩ (Nat.le_of_ble_eq_true rfl) (fun rv uu H locs hp hG => ?_)
          obtain ⟨rfl, rfl⟩ := hp
          replace hG : gW D cy b n s H locs (enc b cy X S_4) := hG
          obtain ⟨z_20, hc_21, hM⟩ := bd1_some hM
          have hK_22 : ∀ (H : Heap) (locs : List Loc) (ls : Array Slot), gW D cy b n s H locs (enc b cy X S_4) → lv_has ls 7 [(4, .int (iI x_17)), (3, .int (iI x_16)), (2, .int (iI v_5)), (1, .int (iI v_6)), (0, .ref (b + 80))] → W p l e (gRm 6 0 0) s m args below meth c H locs 0 0 (gQI D cy b s args below 0 0 (fun r u => r = iI o1 ∧ u = (n, enc b cy X o2))) (F0 m 70 ls [.int (iI z_20)]) := by
            intro H locs ls hG hl
            refine lv_istore (lv' := [(5, .int (iI z_20)), (4, .int (iI x_17)), (3, .int (iI x_16)), (2, .int (iI v_5)), (1, .int (iI v_6)), (0, .ref (b + 80))]) hx hb dX12_idle_70 hl (by decide) rfl (fun ls hl => ?_)
            refine lv_iconst (v := iI 0) hx hb dX12_idle_72 (by decide) ?_
            refine lv_istore (lv' := [(6, .int (iI 0)), (5, .int (iI z_20)), (4, .int (iI x_17)), (3, .int (iI x_16)), (2, .int (iI v_5)), (1, .int (iI v_6)), (0, .ref (b + 80))]) hx hb dX12_idle_73 hl (by decide) rfl (fun ls hl => ?_)
            obtain ⟨y_25, hc_26, hM⟩ := bd1_some hM
            have hK_27 : ∀ (H : Heap) (locs : List Loc) (ls : Array Slot), gW D cy b n s H locs (enc b cy X S_4) → lv_has ls 7 [(2, .int (iI v_5)), (1, .int (iI v_6)), (0, .ref (b + 80)), (5, .int (iI y_25))] → W p l e (gRm 6 0 0) s m args below meth c H locs 0 0 (gQI D cy b s args below 0 0 (fun r u => r = iI o1 ∧ u = (n, enc b cy X o2))) (F0 m 118 ls []) := by
              intro H locs ls hG hl
              refine lv_iload_n hx hb dX12_idle_118 rfl (lv_at hl 1 rfl) ?_
              refine lv_iload hx hb dX12_idle_119 (lv_at hl 3 rfl) ?_
              obtain ⟨hg_28, hM⟩ := gd_some hM
              refine gi_if_eq (tgt := 128) hx hb dX12_idle_121 (by decide) hg_28 (fun c_29 => ?_) (fun c_29 => ?_)
              · replace hM := ifp hM c_29
                refine lv_iconst (v := iI 0) hx hb dX12_idle_128 (by decide) ?_
                refine gi_add hx hb dX12_idle_129 ?_
                refine gi_nm (fun x_30 ex_30 => ?_)
                replace hM := nx_at hM ex_30
                clear ex_30
                refine lv_istore_n (lv' := [(1, .int (iI x_30)), (2, .int (iI v_5)), (0, .ref (b + 80)), (5, .int (iI y_25))]) hx hb dX12_idle_130 rfl hl (by decide) rfl (fun ls hl => ?_)
                refine lv_iinc (v := iI (v_5 + 1)) (lv' := [(2, .int (iI (v_5 + 1))), (1, .int (iI x_30)), (0, .ref (b + 80)), (5, .int (iI y_25))]) hx hb dX12_idle_131 hl (k := 1) rfl ((iI_add v_5 (1)).trans (congrArg iI (by omega))) (by decide) rfl (fun ls hl => ?_)
                refine lv_goto (tgt := 21) hx hb dX12_idle_134 (by decide) ?_
                exact ih_11 (v_5 + 1) x_30 H locs ls hM hG (lv_sub hl [0, 1, 2] rfl)
              · replace hM := ifn hM c_29
                refine lv_iconst (v := iI 1) hx hb dX12_idle_124 (by decide) ?_
                refine lv_goto (tgt := 129) hx hb dX12_idle_125 (by decide) ?_
                refine gi_add hx hb dX12_idle_129 ?_
                refine gi_nm (fun x_31 ex_31 => ?_)
                replace hM := nx_at hM ex_31
                clear ex_31
                refine lv_istore_n (lv' := [(1, .int (iI x_31)), (2, .int (iI v_5)), (0, .ref (b + 80)), (5, .int (iI y_25))]) hx hb dX12_idle_130 rfl hl (by decide) rfl (fun ls hl => ?_)
                refine lv_iinc (v := iI (v_5 + 1)) (lv' := [(2, .int (iI (v_5 + 1))), (1, .int (iI x_31)), (0, .ref (b + 80)), (5, .int (iI y_25))]) hx hb dX12_idle_131 hl (k := 1) rfl ((iI_add v_5 (1)).trans (congrArg iI (by omega))) (by decide) rfl (fun ls hl => ?_)
                refine lv_goto (tgt := 21) hx hb dX12_idle_134 (by decide) ?_
                exact ih_11 (v_5 + 1) x_31 H locs ls hM hG (lv_sub hl [0, 1, 2] rfl)
            have loop_32 : ∀ (f : Nat) (v_23 : Int) (v_24 : Int) (H : Heap) (locs : List Loc) (ls : Array Slot), mX12_idle_75 S_4 x_17 x_16 v_5 v_6 f v_23 v_24 = some y_25 → gW D cy b n s H locs (enc b cy X S_4) → lv_has ls 7 [(6, .int (iI v_23)), (5, .int (iI v_24)), (4, .int (iI x_17)), (3, .int (iI x_16)), (2, .int (iI v_5)), (1, .int (iI v_6)), (0, .ref (b + 80))] → W p l e (gRm 6 0 0) s m args below meth c H locs 0 0 (gQI D cy b s args below 0 0 (fun r u => r = iI o1 ∧ u = (n, enc b cy X o2))) (F0 m 75 ls []) := by
              clear hM
              intro f
              induction f with
              | zero => intro v_23 v_24 H locs ls hM; rw [mX12_idle_75] at hM; cases hM
              | succ f_34 ih_33 =>
                intro v_23 v_24 H locs ls hM hG hl
                rw [mX12_idle_75] at hM
                refine lv_iload hx hb dX12_idle_75 (lv_at hl 0 rfl) ?_
                refine lv_aload_n hx hb dX12_idle_77 rfl (lv_at hl 6 rfl) ?_
                refine m_get S hG 80 83 0 rfl ec_83 cpX12 wm_1673 dX12_idle_78 rfl (Nat.lt_of_lt_of_le (Nat.le_of_ble_eq_true rfl) hn) (by decide) ?_
                refine lv_iconst (v := iI 1) hx hb dX12_idle_81 (by decide) ?_
                refine mi_ald S hG 81 84 rfl ec_84 (Nat.lt_of_lt_of_le (Nat.le_of_ble_eq_true rfl) hn) dX12_idle_82 (by decide) (by decide) ?_
                obtain ⟨hg_35, hM⟩ := gd_some hM
                refine gi_icmp_gt (tgt := 118) hx hb dX12_idle_83 (by decide) hg_35.1 hg_35.2 (fun c_36 => ?_) (fun c_36 => ?_)
                · replace hM := ifp hM c_36
                  cases hM
                  exact hK_27 H locs ls hG (lv_sub hl [4, 5, 6, 1] rfl)
                · replace hM := ifn hM c_36
                  refine lv_iload hx hb dX12_idle_86 (lv_at hl 1 rfl) ?_
                  obtain ⟨hg_37, hM⟩ := gd_some hM
                  refine gi_if_eq (tgt := 118) hx hb dX12_idle_88 (by decide) hg_37 (fun c_38 => ?_) (fun c_38 => ?_)
                  · replace hM := ifp hM c_38
                    cases hM
                    exact hK_27 H locs ls hG (lv_sub hl [4, 5, 6, 1] rfl)
                  · replace hM := ifn hM c_38
                    refine lv_aload_n hx hb dX12_idle_91 rfl (lv_at hl 6 rfl) ?_
                    refine lv_iload_n hx hb dX12_idle_92 rfl (lv_at hl 3 rfl) ?_
                    refine lv_iload hx hb dX12_idle_93 (lv_at hl 0 rfl) ?_
                    refine lv_iload hx hb dX12_idle_95 (lv_at hl 2 rfl) ?_
                    obtain ⟨r_40, hc_39, hM⟩ := bd1_some hM
                    refine g_vl (As := [.int (iI x_16), .int (iI v_23), .int (iI x_17)]) (rest := []) S hG hsz (vX12_byTerm l hn x_16 v_23 x_17 hc_39) wV_12_347 (ec_83 _) cpX12 (Nat.lt_of_lt_of_le (Nat.le_of_ble_eq_true rfl) hn) dX12_idle_97 rfl hl.1 (ar := 3) (by decide +kernel) rfl ⟨Nat.le_of_ble_eq_true rfl, Nat.le_of_ble_eq_true rfl, Nat.le_of_ble_eq_true rfl, Nat.le_of_ble_eq_true rfl⟩ (Nat.le_of_ble_eq_true rfl) (fun rv uu H locs hp hG => ?_)
                    obtain ⟨rfl, rfl⟩ := hp
                    replace hG : gW D cy b n s H locs (enc b cy X S_4) := hG
                    refine lv_lconst (v := jJ 0) hx hb dX12_idle_100 (by decide) ?_
                    obtain ⟨hg_41, hM⟩ := gd_some hM
                    refine gj_cmp_ne (tgt := 109) hx hb dX12_idle_101 dX12_idle_102 (by decide) hg_41 (by decide) (fun c_42 => ?_) (fun c_42 => ?_)
                    · replace hM := ifn hM c_42
                      refine lv_iconst (v := iI 0) hx hb dX12_idle_109 (by decide) ?_
                      refine lv_istore (lv' := [(5, .int (iI 0)), (6, .int (iI v_23)), (4, .int (iI x_17)), (3, .int (iI x_16)), (2, .int (iI v_5)), (1, .int (iI v_6)), (0, .ref (b + 80))]) hx hb dX12_idle_110 hl (by decide) rfl (fun ls hl => ?_)
                      refine lv_iinc (v := iI (v_23 + 1)) (lv' := [(6, .int (iI (v_23 + 1))), (5, .int (iI 0)), (4, .int (iI x_17)), (3, .int (iI x_16)), (2, .int (iI v_5)), (1, .int (iI v_6)), (0, .ref (b + 80))]) hx hb dX12_idle_112 hl (k := 1) rfl ((iI_add v_23 (1)).trans (congrArg iI (by omega))) (by decide) rfl (fun ls hl => ?_)
                      refine lv_goto (tgt := 75) hx hb dX12_idle_115 (by decide) ?_
                      exact ih_33 (v_23 + 1) 0 H locs ls hM hG (lv_sub hl [0, 1, 2, 3, 4, 5, 6] rfl)
                    · replace hM := ifp hM c_42
                      refine lv_iconst (v := iI 1) hx hb dX12_idle_105 (by decide) ?_
                      refine lv_goto (tgt := 110) hx hb dX12_idle_106 (by decide) ?_
                      refine lv_istore (lv' := [(5, .int (iI 1)), (6, .int (iI v_23)), (4, .int (iI x_17)), (3, .int (iI x_16)), (2, .int (iI v_5)), (1, .int (iI v_6)), (0, .ref (b + 80))]) hx hb dX12_idle_110 hl (by decide) rfl (fun ls hl => ?_)
                      refine lv_iinc (v := iI (v_23 + 1)) (lv' := [(6, .int (iI (v_23 + 1))), (5, .int (iI 1)), (4, .int (iI x_17)), (3, .int (iI x_16)), (2, .int (iI v_5)), (1, .int (iI v_6)), (0, .ref (b + 80))]) hx hb dX12_idle_112 hl (k := 1) rfl ((iI_add v_23 (1)).trans (congrArg iI (by omega))) (by decide) rfl (fun ls hl => ?_)
                      refine lv_goto (tgt := 75) hx hb dX12_idle_115 (by decide) ?_
                      exact ih_33 (v_23 + 1) 1 H locs ls hM hG (lv_sub hl [0, 1, 2, 3, 4, 5, 6] rfl)
            exact loop_32 FU 0 z_20 H locs ls hc_26 hG (lv_sub hl [0, 1, 2, 3, 4, 5, 6] rfl)
          clear hM
          replace hM := hc_21
          obtain ⟨hg_43, hM⟩ := gd_some hM
          refine gi_if_eq (tgt := 69) hx hb dX12_idle_52 (by decide) hg_43 (fun c_44 => ?_) (fun c_44 => ?_)
          · replace hM := ifp hM c_44
            refine lv_iconst (v := iI 0) hx hb dX12_idle_69 (by decide) ?_
            cases hM
            exact hK_22 H locs ls hG (lv_sub hl [0, 1, 2, 3, 4] rfl)
          · replace hM := ifn hM c_44
            refine lv_aload_n hx hb dX12_idle_55 rfl (lv_at hl 4 rfl) ?_
            refine lv_iload_n hx hb dX12_idle_56 rfl (lv_at hl 1 rfl) ?_
            refine lv_iload hx hb dX12_idle_57 (lv_at hl 0 rfl) ?_
            obtain ⟨r_46, hc_45, hM⟩ := bd1_some hM
            refine g_vi (As := [.int (iI x_16), .int (iI x_17)]) (rest := []) S hG hsz (vX12_isOff l hn x_16 x_17 hc_45) wV_12_231 (ec_83 _) cpX12 (Nat.lt_of_lt_of_le (Nat.le_of_ble_eq_true rfl) hn) dX12_idle_59 rfl hl.1 (ar := 2) (by decide +kernel) rfl ⟨Nat.le_of_ble_eq_true rfl, Nat.le_of_ble_eq_true rfl, Nat.le_of_ble_eq_true rfl, Nat.le_of_ble_eq_true rfl⟩ (Nat.le_of_ble_eq_true rfl) (fun rv uu H locs hp hG => ?_)
            obtain ⟨rfl, rfl⟩ := hp
            replace hG : gW D cy b n s H locs (enc b cy X S_4) := hG
            obtain ⟨hg_47, hM⟩ := gd_some hM
            refine gi_if_ne (tgt := 69) hx hb dX12_idle_62 (by decide) hg_47 (fun c_48 => ?_) (fun c_48 => ?_)
            · replace hM := ifn hM c_48
              refine lv_iconst (v := iI 0) hx hb dX12_idle_69 (by decide) ?_
              cases hM
              exact hK_22 H locs ls hG (lv_sub hl [0, 1, 2, 3, 4] rfl)
            · replace hM := ifp hM c_48
              refine lv_iconst (v := iI 1) hx hb dX12_idle_65 (by decide) ?_
              refine lv_goto (tgt := 70) hx hb dX12_idle_66 (by decide) ?_
              cases hM
              exact hK_22 H locs ls hG (lv_sub hl [0, 1, 2, 3, 4] rfl)
    exact loop_10 FU 0 0 H locs ls hc_8 hG (lv_sub hl [0, 1, 2] rfl)
  · replace hM := ifp hM c_2
    refine lv_bipush (v := iI (-2)) hx hb dX12_idle_9 (by decide) ?_
    cases hM
    exact g_iret S hr hlk hG hsz dX12_idle_11 ⟨Nat.le_of_ble_eq_true rfl, Nat.le_of_ble_eq_true rfl⟩ ⟨rfl, rfl⟩
def mX12_namedExpr_17 (S0 : St) (a1 : Int) (a2 : Int) : Nat → Int → Int → Int → Option (Int)
  | 0, _, _, _ => none
  | f + 1, v_3, v_4, v_5 => gd (inI v_3) <| if v_3 < 0 then (some (v_5)) else (bd1 (mX12_isOff S0 a1 v_4) fun r_15 => bd1 (gd (inI r_15) <| if r_15 = 0 then (gd (0 ≤ (120 + v_3) ∧ (120 + v_3) < 228) <| gd (0 ≤ (((S0 84 (120 + v_3)) * 8) + a2) ∧ (((S0 84 (120 + v_3)) * 8) + a2) < 192) <| some ((S0 94 (((S0 84 (120 + v_3)) * 8) + a2)))) else (some (0))) fun z_16 => bd1 (mX12_add v_5 z_16 1000000000000) fun r_20 => gd (0 ≤ (144 + v_3) ∧ (144 + v_3) < 228) <| nx (S0 84 (144 + v_3)) fun x_22 => mX12_namedExpr_17 S0 a1 a2 f x_22 (v_4 + 1) r_20)
def mX12_namedExpr (S0 : St) (a1 : Int) (a2 : Int) : Option (Int) := gd (0 ≤ (168 + a1) ∧ (168 + a1) < 228) <| nx (S0 84 (168 + a1)) fun x_2 => bd1 (mX12_namedExpr_17 S0 a1 a2 FU x_2 0 0) fun y_6 => some (y_6)
set_option maxHeartbeats 4000000 in
set_option maxRecDepth 100000 in
theorem vX12_namedExpr (l : Launch) {D : va_G} {cy : Nat → ClassId} {b n : Nat} (hn : 102 ≤ n) {X : Nat → va_E} {S0 : St} (a1 : Int) (a2 : Int) {o1 : Int} (hM : mX12_namedExpr S0 a1 a2 = some o1) : gL l yX12_namedExpr cX12_namedExpr 7 2 0 0 D cy b n (enc b cy X S0) [.ref (b + 80), .int (iI a1), .int (iI a2)] (fun r u => r = jJ o1 ∧ u = (n, enc b cy X S0)) := by
  refine gL_of (by decide) (Nat.le_of_ble_eq_true rfl) ?_
  intro p e s m args below meth c S hr hlk hin hsz ls hl hG
  have hx := S.1
  have hb := S.2.1
  have hl : lv_has ls 7 [(0, .ref (b + 80)), (1, .int (iI a1)), (2, .int (iI a2))] := hl
  replace hG : gW D cy b n s s.heap [] (enc b cy X S0) := hG
  obtain ⟨H, eH⟩ : ∃ H, H = s.heap := ⟨_, rfl⟩
  obtain ⟨locs, elocs⟩ : ∃ locs : List Loc, locs = [] := ⟨_, rfl⟩
  rw [← eH, ← elocs] at hG
  rw [← eH, ← elocs]
  clear eH elocs
  unfold mX12_namedExpr at hM
  refine lv_lconst (v := jJ 0) hx hb dX12_namedExpr_0 (by decide) ?_
  refine lv_lstore_n (lv' := [(3, .long (jJ 0)), (0, .ref (b + 80)), (1, .int (iI a1)), (2, .int (iI a2))]) hx hb dX12_namedExpr_1 rfl hl (by decide) rfl (fun ls hl => ?_)
  refine lv_iconst (v := iI 0) hx hb dX12_namedExpr_2 (by decide) ?_
  refine lv_istore (lv' := [(5, .int (iI 0)), (3, .long (jJ 0)), (0, .ref (b + 80)), (1, .int (iI a1)), (2, .int (iI a2))]) hx hb dX12_namedExpr_3 hl (by decide) rfl (fun ls hl => ?_)
  refine lv_aload_n hx hb dX12_namedExpr_5 rfl (lv_at hl 2 rfl) ?_
  refine m_get S hG 80 83 0 rfl ec_83 cpX12 wm_1673 dX12_namedExpr_6 rfl (Nat.lt_of_lt_of_le (Nat.le_of_ble_eq_true rfl) hn) (by decide) ?_
  refine lv_sipush (v := iI 168) hx hb dX12_namedExpr_9 (by decide) ?_
  refine lv_iload_n hx hb dX12_namedExpr_12 rfl (lv_at hl 3 rfl) ?_
  refine gi_add hx hb dX12_namedExpr_13 ?_
  obtain ⟨hg_1, hM⟩ := gd_some hM
  refine mi_ald S hG 81 84 rfl ec_84 (Nat.lt_of_lt_of_le (Nat.le_of_ble_eq_true rfl) hn) dX12_namedExpr_14 hg_1 (by decide) ?_
  refine gi_nm (fun x_2 ex_2 => ?_)
  replace hM := nx_at hM ex_2
  clear ex_2
  refine lv_istore (lv' := [(6, .int (iI x_2)), (5, .int (iI 0)), (3, .long (jJ 0)), (0, .ref (b + 80)), (1, .int (iI a1)), (2, .int (iI a2))]) hx hb dX12_namedExpr_15 hl (by decide) rfl (fun ls hl => ?_)
  obtain ⟨y_6, hc_7, hM⟩ := bd1_some hM
  have hK_8 : ∀ (H : Heap) (locs : List Loc) (ls : Array Slot), gW D cy b n s H locs (enc b cy X S0) → lv_has ls 7 [(3, .long (jJ y_6))] → W p l e (gRm 2 0 0) s m args below meth c H locs 0 0 (gQL D cy b s args below 0 0 (fun r u => r = jJ o1 ∧ u = (n, enc b cy X S0))) (F0 m 83 ls []) := by
    intro H locs ls hG hl
    refine lv_lload_n hx hb dX12_namedExpr_83 rfl (lv_at hl 0 rfl) ?_
    cases hM
    exact g_lret S hr hlk hG hsz dX12_namedExpr_84 ⟨Nat.le_of_ble_eq_true rfl, Nat.le_of_ble_eq_true rfl⟩ ⟨rfl, rfl⟩
  have loop_9 : ∀ (f : Nat) (v_3 : Int) (v_4 : Int) (v_5 : Int) (H : Heap) (locs : List Loc) (ls : Array Slot), mX12_namedExpr_17 S0 a1 a2 f v_3 v_4 v_5 = some y_6 → gW D cy b n s H locs (enc b cy X S0) → lv_has ls 7 [(6, .int (iI v_3)), (5, .int (iI v_4)), (3, .long (jJ v_5)), (0, .ref (b + 80)), (1, .int (iI a1)), (2, .int (iI a2))] → W p l e (gRm 2 0 0) s m args below meth c H locs 0 0 (gQL D cy b s args below 0 0 (fun r u => r = jJ o1 ∧ u = (n, enc b cy X S0))) (F0 m 17 ls []) := by
    clear hM
    intro f
    induction f with
    | zero => intro v_3 v_4 v_5 H locs ls hM; rw [mX12_namedExpr_17] at hM; cases hM
    | succ f_11 ih_10 =>
      intro v_3 v_4 v_5 H locs ls hM hG hl
      rw [mX12_namedExpr_17] at hM
      refine lv_iload hx hb dX12_namedExpr_17 (lv_at hl 0 rfl) ?_
      obtain ⟨hg_12, hM⟩ := gd_some hM
      refine gi_if_lt (tgt := 83) hx hb dX12_namedExpr_19 (by decide) hg_12 (fun c_13 => ?_) (fun c_13 => ?_)
      · replace hM := ifp hM c_13
        cases hM
        exact hK_8 H locs ls hG (lv_sub hl [2] rfl)
      · replace hM := ifn hM c_13
        refine lv_lload_n hx hb dX12_namedExpr_22 rfl (lv_at hl 2 rfl) ?_
        refine lv_aload_n hx hb dX12_namedExpr_23 rfl (lv_at hl 3 rfl) ?_
        refine lv_iload_n hx hb dX12_namedExpr_24 rfl (lv_at hl 4 rfl) ?_
        refine lv_iload hx hb dX12_namedExpr_25 (lv_at hl 1 rfl) ?_
        obtain ⟨r_15, hc_14, hM⟩ := bd1_some hM
        refine g_vi (As := [.int (iI a1), .int (iI v_4)]) (rest := [.long (jJ v_5)]) S hG hsz (vX12_isOff l hn a1 v_4 hc_14) wV_12_231 (ec_83 _) cpX12 (Nat.lt_of_lt_of_le (Nat.le_of_ble_eq_true rfl) hn) dX12_namedExpr_27 rfl hl.1 (ar := 2) (by decide +kernel) rfl ⟨Nat.le_of_ble_eq_true rfl, Nat.le_of_ble_eq_true rfl, Nat.le_of_ble_eq_true rfl, Nat.le_of_ble_eq_true rfl⟩ (Nat.le_of_ble_eq_true rfl) (fun rv uu H locs hp hG => ?_)
        obtain ⟨rfl, rfl⟩ := hp
        replace hG : gW D cy b n s H locs (enc b cy X S0) := hG
        obtain ⟨z_16, hc_17, hM⟩ := bd1_some hM
        have hK_18 : ∀ (H : Heap) (locs : List Loc) (ls : Array Slot), gW D cy b n s H locs (enc b cy X S0) → lv_has ls 7 [(6, .int (iI v_3)), (5, .int (iI v_4)), (0, .ref (b + 80)), (1, .int (iI a1)), (2, .int (iI a2))] → W p l e (gRm 2 0 0) s m args below meth c H locs 0 0 (gQL D cy b s args below 0 0 (fun r u => r = jJ o1 ∧ u = (n, enc b cy X S0))) (F0 m 57 ls [.long (jJ z_16), .long (jJ v_5)]) := by
          intro H locs ls hG hl
          refine lv_ldc2 (v := 1000000000000) hx hb S.2.2.2.1 (S.2.2.2.2 _ wm_2044) dX12_namedExpr_57 ?_
          refine gj_as 1000000000000 (by decide) ?_
          obtain ⟨r_20, hc_19, hM⟩ := bd1_some hM
          refine g_sl (As := [.long (jJ v_5), .long (jJ z_16), .long (jJ 1000000000000)]) (rest := []) S hG hsz (vX12_add l hn v_5 z_16 1000000000000 hc_19) wS_12_282 dX12_namedExpr_60 rfl hl.1 (ar := 3) (by decide +kernel) rfl ⟨Nat.le_of_ble_eq_true rfl, Nat.le_of_ble_eq_true rfl, Nat.le_of_ble_eq_true rfl, Nat.le_of_ble_eq_true rfl⟩ (Nat.le_of_ble_eq_true rfl) (fun rv uu H locs hp hG => ?_)
          obtain ⟨rfl, rfl⟩ := hp
          replace hG : gW D cy b n s H locs (enc b cy X S0) := hG
          refine lv_lstore_n (lv' := [(3, .long (jJ r_20)), (6, .int (iI v_3)), (5, .int (iI v_4)), (0, .ref (b + 80)), (1, .int (iI a1)), (2, .int (iI a2))]) hx hb dX12_namedExpr_63 rfl hl (by decide) rfl (fun ls hl => ?_)
          refine lv_iinc (v := iI (v_4 + 1)) (lv' := [(5, .int (iI (v_4 + 1))), (3, .long (jJ r_20)), (6, .int (iI v_3)), (0, .ref (b + 80)), (1, .int (iI a1)), (2, .int (iI a2))]) hx hb dX12_namedExpr_64 hl (k := 2) rfl ((iI_add v_4 (1)).trans (congrArg iI (by omega))) (by decide) rfl (fun ls hl => ?_)
          refine lv_aload_n hx hb dX12_namedExpr_67 rfl (lv_at hl 3 rfl) ?_
          refine m_get S hG 80 83 0 rfl ec_83 cpX12 wm_1673 dX12_namedExpr_68 rfl (Nat.lt_of_lt_of_le (Nat.le_of_ble_eq_true rfl) hn) (by decide) ?_
          refine lv_sipush (v := iI 144) hx hb dX12_namedExpr_71 (by decide) ?_
          refine lv_iload hx hb dX12_namedExpr_74 (lv_at hl 2 rfl) ?_
          refine gi_add hx hb dX12_namedExpr_76 ?_
          obtain ⟨hg_21, hM⟩ := gd_some hM
          refine mi_ald S hG 81 84 rfl ec_84 (Nat.lt_of_lt_of_le (Nat.le_of_ble_eq_true rfl) hn) dX12_namedExpr_77 hg_21 (by decide) ?_
          refine gi_nm (fun x_22 ex_22 => ?_)
          replace hM := nx_at hM ex_22
          clear ex_22
          refine lv_istore (lv' := [(6, .int (iI x_22)), (5, .int (iI (v_4 + 1))), (3, .long (jJ r_20)), (0, .ref (b + 80)), (1, .int (iI a1)), (2, .int (iI a2))]) hx hb dX12_namedExpr_78 hl (by decide) rfl (fun ls hl => ?_)
          refine lv_goto (tgt := 17) hx hb dX12_namedExpr_80 (by decide) ?_
          exact ih_10 x_22 (v_4 + 1) r_20 H locs ls hM hG (lv_sub hl [0, 1, 2, 3, 4, 5] rfl)
        clear hM
        replace hM := hc_17
        obtain ⟨hg_23, hM⟩ := gd_some hM
        refine gi_if_eq (tgt := 37) hx hb dX12_namedExpr_30 (by decide) hg_23 (fun c_24 => ?_) (fun c_24 => ?_)
        · replace hM := ifp hM c_24
          refine lv_aload_n hx hb dX12_namedExpr_37 rfl (lv_at hl 3 rfl) ?_
          refine m_get S hG 80 83 18 rfl ec_83 cpX12 wm_1691 dX12_namedExpr_38 rfl (Nat.lt_of_lt_of_le (Nat.le_of_ble_eq_true rfl) hn) (by decide) ?_
          refine lv_aload_n hx hb dX12_namedExpr_41 rfl (lv_at hl 3 rfl) ?_
          refine m_get S hG 80 83 0 rfl ec_83 cpX12 wm_1673 dX12_namedExpr_42 rfl (Nat.lt_of_lt_of_le (Nat.le_of_ble_eq_true rfl) hn) (by decide) ?_
          refine lv_bipush (v := iI 120) hx hb dX12_namedExpr_45 (by decide) ?_
          refine lv_iload hx hb dX12_namedExpr_47 (lv_at hl 0 rfl) ?_
          refine gi_add hx hb dX12_namedExpr_49 ?_
          obtain ⟨hg_25, hM⟩ := gd_some hM
          refine mi_ald S hG 81 84 rfl ec_84 (Nat.lt_of_lt_of_le (Nat.le_of_ble_eq_true rfl) hn) dX12_namedExpr_50 hg_25 (by decide) ?_
          refine lv_bipush (v := iI 8) hx hb dX12_namedExpr_51 (by decide) ?_
          refine gi_mul hx hb dX12_namedExpr_53 ?_
          refine lv_iload_n hx hb dX12_namedExpr_54 rfl (lv_at hl 5 rfl) ?_
          refine gi_add hx hb dX12_namedExpr_55 ?_
          obtain ⟨hg_26, hM⟩ := gd_some hM
          refine mj_ald S hG 91 94 rfl ec_94 (Nat.lt_of_lt_of_le (Nat.le_of_ble_eq_true rfl) hn) dX12_namedExpr_56 hg_26 (by decide) ?_
          cases hM
          exact hK_18 H locs ls hG (lv_sub hl [0, 1, 3, 4, 5] rfl)
        · replace hM := ifn hM c_24
          refine lv_lconst (v := jJ 0) hx hb dX12_namedExpr_33 (by decide) ?_
          refine lv_goto (tgt := 57) hx hb dX12_namedExpr_34 (by decide) ?_
          cases hM
          exact hK_18 H locs ls hG (lv_sub hl [0, 1, 3, 4, 5] rfl)
  exact loop_9 FU x_2 0 0 H locs ls hc_7 hG (lv_sub hl [0, 1, 2, 3, 4, 5] rfl)
theorem wS_12_362 : gWS "GrownKindsModel" 362 yX12_ofAll cX12_ofAll 5 (some .long) := ⟨wm_2164, wm_2165, wm_188, wm_2166, by decide +kernel, by decide +kernel⟩
def mX12_namesRest_34 (S0 : St) (x_2 : Int) (a1 : Int) (a2 : Int) : Nat → Int → Int → Option (Int)
  | 0, _, _ => none
  | f + 1, v_6, v_7 => gd ((inI v_6) ∧ (inI a2)) <| if a2 < v_6 then (some (v_7)) else (gd (inI x_2) <| if x_2 < 0 then (some (v_7)) else (gd (0 ≤ ((a1 * 8) + v_6) ∧ ((a1 * 8) + v_6) < 240) <| gd (0 ≤ (((x_2 * 8) + a2) - v_6) ∧ (((x_2 * 8) + a2) - v_6) < 192) <| bd1 (mX12_mul (S0 93 ((a1 * 8) + v_6)) (S0 94 (((x_2 * 8) + a2) - v_6)) 1000000000000) fun r_23 => bd1 (mX12_ofAll a2 v_6) fun r_25 => bd1 (mX12_mul r_25 r_23 1000000000000) fun r_27 => bd1 (mX12_add v_7 r_27 1000000000000) fun r_29 => mX12_namesRest_34 S0 x_2 a1 a2 f (v_6 + 1) r_29))
def mX12_namesRest (S0 : St) (a1 : Int) (a2 : Int) : Option (St) := gd (0 ≤ (96 + a1) ∧ (96 + a1) < 228) <| nx (S0 84 (96 + a1)) fun x_2 => bd1 (gd (inI x_2) <| if 0 ≤ x_2 then (some (0)) else (gd (0 ≤ ((a1 * 8) + a2) ∧ ((a1 * 8) + a2) < 240) <| some ((S0 93 ((a1 * 8) + a2))))) fun z_3 => bd1 (mX12_namesRest_34 S0 x_2 a1 a2 FU 0 z_3) fun y_8 => gd (0 ≤ ((a1 * 8) + a2) ∧ ((a1 * 8) + a2) < 192) <| nx (up S0 94 ((a1 * 8) + a2) y_8) fun S_12 => some (S_12)
set_option maxHeartbeats 4000000 in
set_option maxRecDepth 100000 in
theorem vX12_namesRest (l : Launch) {D : va_G} {cy : Nat → ClassId} {b n : Nat} (hn : 102 ≤ n) {X : Nat → va_E} {S0 : St} (a1 : Int) (a2 : Int) {o1 : St} (hM : mX12_namesRest S0 a1 a2 = some o1) : gV l yX12_namesRest cX12_namesRest 9 2 0 0 D cy b n (enc b cy X S0) [.ref (b + 80), .int (iI a1), .int (iI a2)] (fun u => u = (n, enc b cy X o1)) := by
  refine gV_of (by decide) (Nat.le_of_ble_eq_true rfl) ?_
  intro p e s m args below meth c S hr hlk hin hsz ls hl hG
  have hx := S.1
  have hb := S.2.1
  have hl : lv_has ls 9 [(0, .ref (b + 80)), (1, .int (iI a1)), (2, .int (iI a2))] := hl
  replace hG : gW D cy b n s s.heap [] (enc b cy X S0) := hG
  obtain ⟨H, eH⟩ : ∃ H, H = s.heap := ⟨_, rfl⟩
  obtain ⟨locs, elocs⟩ : ∃ locs : List Loc, locs = [] := ⟨_, rfl⟩
  rw [← eH, ← elocs] at hG
  rw [← eH, ← elocs]
  clear eH elocs
  unfold mX12_namesRest at hM
  refine lv_aload_n hx hb dX12_namesRest_0 rfl (lv_at hl 0 rfl) ?_
  refine m_get S hG 80 83 0 rfl ec_83 cpX12 wm_1673 dX12_namesRest_1 rfl (Nat.lt_of_lt_of_le (Nat.le_of_ble_eq_true rfl) hn) (by decide) ?_
  refine lv_bipush (v := iI 96) hx hb dX12_namesRest_4 (by decide) ?_
  refine lv_iload_n hx hb dX12_namesRest_6 rfl (lv_at hl 1 rfl) ?_
  refine gi_add hx hb dX12_namesRest_7 ?_
  obtain ⟨hg_1, hM⟩ := gd_some hM
  refine mi_ald S hG 81 84 rfl ec_84 (Nat.lt_of_lt_of_le (Nat.le_of_ble_eq_true rfl) hn) dX12_namesRest_8 hg_1 (by decide) ?_
  refine gi_nm (fun x_2 ex_2 => ?_)
  replace hM := nx_at hM ex_2
  clear ex_2
  refine lv_istore_n (lv' := [(3, .int (iI x_2)), (0, .ref (b + 80)), (1, .int (iI a1)), (2, .int (iI a2))]) hx hb dX12_namesRest_9 rfl hl (by decide) rfl (fun ls hl => ?_)
  refine lv_iload_n hx hb dX12_namesRest_10 rfl (lv_at hl 0 rfl) ?_
  obtain ⟨z_3, hc_4, hM⟩ := bd1_some hM
  have hK_5 : ∀ (H : Heap) (locs : List Loc) (ls : Array Slot), gW D cy b n s H locs (enc b cy X S0) → lv_has ls 9 [(3, .int (iI x_2)), (0, .ref (b + 80)), (1, .int (iI a1)), (2, .int (iI a2))] → W p l e (gRm 2 0 0) s m args below meth c H locs 0 0 (gQV D cy b s args below 0 0 (fun u => u = (n, enc b cy X o1))) (F0 m 29 ls [.long (jJ z_3)]) := by
    intro H locs ls hG hl
    refine lv_lstore (lv' := [(4, .long (jJ z_3)), (3, .int (iI x_2)), (0, .ref (b + 80)), (1, .int (iI a1)), (2, .int (iI a2))]) hx hb dX12_namesRest_29 hl (by decide) rfl (fun ls hl => ?_)
    refine lv_iconst (v := iI 0) hx hb dX12_namesRest_31 (by decide) ?_
    refine lv_istore (lv' := [(6, .int (iI 0)), (4, .long (jJ z_3)), (3, .int (iI x_2)), (0, .ref (b + 80)), (1, .int (iI a1)), (2, .int (iI a2))]) hx hb dX12_namesRest_32 hl (by decide) rfl (fun ls hl => ?_)
    obtain ⟨y_8, hc_9, hM⟩ := bd1_some hM
    have hK_10 : ∀ (H : Heap) (locs : List Loc) (ls : Array Slot), gW D cy b n s H locs (enc b cy X S0) → lv_has ls 9 [(0, .ref (b + 80)), (1, .int (iI a1)), (2, .int (iI a2)), (4, .long (jJ y_8))] → W p l e (gRm 2 0 0) s m args below meth c H locs 0 0 (gQV D cy b s args below 0 0 (fun u => u = (n, enc b cy X o1))) (F0 m 108 ls []) := by
      intro H locs ls hG hl
      refine lv_aload_n hx hb dX12_namesRest_108 rfl (lv_at hl 0 rfl) ?_
      refine m_get S hG 80 83 18 rfl ec_83 cpX12 wm_1691 dX12_namesRest_109 rfl (Nat.lt_of_lt_of_le (Nat.le_of_ble_eq_true rfl) hn) (by decide) ?_
      refine lv_iload_n hx hb dX12_namesRest_112 rfl (lv_at hl 1 rfl) ?_
      refine lv_bipush (v := iI 8) hx hb dX12_namesRest_113 (by decide) ?_
      refine gi_mul hx hb dX12_namesRest_115 ?_
      refine lv_iload_n hx hb dX12_namesRest_116 rfl (lv_at hl 2 rfl) ?_
      refine gi_add hx hb dX12_namesRest_117 ?_
      refine lv_lload hx hb dX12_namesRest_118 (lv_at hl 3 rfl) ?_
      obtain ⟨hg_11, hM⟩ := gd_some hM
      refine mj_ast S hG 91 94 rfl ec_94 (Nat.lt_of_lt_of_le (Nat.le_of_ble_eq_true rfl) hn) dX12_namesRest_120 hg_11 (by decide) (fun H locs S_12 eS_12 hG => ?_)
      replace hM := nx_at hM eS_12
      clear eS_12
      cases hM
      exact g_vret S hr hlk hG hsz dX12_namesRest_121 ⟨Nat.le_of_ble_eq_true rfl, Nat.le_of_ble_eq_true rfl⟩ rfl
    have loop_13 : ∀ (f : Nat) (v_6 : Int) (v_7 : Int) (H : Heap) (locs : List Loc) (ls : Array Slot), mX12_namesRest_34 S0 x_2 a1 a2 f v_6 v_7 = some y_8 → gW D cy b n s H locs (enc b cy X S0) → lv_has ls 9 [(6, .int (iI v_6)), (4, .long (jJ v_7)), (3, .int (iI x_2)), (0, .ref (b + 80)), (1, .int (iI a1)), (2, .int (iI a2))] → W p l e (gRm 2 0 0) s m args below meth c H locs 0 0 (gQV D cy b s args below 0 0 (fun u => u = (n, enc b cy X o1))) (F0 m 34 ls []) := by
      clear hM
      intro f
      induction f with
      | zero => intro v_6 v_7 H locs ls hM; rw [mX12_namesRest_34] at hM; cases hM
      | succ f_15 ih_14 =>
        intro v_6 v_7 H locs ls hM hG hl
        rw [mX12_namesRest_34] at hM
        refine lv_iload hx hb dX12_namesRest_34 (lv_at hl 0 rfl) ?_
        refine lv_iload_n hx hb dX12_namesRest_36 rfl (lv_at hl 5 rfl) ?_
        obtain ⟨hg_16, hM⟩ := gd_some hM
        refine gi_icmp_gt (tgt := 108) hx hb dX12_namesRest_37 (by decide) hg_16.1 hg_16.2 (fun c_17 => ?_) (fun c_17 => ?_)
        · replace hM := ifp hM c_17
          cases hM
          exact hK_10 H locs ls hG (lv_sub hl [3, 4, 5, 1] rfl)
        · replace hM := ifn hM c_17
          refine lv_iload_n hx hb dX12_namesRest_40 rfl (lv_at hl 2 rfl) ?_
          obtain ⟨hg_18, hM⟩ := gd_some hM
          refine gi_if_lt (tgt := 108) hx hb dX12_namesRest_41 (by decide) hg_18 (fun c_19 => ?_) (fun c_19 => ?_)
          · replace hM := ifp hM c_19
            cases hM
            exact hK_10 H locs ls hG (lv_sub hl [3, 4, 5, 1] rfl)
          · replace hM := ifn hM c_19
            refine lv_aload_n hx hb dX12_namesRest_44 rfl (lv_at hl 3 rfl) ?_
            refine m_get S hG 80 83 17 rfl ec_83 cpX12 wm_1690 dX12_namesRest_45 rfl (Nat.lt_of_lt_of_le (Nat.le_of_ble_eq_true rfl) hn) (by decide) ?_
            refine lv_iload_n hx hb dX12_namesRest_48 rfl (lv_at hl 4 rfl) ?_
            refine lv_bipush (v := iI 8) hx hb dX12_namesRest_49 (by decide) ?_
            refine gi_mul hx hb dX12_namesRest_51 ?_
            refine lv_iload hx hb dX12_namesRest_52 (lv_at hl 0 rfl) ?_
            refine gi_add hx hb dX12_namesRest_54 ?_
            obtain ⟨hg_20, hM⟩ := gd_some hM
            refine mj_ald S hG 90 93 rfl ec_93 (Nat.lt_of_lt_of_le (Nat.le_of_ble_eq_true rfl) hn) dX12_namesRest_55 hg_20 (by decide) ?_
            refine lv_aload_n hx hb dX12_namesRest_56 rfl (lv_at hl 3 rfl) ?_
            refine m_get S hG 80 83 18 rfl ec_83 cpX12 wm_1691 dX12_namesRest_57 rfl (Nat.lt_of_lt_of_le (Nat.le_of_ble_eq_true rfl) hn) (by decide) ?_
            refine lv_iload_n hx hb dX12_namesRest_60 rfl (lv_at hl 2 rfl) ?_
            refine lv_bipush (v := iI 8) hx hb dX12_namesRest_61 (by decide) ?_
            refine gi_mul hx hb dX12_namesRest_63 ?_
            refine lv_iload_n hx hb dX12_namesRest_64 rfl (lv_at hl 5 rfl) ?_
            refine gi_add hx hb dX12_namesRest_65 ?_
            refine lv_iload hx hb dX12_namesRest_66 (lv_at hl 0 rfl) ?_
            refine gi_sub hx hb dX12_namesRest_68 ?_
            obtain ⟨hg_21, hM⟩ := gd_some hM
            refine mj_ald S hG 91 94 rfl ec_94 (Nat.lt_of_lt_of_le (Nat.le_of_ble_eq_true rfl) hn) dX12_namesRest_69 hg_21 (by decide) ?_
            refine lv_ldc2 (v := 1000000000000) hx hb S.2.2.2.1 (S.2.2.2.2 _ wm_2044) dX12_namesRest_70 ?_
            refine gj_as 1000000000000 (by decide) ?_
            obtain ⟨r_23, hc_22, hM⟩ := bd1_some hM
            refine g_sl (As := [.long (jJ (S0 93 ((a1 * 8) + v_6))), .long (jJ (S0 94 (((x_2 * 8) + a2) - v_6))), .long (jJ 1000000000000)]) (rest := []) S hG hsz (vX12_mul l hn (S0 93 ((a1 * 8) + v_6)) (S0 94 (((x_2 * 8) + a2) - v_6)) 1000000000000 hc_22) wS_12_286 dX12_namesRest_73 rfl hl.1 (ar := 3) (by decide +kernel) rfl ⟨Nat.le_of_ble_eq_true rfl, Nat.le_of_ble_eq_true rfl, Nat.le_of_ble_eq_true rfl, Nat.le_of_ble_eq_true rfl⟩ (Nat.le_of_ble_eq_true rfl) (fun rv uu H locs hp hG => ?_)
            obtain ⟨rfl, rfl⟩ := hp
            replace hG : gW D cy b n s H locs (enc b cy X S0) := hG
            refine lv_lstore (lv' := [(7, .long (jJ r_23)), (6, .int (iI v_6)), (4, .long (jJ v_7)), (3, .int (iI x_2)), (0, .ref (b + 80)), (1, .int (iI a1)), (2, .int (iI a2))]) hx hb dX12_namesRest_76 hl (by decide) rfl (fun ls hl => ?_)
            refine lv_lload hx hb dX12_namesRest_78 (lv_at hl 2 rfl) ?_
            refine lv_iload_n hx hb dX12_namesRest_80 rfl (lv_at hl 6 rfl) ?_
            refine lv_iload hx hb dX12_namesRest_81 (lv_at hl 1 rfl) ?_
            obtain ⟨r_25, hc_24, hM⟩ := bd1_some hM
            refine g_sl (As := [.int (iI a2), .int (iI v_6)]) (rest := [.long (jJ v_7)]) S hG hsz (vX12_ofAll l hn a2 v_6 hc_24) wS_12_362 dX12_namesRest_83 rfl hl.1 (ar := 2) (by decide +kernel) rfl ⟨Nat.le_of_ble_eq_true rfl, Nat.le_of_ble_eq_true rfl, Nat.le_of_ble_eq_true rfl, Nat.le_of_ble_eq_true rfl⟩ (Nat.le_of_ble_eq_true rfl) (fun rv uu H locs hp hG => ?_)
            obtain ⟨rfl, rfl⟩ := hp
            replace hG : gW D cy b n s H locs (enc b cy X S0) := hG
            refine lv_lload hx hb dX12_namesRest_86 (lv_at hl 0 rfl) ?_
            refine lv_ldc2 (v := 1000000000000) hx hb S.2.2.2.1 (S.2.2.2.2 _ wm_2044) dX12_namesRest_88 ?_
            refine gj_as 1000000000000 (by decide) ?_
            obtain ⟨r_27, hc_26, hM⟩ := bd1_some hM
            refine g_sl (As := [.long (jJ r_25), .long (jJ r_23), .long (jJ 1000000000000)]) (rest := [.long (jJ v_7)]) S hG hsz (vX12_mul l hn r_25 r_23 1000000000000 hc_26) wS_12_286 dX12_namesRest_91 rfl hl.1 (ar := 3) (by decide +kernel) rfl ⟨Nat.le_of_ble_eq_true rfl, Nat.le_of_ble_eq_true rfl, Nat.le_of_ble_eq_true rfl, Nat.le_of_ble_eq_true rfl⟩ (Nat.le_of_ble_eq_true rfl) (fun rv uu H locs hp hG => ?_)
            obtain ⟨rfl, rfl⟩ := hp
            replace hG : gW D cy b n s H locs (enc b cy X S0) := hG
            refine lv_ldc2 (v := 1000000000000) hx hb S.2.2.2.1 (S.2.2.2.2 _ wm_2044) dX12_namesRest_94 ?_
            refine gj_as 1000000000000 (by decide) ?_
            obtain ⟨r_29, hc_28, hM⟩ := bd1_some hM
            refine g_sl (As := [.long (jJ v_7), .long (jJ r_27), .long (jJ 1000000000000)]) (rest := []) S hG hsz (vX12_add l hn v_7 r_27 1000000000000 hc_28) wS_12_282 dX12_namesRest_97 rfl hl.1 (ar := 3) (by decide +kernel) rfl ⟨Nat.le_of_ble_eq_true rfl, Nat.le_of_ble_eq_true rfl, Nat.le_of_ble_eq_true rfl, Nat.le_of_ble_eq_true rfl⟩ (Nat.le_of_ble_eq_true rfl) (fun rv uu H locs hp hG => ?_)
            obtain ⟨rfl, rfl⟩ := hp
            replace hG : gW D cy b n s H locs (enc b cy X S0) := hG
            refine lv_lstore (lv' := [(4, .long (jJ r_29)), (7, .long (jJ r_23)), (6, .int (iI v_6)), (3, .int (iI x_2)), (0, .ref (b + 80)), (1, .int (iI a1)), (2, .int (iI a2))]) hx hb dX12_namesRest_100 hl (by decide) rfl (fun ls hl => ?_)
            refine lv_iinc (v := iI (v_6 + 1)) (lv' := [(6, .int (iI (v_6 + 1))), (4, .long (jJ r_29)), (7, .long (jJ r_23)), (3, .int (iI x_2)), (0, .ref (b + 80)), (1, .int (iI a1)), (2, .int (iI a2))]) hx hb dX12_namesRest_102 hl (k := 2) rfl ((iI_add v_6 (1)).trans (congrArg iI (by omega))) (by decide) rfl (fun ls hl => ?_)
            refine lv_goto (tgt := 34) hx hb dX12_namesRest_105 (by decide) ?_
            exact ih_14 (v_6 + 1) r_29 H locs ls hM hG (lv_sub hl [0, 1, 3, 4, 5, 6] rfl)
    exact loop_13 FU 0 z_3 H locs ls hc_9 hG (lv_sub hl [0, 1, 2, 3, 4, 5] rfl)
  clear hM
  replace hM := hc_4
  obtain ⟨hg_30, hM⟩ := gd_some hM
  refine gi_if_ge (tgt := 28) hx hb dX12_namesRest_11 (by decide) hg_30 (fun c_31 => ?_) (fun c_31 => ?_)
  · replace hM := ifp hM c_31
    refine lv_lconst (v := jJ 0) hx hb dX12_namesRest_28 (by decide) ?_
    cases hM
    exact hK_5 H locs ls hG (lv_sub hl [0, 1, 2, 3] rfl)
  · replace hM := ifn hM c_31
    refine lv_aload_n hx hb dX12_namesRest_14 rfl (lv_at hl 1 rfl) ?_
    refine m_get S hG 80 83 17 rfl ec_83 cpX12 wm_1690 dX12_namesRest_15 rfl (Nat.lt_of_lt_of_le (Nat.le_of_ble_eq_true rfl) hn) (by decide) ?_
    refine lv_iload_n hx hb dX12_namesRest_18 rfl (lv_at hl 2 rfl) ?_
    refine lv_bipush (v := iI 8) hx hb dX12_namesRest_19 (by decide) ?_
    refine gi_mul hx hb dX12_namesRest_21 ?_
    refine lv_iload_n hx hb dX12_namesRest_22 rfl (lv_at hl 3 rfl) ?_
    refine gi_add hx hb dX12_namesRest_23 ?_
    obtain ⟨hg_32, hM⟩ := gd_some hM
    refine mj_ald S hG 90 93 rfl ec_93 (Nat.lt_of_lt_of_le (Nat.le_of_ble_eq_true rfl) hn) dX12_namesRest_24 hg_32 (by decide) ?_
    refine lv_goto (tgt := 29) hx hb dX12_namesRest_25 (by decide) ?_
    cases hM
    exact hK_5 H locs ls hG (lv_sub hl [0, 1, 2, 3] rfl)
theorem wS_12_368 : gWS "GrownKindsModel" 368 yX12_factorial cX12_factorial 4 (some .long) := ⟨wm_2167, wm_2168, wm_188, wm_2169, by decide +kernel, by decide +kernel⟩
def mX12_namedIn_185 (S_9 : St) (a1 : Int) (a2 : Int) (a4 : Int) : Nat → Int → Int → Option (Int)
  | 0, _, _ => none
  | f + 1, v_15, v_16 => gd ((inI v_15) ∧ (inI a4)) <| if a4 < v_15 then (some (v_16)) else (bd1 (gd (inI a1) <| if a1 = 3 then (some (1)) else (if a1 = 6 then (some (v_15)) else (bd1 (mX12_factorial v_15) fun r_47 => some (r_47)))) fun z_25 => gd (inI a2) <| if a2 = 0 then (gd (0 ≤ ((v_15 * 8) + a4) ∧ ((v_15 * 8) + a4) < 64) <| gd ((0 ≤ (S_9 95 ((v_15 * 8) + a4)) ∧ (S_9 95 ((v_15 * 8) + a4)) ≤ 9223372036854775807) ∧ (0 < z_25 ∧ z_25 ≤ 9223372036854775807)) <| gd (inL ((S_9 95 ((v_15 * 8) + a4)) / z_25)) <| bd1 (mX12_add v_16 (min 1000000000000 ((S_9 95 ((v_15 * 8) + a4)) / z_25)) 1000000000000) fun r_34 => mX12_namedIn_185 S_9 a1 a2 a4 f (v_15 + 1) r_34) else (if a2 = v_15 then (gd (0 ≤ ((v_15 * 8) + a4) ∧ ((v_15 * 8) + a4) < 64) <| gd ((0 ≤ (S_9 95 ((v_15 * 8) + a4)) ∧ (S_9 95 ((v_15 * 8) + a4)) ≤ 9223372036854775807) ∧ (0 < z_25 ∧ z_25 ≤ 9223372036854775807)) <| gd (inL ((S_9 95 ((v_15 * 8) + a4)) / z_25)) <| bd1 (mX12_add v_16 (min 1000000000000 ((S_9 95 ((v_15 * 8) + a4)) / z_25)) 1000000000000) fun r_42 => mX12_namedIn_185 S_9 a1 a2 a4 f (v_15 + 1) r_42) else (bd1 (mX12_add v_16 0 1000000000000) fun r_37 => mX12_namedIn_185 S_9 a1 a2 a4 f (v_15 + 1) r_37)))
def mX12_namedIn_61 (S_56 : St) (v_55 : Int) (v_7 : Int) (a1 : Int) (a2 : Int) (a3 : Int) (a4 : Int) : Nat → Int → Int → Option (Int)
  | 0, _, _ => none
  | f + 1, v_65, v_66 => gd ((inI v_65) ∧ (inI ((v_55 - v_7) + 1))) <| if ((v_55 - v_7) + 1) < v_65 then (some (v_66)) else (gd (0 ≤ ((a3 * 8) + v_65) ∧ ((a3 * 8) + v_65) < 240) <| gd (0 ≤ ((((v_7 - 1) * 8) + v_55) - v_65) ∧ ((((v_7 - 1) * 8) + v_55) - v_65) < 64) <| bd1 (mX12_mul (S_56 93 ((a3 * 8) + v_65)) (S_56 95 ((((v_7 - 1) * 8) + v_55) - v_65)) 100000000000000000) fun r_80 => bd1 (mX12_ofAll v_55 v_65) fun r_82 => bd1 (mX12_mul r_82 r_80 100000000000000000) fun r_84 => bd1 (mX12_add v_66 r_84 100000000000000000) fun r_86 => mX12_namedIn_61 S_56 v_55 v_7 a1 a2 a3 a4 f (v_65 + 1) r_86)
def mX12_namedIn_48 (v_7 : Int) (a1 : Int) (a2 : Int) (a3 : Int) (a4 : Int) : Nat → Int → St → Option (St)
  | 0, _, _ => none
  | f + 1, v_55, S_56 => gd (inI v_55) <| if a4 < v_55 then (some (S_56)) else (bd1 (mX12_namedIn_61 S_56 v_55 v_7 a1 a2 a3 a4 FU 1 0) fun y_67 => gd (0 ≤ ((v_7 * 8) + v_55) ∧ ((v_7 * 8) + v_55) < 64) <| nx (up S_56 95 ((v_7 * 8) + v_55) y_67) fun S_71 => mX12_namedIn_48 v_7 a1 a2 a3 a4 f (v_55 + 1) S_71)
def mX12_namedIn_37 (a1 : Int) (a2 : Int) (a3 : Int) (a4 : Int) : Nat → Int → St → Option (St)
  | 0, _, _ => none
  | f + 1, v_7, S_8 => gd ((inI v_7) ∧ (inI a4)) <| if a4 < v_7 then (some (S_8)) else (bd1 (mX12_namedIn_48 v_7 a1 a2 a3 a4 FU v_7 S_8) fun S_57 => mX12_namedIn_37 a1 a2 a3 a4 f (v_7 + 1) S_57)
def mX12_namedIn_3 (a1 : Int) (a2 : Int) (a3 : Int) (a4 : Int) : Nat → Int → St → Option (St)
  | 0, _, _ => none
  | f + 1, v_1, S_2 => gd (inI v_1) <| if 64 ≤ v_1 then (some (S_2)) else (gd (0 ≤ v_1 ∧ v_1 < 64) <| nx (up S_2 95 v_1 0) fun S_93 => mX12_namedIn_3 a1 a2 a3 a4 f (v_1 + 1) S_93)
def mX12_namedIn (S0 : St) (a1 : Int) (a2 : Int) (a3 : Int) (a4 : Int) : Option (Int × St) := bd1 (mX12_namedIn_3 a1 a2 a3 a4 FU 0 S0) fun S_3 => nx (up S_3 95 0 1) fun S_6 => bd1 (mX12_namedIn_37 a1 a2 a3 a4 FU 1 S_6) fun S_9 => bd1 (gd (inI a1) <| if a1 = 6 then (some (1)) else (some (0))) fun z_12 => bd1 (mX12_namedIn_185 S_9 a1 a2 a4 FU z_12 0) fun y_17 => some (y_17, S_9)
set_option maxHeartbeats 4000000 in
set_option maxRecDepth 100000 in
theorem vX12_namedIn (l : Launch) {D : va_G} {cy : Nat → ClassId} {b n : Nat} (hn : 102 ≤ n) {X : Nat → va_E} {S0 : St} (a1 : Int) (a2 : Int) (a3 : Int) (a4 : Int) {o1 : Int} {o2 : St} (hM : mX12_namedIn S0 a1 a2 a3 a4 = some (o1, o2)) : gL l yX12_namedIn cX12_namedIn 12 2 0 0 D cy b n (enc b cy X S0) [.ref (b + 80), .int (iI a1), .int (iI a2), .int (iI a3), .int (iI a4)] (fun r u => r = jJ o1 ∧ u = (n, enc b cy X o2)) := by
  refine gL_of (by decide) (Nat.le_of_ble_eq_true rfl) ?_
  intro p e s m args below meth c S hr hlk hin hsz ls hl hG
  have hx := S.1
  have hb := S.2.1
  have hl : lv_has ls 12 [(0, .ref (b + 80)), (1, .int (iI a1)), (2, .int (iI a2)), (3, .int (iI a3)), (4, .int (iI a4))] := hl
  replace hG : gW D cy b n s s.heap [] (enc b cy X S0) := hG
  obtain ⟨H, eH⟩ : ∃ H, H = s.heap := ⟨_, rfl⟩
  obtain ⟨locs, elocs⟩ : ∃ locs : List Loc, locs = [] := ⟨_, rfl⟩
  rw [← eH, ← elocs] at hG
  rw [← eH, ← elocs]
  clear eH elocs
  unfold mX12_namedIn at hM
  refine lv_iconst (v := iI 0) hx hb dX12_namedIn_0 (by decide) ?_
  refine lv_istore (lv' := [(5, .int (iI 0)), (0, .ref (b + 80)), (1, .int (iI a1)), (2, .int (iI a2)), (3, .int (iI a3)), (4, .int (iI a4))]) hx hb dX12_namedIn_1 hl (by decide) rfl (fun ls hl => ?_)
  obtain ⟨S_3, hc_4, hM⟩ := bd1_some hM
  have hK_5 : ∀ (H : Heap) (locs : List Loc) (ls : Array Slot), gW D cy b n s H locs (enc b cy X S_3) → lv_has ls 12 [(0, .ref (b + 80)), (1, .int (iI a1)), (2, .int (iI a2)), (3, .int (iI a3)), (4, .int (iI a4))] → W p l e (gRm 2 0 0) s m args below meth c H locs 0 0 (gQL D cy b s args below 0 0 (fun r u => r = jJ o1 ∧ u = (n, enc b cy X o2))) (F0 m 27 ls []) := by
    intro H locs ls hG hl
    refine lv_aload_n hx hb dX12_namedIn_27 rfl (lv_at hl 0 rfl) ?_
    refine m_get S hG 80 83 19 rfl ec_83 cpX12 wm_1692 dX12_namedIn_28 rfl (Nat.lt_of_lt_of_le (Nat.le_of_ble_eq_true rfl) hn) (by decide) ?_
    refine lv_iconst (v := iI 0) hx hb dX12_namedIn_31 (by decide) ?_
    refine lv_lconst (v := jJ 1) hx hb dX12_namedIn_32 (by decide) ?_
    refine mj_ast S hG 92 95 rfl ec_95 (Nat.lt_of_lt_of_le (Nat.le_of_ble_eq_true rfl) hn) dX12_namedIn_33 (by decide) (by decide) (fun H locs S_6 eS_6 hG => ?_)
    replace hM := nx_at hM eS_6
    clear eS_6
    refine lv_iconst (v := iI 1) hx hb dX12_namedIn_34 (by decide) ?_
    refine lv_istore (lv' := [(5, .int (iI 1)), (0, .ref (b + 80)), (1, .int (iI a1)), (2, .int (iI a2)), (3, .int (iI a3)), (4, .int (iI a4))]) hx hb dX12_namedIn_35 hl (by decide) rfl (fun ls hl => ?_)
    obtain ⟨S_9, hc_10, hM⟩ := bd1_some hM
    have hK_11 : ∀ (H : Heap) (locs : List Loc) (ls : Array Slot), gW D cy b n s H locs (enc b cy X S_9) → lv_has ls 12 [(0, .ref (b + 80)), (1, .int (iI a1)), (2, .int (iI a2)), (4, .int (iI a4))] → W p l e (gRm 2 0 0) s m args below meth c H locs 0 0 (gQL D cy b s args below 0 0 (fun r u => r = jJ o1 ∧ u = (n, enc b cy X o2))) (F0 m 169 ls []) := by
      intro H locs ls hG hl
      refine lv_lconst (v := jJ 0) hx hb dX12_namedIn_169 (by decide) ?_
      refine lv_lstore (lv' := [(5, .long (jJ 0)), (0, .ref (b + 80)), (1, .int (iI a1)), (2, .int (iI a2)), (4, .int (iI a4))]) hx hb dX12_namedIn_170 hl (by decide) rfl (fun ls hl => ?_)
      refine lv_iload_n hx hb dX12_namedIn_172 rfl (lv_at hl 2 rfl) ?_
      refine lv_bipush (v := iI 6) hx hb dX12_namedIn_173 (by decide) ?_
      obtain ⟨z_12, hc_13, hM⟩ := bd1_some hM
      have hK_14 : ∀ (H : Heap) (locs : List Loc) (ls : Array Slot), gW D cy b n s H locs (enc b cy X S_9) → lv_has ls 12 [(5, .long (jJ 0)), (0, .ref (b + 80)), (1, .int (iI a1)), (2, .int (iI a2)), (4, .int (iI a4))] → W p l e (gRm 2 0 0) s m args below meth c H locs 0 0 (gQL D cy b s args below 0 0 (fun r u => r = jJ o1 ∧ u = (n, enc b cy X o2))) (F0 m 183 ls [.int (iI z_12)]) := by
        intro H locs ls hG hl
        refine lv_istore (lv' := [(7, .int (iI z_12)), (5, .long (jJ 0)), (0, .ref (b + 80)), (1, .int (iI a1)), (2, .int (iI a2)), (4, .int (iI a4))]) hx hb dX12_namedIn_183 hl (by decide) rfl (fun ls hl => ?_)
        obtain ⟨y_17, hc_18, hM⟩ := bd1_some hM
        have hK_19 : ∀ (H : Heap) (locs : List Loc) (ls : Array Slot), gW D cy b n s H locs (enc b cy X S_9) → lv_has ls 12 [(5, .long (jJ y_17))] → W p l e (gRm 2 0 0) s m args below meth c H locs 0 0 (gQL D cy b s args below 0 0 (fun r u => r = jJ o1 ∧ u = (n, enc b cy X o2))) (F0 m 272 ls []) := by
          intro H locs ls hG hl
          refine lv_lload hx hb dX12_namedIn_272 (lv_at hl 0 rfl) ?_
          cases hM
          exact g_lret S hr hlk hG hsz dX12_namedIn_274 ⟨Nat.le_of_ble_eq_true rfl, Nat.le_of_ble_eq_true rfl⟩ ⟨rfl, rfl⟩
        have loop_20 : ∀ (f : Nat) (v_15 : Int) (v_16 : Int) (H : Heap) (locs : List Loc) (ls : Array Slot), mX12_namedIn_185 S_9 a1 a2 a4 f v_15 v_16 = some y_17 → gW D cy b n s H locs (enc b cy X S_9) → lv_has ls 12 [(7, .int (iI v_15)), (5, .long (jJ v_16)), (0, .ref (b + 80)), (1, .int (iI a1)), (2, .int (iI a2)), (4, .int (iI a4))] → W p l e (gRm 2 0 0) s m args below meth c H locs 0 0 (gQL D cy b s args below 0 0 (fun r u => r = jJ o1 ∧ u = (n, enc b cy X o2))) (F0 m 185 ls []) := by
          clear hM
          intro f
          induction f with
          | zero => intro v_15 v_16 H locs ls hM; rw [mX12_namedIn_185] at hM; cases hM
          | succ f_22 ih_21 =>
            intro v_15 v_16 H locs ls hM hG hl
            rw [mX12_namedIn_185] at hM
            refine lv_iload hx hb dX12_namedIn_185 (lv_at hl 0 rfl) ?_
            refine lv_iload hx hb dX12_namedIn_187 (lv_at hl 5 rfl) ?_
            obtain ⟨hg_23, hM⟩ := gd_some hM
            refine gi_icmp_gt (tgt := 272) hx hb dX12_namedIn_189 (by decide) hg_23.1 hg_23.2 (fun c_24 => ?_) (fun c_24 => ?_)
            · replace hM := ifp hM c_24
              cases hM
              exact hK_19 H locs ls hG (lv_sub hl [1] rfl)
            · replace hM := ifn hM c_24
              refine lv_iload_n hx hb dX12_namedIn_192 rfl (lv_at hl 3 rfl) ?_
              refine lv_iconst (v := iI 3) hx hb dX12_namedIn_193 (by decide) ?_
              obtain ⟨z_25, hc_26, hM⟩ := bd1_some hM
              have hK_27 : ∀ (H : Heap) (locs : List Loc) (ls : Array Slot), gW D cy b n s H locs (enc b cy X S_9) → lv_has ls 12 [(7, .int (iI v_15)), (5, .long (jJ v_16)), (0, .ref (b + 80)), (1, .int (iI a1)), (2, .int (iI a2)), (4, .int (iI a4))] → W p l e (gRm 2 0 0) s m args below meth c H locs 0 0 (gQL D cy b s args below 0 0 (fun r u => r = jJ o1 ∧ u = (n, enc b cy X o2))) (F0 m 218 ls [.long (jJ z_25)]) := by
                intro H locs ls hG hl
                refine lv_lstore (lv' := [(8, .long (jJ z_25)), (7, .int (iI v_15)), (5, .long (jJ v_16)), (0, .ref (b + 80)), (1, .int (iI a1)), (2, .int (iI a2)), (4, .int (iI a4))]) hx hb dX12_namedIn_218 hl (by decide) rfl (fun ls hl => ?_)
                refine lv_lload hx hb dX12_namedIn_220 (lv_at hl 2 rfl) ?_
                refine lv_iload_n hx hb dX12_namedIn_222 rfl (lv_at hl 5 rfl) ?_
                obtain ⟨hg_28, hM⟩ := gd_some hM
                refine gi_if_eq (tgt := 232) hx hb dX12_namedIn_223 (by decide) hg_28 (fun c_29 => ?_) (fun c_29 => ?_)
                · replace hM := ifp hM c_29
                  refine lv_ldc2 (v := 1000000000000) hx hb S.2.2.2.1 (S.2.2.2.2 _ wm_2044) dX12_namedIn_232 ?_
                  refine gj_as 1000000000000 (by decide) ?_
                  refine lv_aload_n hx hb dX12_namedIn_235 rfl (lv_at hl 3 rfl) ?_
                  refine m_get S hG 80 83 19 rfl ec_83 cpX12 wm_1692 dX12_namedIn_236 rfl (Nat.lt_of_lt_of_le (Nat.le_of_ble_eq_true rfl) hn) (by decide) ?_
                  refine lv_iload hx hb dX12_namedIn_239 (lv_at hl 1 rfl) ?_
                  refine lv_bipush (v := iI 8) hx hb dX12_namedIn_241 (by decide) ?_
                  refine gi_mul hx hb dX12_namedIn_243 ?_
                  refine lv_iload hx hb dX12_namedIn_244 (lv_at hl 6 rfl) ?_
                  refine gi_add hx hb dX12_namedIn_246 ?_
                  obtain ⟨hg_30, hM⟩ := gd_some hM
                  refine mj_ald S hG 92 95 rfl ec_95 (Nat.lt_of_lt_of_le (Nat.le_of_ble_eq_true rfl) hn) dX12_namedIn_247 hg_30 (by decide) ?_
                  refine lv_lload hx hb dX12_namedIn_248 (lv_at hl 0 rfl) ?_
                  obtain ⟨hg_31, hM⟩ := gd_some hM
                  refine gj_div hx hb dX12_namedIn_250 hg_31.1 hg_31.2 ?_
                  obtain ⟨hg_32, hM⟩ := gd_some hM
                  refine gj_min S wm_2046 wm_1149 wm_190 wm_1150 hl.1 dX12_namedIn_251 ⟨Nat.le_of_ble_eq_true rfl, Nat.le_of_ble_eq_true rfl, Nat.le_of_ble_eq_true rfl, Nat.le_of_ble_eq_true rfl⟩ (by decide) hg_32 ?_
                  refine lv_goto (tgt := 258) hx hb dX12_namedIn_254 (by decide) ?_
                  refine lv_ldc2 (v := 1000000000000) hx hb S.2.2.2.1 (S.2.2.2.2 _ wm_2044) dX12_namedIn_258 ?_
                  refine gj_as 1000000000000 (by decide) ?_
                  obtain ⟨r_34, hc_33, hM⟩ := bd1_some hM
                  refine g_sl (As := [.long (jJ v_16), .long (jJ (min 1000000000000 ((S_9 95 ((v_15 * 8) + a4)) / z_25))), .long (jJ 1000000000000)]) (rest := []) S hG hsz (vX12_add l hn v_16 (min 1000000000000 ((S_9 95 ((v_15 * 8) + a4)) / z_25)) 1000000000000 hc_33) wS_12_282 dX12_namedIn_261 rfl hl.1 (ar := 3) (by decide +kernel) rfl ⟨Nat.le_of_ble_eq_true rfl, Nat.le_of_ble_eq_true rfl, Nat.le_of_ble_eq_true rfl, Nat.le_of_ble_eq_true rfl⟩ (Nat.le_of_ble_eq_true rfl) (fun rv uu H locs hp hG => ?_)
                  obtain ⟨rfl, rfl⟩ := hp
                  replace hG : gW D cy b n s H locs (enc b cy X S_9) := hG
                  refine lv_lstore (lv' := [(5, .long (jJ r_34)), (8, .long (jJ z_25)), (7, .int (iI v_15)), (0, .ref (b + 80)), (1, .int (iI a1)), (2, .int (iI a2)), (4, .int (iI a4))]) hx hb dX12_namedIn_264 hl (by decide) rfl (fun ls hl => ?_)
                  refine lv_iinc (v := iI (v_15 + 1)) (lv' := [(7, .int (iI (v_15 + 1))), (5, .long (jJ r_34)), (8, .long (jJ z_25)), (0, .ref (b + 80)), (1, .int (iI a1)), (2, .int (iI a2)), (4, .int (iI a4))]) hx hb dX12_namedIn_266 hl (k := 2) rfl ((iI_add v_15 (1)).trans (congrArg iI (by omega))) (by decide) rfl (fun ls hl => ?_)
                  refine lv_goto (tgt := 185) hx hb dX12_namedIn_269 (by decide) ?_
                  exact ih_21 (v_15 + 1) r_34 H locs ls hM hG (lv_sub hl [0, 1, 3, 4, 5, 6] rfl)
                · replace hM := ifn hM c_29
                  refine lv_iload_n hx hb dX12_namedIn_226 rfl (lv_at hl 5 rfl) ?_
                  refine lv_iload hx hb dX12_namedIn_227 (lv_at hl 1 rfl) ?_
                  refine gi_icmp_ne (tgt := 257) hx hb dX12_namedIn_229 (by decide) hg_28 hg_23.1 (fun c_35 => ?_) (fun c_35 => ?_)
                  · replace hM := ifn hM c_35
                    refine lv_lconst (v := jJ 0) hx hb dX12_namedIn_257 (by decide) ?_
                    refine lv_ldc2 (v := 1000000000000) hx hb S.2.2.2.1 (S.2.2.2.2 _ wm_2044) dX12_namedIn_258 ?_
                    refine gj_as 1000000000000 (by decide) ?_
                    obtain ⟨r_37, hc_36, hM⟩ := bd1_some hM
                    refine g_sl (As := [.long (jJ v_16), .long (jJ 0), .long (jJ 1000000000000)]) (rest := []) S hG hsz (vX12_add l hn v_16 0 1000000000000 hc_36) wS_12_282 dX12_namedIn_261 rfl hl.1 (ar := 3) (by decide +kernel) rfl ⟨Nat.le_of_ble_eq_true rfl, Nat.le_of_ble_eq_true rfl, Nat.le_of_ble_eq_true rfl, Nat.le_of_ble_eq_true rfl⟩ (Nat.le_of_ble_eq_true rfl) (fun rv uu H locs hp hG => ?_)
                    obtain ⟨rfl, rfl⟩ := hp
                    replace hG : gW D cy b n s H locs (enc b cy X S_9) := hG
                    refine lv_lstore (lv' := [(5, .long (jJ r_37)), (8, .long (jJ z_25)), (7, .int (iI v_15)), (0, .ref (b + 80)), (1, .int (iI a1)), (2, .int (iI a2)), (4, .int (iI a4))]) hx hb dX12_namedIn_264 hl (by decide) rfl (fun ls hl => ?_)
                    refine lv_iinc (v := iI (v_15 + 1)) (lv' := [(7, .int (iI (v_15 + 1))), (5, .long (jJ r_37)), (8, .long (jJ z_25)), (0, .ref (b + 80)), (1, .int (iI a1)), (2, .int (iI a2)), (4, .int (iI a4))]) hx hb dX12_namedIn_266 hl (k := 2) rfl ((iI_add v_15 (1)).trans (congrArg iI (by omega))) (by decide) rfl (fun ls hl => ?_)
                    refine lv_goto (tgt := 185) hx hb dX12_namedIn_269 (by decide) ?_
                    exact ih_21 (v_15 + 1) r_37 H locs ls hM hG (lv_sub hl [0, 1, 3, 4, 5, 6] rfl)
                  · replace hM := ifp hM c_35
                    refine lv_ldc2 (v := 1000000000000) hx hb S.2.2.2.1 (S.2.2.2.2 _ wm_2044) dX12_namedIn_232 ?_
                    refine gj_as 1000000000000 (by decide) ?_
                    refine lv_aload_n hx hb dX12_namedIn_235 rfl (lv_at hl 3 rfl) ?_
                    refine m_get S hG 80 83 19 rfl ec_83 cpX12 wm_1692 dX12_namedIn_236 rfl (Nat.lt_of_lt_of_le (Nat.le_of_ble_eq_true rfl) hn) (by decide) ?_
                    refine lv_iload hx hb dX12_namedIn_239 (lv_at hl 1 rfl) ?_
                    refine lv_bipush (v := iI 8) hx hb dX12_namedIn_241 (by decide) ?_
                    refine gi_mul hx hb dX12_namedIn_243 ?_
                    refine lv_iload hx hb dX12_namedIn_244 (lv_at hl 6 rfl) ?_
                    refine gi_add hx hb dX12_namedIn_246 ?_
                    obtain ⟨hg_38, hM⟩ := gd_some hM
                    refine mj_ald S hG 92 95 rfl ec_95 (Nat.lt_of_lt_of_le (Nat.le_of_ble_eq_true rfl) hn) dX12_namedIn_247 hg_38 (by decide) ?_
                    refine lv_lload hx hb dX12_namedIn_248 (lv_at hl 0 rfl) ?_
                    obtain ⟨hg_39, hM⟩ := gd_some hM
                    refine gj_div hx hb dX12_namedIn_250 hg_39.1 hg_39.2 ?_
                    obtain ⟨hg_40, hM⟩ := gd_some hM
                    refine gj_min S wm_2046 wm_1149 wm_190 wm_1150 hl.1 dX12_namedIn_251 ⟨Nat.le_of_ble_eq_true rfl, Nat.le_of_ble_eq_true rfl, Nat.le_of_ble_eq_true rfl, Nat.le_of_ble_eq_true rfl⟩ (by decide) hg_40 ?_
                    refine lv_goto (tgt := 258) hx hb dX12_namedIn_254 (by decide) ?_
                    refine lv_ldc2 (v := 1000000000000) hx hb S.2.2.2.1 (S.2.2.2.2 _ wm_2044) dX12_namedIn_258 ?_
                    refine gj_as 1000000000000 (by decide) ?_
                    obtain ⟨r_42, hc_41, hM⟩ := bd1_some hM
                    refine g_sl (As := [.long (jJ v_16), .long (jJ (min 1000000000000 ((S_9 95 ((v_15 * 8) + a4)) / z_25))), .long (jJ 1000000000000)]) (rest := []) S hG hsz (vX12_add l hn v_16 (min 1000000000000 ((S_9 95 ((v_15 * 8) + a4)) / z_25)) 1000000000000 hc_41) wS_12_282 dX12_namedIn_261 rfl hl.1 (ar := 3) (by decide +kernel) rfl ⟨Nat.le_of_ble_eq_true rfl, Nat.le_of_ble_eq_true rfl, Nat.le_of_ble_eq_true rfl, Nat.le_of_ble_eq_true rfl⟩ (Nat.le_of_ble_eq_true rfl) (fun rv uu H locs hp hG => ?_)
                    obtain ⟨rfl, rfl⟩ := hp
                    replace hG : gW D cy b n s H locs (enc b cy X S_9) := hG
                    refine lv_lstore (lv' := [(5, .long (jJ r_42)), (8, .long (jJ z_25)), (7, .int (iI v_15)), (0, .ref (b + 80)), (1, .int (iI a1)), (2, .int (iI a2)), (4, .int (iI a4))]) hx hb dX12_namedIn_264 hl (by decide) rfl (fun ls hl => ?_)
                    refine lv_iinc (v := iI (v_15 + 1)) (lv' := [(7, .int (iI (v_15 + 1))), (5, .long (jJ r_42)), (8, .long (jJ z_25)), (0, .ref (b + 80)), (1, .int (iI a1)), (2, .int (iI a2)), (4, .int (iI a4))]) hx hb dX12_namedIn_266 hl (k := 2) rfl ((iI_add v_15 (1)).trans (congrArg iI (by omega))) (by decide) rfl (fun ls hl => ?_)
                    refine lv_goto (tgt := 185) hx hb dX12_namedIn_269 (by decide) ?_
                    exact ih_21 (v_15 + 1) r_42 H locs ls hM hG (lv_sub hl [0, 1, 3, 4, 5, 6] rfl)
              clear hM
              replace hM := hc_26
              obtain ⟨hg_43, hM⟩ := gd_some hM
              refine gi_icmp_ne (tgt := 201) hx hb dX12_namedIn_194 (by decide) hg_43 (by decide) (fun c_44 => ?_) (fun c_44 => ?_)
              · replace hM := ifn hM c_44
                refine lv_iload_n hx hb dX12_namedIn_201 rfl (lv_at hl 3 rfl) ?_
                refine lv_bipush (v := iI 6) hx hb dX12_namedIn_202 (by decide) ?_
                refine gi_icmp_ne (tgt := 213) hx hb dX12_namedIn_204 (by decide) hg_43 (by decide) (fun c_45 => ?_) (fun c_45 => ?_)
                · replace hM := ifn hM c_45
                  refine lv_iload hx hb dX12_namedIn_213 (lv_at hl 0 rfl) ?_
                  obtain ⟨r_47, hc_46, hM⟩ := bd1_some hM
                  refine g_sl (As := [.int (iI v_15)]) (rest := []) S hG hsz (vX12_factorial l hn v_15 hc_46) wS_12_368 dX12_namedIn_215 rfl hl.1 (ar := 1) (by decide +kernel) rfl ⟨Nat.le_of_ble_eq_true rfl, Nat.le_of_ble_eq_true rfl, Nat.le_of_ble_eq_true rfl, Nat.le_of_ble_eq_true rfl⟩ (Nat.le_of_ble_eq_true rfl) (fun rv uu H locs hp hG => ?_)
                  obtain ⟨rfl, rfl⟩ := hp
                  replace hG : gW D cy b n s H locs (enc b cy X S_9) := hG
                  cases hM
                  exact hK_27 H locs ls hG (lv_sub hl [0, 1, 2, 3, 4, 5] rfl)
                · replace hM := ifp hM c_45
                  refine lv_iload hx hb dX12_namedIn_207 (lv_at hl 0 rfl) ?_
                  refine gi_i2l hx hb dX12_namedIn_209 hg_23.1 ?_
                  refine lv_goto (tgt := 218) hx hb dX12_namedIn_210 (by decide) ?_
                  cases hM
                  exact hK_27 H locs ls hG (lv_sub hl [0, 1, 2, 3, 4, 5] rfl)
              · replace hM := ifp hM c_44
                refine lv_lconst (v := jJ 1) hx hb dX12_namedIn_197 (by decide) ?_
                refine lv_goto (tgt := 218) hx hb dX12_namedIn_198 (by decide) ?_
                cases hM
                exact hK_27 H locs ls hG (lv_sub hl [0, 1, 2, 3, 4, 5] rfl)
        exact loop_20 FU z_12 0 H locs ls hc_18 hG (lv_sub hl [0, 1, 2, 3, 4, 5] rfl)
      clear hM
      replace hM := hc_13
      obtain ⟨hg_48, hM⟩ := gd_some hM
      refine gi_icmp_ne (tgt := 182) hx hb dX12_namedIn_175 (by decide) hg_48 (by decide) (fun c_49 => ?_) (fun c_49 => ?_)
      · replace hM := ifn hM c_49
        refine lv_iconst (v := iI 0) hx hb dX12_namedIn_182 (by decide) ?_
        cases hM
        exact hK_14 H locs ls hG (lv_sub hl [0, 1, 2, 3, 4] rfl)
      · replace hM := ifp hM c_49
        refine lv_iconst (v := iI 1) hx hb dX12_namedIn_178 (by decide) ?_
        refine lv_goto (tgt := 183) hx hb dX12_namedIn_179 (by decide) ?_
        cases hM
        exact hK_14 H locs ls hG (lv_sub hl [0, 1, 2, 3, 4] rfl)
    have loop_50 : ∀ (f : Nat) (v_7 : Int) (S_8 : St) (H : Heap) (locs : List Loc) (ls : Array Slot), mX12_namedIn_37 a1 a2 a3 a4 f v_7 S_8 = some S_9 → gW D cy b n s H locs (enc b cy X S_8) → lv_has ls 12 [(5, .int (iI v_7)), (0, .ref (b + 80)), (1, .int (iI a1)), (2, .int (iI a2)), (3, .int (iI a3)), (4, .int (iI a4))] → W p l e (gRm 2 0 0) s m args below meth c H locs 0 0 (gQL D cy b s args below 0 0 (fun r u => r = jJ o1 ∧ u = (n, enc b cy X o2))) (F0 m 37 ls []) := by
      clear hM
      intro f
      induction f with
      | zero => intro v_7 S_8 H locs ls hM; rw [mX12_namedIn_37] at hM; cases hM
      | succ f_52 ih_51 =>
        intro v_7 S_8 H locs ls hM hG hl
        rw [mX12_namedIn_37] at hM
        refine lv_iload hx hb dX12_namedIn_37 (lv_at hl 0 rfl) ?_
        refine lv_iload hx hb dX12_namedIn_39 (lv_at hl 5 rfl) ?_
        obtain ⟨hg_53, hM⟩ := gd_some hM
        refine gi_icmp_gt (tgt := 169) hx hb dX12_namedIn_41 (by decide) hg_53.1 hg_53.2 (fun c_54 => ?_) (fun c_54 => ?_)
        · replace hM := ifp hM c_54
          cases hM
          exact hK_11 H locs ls hG (lv_sub hl [1, 2, 3, 5] rfl)
        · replace hM := ifn hM c_54
          refine lv_iload hx hb dX12_namedIn_44 (lv_at hl 0 rfl) ?_
          refine lv_istore (lv' := [(6, .int (iI v_7)), (5, .int (iI v_7)), (0, .ref (b + 80)), (1, .int (iI a1)), (2, .int (iI a2)), (3, .int (iI a3)), (4, .int (iI a4))]) hx hb dX12_namedIn_46 hl (by decide) rfl (fun ls hl => ?_)
          obtain ⟨S_57, hc_58, hM⟩ := bd1_some hM
          have hK_59 : ∀ (H : Heap) (locs : List Loc) (ls : Array Slot), gW D cy b n s H locs (enc b cy X S_57) → lv_has ls 12 [(5, .int (iI v_7)), (0, .ref (b + 80)), (1, .int (iI a1)), (2, .int (iI a2)), (3, .int (iI a3)), (4, .int (iI a4))] → W p l e (gRm 2 0 0) s m args below meth c H locs 0 0 (gQL D cy b s args below 0 0 (fun r u => r = jJ o1 ∧ u = (n, enc b cy X o2))) (F0 m 163 ls []) := by
            intro H locs ls hG hl
            refine lv_iinc (v := iI (v_7 + 1)) (lv' := [(5, .int (iI (v_7 + 1))), (0, .ref (b + 80)), (1, .int (iI a1)), (2, .int (iI a2)), (3, .int (iI a3)), (4, .int (iI a4))]) hx hb dX12_namedIn_163 hl (k := 0) rfl ((iI_add v_7 (1)).trans (congrArg iI (by omega))) (by decide) rfl (fun ls hl => ?_)
            refine lv_goto (tgt := 37) hx hb dX12_namedIn_166 (by decide) ?_
            exact ih_51 (v_7 + 1) S_57 H locs ls hM hG (lv_sub hl [0, 1, 2, 3, 4, 5] rfl)
          have loop_60 : ∀ (f : Nat) (v_55 : Int) (S_56 : St) (H : Heap) (locs : List Loc) (ls : Array Slot), mX12_namedIn_48 v_7 a1 a2 a3 a4 f v_55 S_56 = some S_57 → gW D cy b n s H locs (enc b cy X S_56) → lv_has ls 12 [(6, .int (iI v_55)), (5, .int (iI v_7)), (0, .ref (b + 80)), (1, .int (iI a1)), (2, .int (iI a2)), (3, .int (iI a3)), (4, .int (iI a4))] → W p l e (gRm 2 0 0) s m args below meth c H locs 0 0 (gQL D cy b s args below 0 0 (fun r u => r = jJ o1 ∧ u = (n, enc b cy X o2))) (F0 m 48 ls []) := by
            clear hM
            intro f
            induction f with
            | zero => intro v_55 S_56 H locs ls hM; rw [mX12_namedIn_48] at hM; cases hM
            | succ f_62 ih_61 =>
              intro v_55 S_56 H locs ls hM hG hl
              rw [mX12_namedIn_48] at hM
              refine lv_iload hx hb dX12_namedIn_48 (lv_at hl 0 rfl) ?_
              refine lv_iload hx hb dX12_namedIn_50 (lv_at hl 6 rfl) ?_
              obtain ⟨hg_63, hM⟩ := gd_some hM
              refine gi_icmp_gt (tgt := 163) hx hb dX12_namedIn_52 (by decide) hg_63 hg_53.2 (fun c_64 => ?_) (fun c_64 => ?_)
              · replace hM := ifp hM c_64
                cases hM
                exact hK_59 H locs ls hG (lv_sub hl [1, 2, 3, 4, 5, 6] rfl)
              · replace hM := ifn hM c_64
                refine lv_lconst (v := jJ 0) hx hb dX12_namedIn_55 (by decide) ?_
                refine lv_lstore (lv' := [(7, .long (jJ 0)), (6, .int (iI v_55)), (5, .int (iI v_7)), (0, .ref (b + 80)), (1, .int (iI a1)), (2, .int (iI a2)), (3, .int (iI a3)), (4, .int (iI a4))]) hx hb dX12_namedIn_56 hl (by decide) rfl (fun ls hl => ?_)
                refine lv_iconst (v := iI 1) hx hb dX12_namedIn_58 (by decide) ?_
                refine lv_istore (lv' := [(9, .int (iI 1)), (7, .long (jJ 0)), (6, .int (iI v_55)), (5, .int (iI v_7)), (0, .ref (b + 80)), (1, .int (iI a1)), (2, .int (iI a2)), (3, .int (iI a3)), (4, .int (iI a4))]) hx hb dX12_namedIn_59 hl (by decide) rfl (fun ls hl => ?_)
                obtain ⟨y_67, hc_68, hM⟩ := bd1_some hM
                have hK_69 : ∀ (H : Heap) (locs : List Loc) (ls : Array Slot), gW D cy b n s H locs (enc b cy X S_56) → lv_has ls 12 [(6, .int (iI v_55)), (5, .int (iI v_7)), (0, .ref (b + 80)), (1, .int (iI a1)), (2, .int (iI a2)), (3, .int (iI a3)), (4, .int (iI a4)), (7, .long (jJ y_67))] → W p l e (gRm 2 0 0) s m args below meth c H locs 0 0 (gQL D cy b s args below 0 0 (fun r u => r = jJ o1 ∧ u = (n, enc b cy X o2))) (F0 m 142 ls []) := by
                  intro H locs ls hG hl
                  refine lv_aload_n hx hb dX12_namedIn_142 rfl (lv_at hl 2 rfl) ?_
                  refine m_get S hG 80 83 19 rfl ec_83 cpX12 wm_1692 dX12_namedIn_143 rfl (Nat.lt_of_lt_of_le (Nat.le_of_ble_eq_true rfl) hn) (by decide) ?_
                  refine lv_iload hx hb dX12_namedIn_146 (lv_at hl 1 rfl) ?_
                  refine lv_bipush (v := iI 8) hx hb dX12_namedIn_148 (by decide) ?_
                  refine gi_mul hx hb dX12_namedIn_150 ?_
                  refine lv_iload hx hb dX12_namedIn_151 (lv_at hl 0 rfl) ?_
                  refine gi_add hx hb dX12_namedIn_153 ?_
                  refine lv_lload hx hb dX12_namedIn_154 (lv_at hl 7 rfl) ?_
                  obtain ⟨hg_70, hM⟩ := gd_some hM
                  refine mj_ast S hG 92 95 rfl ec_95 (Nat.lt_of_lt_of_le (Nat.le_of_ble_eq_true rfl) hn) dX12_namedIn_156 hg_70 (by decide) (fun H locs S_71 eS_71 hG => ?_)
                  replace hM := nx_at hM eS_71
                  clear eS_71
                  refine lv_iinc (v := iI (v_55 + 1)) (lv' := [(6, .int (iI (v_55 + 1))), (5, .int (iI v_7)), (0, .ref (b + 80)), (1, .int (iI a1)), (2, .int (iI a2)), (3, .int (iI a3)), (4, .int (iI a4)), (7, .long (jJ y_67))]) hx hb dX12_namedIn_157 hl (k := 0) rfl ((iI_add v_55 (1)).trans (congrArg iI (by omega))) (by decide) rfl (fun ls hl => ?_)
                  refine lv_goto (tgt := 48) hx hb dX12_namedIn_160 (by decide) ?_
                  exact ih_61 (v_55 + 1) S_71 H locs ls hM hG (lv_sub hl [0, 1, 2, 3, 4, 5, 6] rfl)
                have loop_72 : ∀ (f : Nat) (v_65 : Int) (v_66 : Int) (H : Heap) (locs : List Loc) (ls : Array Slot), mX12_namedIn_61 S_56 v_55 v_7 a1 a2 a3 a4 f v_65 v_66 = some y_67 → gW D cy b n s H locs (enc b cy X S_56) → lv_has ls 12 [(9, .int (iI v_65)), (7, .long (jJ v_66)), (6, .int (iI v_55)), (5, .int (iI v_7)), (0, .ref (b + 80)), (1, .int (iI a1)), (2, .int (iI a2)), (3, .int (iI a3)), (4, .int (iI a4))] → W p l e (gRm 2 0 0) s m args below meth c H locs 0 0 (gQL D cy b s args below 0 0 (fun r u => r = jJ o1 ∧ u = (n, enc b cy X o2))) (F0 m 61 ls []) := by
                  clear hM
                  intro f
                  induction f with
                  | zero => intro v_65 v_66 H locs ls hM; rw [mX12_namedIn_61] at hM; cases hM
                  | succ f_74 ih_73 =>
                    intro v_65 v_66 H locs ls hM hG hl
                    rw [mX12_namedIn_61] at hM
                    refine lv_iload hx hb dX12_namedIn_61 (lv_at hl 0 rfl) ?_
                    refine lv_iload hx hb dX12_namedIn_63 (lv_at hl 2 rfl) ?_
                    refine lv_iload hx hb dX12_namedIn_65 (lv_at hl 3 rfl) ?_
                    refine gi_sub hx hb dX12_namedIn_67 ?_
                    refine lv_iconst (v := iI 1) hx hb dX12_namedIn_68 (by decide) ?_
                    refine gi_add hx hb dX12_namedIn_69 ?_
                    obtain ⟨hg_75, hM⟩ := gd_some hM
                    refine gi_icmp_gt (tgt := 142) hx hb dX12_namedIn_70 (by decide) hg_75.1 hg_75.2 (fun c_76 => ?_) (fun c_76 => ?_)
                    · replace hM := ifp hM c_76
                      cases hM
                      exact hK_69 H locs ls hG (lv_sub hl [2, 3, 4, 5, 6, 7, 8, 1] rfl)
                    · replace hM := ifn hM c_76
                      refine lv_aload_n hx hb dX12_namedIn_73 rfl (lv_at hl 4 rfl) ?_
                      refine m_get S hG 80 83 17 rfl ec_83 cpX12 wm_1690 dX12_namedIn_74 rfl (Nat.lt_of_lt_of_le (Nat.le_of_ble_eq_true rfl) hn) (by decide) ?_
                      refine lv_iload_n hx hb dX12_namedIn_77 rfl (lv_at hl 7 rfl) ?_
                      refine lv_bipush (v := iI 8) hx hb dX12_namedIn_78 (by decide) ?_
                      refine gi_mul hx hb dX12_namedIn_80 ?_
                      refine lv_iload hx hb dX12_namedIn_81 (lv_at hl 0 rfl) ?_
                      refine gi_add hx hb dX12_namedIn_83 ?_
                      obtain ⟨hg_77, hM⟩ := gd_some hM
                      refine mj_ald S hG 90 93 rfl ec_93 (Nat.lt_of_lt_of_le (Nat.le_of_ble_eq_true rfl) hn) dX12_namedIn_84 hg_77 (by decide) ?_
                      refine lv_aload_n hx hb dX12_namedIn_85 rfl (lv_at hl 4 rfl) ?_
                      refine m_get S hG 80 83 19 rfl ec_83 cpX12 wm_1692 dX12_namedIn_86 rfl (Nat.lt_of_lt_of_le (Nat.le_of_ble_eq_true rfl) hn) (by decide) ?_
                      refine lv_iload hx hb dX12_namedIn_89 (lv_at hl 3 rfl) ?_
                      refine lv_iconst (v := iI 1) hx hb dX12_namedIn_91 (by decide) ?_
                      refine gi_sub hx hb dX12_namedIn_92 ?_
                      refine lv_bipush (v := iI 8) hx hb dX12_namedIn_93 (by decide) ?_
                      refine gi_mul hx hb dX12_namedIn_95 ?_
                      refine lv_iload hx hb dX12_namedIn_96 (lv_at hl 2 rfl) ?_
                      refine gi_add hx hb dX12_namedIn_98 ?_
                      refine lv_iload hx hb dX12_namedIn_99 (lv_at hl 0 rfl) ?_
                      refine gi_sub hx hb dX12_namedIn_101 ?_
                      obtain ⟨hg_78, hM⟩ := gd_some hM
                      refine mj_ald S hG 92 95 rfl ec_95 (Nat.lt_of_lt_of_le (Nat.le_of_ble_eq_true rfl) hn) dX12_namedIn_102 hg_78 (by decide) ?_
                      refine lv_ldc2 (v := 100000000000000000) hx hb S.2.2.2.1 (S.2.2.2.2 _ wm_2057) dX12_namedIn_103 ?_
                      refine gj_as 100000000000000000 (by decide) ?_
                      obtain ⟨r_80, hc_79, hM⟩ := bd1_some hM
                      refine g_sl (As := [.long (jJ (S_56 93 ((a3 * 8) + v_65))), .long (jJ (S_56 95 ((((v_7 - 1) * 8) + v_55) - v_65))), .long (jJ 100000000000000000)]) (rest := []) S hG hsz (vX12_mul l hn (S_56 93 ((a3 * 8) + v_65)) (S_56 95 ((((v_7 - 1) * 8) + v_55) - v_65)) 100000000000000000 hc_79) wS_12_286 dX12_namedIn_106 rfl hl.1 (ar := 3) (by decide +kernel) rfl ⟨Nat.le_of_ble_eq_true rfl, Nat.le_of_ble_eq_true rfl, Nat.le_of_ble_eq_true rfl, Nat.le_of_ble_eq_true rfl⟩ (Nat.le_of_ble_eq_true rfl) (fun rv uu H locs hp hG => ?_)
                      obtain ⟨rfl, rfl⟩ := hp
                      replace hG : gW D cy b n s H locs (enc b cy X S_56) := hG
                      refine lv_lstore (lv' := [(10, .long (jJ r_80)), (9, .int (iI v_65)), (7, .long (jJ v_66)), (6, .int (iI v_55)), (5, .int (iI v_7)), (0, .ref (b + 80)), (1, .int (iI a1)), (2, .int (iI a2)), (3, .int (iI a3)), (4, .int (iI a4))]) hx hb dX12_namedIn_109 hl (by decide) rfl (fun ls hl => ?_)
                      refine lv_lload hx hb dX12_namedIn_111 (lv_at hl 2 rfl) ?_
                      refine lv_iload hx hb dX12_namedIn_113 (lv_at hl 3 rfl) ?_
                      refine lv_iload hx hb dX12_namedIn_115 (lv_at hl 1 rfl) ?_
                      obtain ⟨r_82, hc_81, hM⟩ := bd1_some hM
                      refine g_sl (As := [.int (iI v_55), .int (iI v_65)]) (rest := [.long (jJ v_66)]) S hG hsz (vX12_ofAll l hn v_55 v_65 hc_81) wS_12_362 dX12_namedIn_117 rfl hl.1 (ar := 2) (by decide +kernel) rfl ⟨Nat.le_of_ble_eq_true rfl, Nat.le_of_ble_eq_true rfl, Nat.le_of_ble_eq_true rfl, Nat.le_of_ble_eq_true rfl⟩ (Nat.le_of_ble_eq_true rfl) (fun rv uu H locs hp hG => ?_)
                      obtain ⟨rfl, rfl⟩ := hp
                      replace hG : gW D cy b n s H locs (enc b cy X S_56) := hG
                      refine lv_lload hx hb dX12_namedIn_120 (lv_at hl 0 rfl) ?_
                      refine lv_ldc2 (v := 100000000000000000) hx hb S.2.2.2.1 (S.2.2.2.2 _ wm_2057) dX12_namedIn_122 ?_
                      refine gj_as 100000000000000000 (by decide) ?_
                      obtain ⟨r_84, hc_83, hM⟩ := bd1_some hM
                      refine g_sl (As := [.long (jJ r_82), .long (jJ r_80), .long (jJ 100000000000000000)]) (rest := [.long (jJ v_66)]) S hG hsz (vX12_mul l hn r_82 r_80 100000000000000000 hc_83) wS_12_286 dX12_namedIn_125 rfl hl.1 (ar := 3) (by decide +kernel) rfl ⟨Nat.le_of_ble_eq_true rfl, Nat.le_of_ble_eq_true rfl, Nat.le_of_ble_eq_true rfl, Nat.le_of_ble_eq_true rfl⟩ (Nat.le_of_ble_eq_true rfl) (fun rv uu H locs hp hG => ?_)
                      obtain ⟨rfl, rfl⟩ := hp
                      replace hG : gW D cy b n s H locs (enc b cy X S_56) := hG
                      refine lv_ldc2 (v := 100000000000000000) hx hb S.2.2.2.1 (S.2.2.2.2 _ wm_2057) dX12_namedIn_128 ?_
                      refine gj_as 100000000000000000 (by decide) ?_
                      obtain ⟨r_86, hc_85, hM⟩ := bd1_some hM
                      refine g_sl (As := [.long (jJ v_66), .long (jJ r_84), .long (jJ 100000000000000000)]) (rest := []) S hG hsz (vX12_add l hn v_66 r_84 100000000000000000 hc_85) wS_12_282 dX12_namedIn_131 rfl hl.1 (ar := 3) (by decide +kernel) rfl ⟨Nat.le_of_ble_eq_true rfl, Nat.le_of_ble_eq_true rfl, Nat.le_of_ble_eq_true rfl, Nat.le_of_ble_eq_true rfl⟩ (Nat.le_of_ble_eq_true rfl) (fun rv uu H locs hp hG => ?_)
                      obtain ⟨rfl, rfl⟩ := hp
                      replace hG : gW D cy b n s H locs (enc b cy X S_56) := hG
                      refine lv_lstore (lv' := [(7, .long (jJ r_86)), (10, .long (jJ r_80)), (9, .int (iI v_65)), (6, .int (iI v_55)), (5, .int (iI v_7)), (0, .ref (b + 80)), (1, .int (iI a1)), (2, .int (iI a2)), (3, .int (iI a3)), (4, .int (iI a4))]) hx hb dX12_namedIn_134 hl (by decide) rfl (fun ls hl => ?_)
                      refine lv_iinc (v := iI (v_65 + 1)) (lv' := [(9, .int (iI (v_65 + 1))), (7, .long (jJ r_86)), (10, .long (jJ r_80)), (6, .int (iI v_55)), (5, .int (iI v_7)), (0, .ref (b + 80)), (1, .int (iI a1)), (2, .int (iI a2)), (3, .int (iI a3)), (4, .int (iI a4))]) hx hb dX12_namedIn_136 hl (k := 2) rfl ((iI_add v_65 (1)).trans (congrArg iI (by omega))) (by decide) rfl (fun ls hl => ?_)
                      refine lv_goto (tgt := 61) hx hb dX12_namedIn_139 (by decide) ?_
                      exact ih_73 (v_65 + 1) r_86 H locs ls hM hG (lv_sub hl [0, 1, 3, 4, 5, 6, 7, 8, 9] rfl)
                exact loop_72 FU 1 0 H locs ls hc_68 hG (lv_sub hl [0, 1, 2, 3, 4, 5, 6, 7, 8] rfl)
          exact loop_60 FU v_7 S_8 H locs ls hc_58 hG (lv_sub hl [0, 1, 2, 3, 4, 5, 6] rfl)
    exact loop_50 FU 1 S_6 H locs ls hc_10 hG (lv_sub hl [0, 1, 2, 3, 4, 5] rfl)
  have loop_87 : ∀ (f : Nat) (v_1 : Int) (S_2 : St) (H : Heap) (locs : List Loc) (ls : Array Slot), mX12_namedIn_3 a1 a2 a3 a4 f v_1 S_2 = some S_3 → gW D cy b n s H locs (enc b cy X S_2) → lv_has ls 12 [(5, .int (iI v_1)), (0, .ref (b + 80)), (1, .int (iI a1)), (2, .int (iI a2)), (3, .int (iI a3)), (4, .int (iI a4))] → W p l e (gRm 2 0 0) s m args below meth c H locs 0 0 (gQL D cy b s args below 0 0 (fun r u => r = jJ o1 ∧ u = (n, enc b cy X o2))) (F0 m 3 ls []) := by
    clear hM
    intro f
    induction f with
    | zero => intro v_1 S_2 H locs ls hM; rw [mX12_namedIn_3] at hM; cases hM
    | succ f_89 ih_88 =>
      intro v_1 S_2 H locs ls hM hG hl
      rw [mX12_namedIn_3] at hM
      refine lv_iload hx hb dX12_namedIn_3 (lv_at hl 0 rfl) ?_
      refine lv_aload_n hx hb dX12_namedIn_5 rfl (lv_at hl 1 rfl) ?_
      refine m_get S hG 80 83 19 rfl ec_83 cpX12 wm_1692 dX12_namedIn_6 rfl (Nat.lt_of_lt_of_le (Nat.le_of_ble_eq_true rfl) hn) (by decide) ?_
      refine m_alen S hG 92 2 ec_95 rfl (Nat.lt_of_lt_of_le (Nat.le_of_ble_eq_true rfl) hn) dX12_namedIn_9 (N := 64) (show Int32.ofNat 64 = iI 64 by decide) ?_
      obtain ⟨hg_90, hM⟩ := gd_some hM
      refine gi_icmp_ge (tgt := 27) hx hb dX12_namedIn_10 (by decide) hg_90 (by decide) (fun c_91 => ?_) (fun c_91 => ?_)
      · replace hM := ifp hM c_91
        cases hM
        exact hK_5 H locs ls hG (lv_sub hl [1, 2, 3, 4, 5] rfl)
      · replace hM := ifn hM c_91
        refine lv_aload_n hx hb dX12_namedIn_13 rfl (lv_at hl 1 rfl) ?_
        refine m_get S hG 80 83 19 rfl ec_83 cpX12 wm_1692 dX12_namedIn_14 rfl (Nat.lt_of_lt_of_le (Nat.le_of_ble_eq_true rfl) hn) (by decide) ?_
        refine lv_iload hx hb dX12_namedIn_17 (lv_at hl 0 rfl) ?_
        refine lv_lconst (v := jJ 0) hx hb dX12_namedIn_19 (by decide) ?_
        obtain ⟨hg_92, hM⟩ := gd_some hM
        refine mj_ast S hG 92 95 rfl ec_95 (Nat.lt_of_lt_of_le (Nat.le_of_ble_eq_true rfl) hn) dX12_namedIn_20 hg_92 (by decide) (fun H locs S_93 eS_93 hG => ?_)
        replace hM := nx_at hM eS_93
        clear eS_93
        refine lv_iinc (v := iI (v_1 + 1)) (lv' := [(5, .int (iI (v_1 + 1))), (0, .ref (b + 80)), (1, .int (iI a1)), (2, .int (iI a2)), (3, .int (iI a3)), (4, .int (iI a4))]) hx hb dX12_namedIn_21 hl (k := 0) rfl ((iI_add v_1 (1)).trans (congrArg iI (by omega))) (by decide) rfl (fun ls hl => ?_)
        refine lv_goto (tgt := 3) hx hb dX12_namedIn_24 (by decide) ?_
        exact ih_88 (v_1 + 1) S_93 H locs ls hM hG (lv_sub hl [0, 1, 2, 3, 4, 5] rfl)
  exact loop_87 FU 0 S0 H locs ls hc_4 hG (lv_sub hl [0, 1, 2, 3, 4, 5] rfl)
theorem wV_12_365 : gWV "GrownKindsModel" 365 yX12_namedIn cX12_namedIn 12 (some .long) := ⟨wm_2160, wm_2162, wm_135, wm_188, wm_2163, by decide +kernel, by decide +kernel⟩
theorem wV_12_359 : gWV "GrownKindsModel" 359 yX12_namedExpr cX12_namedExpr 7 (some .long) := ⟨wm_2156, wm_2158, wm_134, wm_188, wm_2159, by decide +kernel, by decide +kernel⟩
def mX12_namedPart (S0 : St) (a1 : Int) (a2 : Int) : Option (Int × St) := gd (0 ≤ (24 + a1) ∧ (24 + a1) < 228) <| nx (S0 84 (24 + a1)) fun x_2 => gd (inI x_2) <| if x_2 = 0 then (gd (inI a2) <| if a2 = 1 then (some (1, S0)) else (some (0, S0))) else (if x_2 = 1 then (gd (inI a2) <| if a2 = 0 then (some (1, S0)) else (some (0, S0))) else (if x_2 = 2 then (gd (0 ≤ (48 + a1) ∧ (48 + a1) < 228) <| gd (0 ≤ (((24 + (S0 84 (48 + a1))) * 8) + a2) ∧ (((24 + (S0 84 (48 + a1))) * 8) + a2) < 240) <| some ((S0 93 (((24 + (S0 84 (48 + a1))) * 8) + a2)), S0)) else (if x_2 = 3 then (gd (0 ≤ (48 + a1) ∧ (48 + a1) < 228) <| gd (0 ≤ (72 + a1) ∧ (72 + a1) < 228) <| bd2 (mX12_namedIn S0 (S0 84 (24 + a1)) (S0 84 (48 + a1)) (S0 84 (72 + a1)) a2) fun r_14 S_15 => some (r_14, S_15)) else (if x_2 = 4 then (gd (0 ≤ (48 + a1) ∧ (48 + a1) < 228) <| gd (0 ≤ (72 + a1) ∧ (72 + a1) < 228) <| bd2 (mX12_namedIn S0 (S0 84 (24 + a1)) (S0 84 (48 + a1)) (S0 84 (72 + a1)) a2) fun r_19 S_20 => some (r_19, S_20)) else (if x_2 = 5 then (gd (0 ≤ (48 + a1) ∧ (48 + a1) < 228) <| gd (0 ≤ (72 + a1) ∧ (72 + a1) < 228) <| bd2 (mX12_namedIn S0 (S0 84 (24 + a1)) (S0 84 (48 + a1)) (S0 84 (72 + a1)) a2) fun r_24 S_25 => some (r_24, S_25)) else (if x_2 = 6 then (gd (0 ≤ (48 + a1) ∧ (48 + a1) < 228) <| gd (0 ≤ (72 + a1) ∧ (72 + a1) < 228) <| bd2 (mX12_namedIn S0 (S0 84 (24 + a1)) (S0 84 (48 + a1)) (S0 84 (72 + a1)) a2) fun r_29 S_30 => some (r_29, S_30)) else (if x_2 = 7 then (gd (0 ≤ (48 + a1) ∧ (48 + a1) < 228) <| bd1 (mX12_namedExpr S0 (S0 84 (48 + a1)) a2) fun r_33 => some (r_33, S0)) else (gd (0 ≤ (48 + a1) ∧ (48 + a1) < 228) <| gd (0 ≤ (72 + a1) ∧ (72 + a1) < 228) <| bd2 (mX12_namedIn S0 (S0 84 (24 + a1)) (S0 84 (48 + a1)) (S0 84 (72 + a1)) a2) fun r_37 S_38 => some (r_37, S_38)))))))))
set_option maxHeartbeats 4000000 in
set_option maxRecDepth 100000 in
theorem vX12_namedPart (l : Launch) {D : va_G} {cy : Nat → ClassId} {b n : Nat} (hn : 102 ≤ n) {X : Nat → va_E} {S0 : St} (a1 : Int) (a2 : Int) {o1 : Int} {o2 : St} (hM : mX12_namedPart S0 a1 a2 = some (o1, o2)) : gL l yX12_namedPart cX12_namedPart 3 3 0 0 D cy b n (enc b cy X S0) [.ref (b + 80), .int (iI a1), .int (iI a2)] (fun r u => r = jJ o1 ∧ u = (n, enc b cy X o2)) := by
  refine gL_of (by decide) (Nat.le_of_ble_eq_true rfl) ?_
  intro p e s m args below meth c S hr hlk hin hsz ls hl hG
  have hx := S.1
  have hb := S.2.1
  have hl : lv_has ls 3 [(0, .ref (b + 80)), (1, .int (iI a1)), (2, .int (iI a2))] := hl
  replace hG : gW D cy b n s s.heap [] (enc b cy X S0) := hG
  obtain ⟨H, eH⟩ : ∃ H, H = s.heap := ⟨_, rfl⟩
  obtain ⟨locs, elocs⟩ : ∃ locs : List Loc, locs = [] := ⟨_, rfl⟩
  rw [← eH, ← elocs] at hG
  rw [← eH, ← elocs]
  clear eH elocs
  unfold mX12_namedPart at hM
  refine lv_aload_n hx hb dX12_namedPart_0 rfl (lv_at hl 0 rfl) ?_
  refine m_get S hG 80 83 0 rfl ec_83 cpX12 wm_1673 dX12_namedPart_1 rfl (Nat.lt_of_lt_of_le (Nat.le_of_ble_eq_true rfl) hn) (by decide) ?_
  refine lv_bipush (v := iI 24) hx hb dX12_namedPart_4 (by decide) ?_
  refine lv_iload_n hx hb dX12_namedPart_6 rfl (lv_at hl 1 rfl) ?_
  refine gi_add hx hb dX12_namedPart_7 ?_
  obtain ⟨hg_1, hM⟩ := gd_some hM
  refine mi_ald S hG 81 84 rfl ec_84 (Nat.lt_of_lt_of_le (Nat.le_of_ble_eq_true rfl) hn) dX12_namedPart_8 hg_1 (by decide) ?_
  refine gi_nm (fun x_2 ex_2 => ?_)
  replace hM := nx_at hM ex_2
  clear ex_2
  obtain ⟨hg_3, hM⟩ := gd_some hM
  rcases (show x_2 = 0 ∨ x_2 = 1 ∨ x_2 = 2 ∨ x_2 = 3 ∨ x_2 = 4 ∨ x_2 = 5 ∨ x_2 = 6 ∨ x_2 = 7 ∨ (x_2 < 0 ∨ 7 < x_2) by omega) with hs_4 | hs_4 | hs_4 | hs_4 | hs_4 | hs_4 | hs_4 | hs_4 | hs_4
  · replace hM := ifp hM hs_4
    refine gi_tsI (off := 47) (tgt := 56) hx hb 0 dX12_namedPart_9 hg_3 (by omega) (by omega) (by rfl) (by decide) ?_
    refine lv_iload_n hx hb dX12_namedPart_56 rfl (lv_at hl 2 rfl) ?_
    refine lv_iconst (v := iI 1) hx hb dX12_namedPart_57 (by decide) ?_
    obtain ⟨hg_5, hM⟩ := gd_some hM
    refine gi_icmp_ne (tgt := 65) hx hb dX12_namedPart_58 (by decide) hg_5 (by decide) (fun c_6 => ?_) (fun c_6 => ?_)
    · replace hM := ifn hM c_6
      refine lv_lconst (v := jJ 0) hx hb dX12_namedPart_65 (by decide) ?_
      cases hM
      exact g_lret S hr hlk hG hsz dX12_namedPart_66 ⟨Nat.le_of_ble_eq_true rfl, Nat.le_of_ble_eq_true rfl⟩ ⟨rfl, rfl⟩
    · replace hM := ifp hM c_6
      refine lv_lconst (v := jJ 1) hx hb dX12_namedPart_61 (by decide) ?_
      refine lv_goto (tgt := 66) hx hb dX12_namedPart_62 (by decide) ?_
      cases hM
      exact g_lret S hr hlk hG hsz dX12_namedPart_66 ⟨Nat.le_of_ble_eq_true rfl, Nat.le_of_ble_eq_true rfl⟩ ⟨rfl, rfl⟩
  · replace hM := ifn hM (by omega)
    replace hM := ifp hM hs_4
    refine gi_tsI (off := 58) (tgt := 67) hx hb 1 dX12_namedPart_9 hg_3 (by omega) (by omega) (by rfl) (by decide) ?_
    refine lv_iload_n hx hb dX12_namedPart_67 rfl (lv_at hl 2 rfl) ?_
    obtain ⟨hg_7, hM⟩ := gd_some hM
    refine gi_if_ne (tgt := 75) hx hb dX12_namedPart_68 (by decide) hg_7 (fun c_8 => ?_) (fun c_8 => ?_)
    · replace hM := ifn hM c_8
      refine lv_lconst (v := jJ 0) hx hb dX12_namedPart_75 (by decide) ?_
      cases hM
      exact g_lret S hr hlk hG hsz dX12_namedPart_76 ⟨Nat.le_of_ble_eq_true rfl, Nat.le_of_ble_eq_true rfl⟩ ⟨rfl, rfl⟩
    · replace hM := ifp hM c_8
      refine lv_lconst (v := jJ 1) hx hb dX12_namedPart_71 (by decide) ?_
      refine lv_goto (tgt := 76) hx hb dX12_namedPart_72 (by decide) ?_
      cases hM
      exact g_lret S hr hlk hG hsz dX12_namedPart_76 ⟨Nat.le_of_ble_eq_true rfl, Nat.le_of_ble_eq_true rfl⟩ ⟨rfl, rfl⟩
  · replace hM := ifn hM (by omega)
    replace hM := ifn hM (by omega)
    replace hM := ifp hM hs_4
    refine gi_tsI (off := 68) (tgt := 77) hx hb 2 dX12_namedPart_9 hg_3 (by omega) (by omega) (by rfl) (by decide) ?_
    refine lv_aload_n hx hb dX12_namedPart_77 rfl (lv_at hl 0 rfl) ?_
    refine m_get S hG 80 83 17 rfl ec_83 cpX12 wm_1690 dX12_namedPart_78 rfl (Nat.lt_of_lt_of_le (Nat.le_of_ble_eq_true rfl) hn) (by decide) ?_
    refine lv_bipush (v := iI 24) hx hb dX12_namedPart_81 (by decide) ?_
    refine lv_aload_n hx hb dX12_namedPart_83 rfl (lv_at hl 0 rfl) ?_
    refine m_get S hG 80 83 0 rfl ec_83 cpX12 wm_1673 dX12_namedPart_84 rfl (Nat.lt_of_lt_of_le (Nat.le_of_ble_eq_true rfl) hn) (by decide) ?_
    refine lv_bipush (v := iI 48) hx hb dX12_namedPart_87 (by decide) ?_
    refine lv_iload_n hx hb dX12_namedPart_89 rfl (lv_at hl 1 rfl) ?_
    refine gi_add hx hb dX12_namedPart_90 ?_
    obtain ⟨hg_9, hM⟩ := gd_some hM
    refine mi_ald S hG 81 84 rfl ec_84 (Nat.lt_of_lt_of_le (Nat.le_of_ble_eq_true rfl) hn) dX12_namedPart_91 hg_9 (by decide) ?_
    refine gi_add hx hb dX12_namedPart_92 ?_
    refine lv_bipush (v := iI 8) hx hb dX12_namedPart_93 (by decide) ?_
    refine gi_mul hx hb dX12_namedPart_95 ?_
    refine lv_iload_n hx hb dX12_namedPart_96 rfl (lv_at hl 2 rfl) ?_
    refine gi_add hx hb dX12_namedPart_97 ?_
    obtain ⟨hg_10, hM⟩ := gd_some hM
    refine mj_ald S hG 90 93 rfl ec_93 (Nat.lt_of_lt_of_le (Nat.le_of_ble_eq_true rfl) hn) dX12_namedPart_98 hg_10 (by decide) ?_
    cases hM
    exact g_lret S hr hlk hG hsz dX12_namedPart_99 ⟨Nat.le_of_ble_eq_true rfl, Nat.le_of_ble_eq_true rfl⟩ ⟨rfl, rfl⟩
  · replace hM := ifn hM (by omega)
    replace hM := ifn hM (by omega)
    replace hM := ifn hM (by omega)
    replace hM := ifp hM hs_4
    refine gi_tsI (off := 106) (tgt := 115) hx hb 3 dX12_namedPart_9 hg_3 (by omega) (by omega) (by rfl) (by decide) ?_
    refine lv_aload_n hx hb dX12_namedPart_115 rfl (lv_at hl 0 rfl) ?_
    refine lv_aload_n hx hb dX12_namedPart_116 rfl (lv_at hl 0 rfl) ?_
    refine m_get S hG 80 83 0 rfl ec_83 cpX12 wm_1673 dX12_namedPart_117 rfl (Nat.lt_of_lt_of_le (Nat.le_of_ble_eq_true rfl) hn) (by decide) ?_
    refine lv_bipush (v := iI 24) hx hb dX12_namedPart_120 (by decide) ?_
    refine lv_iload_n hx hb dX12_namedPart_122 rfl (lv_at hl 1 rfl) ?_
    refine gi_add hx hb dX12_namedPart_123 ?_
    refine mi_ald S hG 81 84 rfl ec_84 (Nat.lt_of_lt_of_le (Nat.le_of_ble_eq_true rfl) hn) dX12_namedPart_124 hg_1 (by decide) ?_
    refine lv_aload_n hx hb dX12_namedPart_125 rfl (lv_at hl 0 rfl) ?_
    refine m_get S hG 80 83 0 rfl ec_83 cpX12 wm_1673 dX12_namedPart_126 rfl (Nat.lt_of_lt_of_le (Nat.le_of_ble_eq_true rfl) hn) (by decide) ?_
    refine lv_bipush (v := iI 48) hx hb dX12_namedPart_129 (by decide) ?_
    refine lv_iload_n hx hb dX12_namedPart_131 rfl (lv_at hl 1 rfl) ?_
    refine gi_add hx hb dX12_namedPart_132 ?_
    obtain ⟨hg_11, hM⟩ := gd_some hM
    refine mi_ald S hG 81 84 rfl ec_84 (Nat.lt_of_lt_of_le (Nat.le_of_ble_eq_true rfl) hn) dX12_namedPart_133 hg_11 (by decide) ?_
    refine lv_aload_n hx hb dX12_namedPart_134 rfl (lv_at hl 0 rfl) ?_
    refine m_get S hG 80 83 0 rfl ec_83 cpX12 wm_1673 dX12_namedPart_135 rfl (Nat.lt_of_lt_of_le (Nat.le_of_ble_eq_true rfl) hn) (by decide) ?_
    refine lv_bipush (v := iI 72) hx hb dX12_namedPart_138 (by decide) ?_
    refine lv_iload_n hx hb dX12_namedPart_140 rfl (lv_at hl 1 rfl) ?_
    refine gi_add hx hb dX12_namedPart_141 ?_
    obtain ⟨hg_12, hM⟩ := gd_some hM
    refine mi_ald S hG 81 84 rfl ec_84 (Nat.lt_of_lt_of_le (Nat.le_of_ble_eq_true rfl) hn) dX12_namedPart_142 hg_12 (by decide) ?_
    refine lv_iload_n hx hb dX12_namedPart_143 rfl (lv_at hl 2 rfl) ?_
    obtain ⟨r_14, S_15, hc_13, hM⟩ := bd2_some hM
    refine g_vl (As := [.int (iI (S0 84 (24 + a1))), .int (iI (S0 84 (48 + a1))), .int (iI (S0 84 (72 + a1))), .int (iI a2)]) (rest := []) S hG hsz (vX12_namedIn l hn (S0 84 (24 + a1)) (S0 84 (48 + a1)) (S0 84 (72 + a1)) a2 hc_13) wV_12_365 (ec_83 _) cpX12 (Nat.lt_of_lt_of_le (Nat.le_of_ble_eq_true rfl) hn) dX12_namedPart_144 rfl hl.1 (ar := 4) (by decide +kernel) rfl ⟨Nat.le_of_ble_eq_true rfl, Nat.le_of_ble_eq_true rfl, Nat.le_of_ble_eq_true rfl, Nat.le_of_ble_eq_true rfl⟩ (Nat.le_of_ble_eq_true rfl) (fun rv uu H locs hp hG => ?_)
    obtain ⟨rfl, rfl⟩ := hp
    replace hG : gW D cy b n s H locs (enc b cy X S_15) := hG
    cases hM
    exact g_lret S hr hlk hG hsz dX12_namedPart_147 ⟨Nat.le_of_ble_eq_true rfl, Nat.le_of_ble_eq_true rfl⟩ ⟨rfl, rfl⟩
  · replace hM := ifn hM (by omega)
    replace hM := ifn hM (by omega)
    replace hM := ifn hM (by omega)
    replace hM := ifn hM (by omega)
    replace hM := ifp hM hs_4
    refine gi_tsI (off := 106) (tgt := 115) hx hb 4 dX12_namedPart_9 hg_3 (by omega) (by omega) (by rfl) (by decide) ?_
    refine lv_aload_n hx hb dX12_namedPart_115 rfl (lv_at hl 0 rfl) ?_
    refine lv_aload_n hx hb dX12_namedPart_116 rfl (lv_at hl 0 rfl) ?_
    refine m_get S hG 80 83 0 rfl ec_83 cpX12 wm_1673 dX12_namedPart_117 rfl (Nat.lt_of_lt_of_le (Nat.le_of_ble_eq_true rfl) hn) (by decide) ?_
    refine lv_bipush (v := iI 24) hx hb dX12_namedPart_120 (by decide) ?_
    refine lv_iload_n hx hb dX12_namedPart_122 rfl (lv_at hl 1 rfl) ?_
    refine gi_add hx hb dX12_namedPart_123 ?_
    refine mi_ald S hG 81 84 rfl ec_84 (Nat.lt_of_lt_of_le (Nat.le_of_ble_eq_true rfl) hn) dX12_namedPart_124 hg_1 (by decide) ?_
    refine lv_aload_n hx hb dX12_namedPart_125 rfl (lv_at hl 0 rfl) ?_
    refine m_get S hG 80 83 0 rfl ec_83 cpX12 wm_1673 dX12_namedPart_126 rfl (Nat.lt_of_lt_of_le (Nat.le_of_ble_eq_true rfl) hn) (by decide) ?_
    refine lv_bipush (v := iI 48) hx hb dX12_namedPart_129 (by decide) ?_
    refine lv_iload_n hx hb dX12_namedPart_131 rfl (lv_at hl 1 rfl) ?_
    refine gi_add hx hb dX12_namedPart_132 ?_
    obtain ⟨hg_16, hM⟩ := gd_some hM
    refine mi_ald S hG 81 84 rfl ec_84 (Nat.lt_of_lt_of_le (Nat.le_of_ble_eq_true rfl) hn) dX12_namedPart_133 hg_16 (by decide) ?_
    refine lv_aload_n hx hb dX12_namedPart_134 rfl (lv_at hl 0 rfl) ?_
    refine m_get S hG 80 83 0 rfl ec_83 cpX12 wm_1673 dX12_namedPart_135 rfl (Nat.lt_of_lt_of_le (Nat.le_of_ble_eq_true rfl) hn) (by decide) ?_
    refine lv_bipush (v := iI 72) hx hb dX12_namedPart_138 (by decide) ?_
    refine lv_iload_n hx hb dX12_namedPart_140 rfl (lv_at hl 1 rfl) ?_
    refine gi_add hx hb dX12_namedPart_141 ?_
    obtain ⟨hg_17, hM⟩ := gd_some hM
    refine mi_ald S hG 81 84 rfl ec_84 (Nat.lt_of_lt_of_le (Nat.le_of_ble_eq_true rfl) hn) dX12_namedPart_142 hg_17 (by decide) ?_
    refine lv_iload_n hx hb dX12_namedPart_143 rfl (lv_at hl 2 rfl) ?_
    obtain ⟨r_19, S_20, hc_18, hM⟩ := bd2_some hM
    refine g_vl (As := [.int (iI (S0 84 (24 + a1))), .int (iI (S0 84 (48 + a1))), .int (iI (S0 84 (72 + a1))), .int (iI a2)]) (rest := []) S hG hsz (vX12_namedIn l hn (S0 84 (24 + a1)) (S0 84 (48 + a1)) (S0 84 (72 + a1)) a2 hc_18) wV_12_365 (ec_83 _) cpX12 (Nat.lt_of_lt_of_le (Nat.le_of_ble_eq_true rfl) hn) dX12_namedPart_144 rfl hl.1 (ar := 4) (by decide +kernel) rfl ⟨Nat.le_of_ble_eq_true rfl, Nat.le_of_ble_eq_true rfl, Nat.le_of_ble_eq_true rfl, Nat.le_of_ble_eq_true rfl⟩ (Nat.le_of_ble_eq_true rfl) (fun rv uu H locs hp hG => ?_)
    obtain ⟨rfl, rfl⟩ := hp
    replace hG : gW D cy b n s H locs (enc b cy X S_20) := hG
    cases hM
    exact g_lret S hr hlk hG hsz dX12_namedPart_147 ⟨Nat.le_of_ble_eq_true rfl, Nat.le_of_ble_eq_true rfl⟩ ⟨rfl, rfl⟩
  · replace hM := ifn hM (by omega)
    replace hM := ifn hM (by omega)
    replace hM := ifn hM (by omega)
    replace hM := ifn hM (by omega)
    replace hM := ifn hM (by omega)
    replace hM := ifp hM hs_4
    refine gi_tsI (off := 106) (tgt := 115) hx hb 5 dX12_namedPart_9 hg_3 (by omega) (by omega) (by rfl) (by decide) ?_
    refine lv_aload_n hx hb dX12_namedPart_115 rfl (lv_at hl 0 rfl) ?_
    refine lv_aload_n hx hb dX12_namedPart_116 rfl (lv_at hl 0 rfl) ?_
    refine m_get S hG 80 83 0 rfl ec_83 cpX12 wm_1673 dX12_namedPart_117 rfl (Nat.lt_of_lt_of_le (Nat.le_of_ble_eq_true rfl) hn) (by decide) ?_
    refine lv_bipush (v := iI 24) hx hb dX12_namedPart_120 (by decide) ?_
    refine lv_iload_n hx hb dX12_namedPart_122 rfl (lv_at hl 1 rfl) ?_
    refine gi_add hx hb dX12_namedPart_123 ?_
    refine mi_ald S hG 81 84 rfl ec_84 (Nat.lt_of_lt_of_le (Nat.le_of_ble_eq_true rfl) hn) dX12_namedPart_124 hg_1 (by decide) ?_
    refine lv_aload_n hx hb dX12_namedPart_125 rfl (lv_at hl 0 rfl) ?_
    refine m_get S hG 80 83 0 rfl ec_83 cpX12 wm_1673 dX12_namedPart_126 rfl (Nat.lt_of_lt_of_le (Nat.le_of_ble_eq_true rfl) hn) (by decide) ?_
    refine lv_bipush (v := iI 48) hx hb dX12_namedPart_129 (by decide) ?_
    refine lv_iload_n hx hb dX12_namedPart_131 rfl (lv_at hl 1 rfl) ?_
    refine gi_add hx hb dX12_namedPart_132 ?_
    obtain ⟨hg_21, hM⟩ := gd_some hM
    refine mi_ald S hG 81 84 rfl ec_84 (Nat.lt_of_lt_of_le (Nat.le_of_ble_eq_true rfl) hn) dX12_namedPart_133 hg_21 (by decide) ?_
    refine lv_aload_n hx hb dX12_namedPart_134 rfl (lv_at hl 0 rfl) ?_
    refine m_get S hG 80 83 0 rfl ec_83 cpX12 wm_1673 dX12_namedPart_135 rfl (Nat.lt_of_lt_of_le (Nat.le_of_ble_eq_true rfl) hn) (by decide) ?_
    refine lv_bipush (v := iI 72) hx hb dX12_namedPart_138 (by decide) ?_
    refine lv_iload_n hx hb dX12_namedPart_140 rfl (lv_at hl 1 rfl) ?_
    refine gi_add hx hb dX12_namedPart_141 ?_
    obtain ⟨hg_22, hM⟩ := gd_some hM
    refine mi_ald S hG 81 84 rfl ec_84 (Nat.lt_of_lt_of_le (Nat.le_of_ble_eq_true rfl) hn) dX12_namedPart_142 hg_22 (by decide) ?_
    refine lv_iload_n hx hb dX12_namedPart_143 rfl (lv_at hl 2 rfl) ?_
    obtain ⟨r_24, S_25, hc_23, hM⟩ := bd2_some hM
    refine g_vl (As := [.int (iI (S0 84 (24 + a1))), .int (iI (S0 84 (48 + a1))), .int (iI (S0 84 (72 + a1))), .int (iI a2)]) (rest := []) S hG hsz (vX12_namedIn l hn (S0 84 (24 + a1)) (S0 84 (48 + a1)) (S0 84 (72 + a1)) a2 hc_23) wV_12_365 (ec_83 _) cpX12 (Nat.lt_of_lt_of_le (Nat.le_of_ble_eq_true rfl) hn) dX12_namedPart_144 rfl hl.1 (ar := 4) (by decide +kernel) rfl ⟨Nat.le_of_ble_eq_true rfl, Nat.le_of_ble_eq_true rfl, Nat.le_of_ble_eq_true rfl, Nat.le_of_ble_eq_true rfl⟩ (Nat.le_of_ble_eq_true rfl) (fun rv uu H locs hp hG => ?_)
    obtain ⟨rfl, rfl⟩ := hp
    replace hG : gW D cy b n s H locs (enc b cy X S_25) := hG
    cases hM
    exact g_lret S hr hlk hG hsz dX12_namedPart_147 ⟨Nat.le_of_ble_eq_true rfl, Nat.le_of_ble_eq_true rfl⟩ ⟨rfl, rfl⟩
  · replace hM := ifn hM (by omega)
    replace hM := ifn hM (by omega)
    replace hM := ifn hM (by omega)
    replace hM := ifn hM (by omega)
    replace hM := ifn hM (by omega)
    replace hM := ifn hM (by omega)
    replace hM := ifp hM hs_4
    refine gi_tsI (off := 106) (tgt := 115) hx hb 6 dX12_namedPart_9 hg_3 (by omega) (by omega) (by rfl) (by decide) ?_
    refine lv_aload_n hx hb dX12_namedPart_115 rfl (lv_at hl 0 rfl) ?_
    refine lv_aload_n hx hb dX12_namedPart_116 rfl (lv_at hl 0 rfl) ?_
    refine m_get S hG 80 83 0 rfl ec_83 cpX12 wm_1673 dX12_namedPart_117 rfl (Nat.lt_of_lt_of_le (Nat.le_of_ble_eq_true rfl) hn) (by decide) ?_
    refine lv_bipush (v := iI 24) hx hb dX12_namedPart_120 (by decide) ?_
    refine lv_iload_n hx hb dX12_namedPart_122 rfl (lv_at hl 1 rfl) ?_
    refine gi_add hx hb dX12_namedPart_123 ?_
    refine mi_ald S hG 81 84 rfl ec_84 (Nat.lt_of_lt_of_le (Nat.le_of_ble_eq_true rfl) hn) dX12_namedPart_124 hg_1 (by decide) ?_
    refine lv_aload_n hx hb dX12_namedPart_125 rfl (lv_at hl 0 rfl) ?_
    refine m_get S hG 80 83 0 rfl ec_83 cpX12 wm_1673 dX12_namedPart_126 rfl (Nat.lt_of_lt_of_le (Nat.le_of_ble_eq_true rfl) hn) (by decide) ?_
    refine lv_bipush (v := iI 48) hx hb dX12_namedPart_129 (by decide) ?_
    refine lv_iload_n hx hb dX12_namedPart_131 rfl (lv_at hl 1 rfl) ?_
    refine gi_add hx hb dX12_namedPart_132 ?_
    obtain ⟨hg_26, hM⟩ := gd_some hM
    refine mi_ald S hG 81 84 rfl ec_84 (Nat.lt_of_lt_of_le (Nat.le_of_ble_eq_true rfl) hn) dX12_namedPart_133 hg_26 (by decide) ?_
    refine lv_aload_n hx hb dX12_namedPart_134 rfl (lv_at hl 0 rfl) ?_
    refine m_get S hG 80 83 0 rfl ec_83 cpX12 wm_1673 dX12_namedPart_135 rfl (Nat.lt_of_lt_of_le (Nat.le_of_ble_eq_true rfl) hn) (by decide) ?_
    refine lv_bipush (v := iI 72) hx hb dX12_namedPart_138 (by decide) ?_
    refine lv_iload_n hx hb dX12_namedPart_140 rfl (lv_at hl 1 rfl) ?_
    refine gi_add hx hb dX12_namedPart_141 ?_
    obtain ⟨hg_27, hM⟩ := gd_some hM
    refine mi_ald S hG 81 84 rfl ec_84 (Nat.lt_of_lt_of_le (Nat.le_of_ble_eq_true rfl) hn) dX12_namedPart_142 hg_27 (by decide) ?_
    refine lv_iload_n hx hb dX12_namedPart_143 rfl (lv_at hl 2 rfl) ?_
    obtain ⟨r_29, S_30, hc_28, hM⟩ := bd2_some hM
    refine g_vl (As := [.int (iI (S0 84 (24 + a1))), .int (iI (S0 84 (48 + a1))), .int (iI (S0 84 (72 + a1))), .int (iI a2)]) (rest := []) S hG hsz (vX12_namedIn l hn (S0 84 (24 + a1)) (S0 84 (48 + a1)) (S0 84 (72 + a1)) a2 hc_28) wV_12_365 (ec_83 _) cpX12 (Nat.lt_of_lt_of_le (Nat.le_of_ble_eq_true rfl) hn) dX12_namedPart_144 rfl hl.1 (ar := 4) (by decide +kernel) rfl ⟨Nat.le_of_ble_eq_true rfl, Nat.le_of_ble_eq_true rfl, Nat.le_of_ble_eq_true rfl, Nat.le_of_ble_eq_true rfl⟩ (Nat.le_of_ble_eq_true rfl) (fun rv uu H locs hp hG => ?_)
    obtain ⟨rfl, rfl⟩ := hp
    replace hG : gW D cy b n s H locs (enc b cy X S_30) := hG
    cases hM
    exact g_lret S hr hlk hG hsz dX12_namedPart_147 ⟨Nat.le_of_ble_eq_true rfl, Nat.le_of_ble_eq_true rfl⟩ ⟨rfl, rfl⟩
  · replace hM := ifn hM (by omega)
    replace hM := ifn hM (by omega)
    replace hM := ifn hM (by omega)
    replace hM := ifn hM (by omega)
    replace hM := ifn hM (by omega)
    replace hM := ifn hM (by omega)
    replace hM := ifn hM (by omega)
    replace hM := ifp hM hs_4
    refine gi_tsI (off := 91) (tgt := 100) hx hb 7 dX12_namedPart_9 hg_3 (by omega) (by omega) (by rfl) (by decide) ?_
    refine lv_aload_n hx hb dX12_namedPart_100 rfl (lv_at hl 0 rfl) ?_
    refine lv_aload_n hx hb dX12_namedPart_101 rfl (lv_at hl 0 rfl) ?_
    refine m_get S hG 80 83 0 rfl ec_83 cpX12 wm_1673 dX12_namedPart_102 rfl (Nat.lt_of_lt_of_le (Nat.le_of_ble_eq_true rfl) hn) (by decide) ?_
    refine lv_bipush (v := iI 48) hx hb dX12_namedPart_105 (by decide) ?_
    refine lv_iload_n hx hb dX12_namedPart_107 rfl (lv_at hl 1 rfl) ?_
    refine gi_add hx hb dX12_namedPart_108 ?_
    obtain ⟨hg_31, hM⟩ := gd_some hM
    refine mi_ald S hG 81 84 rfl ec_84 (Nat.lt_of_lt_of_le (Nat.le_of_ble_eq_true rfl) hn) dX12_namedPart_109 hg_31 (by decide) ?_
    refine lv_iload_n hx hb dX12_namedPart_110 rfl (lv_at hl 2 rfl) ?_
    obtain ⟨r_33, hc_32, hM⟩ := bd1_some hM
    refine g_vl (As := [.int (iI (S0 84 (48 + a1))), .int (iI a2)]) (rest := []) S hG hsz (vX12_namedExpr l hn (S0 84 (48 + a1)) a2 hc_32) wV_12_359 (ec_83 _) cpX12 (Nat.lt_of_lt_of_le (Nat.le_of_ble_eq_true rfl) hn) dX12_namedPart_111 rfl hl.1 (ar := 2) (by decide +kernel) rfl ⟨Nat.le_of_ble_eq_true rfl, Nat.le_of_ble_eq_true rfl, Nat.le_of_ble_eq_true rfl, Nat.le_of_ble_eq_true rfl⟩ (Nat.le_of_ble_eq_true rfl) (fun rv uu H locs hp hG => ?_)
    obtain ⟨rfl, rfl⟩ := hp
    replace hG : gW D cy b n s H locs (enc b cy X S0) := hG
    cases hM
    exact g_lret S hr hlk hG hsz dX12_namedPart_114 ⟨Nat.le_of_ble_eq_true rfl, Nat.le_of_ble_eq_true rfl⟩ ⟨rfl, rfl⟩
  · replace hM := ifn hM (by omega)
    replace hM := ifn hM (by omega)
    replace hM := ifn hM (by omega)
    replace hM := ifn hM (by omega)
    replace hM := ifn hM (by omega)
    replace hM := ifn hM (by omega)
    replace hM := ifn hM (by omega)
    replace hM := ifn hM (by omega)
    refine gi_tsO (tgt := 115) hx hb dX12_namedPart_9 hg_3 hs_4 (by decide) ?_
    refine lv_aload_n hx hb dX12_namedPart_115 rfl (lv_at hl 0 rfl) ?_
    refine lv_aload_n hx hb dX12_namedPart_116 rfl (lv_at hl 0 rfl) ?_
    refine m_get S hG 80 83 0 rfl ec_83 cpX12 wm_1673 dX12_namedPart_117 rfl (Nat.lt_of_lt_of_le (Nat.le_of_ble_eq_true rfl) hn) (by decide) ?_
    refine lv_bipush (v := iI 24) hx hb dX12_namedPart_120 (by decide) ?_
    refine lv_iload_n hx hb dX12_namedPart_122 rfl (lv_at hl 1 rfl) ?_
    refine gi_add hx hb dX12_namedPart_123 ?_
    refine mi_ald S hG 81 84 rfl ec_84 (Nat.lt_of_lt_of_le (Nat.le_of_ble_eq_true rfl) hn) dX12_namedPart_124 hg_1 (by decide) ?_
    refine lv_aload_n hx hb dX12_namedPart_125 rfl (lv_at hl 0 rfl) ?_
    refine m_get S hG 80 83 0 rfl ec_83 cpX12 wm_1673 dX12_namedPart_126 rfl (Nat.lt_of_lt_of_le (Nat.le_of_ble_eq_true rfl) hn) (by decide) ?_
    refine lv_bipush (v := iI 48) hx hb dX12_namedPart_129 (by decide) ?_
    refine lv_iload_n hx hb dX12_namedPart_131 rfl (lv_at hl 1 rfl) ?_
    refine gi_add hx hb dX12_namedPart_132 ?_
    obtain ⟨hg_34, hM⟩ := gd_some hM
    refine mi_ald S hG 81 84 rfl ec_84 (Nat.lt_of_lt_of_le (Nat.le_of_ble_eq_true rfl) hn) dX12_namedPart_133 hg_34 (by decide) ?_
    refine lv_aload_n hx hb dX12_namedPart_134 rfl (lv_at hl 0 rfl) ?_
    refine m_get S hG 80 83 0 rfl ec_83 cpX12 wm_1673 dX12_namedPart_135 rfl (Nat.lt_of_lt_of_le (Nat.le_of_ble_eq_true rfl) hn) (by decide) ?_
    refine lv_bipush (v := iI 72) hx hb dX12_namedPart_138 (by decide) ?_
    refine lv_iload_n hx hb dX12_namedPart_140 rfl (lv_at hl 1 rfl) ?_
    refine gi_add hx hb dX12_namedPart_141 ?_
    obtain ⟨hg_35, hM⟩ := gd_some hM
    refine mi_ald S hG 81 84 rfl ec_84 (Nat.lt_of_lt_of_le (Nat.le_of_ble_eq_true rfl) hn) dX12_namedPart_142 hg_35 (by decide) ?_
    refine lv_iload_n hx hb dX12_namedPart_143 rfl (lv_at hl 2 rfl) ?_
    obtain ⟨r_37, S_38, hc_36, hM⟩ := bd2_some hM
    refine g_vl (As := [.int (iI (S0 84 (24 + a1))), .int (iI (S0 84 (48 + a1))), .int (iI (S0 84 (72 + a1))), .int (iI a2)]) (rest := []) S hG hsz (vX12_namedIn l hn (S0 84 (24 + a1)) (S0 84 (48 + a1)) (S0 84 (72 + a1)) a2 hc_36) wV_12_365 (ec_83 _) cpX12 (Nat.lt_of_lt_of_le (Nat.le_of_ble_eq_true rfl) hn) dX12_namedPart_144 rfl hl.1 (ar := 4) (by decide +kernel) rfl ⟨Nat.le_of_ble_eq_true rfl, Nat.le_of_ble_eq_true rfl, Nat.le_of_ble_eq_true rfl, Nat.le_of_ble_eq_true rfl⟩ (Nat.le_of_ble_eq_true rfl) (fun rv uu H locs hp hG => ?_)
    obtain ⟨rfl, rfl⟩ := hp
    replace hG : gW D cy b n s H locs (enc b cy X S_38) := hG
    cases hM
    exact g_lret S hr hlk hG hsz dX12_namedPart_147 ⟨Nat.le_of_ble_eq_true rfl, Nat.le_of_ble_eq_true rfl⟩ ⟨rfl, rfl⟩
theorem wV_12_353 : gWV "GrownKindsModel" 353 yX12_namedPart cX12_namedPart 3 (some .long) := ⟨wm_2152, wm_2154, wm_133, wm_188, wm_2155, by decide +kernel, by decide +kernel⟩
theorem wV_12_356 : gWV "GrownKindsModel" 356 yX12_namesRest cX12_namesRest 9 none := ⟨wm_2170, wm_2172, wm_136, wm_188, wm_2173, by decide +kernel, by decide +kernel⟩
def mX12_names_108 (v_11 : Int) : Nat → Int → Int → St → Option (Int × St)
  | 0, _, _, _ => none
  | f + 1, v_37, v_38, S_39 => gd ((inI v_37) ∧ (inI (S_39 84 0))) <| if (S_39 84 0) ≤ v_37 then (some (v_38, S_39)) else (bd1 (mX12_namedExpr S_39 v_37 v_11) fun r_50 => bd1 (gd (inI v_38) <| if v_38 = 0 then (gd (0 ≤ (((24 + v_37) * 8) + v_11) ∧ (((24 + v_37) * 8) + v_11) < 240) <| gd ((inL r_50) ∧ (inL (S_39 93 (((24 + v_37) * 8) + v_11)))) <| if r_50 = (S_39 93 (((24 + v_37) * 8) + v_11)) then (some (0)) else (some (1))) else (some (1))) fun z_51 => gd (0 ≤ (((24 + v_37) * 8) + v_11) ∧ (((24 + v_37) * 8) + v_11) < 240) <| nx (up S_39 93 (((24 + v_37) * 8) + v_11) r_50) fun S_55 => mX12_names_108 v_11 f (v_37 + 1) z_51 S_55)
def mX12_names_73 (v_11 : Int) : Nat → Int → St → Option (St)
  | 0, _, _ => none
  | f + 1, v_32, S_33 => gd (inI v_32) <| if v_32 < 0 then (some (S_33)) else (bd2 (mX12_namedPart S_33 v_32 v_11) fun r_67 S_68 => gd (0 ≤ ((v_32 * 8) + v_11) ∧ ((v_32 * 8) + v_11) < 240) <| nx (up S_68 93 ((v_32 * 8) + v_11) r_67) fun S_70 => bd1 (mX12_namesRest S_70 v_32 v_11) fun S_72 => mX12_names_73 v_11 f (v_32 - 1) S_72)
def mX12_names_58 (v_11 : Int) : Nat → Int → St → Option (St)
  | 0, _, _ => none
  | f + 1, v_21, S_22 => gd (inI v_21) <| if v_21 = 0 then (some (S_22)) else (nx ((S_22 84 2) - 1) fun x_31 => bd1 (mX12_names_73 v_11 FU x_31 S_22) fun S_34 => bd2 (mX12_names_108 v_11 FU 0 0 S_34) fun y_40 S_41 => mX12_names_58 v_11 f y_40 S_41)
def mX12_names_50  : Nat → Int → St → Option (St)
  | 0, _, _ => none
  | f + 1, v_11, S_12 => gd (inI v_11) <| if 8 ≤ v_11 then (some (S_12)) else (bd1 (mX12_names_58 v_11 FU 1 S_12) fun S_23 => mX12_names_50 f (v_11 + 1) S_23)
def mX12_names_26  : Nat → Int → St → Option (St)
  | 0, _, _ => none
  | f + 1, v_6, S_7 => gd (inI v_6) <| if 192 ≤ v_6 then (some (S_7)) else (gd (0 ≤ v_6 ∧ v_6 < 192) <| nx (up S_7 94 v_6 0) fun S_79 => mX12_names_26 f (v_6 + 1) S_79)
def mX12_names_2  : Nat → Int → St → Option (St)
  | 0, _, _ => none
  | f + 1, v_1, S_2 => gd (inI v_1) <| if 240 ≤ v_1 then (some (S_2)) else (gd (0 ≤ v_1 ∧ v_1 < 240) <| nx (up S_2 93 v_1 0) fun S_86 => mX12_names_2 f (v_1 + 1) S_86)
def mX12_names (S0 : St)  : Option (St) := bd1 (mX12_names_2 FU 0 S0) fun S_3 => bd1 (mX12_names_26 FU 0 S_3) fun S_8 => bd1 (mX12_names_50 FU 0 S_8) fun S_13 => some (S_13)
set_option maxHeartbeats 4000000 in
set_option maxRecDepth 100000 in
theorem vX12_names (l : Launch) {D : va_G} {cy : Nat → ClassId} {b n : Nat} (hn : 102 ≤ n) {X : Nat → va_E} {S0 : St}  {o1 : St} (hM : mX12_names S0  = some o1) : gV l yX12_names cX12_names 6 4 0 0 D cy b n (enc b cy X S0) [.ref (b + 80)] (fun u => u = (n, enc b cy X o1)) := by
  refine gV_of (by decide) (Nat.le_of_ble_eq_true rfl) ?_
  intro p e s m args below meth c S hr hlk hin hsz ls hl hG
  have hx := S.1
  have hb := S.2.1
  have hl : lv_has ls 6 [(0, .ref (b + 80))] := hl
  replace hG : gW D cy b n s s.heap [] (enc b cy X S0) := hG
  obtain ⟨H, eH⟩ : ∃ H, H = s.heap := ⟨_, rfl⟩
  obtain ⟨locs, elocs⟩ : ∃ locs : List Loc, locs = [] := ⟨_, rfl⟩
  rw [← eH, ← elocs] at hG
  rw [← eH, ← elocs]
  clear eH elocs
  unfold mX12_names at hM
  refine lv_iconst (v := iI 0) hx hb dX12_names_0 (by decide) ?_
  refine lv_istore_n (lv' := [(1, .int (iI 0)), (0, .ref (b + 80))]) hx hb dX12_names_1 rfl hl (by decide) rfl (fun ls hl => ?_)
  obtain ⟨S_3, hc_4, hM⟩ := bd1_some hM
  have hK_5 : ∀ (H : Heap) (locs : List Loc) (ls : Array Slot), gW D cy b n s H locs (enc b cy X S_3) → lv_has ls 6 [(0, .ref (b + 80))] → W p l e (gRm 4 0 0) s m args below meth c H locs 0 0 (gQV D cy b s args below 0 0 (fun u => u = (n, enc b cy X o1))) (F0 m 24 ls []) := by
    intro H locs ls hG hl
    refine lv_iconst (v := iI 0) hx hb dX12_names_24 (by decide) ?_
    refine lv_istore_n (lv' := [(1, .int (iI 0)), (0, .ref (b + 80))]) hx hb dX12_names_25 rfl hl (by decide) rfl (fun ls hl => ?_)
    obtain ⟨S_8, hc_9, hM⟩ := bd1_some hM
    have hK_10 : ∀ (H : Heap) (locs : List Loc) (ls : Array Slot), gW D cy b n s H locs (enc b cy X S_8) → lv_has ls 6 [(0, .ref (b + 80))] → W p l e (gRm 4 0 0) s m args below meth c H locs 0 0 (gQV D cy b s args below 0 0 (fun u => u = (n, enc b cy X o1))) (F0 m 48 ls []) := by
      intro H locs ls hG hl
      refine lv_iconst (v := iI 0) hx hb dX12_names_48 (by decide) ?_
      refine lv_istore_n (lv' := [(1, .int (iI 0)), (0, .ref (b + 80))]) hx hb dX12_names_49 rfl hl (by decide) rfl (fun ls hl => ?_)
      obtain ⟨S_13, hc_14, hM⟩ := bd1_some hM
      have hK_15 : ∀ (H : Heap) (locs : List Loc) (ls : Array Slot), gW D cy b n s H locs (enc b cy X S_13) → lv_has ls 6 [] → W p l e (gRm 4 0 0) s m args below meth c H locs 0 0 (gQV D cy b s args below 0 0 (fun u => u = (n, enc b cy X o1))) (F0 m 187 ls []) := by
        intro H locs ls hG hl
        cases hM
        exact g_vret S hr hlk hG hsz dX12_names_187 ⟨Nat.le_of_ble_eq_true rfl, Nat.le_of_ble_eq_true rfl⟩ rfl
      have loop_16 : ∀ (f : Nat) (v_11 : Int) (S_12 : St) (H : Heap) (locs : List Loc) (ls : Array Slot), mX12_names_50 f v_11 S_12 = some S_13 → gW D cy b n s H locs (enc b cy X S_12) → lv_has ls 6 [(1, .int (iI v_11)), (0, .ref (b + 80))] → W p l e (gRm 4 0 0) s m args below meth c H locs 0 0 (gQV D cy b s args below 0 0 (fun u => u = (n, enc b cy X o1))) (F0 m 50 ls []) := by
        clear hM
        intro f
        induction f with
        | zero => intro v_11 S_12 H locs ls hM; rw [mX12_names_50] at hM; cases hM
        | succ f_18 ih_17 =>
          intro v_11 S_12 H locs ls hM hG hl
          rw [mX12_names_50] at hM
          refine lv_iload_n hx hb dX12_names_50 rfl (lv_at hl 0 rfl) ?_
          refine lv_bipush (v := iI 8) hx hb dX12_names_51 (by decide) ?_
          obtain ⟨hg_19, hM⟩ := gd_some hM
          refine gi_icmp_ge (tgt := 187) hx hb dX12_names_53 (by decide) hg_19 (by decide) (fun c_20 => ?_) (fun c_20 => ?_)
          · replace hM := ifp hM c_20
            cases hM
            exact hK_15 H locs ls hG (lv_sub hl [] rfl)
          · replace hM := ifn hM c_20
            refine lv_iconst (v := iI 1) hx hb dX12_names_56 (by decide) ?_
            refine lv_istore_n (lv' := [(2, .int (iI 1)), (1, .int (iI v_11)), (0, .ref (b + 80))]) hx hb dX12_names_57 rfl hl (by decide) rfl (fun ls hl => ?_)
            obtain ⟨S_23, hc_24, hM⟩ := bd1_some hM
            have hK_25 : ∀ (H : Heap) (locs : List Loc) (ls : Array Slot), gW D cy b n s H locs (enc b cy X S_23) → lv_has ls 6 [(1, .int (iI v_11)), (0, .ref (b + 80))] → W p l e (gRm 4 0 0) s m args below meth c H locs 0 0 (gQV D cy b s args below 0 0 (fun u => u = (n, enc b cy X o1))) (F0 m 181 ls []) := by
              intro H locs ls hG hl
              refine lv_iinc (v := iI (v_11 + 1)) (lv' := [(1, .int (iI (v_11 + 1))), (0, .ref (b + 80))]) hx hb dX12_names_181 hl (k := 0) rfl ((iI_add v_11 (1)).trans (congrArg iI (by omega))) (by decide) rfl (fun ls hl => ?_)
              refine lv_goto (tgt := 50) hx hb dX12_names_184 (by decide) ?_
              exact ih_17 (v_11 + 1) S_23 H locs ls hM hG (lv_sub hl [0, 1] rfl)
            have loop_26 : ∀ (f : Nat) (v_21 : Int) (S_22 : St) (H : Heap) (locs : List Loc) (ls : Array Slot), mX12_names_58 v_11 f v_21 S_22 = some S_23 → gW D cy b n s H locs (enc b cy X S_22) → lv_has ls 6 [(2, .int (iI v_21)), (1, .int (iI v_11)), (0, .ref (b + 80))] → W p l e (gRm 4 0 0) s m args below meth c H locs 0 0 (gQV D cy b s args below 0 0 (fun u => u = (n, enc b cy X o1))) (F0 m 58 ls []) := by
              clear hM
              intro f
              induction f with
              | zero => intro v_21 S_22 H locs ls hM; rw [mX12_names_58] at hM; cases hM
              | succ f_28 ih_27 =>
                intro v_21 S_22 H locs ls hM hG hl
                rw [mX12_names_58] at hM
                refine lv_iload_n hx hb dX12_names_58 rfl (lv_at hl 0 rfl) ?_
                obtain ⟨hg_29, hM⟩ := gd_some hM
                refine gi_if_eq (tgt := 181) hx hb dX12_names_59 (by decide) hg_29 (fun c_30 => ?_) (fun c_30 => ?_)
                · replace hM := ifp hM c_30
                  cases hM
                  exact hK_25 H locs ls hG (lv_sub hl [1, 2] rfl)
                · replace hM := ifn hM c_30
                  refine lv_iconst (v := iI 0) hx hb dX12_names_62 (by decide) ?_
                  refine lv_istore_n (lv' := [(2, .int (iI 0)), (1, .int (iI v_11)), (0, .ref (b + 80))]) hx hb dX12_names_63 rfl hl (by decide) rfl (fun ls hl => ?_)
                  refine lv_aload_n hx hb dX12_names_64 rfl (lv_at hl 2 rfl) ?_
                  refine m_get S hG 80 83 0 rfl ec_83 cpX12 wm_1673 dX12_names_65 rfl (Nat.lt_of_lt_of_le (Nat.le_of_ble_eq_true rfl) hn) (by decide) ?_
                  refine lv_iconst (v := iI 2) hx hb dX12_names_68 (by decide) ?_
                  refine mi_ald S hG 81 84 rfl ec_84 (Nat.lt_of_lt_of_le (Nat.le_of_ble_eq_true rfl) hn) dX12_names_69 (by decide) (by decide) ?_
                  refine lv_iconst (v := iI 1) hx hb dX12_names_70 (by decide) ?_
                  refine gi_sub hx hb dX12_names_71 ?_
                  refine gi_nm (fun x_31 ex_31 => ?_)
                  replace hM := nx_at hM ex_31
                  clear ex_31
                  refine lv_istore_n (lv' := [(3, .int (iI x_31)), (2, .int (iI 0)), (1, .int (iI v_11)), (0, .ref (b + 80))]) hx hb dX12_names_72 rfl hl (by decide) rfl (fun ls hl => ?_)
                  obtain ⟨S_34, hc_35, hM⟩ := bd1_some hM
                  have hK_36 : ∀ (H : Heap) (locs : List Loc) (ls : Array Slot), gW D cy b n s H locs (enc b cy X S_34) → lv_has ls 6 [(2, .int (iI 0)), (1, .int (iI v_11)), (0, .ref (b + 80))] → W p l e (gRm 4 0 0) s m args below meth c H locs 0 0 (gQV D cy b s args below 0 0 (fun u => u = (n, enc b cy X o1))) (F0 m 106 ls []) := by
                    intro H locs ls hG hl
                    refine lv_iconst (v := iI 0) hx hb dX12_names_106 (by decide) ?_
                    refine lv_istore_n (lv' := [(3, .int (iI 0)), (2, .int (iI 0)), (1, .int (iI v_11)), (0, .ref (b + 80))]) hx hb dX12_names_107 rfl hl (by decide) rfl (fun ls hl => ?_)
                    obtain ⟨y_40, S_41, hc_42, hM⟩ := bd2_some hM
                    have hK_43 : ∀ (H : Heap) (locs : List Loc) (ls : Array Slot), gW D cy b n s H locs (enc b cy X S_41) → lv_has ls 6 [(1, .int (iI v_11)), (0, .ref (b + 80)), (2, .int (iI y_40))] → W p l e (gRm 4 0 0) s m args below meth c H locs 0 0 (gQV D cy b s args below 0 0 (fun u => u = (n, enc b cy X o1))) (F0 m 178 ls []) := by
                      intro H locs ls hG hl
                      refine lv_goto (tgt := 58) hx hb dX12_names_178 (by decide) ?_
                      exact ih_27 y_40 S_41 H locs ls hM hG (lv_sub hl [2, 0, 1] rfl)
                    have loop_44 : ∀ (f : Nat) (v_37 : Int) (v_38 : Int) (S_39 : St) (H : Heap) (locs : List Loc) (ls : Array Slot), mX12_names_108 v_11 f v_37 v_38 S_39 = some (y_40, S_41) → gW D cy b n s H locs (enc b cy X S_39) → lv_has ls 6 [(3, .int (iI v_37)), (2, .int (iI v_38)), (1, .int (iI v_11)), (0, .ref (b + 80))] → W p l e (gRm 4 0 0) s m args below meth c H locs 0 0 (gQV D cy b s args below 0 0 (fun u => u = (n, enc b cy X o1))) (F0 m 108 ls []) := by
                      clear hM
                      intro f
                      induction f with
                      | zero => intro v_37 v_38 S_39 H locs ls hM; rw [mX12_names_108] at hM; cases hM
                      | succ f_46 ih_45 =>
                        intro v_37 v_38 S_39 H locs ls hM hG hl
                        rw [mX12_names_108] at hM
                        refine lv_iload_n hx hb dX12_names_108 rfl (lv_at hl 0 rfl) ?_
                        refine lv_aload_n hx hb dX12_names_109 rfl (lv_at hl 3 rfl) ?_
                        refine m_get S hG 80 83 0 rfl ec_83 cpX12 wm_1673 dX12_names_110 rfl (Nat.lt_of_lt_of_le (Nat.le_of_ble_eq_true rfl) hn) (by decide) ?_
                        refine lv_iconst (v := iI 0) hx hb dX12_names_113 (by decide) ?_
                        refine mi_ald S hG 81 84 rfl ec_84 (Nat.lt_of_lt_of_le (Nat.le_of_ble_eq_true rfl) hn) dX12_names_114 (by decide) (by decide) ?_
                        obtain ⟨hg_47, hM⟩ := gd_some hM
                        refine gi_icmp_ge (tgt := 178) hx hb dX12_names_115 (by decide) hg_47.1 hg_47.2 (fun c_48 => ?_) (fun c_48 => ?_)
                        · replace hM := ifp hM c_48
                          cases hM
                          exact hK_43 H locs ls hG (lv_sub hl [2, 3, 1] rfl)
                        · replace hM := ifn hM c_48
                          refine lv_aload_n hx hb dX12_names_118 rfl (lv_at hl 3 rfl) ?_
                          refine lv_iload_n hx hb dX12_names_119 rfl (lv_at hl 0 rfl) ?_
                          refine lv_iload_n hx hb dX12_names_120 rfl (lv_at hl 2 rfl) ?_
                          obtain ⟨r_50, hc_49, hM⟩ := bd1_some hM
                          refine g_vl (As := [.int (iI v_37), .int (iI v_11)]) (rest := []) S hG hsz (vX12_namedExpr l hn v_37 v_11 hc_49) wV_12_359 (ec_83 _) cpX12 (Nat.lt_of_lt_of_le (Nat.le_of_ble_eq_true rfl) hn) dX12_names_121 rfl hl.1 (ar := 2) (by decide +kernel) rfl ⟨Nat.le_of_ble_eq_true rfl, Nat.le_of_ble_eq_true rfl, Nat.le_of_ble_eq_true rfl, Nat.le_of_ble_eq_true rfl⟩ (Nat.le_of_ble_eq_true rfl) (fun rv uu H locs hp hG => ?_)
                          obtain ⟨rfl, rfl⟩ := hp
                          replace hG : gW D cy b n s H locs (enc b cy X S_39) := hG
                          refine lv_lstore (lv' := [(4, .long (jJ r_50)), (3, .int (iI v_37)), (2, .int (iI v_38)), (1, .int (iI v_11)), (0, .ref (b + 80))]) hx hb dX12_names_124 hl (by decide) rfl (fun ls hl => ?_)
                          refine lv_iload_n hx hb dX12_names_126 rfl (lv_at hl 2 rfl) ?_
                          obtain ⟨z_51, hc_52, hM⟩ := bd1_some hM
                          have hK_53 : ∀ (H : Heap) (locs : List Loc) (ls : Array Slot), gW D cy b n s H locs (enc b cy X S_39) → lv_has ls 6 [(4, .long (jJ r_50)), (3, .int (iI v_37)), (1, .int (iI v_11)), (0, .ref (b + 80))] → W p l e (gRm 4 0 0) s m args below meth c H locs 0 0 (gQV D cy b s args below 0 0 (fun u => u = (n, enc b cy X o1))) (F0 m 155 ls [.int (iI z_51)]) := by
                            intro H locs ls hG hl
                            refine lv_istore_n (lv' := [(2, .int (iI z_51)), (4, .long (jJ r_50)), (3, .int (iI v_37)), (1, .int (iI v_11)), (0, .ref (b + 80))]) hx hb dX12_names_155 rfl hl (by decide) rfl (fun ls hl => ?_)
                            refine lv_aload_n hx hb dX12_names_156 rfl (lv_at hl 4 rfl) ?_
                            refine m_get S hG 80 83 17 rfl ec_83 cpX12 wm_1690 dX12_names_157 rfl (Nat.lt_of_lt_of_le (Nat.le_of_ble_eq_true rfl) hn) (by decide) ?_
                            refine lv_bipush (v := iI 24) hx hb dX12_names_160 (by decide) ?_
                            refine lv_iload_n hx hb dX12_names_162 rfl (lv_at hl 2 rfl) ?_
                            refine gi_add hx hb dX12_names_163 ?_
                            refine lv_bipush (v := iI 8) hx hb dX12_names_164 (by decide) ?_
                            refine gi_mul hx hb dX12_names_166 ?_
                            refine lv_iload_n hx hb dX12_names_167 rfl (lv_at hl 3 rfl) ?_
                            refine gi_add hx hb dX12_names_168 ?_
                            refine lv_lload hx hb dX12_names_169 (lv_at hl 1 rfl) ?_
                            obtain ⟨hg_54, hM⟩ := gd_some hM
                            refine mj_ast S hG 90 93 rfl ec_93 (Nat.lt_of_lt_of_le (Nat.le_of_ble_eq_true rfl) hn) dX12_names_171 hg_54 (by decide) (fun H locs S_55 eS_55 hG => ?_)
                            replace hM := nx_at hM eS_55
                            clear eS_55
                            refine lv_iinc (v := iI (v_37 + 1)) (lv' := [(3, .int (iI (v_37 + 1))), (2, .int (iI z_51)), (4, .long (jJ r_50)), (1, .int (iI v_11)), (0, .ref (b + 80))]) hx hb dX12_names_172 hl (k := 2) rfl ((iI_add v_37 (1)).trans (congrArg iI (by omega))) (by decide) rfl (fun ls hl => ?_)
                            refine lv_goto (tgt := 108) hx hb dX12_names_175 (by decide) ?_
                            exact ih_45 (v_37 + 1) z_51 S_55 H locs ls hM hG (lv_sub hl [0, 1, 3, 4] rfl)
                          clear hM
                          replace hM := hc_52
                          obtain ⟨hg_56, hM⟩ := gd_some hM
                          refine gi_if_ne (tgt := 150) hx hb dX12_names_127 (by decide) hg_56 (fun c_57 => ?_) (fun c_57 => ?_)
                          · replace hM := ifn hM c_57
                            refine lv_iconst (v := iI 1) hx hb dX12_names_150 (by decide) ?_
                            refine lv_goto (tgt := 155) hx hb dX12_names_151 (by decide) ?_
                            cases hM
                            exact hK_53 H locs ls hG (lv_sub hl [0, 1, 3, 4] rfl)
                          · replace hM := ifp hM c_57
                            refine lv_lload hx hb dX12_names_130 (lv_at hl 0 rfl) ?_
                            refine lv_aload_n hx hb dX12_names_132 rfl (lv_at hl 4 rfl) ?_
                            refine m_get S hG 80 83 17 rfl ec_83 cpX12 wm_1690 dX12_names_133 rfl (Nat.lt_of_lt_of_le (Nat.le_of_ble_eq_true rfl) hn) (by decide) ?_
                            refine lv_bipush (v := iI 24) hx hb dX12_names_136 (by decide) ?_
                            refine lv_iload_n hx hb dX12_names_138 rfl (lv_at hl 1 rfl) ?_
                            refine gi_add hx hb dX12_names_139 ?_
                            refine lv_bipush (v := iI 8) hx hb dX12_names_140 (by decide) ?_
                            refine gi_mul hx hb dX12_names_142 ?_
                            refine lv_iload_n hx hb dX12_names_143 rfl (lv_at hl 3 rfl) ?_
                            refine gi_add hx hb dX12_names_144 ?_
                            obtain ⟨hg_58, hM⟩ := gd_some hM
                            refine mj_ald S hG 90 93 rfl ec_93 (Nat.lt_of_lt_of_le (Nat.le_of_ble_eq_true rfl) hn) dX12_names_145 hg_58 (by decide) ?_
                            obtain ⟨hg_59, hM⟩ := gd_some hM
                            refine gj_cmp_eq (tgt := 154) hx hb dX12_names_146 dX12_names_147 (by decide) hg_59.1 hg_59.2 (fun c_60 => ?_) (fun c_60 => ?_)
                            · replace hM := ifp hM c_60
                              refine lv_iconst (v := iI 0) hx hb dX12_names_154 (by decide) ?_
                              cases hM
                              exact hK_53 H locs ls hG (lv_sub hl [0, 1, 3, 4] rfl)
                            · replace hM := ifn hM c_60
                              refine lv_iconst (v := iI 1) hx hb dX12_names_150 (by decide) ?_
                              refine lv_goto (tgt := 155) hx hb dX12_names_151 (by decide) ?_
                              cases hM
                              exact hK_53 H locs ls hG (lv_sub hl [0, 1, 3, 4] rfl)
                    exact loop_44 FU 0 0 S_34 H locs ls hc_42 hG (lv_sub hl [0, 1, 2, 3] rfl)
                  have loop_61 : ∀ (f : Nat) (v_32 : Int) (S_33 : St) (H : Heap) (locs : List Loc) (ls : Array Slot), mX12_names_73 v_11 f v_32 S_33 = some S_34 → gW D cy b n s H locs (enc b cy X S_33) → lv_has ls 6 [(3, .int (iI v_32)), (2, .int (iI 0)), (1, .int (iI v_11)), (0, .ref (b + 80))] → W p l e (gRm 4 0 0) s m args below meth c H locs 0 0 (gQV D cy b s args below 0 0 (fun u => u = (n, enc b cy X o1))) (F0 m 73 ls []) := by
                    clear hM
                    intro f
                    induction f with
                    | zero => intro v_32 S_33 H locs ls hM; rw [mX12_names_73] at hM; cases hM
                    | succ f_63 ih_62 =>
                      intro v_32 S_33 H locs ls hM hG hl
                      rw [mX12_names_73] at hM
                      refine lv_iload_n hx hb dX12_names_73 rfl (lv_at hl 0 rfl) ?_
                      obtain ⟨hg_64, hM⟩ := gd_some hM
                      refine gi_if_lt (tgt := 106) hx hb dX12_names_74 (by decide) hg_64 (fun c_65 => ?_) (fun c_65 => ?_)
                      · replace hM := ifp hM c_65
                        cases hM
                        exact hK_36 H locs ls hG (lv_sub hl [1, 2, 3] rfl)
                      · replace hM := ifn hM c_65
                        refine lv_aload_n hx hb dX12_names_77 rfl (lv_at hl 3 rfl) ?_
                        refine m_get S hG 80 83 17 rfl ec_83 cpX12 wm_1690 dX12_names_78 rfl (Nat.lt_of_lt_of_le (Nat.le_of_ble_eq_true rfl) hn) (by decide) ?_
                        refine lv_iload_n hx hb dX12_names_81 rfl (lv_at hl 0 rfl) ?_
                        refine lv_bipush (v := iI 8) hx hb dX12_names_82 (by decide) ?_
                        refine gi_mul hx hb dX12_names_84 ?_
                        refine lv_iload_n hx hb dX12_names_85 rfl (lv_at hl 2 rfl) ?_
                        refine gi_add hx hb dX12_names_86 ?_
                        refine lv_aload_n hx hb dX12_names_87 rfl (lv_at hl 3 rfl) ?_
                        refine lv_iload_n hx hb dX12_names_88 rfl (lv_at hl 0 rfl) ?_
                        refine lv_iload_n hx hb dX12_names_89 rfl (lv_at hl 2 rfl) ?_
                        obtain ⟨r_67, S_68, hc_66, hM⟩ := bd2_some hM
                        refine g_vl (As := [.int (iI v_32), .int (iI v_11)]) (rest := [.int (iI ((v_32 * 8) + v_11)), .ref (b + 90)]) S hG hsz (vX12_namedPart l hn v_32 v_11 hc_66) wV_12_353 (ec_83 _) cpX12 (Nat.lt_of_lt_of_le (Nat.le_of_ble_eq_true rfl) hn) dX12_names_90 rfl hl.1 (ar := 2) (by decide +kernel) rfl ⟨Nat.le_of_ble_eq_true rfl, Nat.le_of_ble_eq_true rfl, Nat.le_of_ble_eq_true rfl, Nat.le_of_ble_eq_true rfl⟩ (Nat.le_of_ble_eq_true rfl) (fun rv uu H locs hp hG => ?_)
                        obtain ⟨rfl, rfl⟩ := hp
                        replace hG : gW D cy b n s H locs (enc b cy X S_68) := hG
                        obtain ⟨hg_69, hM⟩ := gd_some hM
                        refine mj_ast S hG 90 93 rfl ec_93 (Nat.lt_of_lt_of_le (Nat.le_of_ble_eq_true rfl) hn) dX12_names_93 hg_69 (by decide) (fun H locs S_70 eS_70 hG => ?_)
                        replace hM := nx_at hM eS_70
                        clear eS_70
                        refine lv_aload_n hx hb dX12_names_94 rfl (lv_at hl 3 rfl) ?_
                        refine lv_iload_n hx hb dX12_names_95 rfl (lv_at hl 0 rfl) ?_
                        refine lv_iload_n hx hb dX12_names_96 rfl (lv_at hl 2 rfl) ?_
                        obtain ⟨S_72, hc_71, hM⟩ := bd1_some hM
                        refine g_vv (As := [.int (iI v_32), .int (iI v_11)]) (rest := []) S hG hsz (vX12_namesRest l hn v_32 v_11 hc_71) wV_12_356 (ec_83 _) cpX12 (Nat.lt_of_lt_of_le (Nat.le_of_ble_eq_true rfl) hn) dX12_names_97 rfl hl.1 (ar := 2) (by decide +kernel) rfl ⟨Nat.le_of_ble_eq_true rfl, Nat.le_of_ble_eq_true rfl, Nat.le_of_ble_eq_true rfl, Nat.le_of_ble_eq_true rfl⟩ (Nat.le_of_ble_eq_true rfl) (fun uu H locs hp hG => ?_)
                        obtain rfl := hp
                        replace hG : gW D cy b n s H locs (enc b cy X S_72) := hG
                        refine lv_iinc (v := iI (v_32 - 1)) (lv' := [(3, .int (iI (v_32 - 1))), (2, .int (iI 0)), (1, .int (iI v_11)), (0, .ref (b + 80))]) hx hb dX12_names_100 hl (k := 0) rfl ((iI_add v_32 (-1)).trans (congrArg iI (by omega))) (by decide) rfl (fun ls hl => ?_)
                        refine lv_goto (tgt := 73) hx hb dX12_names_103 (by decide) ?_
                        exact ih_62 (v_32 - 1) S_72 H locs ls hM hG (lv_sub hl [0, 1, 2, 3] rfl)
                  exact loop_61 FU x_31 S_22 H locs ls hc_35 hG (lv_sub hl [0, 1, 2, 3] rfl)
            exact loop_26 FU 1 S_12 H locs ls hc_24 hG (lv_sub hl [0, 1, 2] rfl)
      exact loop_16 FU 0 S_8 H locs ls hc_14 hG (lv_sub hl [0, 1] rfl)
    have loop_73 : ∀ (f : Nat) (v_6 : Int) (S_7 : St) (H : Heap) (locs : List Loc) (ls : Array Slot), mX12_names_26 f v_6 S_7 = some S_8 → gW D cy b n s H locs (enc b cy X S_7) → lv_has ls 6 [(1, .int (iI v_6)), (0, .ref (b + 80))] → W p l e (gRm 4 0 0) s m args below meth c H locs 0 0 (gQV D cy b s args below 0 0 (fun u => u = (n, enc b cy X o1))) (F0 m 26 ls []) := by
      clear hM
      intro f
      induction f with
      | zero => intro v_6 S_7 H locs ls hM; rw [mX12_names_26] at hM; cases hM
      | succ f_75 ih_74 =>
        intro v_6 S_7 H locs ls hM hG hl
        rw [mX12_names_26] at hM
        refine lv_iload_n hx hb dX12_names_26 rfl (lv_at hl 0 rfl) ?_
        refine lv_aload_n hx hb dX12_names_27 rfl (lv_at hl 1 rfl) ?_
        refine m_get S hG 80 83 18 rfl ec_83 cpX12 wm_1691 dX12_names_28 rfl (Nat.lt_of_lt_of_le (Nat.le_of_ble_eq_true rfl) hn) (by decide) ?_
        refine m_alen S hG 91 2 ec_94 rfl (Nat.lt_of_lt_of_le (Nat.le_of_ble_eq_true rfl) hn) dX12_names_31 (N := 192) (show Int32.ofNat 192 = iI 192 by decide) ?_
        obtain ⟨hg_76, hM⟩ := gd_some hM
        refine gi_icmp_ge (tgt := 48) hx hb dX12_names_32 (by decide) hg_76 (by decide) (fun c_77 => ?_) (fun c_77 => ?_)
        · replace hM := ifp hM c_77
          cases hM
          exact hK_10 H locs ls hG (lv_sub hl [1] rfl)
        · replace hM := ifn hM c_77
          refine lv_aload_n hx hb dX12_names_35 rfl (lv_at hl 1 rfl) ?_
          refine m_get S hG 80 83 18 rfl ec_83 cpX12 wm_1691 dX12_names_36 rfl (Nat.lt_of_lt_of_le (Nat.le_of_ble_eq_true rfl) hn) (by decide) ?_
          refine lv_iload_n hx hb dX12_names_39 rfl (lv_at hl 0 rfl) ?_
          refine lv_lconst (v := jJ 0) hx hb dX12_names_40 (by decide) ?_
          obtain ⟨hg_78, hM⟩ := gd_some hM
          refine mj_ast S hG 91 94 rfl ec_94 (Nat.lt_of_lt_of_le (Nat.le_of_ble_eq_true rfl) hn) dX12_names_41 hg_78 (by decide) (fun H locs S_79 eS_79 hG => ?_)
          replace hM := nx_at hM eS_79
          clear eS_79
          refine lv_iinc (v := iI (v_6 + 1)) (lv' := [(1, .int (iI (v_6 + 1))), (0, .ref (b + 80))]) hx hb dX12_names_42 hl (k := 0) rfl ((iI_add v_6 (1)).trans (congrArg iI (by omega))) (by decide) rfl (fun ls hl => ?_)
          refine lv_goto (tgt := 26) hx hb dX12_names_45 (by decide) ?_
          exact ih_74 (v_6 + 1) S_79 H locs ls hM hG (lv_sub hl [0, 1] rfl)
    exact loop_73 FU 0 S_3 H locs ls hc_9 hG (lv_sub hl [0, 1] rfl)
  have loop_80 : ∀ (f : Nat) (v_1 : Int) (S_2 : St) (H : Heap) (locs : List Loc) (ls : Array Slot), mX12_names_2 f v_1 S_2 = some S_3 → gW D cy b n s H locs (enc b cy X S_2) → lv_has ls 6 [(1, .int (iI v_1)), (0, .ref (b + 80))] → W p l e (gRm 4 0 0) s m args below meth c H locs 0 0 (gQV D cy b s args below 0 0 (fun u => u = (n, enc b cy X o1))) (F0 m 2 ls []) := by
    clear hM
    intro f
    induction f with
    | zero => intro v_1 S_2 H locs ls hM; rw [mX12_names_2] at hM; cases hM
    | succ f_82 ih_81 =>
      intro v_1 S_2 H locs ls hM hG hl
      rw [mX12_names_2] at hM
      refine lv_iload_n hx hb dX12_names_2 rfl (lv_at hl 0 rfl) ?_
      refine lv_aload_n hx hb dX12_names_3 rfl (lv_at hl 1 rfl) ?_
      refine m_get S hG 80 83 17 rfl ec_83 cpX12 wm_1690 dX12_names_4 rfl (Nat.lt_of_lt_of_le (Nat.le_of_ble_eq_true rfl) hn) (by decide) ?_
      refine m_alen S hG 90 2 ec_93 rfl (Nat.lt_of_lt_of_le (Nat.le_of_ble_eq_true rfl) hn) dX12_names_7 (N := 240) (show Int32.ofNat 240 = iI 240 by decide) ?_
      obtain ⟨hg_83, hM⟩ := gd_some hM
      refine gi_icmp_ge (tgt := 24) hx hb dX12_names_8 (by decide) hg_83 (by decide) (fun c_84 => ?_) (fun c_84 => ?_)
      · replace hM := ifp hM c_84
        cases hM
        exact hK_5 H locs ls hG (lv_sub hl [1] rfl)
      · replace hM := ifn hM c_84
        refine lv_aload_n hx hb dX12_names_11 rfl (lv_at hl 1 rfl) ?_
        refine m_get S hG 80 83 17 rfl ec_83 cpX12 wm_1690 dX12_names_12 rfl (Nat.lt_of_lt_of_le (Nat.le_of_ble_eq_true rfl) hn) (by decide) ?_
        refine lv_iload_n hx hb dX12_names_15 rfl (lv_at hl 0 rfl) ?_
        refine lv_lconst (v := jJ 0) hx hb dX12_names_16 (by decide) ?_
        obtain ⟨hg_85, hM⟩ := gd_some hM
        refine mj_ast S hG 90 93 rfl ec_93 (Nat.lt_of_lt_of_le (Nat.le_of_ble_eq_true rfl) hn) dX12_names_17 hg_85 (by decide) (fun H locs S_86 eS_86 hG => ?_)
        replace hM := nx_at hM eS_86
        clear eS_86
        refine lv_iinc (v := iI (v_1 + 1)) (lv' := [(1, .int (iI (v_1 + 1))), (0, .ref (b + 80))]) hx hb dX12_names_18 hl (k := 0) rfl ((iI_add v_1 (1)).trans (congrArg iI (by omega))) (by decide) rfl (fun ls hl => ?_)
        refine lv_goto (tgt := 2) hx hb dX12_names_21 (by decide) ?_
        exact ih_81 (v_1 + 1) S_86 H locs ls hM hG (lv_sub hl [0, 1] rfl)
  exact loop_80 FU 0 S0 H locs ls hc_4 hG (lv_sub hl [0, 1] rfl)
theorem wV_12_372 : gWV "GrownKindsModel" 372 yX12_names cX12_names 6 none := ⟨wm_2148, wm_2150, wm_132, wm_188, wm_2151, by decide +kernel, by decide +kernel⟩
def mX12_labelled (S0 : St) (a1 : Int) (a2 : Int) : Option (Int × St) := bd1 (mX12_isKind S0 a1) fun r_2 => gd (inI r_2) <| if r_2 = 0 then (some ((-2), S0)) else (bd1 (mX12_isSize S0 a2) fun r_6 => gd (inI r_6) <| if r_6 = 0 then (some ((-2), S0)) else (bd1 (mX12_names S0) fun S_10 => gd (0 ≤ (((24 + a1) * 8) + a2) ∧ (((24 + a1) * 8) + a2) < 240) <| some ((S_10 93 (((24 + a1) * 8) + a2)), S_10)))
set_option maxHeartbeats 4000000 in
set_option maxRecDepth 100000 in
theorem vX12_labelled (l : Launch) {D : va_G} {cy : Nat → ClassId} {b n : Nat} (hn : 102 ≤ n) {X : Nat → va_E} {S0 : St} (a1 : Int) (a2 : Int) {o1 : Int} {o2 : St} (hM : mX12_labelled S0 a1 a2 = some (o1, o2)) : gL l yX12_labelled cX12_labelled 3 5 0 0 D cy b n (enc b cy X S0) [.ref (b + 80), .int (iI a1), .int (iI a2)] (fun r u => r = jJ o1 ∧ u = (n, enc b cy X o2)) := by
  refine gL_of (by decide) (Nat.le_of_ble_eq_true rfl) ?_
  intro p e s m args below meth c S hr hlk hin hsz ls hl hG
  have hx := S.1
  have hb := S.2.1
  have hl : lv_has ls 3 [(0, .ref (b + 80)), (1, .int (iI a1)), (2, .int (iI a2))] := hl
  replace hG : gW D cy b n s s.heap [] (enc b cy X S0) := hG
  obtain ⟨H, eH⟩ : ∃ H, H = s.heap := ⟨_, rfl⟩
  obtain ⟨locs, elocs⟩ : ∃ locs : List Loc, locs = [] := ⟨_, rfl⟩
  rw [← eH, ← elocs] at hG
  rw [← eH, ← elocs]
  clear eH elocs
  unfold mX12_labelled at hM
  refine lv_aload_n hx hb dX12_labelled_0 rfl (lv_at hl 0 rfl) ?_
  refine lv_iload_n hx hb dX12_labelled_1 rfl (lv_at hl 1 rfl) ?_
  obtain ⟨r_2, hc_1, hM⟩ := bd1_some hM
  refine g_vi (As := [.int (iI a1)]) (rest := []) S hG hsz (vX12_isKind l hn a1 hc_1) wV_12_225 (ec_83 _) cpX12 (Nat.lt_of_lt_of_le (Nat.le_of_ble_eq_true rfl) hn) dX12_labelled_2 rfl hl.1 (ar := 1) (by decide +kernel) rfl ⟨Nat.le_of_ble_eq_true rfl, Nat.le_of_ble_eq_true rfl, Nat.le_of_ble_eq_true rfl, Nat.le_of_ble_eq_true rfl⟩ (Nat.le_of_ble_eq_true rfl) (fun rv uu H locs hp hG => ?_)
  obtain ⟨rfl, rfl⟩ := hp
  replace hG : gW D cy b n s H locs (enc b cy X S0) := hG
  obtain ⟨hg_3, hM⟩ := gd_some hM
  refine gi_if_eq (tgt := 16) hx hb dX12_labelled_5 (by decide) hg_3 (fun c_4 => ?_) (fun c_4 => ?_)
  · replace hM := ifp hM c_4
    refine lv_ldc2 (v := -2) hx hb S.2.2.2.1 (S.2.2.2.2 _ wm_2101) dX12_labelled_16 ?_
    refine gj_as (-2) (by decide) ?_
    cases hM
    exact g_lret S hr hlk hG hsz dX12_labelled_19 ⟨Nat.le_of_ble_eq_true rfl, Nat.le_of_ble_eq_true rfl⟩ ⟨rfl, rfl⟩
  · replace hM := ifn hM c_4
    refine lv_aload_n hx hb dX12_labelled_8 rfl (lv_at hl 0 rfl) ?_
    refine lv_iload_n hx hb dX12_labelled_9 rfl (lv_at hl 2 rfl) ?_
    obtain ⟨r_6, hc_5, hM⟩ := bd1_some hM
    refine g_vi (As := [.int (iI a2)]) (rest := []) S hG hsz (vX12_isSize l hn a2 hc_5) wV_12_334 (ec_83 _) cpX12 (Nat.lt_of_lt_of_le (Nat.le_of_ble_eq_true rfl) hn) dX12_labelled_10 rfl hl.1 (ar := 1) (by decide +kernel) rfl ⟨Nat.le_of_ble_eq_true rfl, Nat.le_of_ble_eq_true rfl, Nat.le_of_ble_eq_true rfl, Nat.le_of_ble_eq_true rfl⟩ (Nat.le_of_ble_eq_true rfl) (fun rv uu H locs hp hG => ?_)
    obtain ⟨rfl, rfl⟩ := hp
    replace hG : gW D cy b n s H locs (enc b cy X S0) := hG
    obtain ⟨hg_7, hM⟩ := gd_some hM
    refine gi_if_ne (tgt := 20) hx hb dX12_labelled_13 (by decide) hg_7 (fun c_8 => ?_) (fun c_8 => ?_)
    · replace hM := ifn hM c_8
      refine lv_aload_n hx hb dX12_labelled_20 rfl (lv_at hl 0 rfl) ?_
      obtain ⟨S_10, hc_9, hM⟩ := bd1_some hM
      refine g_vv (As := []) (rest := []) S hG hsz (vX12_names l hn  hc_9) wV_12_372 (ec_83 _) cpX12 (Nat.lt_of_lt_of_le (Nat.le_of_ble_eq_true rfl) hn) dX12_labelled_21 rfl hl.1 (ar := 0) (by decide +kernel) rfl ⟨Nat.le_of_ble_eq_true rfl, Nat.le_of_ble_eq_true rfl, Nat.le_of_ble_eq_true rfl, Nat.le_of_ble_eq_true rfl⟩ (Nat.le_of_ble_eq_true rfl) (fun uu H locs hp hG => ?_)
      obtain rfl := hp
      replace hG : gW D cy b n s H locs (enc b cy X S_10) := hG
      refine lv_aload_n hx hb dX12_labelled_24 rfl (lv_at hl 0 rfl) ?_
      refine m_get S hG 80 83 17 rfl ec_83 cpX12 wm_1690 dX12_labelled_25 rfl (Nat.lt_of_lt_of_le (Nat.le_of_ble_eq_true rfl) hn) (by decide) ?_
      refine lv_bipush (v := iI 24) hx hb dX12_labelled_28 (by decide) ?_
      refine lv_iload_n hx hb dX12_labelled_30 rfl (lv_at hl 1 rfl) ?_
      refine gi_add hx hb dX12_labelled_31 ?_
      refine lv_bipush (v := iI 8) hx hb dX12_labelled_32 (by decide) ?_
      refine gi_mul hx hb dX12_labelled_34 ?_
      refine lv_iload_n hx hb dX12_labelled_35 rfl (lv_at hl 2 rfl) ?_
      refine gi_add hx hb dX12_labelled_36 ?_
      obtain ⟨hg_11, hM⟩ := gd_some hM
      refine mj_ald S hG 90 93 rfl ec_93 (Nat.lt_of_lt_of_le (Nat.le_of_ble_eq_true rfl) hn) dX12_labelled_37 hg_11 (by decide) ?_
      cases hM
      exact g_lret S hr hlk hG hsz dX12_labelled_38 ⟨Nat.le_of_ble_eq_true rfl, Nat.le_of_ble_eq_true rfl⟩ ⟨rfl, rfl⟩
    · replace hM := ifp hM c_8
      refine lv_ldc2 (v := -2) hx hb S.2.2.2.1 (S.2.2.2.2 _ wm_2101) dX12_labelled_16 ?_
      refine gj_as (-2) (by decide) ?_
      cases hM
      exact g_lret S hr hlk hG hsz dX12_labelled_19 ⟨Nat.le_of_ble_eq_true rfl, Nat.le_of_ble_eq_true rfl⟩ ⟨rfl, rfl⟩
def mX12_signs (S0 : St) (a1 : Int) : Option (St) := bd1 (gd ((inI (S0 83 20)) ∧ (inI (S0 83 21))) <| if (S0 83 20) = (S0 83 21) then (some (a1)) else (some ((S0 83 22)))) fun z_1 => nx (up S0 83 22 z_1) fun S_4 => bd1 (gd (inI (S_4 83 20)) <| if 40 ≤ (S_4 83 20) then (some (S_4)) else (gd (0 ≤ (S_4 83 20) ∧ (S_4 83 20) < 40) <| nx (up S_4 96 (S_4 83 20) a1) fun S_12 => some (S_12))) fun S_5 => nx (up S_5 83 20 ((S_5 83 20) + 1)) fun S_8 => some (S_8)
set_option maxHeartbeats 4000000 in
set_option maxRecDepth 100000 in
theorem vX12_signs (l : Launch) {D : va_G} {cy : Nat → ClassId} {b n : Nat} (hn : 102 ≤ n) {X : Nat → va_E} {S0 : St} (a1 : Int) {o1 : St} (hM : mX12_signs S0 a1 = some o1) : gV l yX12_signs cX12_signs 2 0 0 0 D cy b n (enc b cy X S0) [.ref (b + 80), .int (iI a1)] (fun u => u = (n, enc b cy X o1)) := by
  refine gV_of (by decide) (Nat.le_of_ble_eq_true rfl) ?_
  intro p e s m args below meth c S hr hlk hin hsz ls hl hG
  have hx := S.1
  have hb := S.2.1
  have hl : lv_has ls 2 [(0, .ref (b + 80)), (1, .int (iI a1))] := hl
  replace hG : gW D cy b n s s.heap [] (enc b cy X S0) := hG
  obtain ⟨H, eH⟩ : ∃ H, H = s.heap := ⟨_, rfl⟩
  obtain ⟨locs, elocs⟩ : ∃ locs : List Loc, locs = [] := ⟨_, rfl⟩
  rw [← eH, ← elocs] at hG
  rw [← eH, ← elocs]
  clear eH elocs
  unfold mX12_signs at hM
  refine lv_aload_n hx hb dX12_signs_0 rfl (lv_at hl 0 rfl) ?_
  refine lv_aload_n hx hb dX12_signs_1 rfl (lv_at hl 0 rfl) ?_
  refine m_get S hG 80 83 20 rfl ec_83 cpX12 wm_1693 dX12_signs_2 rfl (Nat.lt_of_lt_of_le (Nat.le_of_ble_eq_true rfl) hn) (by decide) ?_
  refine lv_aload_n hx hb dX12_signs_5 rfl (lv_at hl 0 rfl) ?_
  refine m_get S hG 80 83 21 rfl ec_83 cpX12 wm_1694 dX12_signs_6 rfl (Nat.lt_of_lt_of_le (Nat.le_of_ble_eq_true rfl) hn) (by decide) ?_
  obtain ⟨z_1, hc_2, hM⟩ := bd1_some hM
  have hK_3 : ∀ (H : Heap) (locs : List Loc) (ls : Array Slot), gW D cy b n s H locs (enc b cy X S0) → lv_has ls 2 [(0, .ref (b + 80)), (1, .int (iI a1))] → W p l e (gRm 0 0 0) s m args below meth c H locs 0 0 (gQV D cy b s args below 0 0 (fun u => u = (n, enc b cy X o1))) (F0 m 20 ls [.int (iI z_1), .ref (b + 80)]) := by
    intro H locs ls hG hl
    refine m_put S hG 80 83 22 rfl 22 z_1 ec_83 cpX12 wm_1695 dX12_signs_20 (pf_83_22) (Nat.lt_of_lt_of_le (Nat.le_of_ble_eq_true rfl) hn) (by decide) (Nat.le_of_ble_eq_true rfl) rfl rfl rfl (fun H locs S_4 eS_4 hG => ?_)
    replace hM := nx_at hM eS_4
    clear eS_4
    refine lv_aload_n hx hb dX12_signs_23 rfl (lv_at hl 0 rfl) ?_
    refine m_get S hG 80 83 20 rfl ec_83 cpX12 wm_1693 dX12_signs_24 rfl (Nat.lt_of_lt_of_le (Nat.le_of_ble_eq_true rfl) hn) (by decide) ?_
    refine lv_bipush (v := iI 40) hx hb dX12_signs_27 (by decide) ?_
    obtain ⟨S_5, hc_6, hM⟩ := bd1_some hM
    have hK_7 : ∀ (H : Heap) (locs : List Loc) (ls : Array Slot), gW D cy b n s H locs (enc b cy X S_5) → lv_has ls 2 [(0, .ref (b + 80))] → W p l e (gRm 0 0 0) s m args below meth c H locs 0 0 (gQV D cy b s args below 0 0 (fun u => u = (n, enc b cy X o1))) (F0 m 42 ls []) := by
      intro H locs ls hG hl
      refine lv_aload_n hx hb dX12_signs_42 rfl (lv_at hl 0 rfl) ?_
      refine lv_dup hx hb dX12_signs_43 rfl ?_
      refine m_get S hG 80 83 20 rfl ec_83 cpX12 wm_1693 dX12_signs_44 rfl (Nat.lt_of_lt_of_le (Nat.le_of_ble_eq_true rfl) hn) (by decide) ?_
      refine lv_iconst (v := iI 1) hx hb dX12_signs_47 (by decide) ?_
      refine gi_add hx hb dX12_signs_48 ?_
      refine m_put S hG 80 83 20 rfl 20 ((S_5 83 20) + 1) ec_83 cpX12 wm_1693 dX12_signs_49 (pf_83_20) (Nat.lt_of_lt_of_le (Nat.le_of_ble_eq_true rfl) hn) (by decide) (Nat.le_of_ble_eq_true rfl) rfl rfl rfl (fun H locs S_8 eS_8 hG => ?_)
      replace hM := nx_at hM eS_8
      clear eS_8
      cases hM
      exact g_vret S hr hlk hG hsz dX12_signs_52 ⟨Nat.le_of_ble_eq_true rfl, Nat.le_of_ble_eq_true rfl⟩ rfl
    clear hM
    replace hM := hc_6
    obtain ⟨hg_9, hM⟩ := gd_some hM
    refine gi_icmp_ge (tgt := 42) hx hb dX12_signs_29 (by decide) hg_9 (by decide) (fun c_10 => ?_) (fun c_10 => ?_)
    · replace hM := ifp hM c_10
      cases hM
      exact hK_7 H locs ls hG (lv_sub hl [0] rfl)
    · replace hM := ifn hM c_10
      refine lv_aload_n hx hb dX12_signs_32 rfl (lv_at hl 0 rfl) ?_
      refine m_get S hG 80 83 28 rfl ec_83 cpX12 wm_1701 dX12_signs_33 rfl (Nat.lt_of_lt_of_le (Nat.le_of_ble_eq_true rfl) hn) (by decide) ?_
      refine lv_aload_n hx hb dX12_signs_36 rfl (lv_at hl 0 rfl) ?_
      refine m_get S hG 80 83 20 rfl ec_83 cpX12 wm_1693 dX12_signs_37 rfl (Nat.lt_of_lt_of_le (Nat.le_of_ble_eq_true rfl) hn) (by decide) ?_
      refine lv_iload_n hx hb dX12_signs_40 rfl (lv_at hl 1 rfl) ?_
      obtain ⟨hg_11, hM⟩ := gd_some hM
      refine mi_ast S hG 93 96 rfl ec_96 (Nat.lt_of_lt_of_le (Nat.le_of_ble_eq_true rfl) hn) dX12_signs_41 hg_11 (by decide) (fun H locs S_12 eS_12 hG => ?_)
      replace hM := nx_at hM eS_12
      clear eS_12
      cases hM
      exact hK_7 H locs ls hG (lv_sub hl [0] rfl)
  clear hM
  replace hM := hc_2
  obtain ⟨hg_13, hM⟩ := gd_some hM
  refine gi_icmp_ne (tgt := 16) hx hb dX12_signs_9 (by decide) hg_13.1 hg_13.2 (fun c_14 => ?_) (fun c_14 => ?_)
  · replace hM := ifn hM c_14
    refine lv_aload_n hx hb dX12_signs_16 rfl (lv_at hl 0 rfl) ?_
    refine m_get S hG 80 83 22 rfl ec_83 cpX12 wm_1695 dX12_signs_17 rfl (Nat.lt_of_lt_of_le (Nat.le_of_ble_eq_true rfl) hn) (by decide) ?_
    cases hM
    exact hK_3 H locs ls hG (lv_sub hl [0, 1] rfl)
  · replace hM := ifp hM c_14
    refine lv_iload_n hx hb dX12_signs_12 rfl (lv_at hl 1 rfl) ?_
    refine lv_goto (tgt := 20) hx hb dX12_signs_13 (by decide) ?_
    cases hM
    exact hK_3 H locs ls hG (lv_sub hl [0, 1] rfl)
def mX12_behind (S0 : St) (a1 : Int) (a2 : Int) : Option (Int) := gd (0 ≤ (96 + a1) ∧ (96 + a1) < 228) <| gd (inI (S0 84 (96 + a1))) <| if 0 ≤ (S0 84 (96 + a1)) then (bd1 (mX12_place (S0 84 (96 + a1)) a2 0) fun r_5 => gd (0 ≤ r_5 ∧ r_5 < 1536) <| some ((S0 91 r_5))) else (gd (inI a2) <| if a2 = 0 then (some (1)) else (some (0)))
set_option maxHeartbeats 4000000 in
set_option maxRecDepth 100000 in
theorem vX12_behind (l : Launch) {D : va_G} {cy : Nat → ClassId} {b n : Nat} (hn : 102 ≤ n) {X : Nat → va_E} {S0 : St} (a1 : Int) (a2 : Int) {o1 : Int} (hM : mX12_behind S0 a1 a2 = some o1) : gL l yX12_behind cX12_behind 3 1 0 0 D cy b n (enc b cy X S0) [.ref (b + 80), .int (iI a1), .int (iI a2)] (fun r u => r = jJ o1 ∧ u = (n, enc b cy X S0)) := by
  refine gL_of (by decide) (Nat.le_of_ble_eq_true rfl) ?_
  intro p e s m args below meth c S hr hlk hin hsz ls hl hG
  have hx := S.1
  have hb := S.2.1
  have hl : lv_has ls 3 [(0, .ref (b + 80)), (1, .int (iI a1)), (2, .int (iI a2))] := hl
  replace hG : gW D cy b n s s.heap [] (enc b cy X S0) := hG
  obtain ⟨H, eH⟩ : ∃ H, H = s.heap := ⟨_, rfl⟩
  obtain ⟨locs, elocs⟩ : ∃ locs : List Loc, locs = [] := ⟨_, rfl⟩
  rw [← eH, ← elocs] at hG
  rw [← eH, ← elocs]
  clear eH elocs
  unfold mX12_behind at hM
  refine lv_aload_n hx hb dX12_behind_0 rfl (lv_at hl 0 rfl) ?_
  refine m_get S hG 80 83 0 rfl ec_83 cpX12 wm_1673 dX12_behind_1 rfl (Nat.lt_of_lt_of_le (Nat.le_of_ble_eq_true rfl) hn) (by decide) ?_
  refine lv_bipush (v := iI 96) hx hb dX12_behind_4 (by decide) ?_
  refine lv_iload_n hx hb dX12_behind_6 rfl (lv_at hl 1 rfl) ?_
  refine gi_add hx hb dX12_behind_7 ?_
  obtain ⟨hg_1, hM⟩ := gd_some hM
  refine mi_ald S hG 81 84 rfl ec_84 (Nat.lt_of_lt_of_le (Nat.le_of_ble_eq_true rfl) hn) dX12_behind_8 hg_1 (by decide) ?_
  obtain ⟨hg_2, hM⟩ := gd_some hM
  refine gi_if_ge (tgt := 24) hx hb dX12_behind_9 (by decide) hg_2 (fun c_3 => ?_) (fun c_3 => ?_)
  · replace hM := ifp hM c_3
    refine lv_aload_n hx hb dX12_behind_24 rfl (lv_at hl 0 rfl) ?_
    refine m_get S hG 80 83 15 rfl ec_83 cpX12 wm_1688 dX12_behind_25 rfl (Nat.lt_of_lt_of_le (Nat.le_of_ble_eq_true rfl) hn) (by decide) ?_
    refine lv_aload_n hx hb dX12_behind_28 rfl (lv_at hl 0 rfl) ?_
    refine m_get S hG 80 83 0 rfl ec_83 cpX12 wm_1673 dX12_behind_29 rfl (Nat.lt_of_lt_of_le (Nat.le_of_ble_eq_true rfl) hn) (by decide) ?_
    refine lv_bipush (v := iI 96) hx hb dX12_behind_32 (by decide) ?_
    refine lv_iload_n hx hb dX12_behind_34 rfl (lv_at hl 1 rfl) ?_
    refine gi_add hx hb dX12_behind_35 ?_
    refine mi_ald S hG 81 84 rfl ec_84 (Nat.lt_of_lt_of_le (Nat.le_of_ble_eq_true rfl) hn) dX12_behind_36 hg_1 (by decide) ?_
    refine lv_iload_n hx hb dX12_behind_37 rfl (lv_at hl 2 rfl) ?_
    refine lv_iconst (v := iI 0) hx hb dX12_behind_38 (by decide) ?_
    obtain ⟨r_5, hc_4, hM⟩ := bd1_some hM
    refine g_si (As := [.int (iI (S0 84 (96 + a1))), .int (iI a2), .int (iI 0)]) (rest := [.ref (b + 88)]) S hG hsz (vX12_place l hn (S0 84 (96 + a1)) a2 0 hc_4) wS_12_276 dX12_behind_39 rfl hl.1 (ar := 3) (by decide +kernel) rfl ⟨Nat.le_of_ble_eq_true rfl, Nat.le_of_ble_eq_true rfl, Nat.le_of_ble_eq_true rfl, Nat.le_of_ble_eq_true rfl⟩ (Nat.le_of_ble_eq_true rfl) (fun rv uu H locs hp hG => ?_)
    obtain ⟨rfl, rfl⟩ := hp
    replace hG : gW D cy b n s H locs (enc b cy X S0) := hG
    obtain ⟨hg_6, hM⟩ := gd_some hM
    refine mj_ald S hG 88 91 rfl ec_91 (Nat.lt_of_lt_of_le (Nat.le_of_ble_eq_true rfl) hn) dX12_behind_42 hg_6 (by decide) ?_
    cases hM
    exact g_lret S hr hlk hG hsz dX12_behind_43 ⟨Nat.le_of_ble_eq_true rfl, Nat.le_of_ble_eq_true rfl⟩ ⟨rfl, rfl⟩
  · replace hM := ifn hM c_3
    refine lv_iload_n hx hb dX12_behind_12 rfl (lv_at hl 2 rfl) ?_
    obtain ⟨hg_7, hM⟩ := gd_some hM
    refine gi_if_ne (tgt := 20) hx hb dX12_behind_13 (by decide) hg_7 (fun c_8 => ?_) (fun c_8 => ?_)
    · replace hM := ifn hM c_8
      refine lv_lconst (v := jJ 0) hx hb dX12_behind_20 (by decide) ?_
      refine lv_goto (tgt := 43) hx hb dX12_behind_21 (by decide) ?_
      cases hM
      exact g_lret S hr hlk hG hsz dX12_behind_43 ⟨Nat.le_of_ble_eq_true rfl, Nat.le_of_ble_eq_true rfl⟩ ⟨rfl, rfl⟩
    · replace hM := ifp hM c_8
      refine lv_lconst (v := jJ 1) hx hb dX12_behind_16 (by decide) ?_
      refine lv_goto (tgt := 43) hx hb dX12_behind_17 (by decide) ?_
      cases hM
      exact g_lret S hr hlk hG hsz dX12_behind_43 ⟨Nat.le_of_ble_eq_true rfl, Nat.le_of_ble_eq_true rfl⟩ ⟨rfl, rfl⟩
theorem wV_12_411 : gWV "GrownKindsModel" 411 yX12_behind cX12_behind 3 (some .long) := ⟨wm_2199, wm_2201, wm_142, wm_188, wm_2202, by decide +kernel, by decide +kernel⟩
def mX12_pairs (S0 : St) (a1 : Int) (a2 : Int) (a3 : Int) : Option (Int) := bd1 (mX12_place a1 a2 0) fun r_2 => gd (0 ≤ r_2 ∧ r_2 < 1920) <| bd1 (mX12_behind S0 a1 (a3 - a2)) fun r_5 => bd1 (mX12_mul (S0 90 r_2) r_5 1000000000000) fun r_7 => some (r_7)
set_option maxHeartbeats 4000000 in
set_option maxRecDepth 100000 in
theorem vX12_pairs (l : Launch) {D : va_G} {cy : Nat → ClassId} {b n : Nat} (hn : 102 ≤ n) {X : Nat → va_E} {S0 : St} (a1 : Int) (a2 : Int) (a3 : Int) {o1 : Int} (hM : mX12_pairs S0 a1 a2 a3 = some o1) : gL l yX12_pairs cX12_pairs 4 2 0 0 D cy b n (enc b cy X S0) [.ref (b + 80), .int (iI a1), .int (iI a2), .int (iI a3)] (fun r u => r = jJ o1 ∧ u = (n, enc b cy X S0)) := by
  refine gL_of (by decide) (Nat.le_of_ble_eq_true rfl) ?_
  intro p e s m args below meth c S hr hlk hin hsz ls hl hG
  have hx := S.1
  have hb := S.2.1
  have hl : lv_has ls 4 [(0, .ref (b + 80)), (1, .int (iI a1)), (2, .int (iI a2)), (3, .int (iI a3))] := hl
  replace hG : gW D cy b n s s.heap [] (enc b cy X S0) := hG
  obtain ⟨H, eH⟩ : ∃ H, H = s.heap := ⟨_, rfl⟩
  obtain ⟨locs, elocs⟩ : ∃ locs : List Loc, locs = [] := ⟨_, rfl⟩
  rw [← eH, ← elocs] at hG
  rw [← eH, ← elocs]
  clear eH elocs
  unfold mX12_pairs at hM
  refine lv_aload_n hx hb dX12_pairs_0 rfl (lv_at hl 0 rfl) ?_
  refine m_get S hG 80 83 14 rfl ec_83 cpX12 wm_1687 dX12_pairs_1 rfl (Nat.lt_of_lt_of_le (Nat.le_of_ble_eq_true rfl) hn) (by decide) ?_
  refine lv_iload_n hx hb dX12_pairs_4 rfl (lv_at hl 1 rfl) ?_
  refine lv_iload_n hx hb dX12_pairs_5 rfl (lv_at hl 2 rfl) ?_
  refine lv_iconst (v := iI 0) hx hb dX12_pairs_6 (by decide) ?_
  obtain ⟨r_2, hc_1, hM⟩ := bd1_some hM
  refine g_si (As := [.int (iI a1), .int (iI a2), .int (iI 0)]) (rest := [.ref (b + 87)]) S hG hsz (vX12_place l hn a1 a2 0 hc_1) wS_12_276 dX12_pairs_7 rfl hl.1 (ar := 3) (by decide +kernel) rfl ⟨Nat.le_of_ble_eq_true rfl, Nat.le_of_ble_eq_true rfl, Nat.le_of_ble_eq_true rfl, Nat.le_of_ble_eq_true rfl⟩ (Nat.le_of_ble_eq_true rfl) (fun rv uu H locs hp hG => ?_)
  obtain ⟨rfl, rfl⟩ := hp
  replace hG : gW D cy b n s H locs (enc b cy X S0) := hG
  obtain ⟨hg_3, hM⟩ := gd_some hM
  refine mj_ald S hG 87 90 rfl ec_90 (Nat.lt_of_lt_of_le (Nat.le_of_ble_eq_true rfl) hn) dX12_pairs_10 hg_3 (by decide) ?_
  refine lv_aload_n hx hb dX12_pairs_11 rfl (lv_at hl 0 rfl) ?_
  refine lv_iload_n hx hb dX12_pairs_12 rfl (lv_at hl 1 rfl) ?_
  refine lv_iload_n hx hb dX12_pairs_13 rfl (lv_at hl 3 rfl) ?_
  refine lv_iload_n hx hb dX12_pairs_14 rfl (lv_at hl 2 rfl) ?_
  refine gi_sub hx hb dX12_pairs_15 ?_
  obtain ⟨r_5, hc_4, hM⟩ := bd1_some hM
  refine g_vl (As := [.int (iI a1), .int (iI (a3 - a2))]) (rest := [.long (jJ (S0 90 r_2))]) S hG hsz (vX12_behind l hn a1 (a3 - a2) hc_4) wV_12_411 (ec_83 _) cpX12 (Nat.lt_of_lt_of_le (Nat.le_of_ble_eq_true rfl) hn) dX12_pairs_16 rfl hl.1 (ar := 2) (by decide +kernel) rfl ⟨Nat.le_of_ble_eq_true rfl, Nat.le_of_ble_eq_true rfl, Nat.le_of_ble_eq_true rfl, Nat.le_of_ble_eq_true rfl⟩ (Nat.le_of_ble_eq_true rfl) (fun rv uu H locs hp hG => ?_)
  obtain ⟨rfl, rfl⟩ := hp
  replace hG : gW D cy b n s H locs (enc b cy X S0) := hG
  refine lv_ldc2 (v := 1000000000000) hx hb S.2.2.2.1 (S.2.2.2.2 _ wm_2044) dX12_pairs_19 ?_
  refine gj_as 1000000000000 (by decide) ?_
  obtain ⟨r_7, hc_6, hM⟩ := bd1_some hM
  refine g_sl (As := [.long (jJ (S0 90 r_2)), .long (jJ r_5), .long (jJ 1000000000000)]) (rest := []) S hG hsz (vX12_mul l hn (S0 90 r_2) r_5 1000000000000 hc_6) wS_12_286 dX12_pairs_22 rfl hl.1 (ar := 3) (by decide +kernel) rfl ⟨Nat.le_of_ble_eq_true rfl, Nat.le_of_ble_eq_true rfl, Nat.le_of_ble_eq_true rfl, Nat.le_of_ble_eq_true rfl⟩ (Nat.le_of_ble_eq_true rfl) (fun rv uu H locs hp hG => ?_)
  obtain ⟨rfl, rfl⟩ := hp
  replace hG : gW D cy b n s H locs (enc b cy X S0) := hG
  cases hM
  exact g_lret S hr hlk hG hsz dX12_pairs_25 ⟨Nat.le_of_ble_eq_true rfl, Nat.le_of_ble_eq_true rfl⟩ ⟨rfl, rfl⟩
def mX12_pushes (S0 : St) (a1 : Int) (a2 : Int) : Option (St) := gd (0 ≤ (S0 83 31) ∧ (S0 83 31) < 512) <| nx (up S0 97 (S0 83 31) a1) fun S_2 => gd (0 ≤ (S_2 83 31) ∧ (S_2 83 31) < 512) <| nx (up S_2 98 (S_2 83 31) a2) fun S_4 => nx (up S_4 83 31 ((S_4 83 31) + 1)) fun S_5 => some (S_5)
set_option maxHeartbeats 4000000 in
set_option maxRecDepth 100000 in
theorem vX12_pushes (l : Launch) {D : va_G} {cy : Nat → ClassId} {b n : Nat} (hn : 102 ≤ n) {X : Nat → va_E} {S0 : St} (a1 : Int) (a2 : Int) {o1 : St} (hM : mX12_pushes S0 a1 a2 = some o1) : gV l yX12_pushes cX12_pushes 3 0 0 0 D cy b n (enc b cy X S0) [.ref (b + 80), .int (iI a1), .int (iI a2)] (fun u => u = (n, enc b cy X o1)) := by
  refine gV_of (by decide) (Nat.le_of_ble_eq_true rfl) ?_
  intro p e s m args below meth c S hr hlk hin hsz ls hl hG
  have hx := S.1
  have hb := S.2.1
  have hl : lv_has ls 3 [(0, .ref (b + 80)), (1, .int (iI a1)), (2, .int (iI a2))] := hl
  replace hG : gW D cy b n s s.heap [] (enc b cy X S0) := hG
  obtain ⟨H, eH⟩ : ∃ H, H = s.heap := ⟨_, rfl⟩
  obtain ⟨locs, elocs⟩ : ∃ locs : List Loc, locs = [] := ⟨_, rfl⟩
  rw [← eH, ← elocs] at hG
  rw [← eH, ← elocs]
  clear eH elocs
  unfold mX12_pushes at hM
  refine lv_aload_n hx hb dX12_pushes_0 rfl (lv_at hl 0 rfl) ?_
  refine m_get S hG 80 83 29 rfl ec_83 cpX12 wm_1702 dX12_pushes_1 rfl (Nat.lt_of_lt_of_le (Nat.le_of_ble_eq_true rfl) hn) (by decide) ?_
  refine lv_aload_n hx hb dX12_pushes_4 rfl (lv_at hl 0 rfl) ?_
  refine m_get S hG 80 83 31 rfl ec_83 cpX12 wm_1704 dX12_pushes_5 rfl (Nat.lt_of_lt_of_le (Nat.le_of_ble_eq_true rfl) hn) (by decide) ?_
  refine lv_iload_n hx hb dX12_pushes_8 rfl (lv_at hl 1 rfl) ?_
  obtain ⟨hg_1, hM⟩ := gd_some hM
  refine mi_ast S hG 94 97 rfl ec_97 (Nat.lt_of_lt_of_le (Nat.le_of_ble_eq_true rfl) hn) dX12_pushes_9 hg_1 (by decide) (fun H locs S_2 eS_2 hG => ?_)
  replace hM := nx_at hM eS_2
  clear eS_2
  refine lv_aload_n hx hb dX12_pushes_10 rfl (lv_at hl 0 rfl) ?_
  refine m_get S hG 80 83 30 rfl ec_83 cpX12 wm_1703 dX12_pushes_11 rfl (Nat.lt_of_lt_of_le (Nat.le_of_ble_eq_true rfl) hn) (by decide) ?_
  refine lv_aload_n hx hb dX12_pushes_14 rfl (lv_at hl 0 rfl) ?_
  refine m_get S hG 80 83 31 rfl ec_83 cpX12 wm_1704 dX12_pushes_15 rfl (Nat.lt_of_lt_of_le (Nat.le_of_ble_eq_true rfl) hn) (by decide) ?_
  refine lv_iload_n hx hb dX12_pushes_18 rfl (lv_at hl 2 rfl) ?_
  obtain ⟨hg_3, hM⟩ := gd_some hM
  refine mi_ast S hG 95 98 rfl ec_98 (Nat.lt_of_lt_of_le (Nat.le_of_ble_eq_true rfl) hn) dX12_pushes_19 hg_3 (by decide) (fun H locs S_4 eS_4 hG => ?_)
  replace hM := nx_at hM eS_4
  clear eS_4
  refine lv_aload_n hx hb dX12_pushes_20 rfl (lv_at hl 0 rfl) ?_
  refine lv_dup hx hb dX12_pushes_21 rfl ?_
  refine m_get S hG 80 83 31 rfl ec_83 cpX12 wm_1704 dX12_pushes_22 rfl (Nat.lt_of_lt_of_le (Nat.le_of_ble_eq_true rfl) hn) (by decide) ?_
  refine lv_iconst (v := iI 1) hx hb dX12_pushes_25 (by decide) ?_
  refine gi_add hx hb dX12_pushes_26 ?_
  refine m_put S hG 80 83 31 rfl 31 ((S_4 83 31) + 1) ec_83 cpX12 wm_1704 dX12_pushes_27 (pf_83_31) (Nat.lt_of_lt_of_le (Nat.le_of_ble_eq_true rfl) hn) (by decide) (Nat.le_of_ble_eq_true rfl) rfl rfl rfl (fun H locs S_5 eS_5 hG => ?_)
  replace hM := nx_at hM eS_5
  clear eS_5
  cases hM
  exact g_vret S hr hlk hG hsz dX12_pushes_30 ⟨Nat.le_of_ble_eq_true rfl, Nat.le_of_ble_eq_true rfl⟩ rfl
def mX12_areAlike (S0 : St) (a1 : Int) (a2 : Int) : Option (Int) := gd (0 ≤ a1 ∧ a1 < 512) <| gd (0 ≤ a2 ∧ a2 < 512) <| gd ((inI (S0 97 a1)) ∧ (inI (S0 97 a2))) <| if (S0 97 a1) = (S0 97 a2) then (gd ((inI (S0 98 a1)) ∧ (inI (S0 98 a2))) <| if (S0 98 a1) = (S0 98 a2) then (some (1)) else (some (0))) else (some (0))
set_option maxHeartbeats 4000000 in
set_option maxRecDepth 100000 in
theorem vX12_areAlike (l : Launch) {D : va_G} {cy : Nat → ClassId} {b n : Nat} (hn : 102 ≤ n) {X : Nat → va_E} {S0 : St} (a1 : Int) (a2 : Int) {o1 : Int} (hM : mX12_areAlike S0 a1 a2 = some o1) : gI l yX12_areAlike cX12_areAlike 3 (some .boolean) 0 0 0 D cy b n (enc b cy X S0) [.ref (b + 80), .int (iI a1), .int (iI a2)] (fun r u => r = iI o1 ∧ u = (n, enc b cy X S0)) := by
  refine gI_of (by decide) (Nat.le_of_ble_eq_true rfl) ?_
  intro p e s m args below meth c S hr hlk hin hsz ls hl hG
  have hx := S.1
  have hb := S.2.1
  have hl : lv_has ls 3 [(0, .ref (b + 80)), (1, .int (iI a1)), (2, .int (iI a2))] := hl
  replace hG : gW D cy b n s s.heap [] (enc b cy X S0) := hG
  obtain ⟨H, eH⟩ : ∃ H, H = s.heap := ⟨_, rfl⟩
  obtain ⟨locs, elocs⟩ : ∃ locs : List Loc, locs = [] := ⟨_, rfl⟩
  rw [← eH, ← elocs] at hG
  rw [← eH, ← elocs]
  clear eH elocs
  unfold mX12_areAlike at hM
  refine lv_aload_n hx hb dX12_areAlike_0 rfl (lv_at hl 0 rfl) ?_
  refine m_get S hG 80 83 29 rfl ec_83 cpX12 wm_1702 dX12_areAlike_1 rfl (Nat.lt_of_lt_of_le (Nat.le_of_ble_eq_true rfl) hn) (by decide) ?_
  refine lv_iload_n hx hb dX12_areAlike_4 rfl (lv_at hl 1 rfl) ?_
  obtain ⟨hg_1, hM⟩ := gd_some hM
  refine mi_ald S hG 94 97 rfl ec_97 (Nat.lt_of_lt_of_le (Nat.le_of_ble_eq_true rfl) hn) dX12_areAlike_5 hg_1 (by decide) ?_
  refine lv_aload_n hx hb dX12_areAlike_6 rfl (lv_at hl 0 rfl) ?_
  refine m_get S hG 80 83 29 rfl ec_83 cpX12 wm_1702 dX12_areAlike_7 rfl (Nat.lt_of_lt_of_le (Nat.le_of_ble_eq_true rfl) hn) (by decide) ?_
  refine lv_iload_n hx hb dX12_areAlike_10 rfl (lv_at hl 2 rfl) ?_
  obtain ⟨hg_2, hM⟩ := gd_some hM
  refine mi_ald S hG 94 97 rfl ec_97 (Nat.lt_of_lt_of_le (Nat.le_of_ble_eq_true rfl) hn) dX12_areAlike_11 hg_2 (by decide) ?_
  obtain ⟨hg_3, hM⟩ := gd_some hM
  refine gi_icmp_ne (tgt := 34) hx hb dX12_areAlike_12 (by decide) hg_3.1 hg_3.2 (fun c_4 => ?_) (fun c_4 => ?_)
  · replace hM := ifn hM c_4
    refine lv_iconst (v := iI 0) hx hb dX12_areAlike_34 (by decide) ?_
    cases hM
    exact g_zret S hr hlk hG hsz dX12_areAlike_35 ⟨Nat.le_of_ble_eq_true rfl, Nat.le_of_ble_eq_true rfl⟩ (nar_z (by decide)) ⟨rfl, rfl⟩
  · replace hM := ifp hM c_4
    refine lv_aload_n hx hb dX12_areAlike_15 rfl (lv_at hl 0 rfl) ?_
    refine m_get S hG 80 83 30 rfl ec_83 cpX12 wm_1703 dX12_areAlike_16 rfl (Nat.lt_of_lt_of_le (Nat.le_of_ble_eq_true rfl) hn) (by decide) ?_
    refine lv_iload_n hx hb dX12_areAlike_19 rfl (lv_at hl 1 rfl) ?_
    refine mi_ald S hG 95 98 rfl ec_98 (Nat.lt_of_lt_of_le (Nat.le_of_ble_eq_true rfl) hn) dX12_areAlike_20 hg_1 (by decide) ?_
    refine lv_aload_n hx hb dX12_areAlike_21 rfl (lv_at hl 0 rfl) ?_
    refine m_get S hG 80 83 30 rfl ec_83 cpX12 wm_1703 dX12_areAlike_22 rfl (Nat.lt_of_lt_of_le (Nat.le_of_ble_eq_true rfl) hn) (by decide) ?_
    refine lv_iload_n hx hb dX12_areAlike_25 rfl (lv_at hl 2 rfl) ?_
    refine mi_ald S hG 95 98 rfl ec_98 (Nat.lt_of_lt_of_le (Nat.le_of_ble_eq_true rfl) hn) dX12_areAlike_26 hg_2 (by decide) ?_
    obtain ⟨hg_5, hM⟩ := gd_some hM
    refine gi_icmp_ne (tgt := 34) hx hb dX12_areAlike_27 (by decide) hg_5.1 hg_5.2 (fun c_6 => ?_) (fun c_6 => ?_)
    · replace hM := ifn hM c_6
      refine lv_iconst (v := iI 0) hx hb dX12_areAlike_34 (by decide) ?_
      cases hM
      exact g_zret S hr hlk hG hsz dX12_areAlike_35 ⟨Nat.le_of_ble_eq_true rfl, Nat.le_of_ble_eq_true rfl⟩ (nar_z (by decide)) ⟨rfl, rfl⟩
    · replace hM := ifp hM c_6
      refine lv_iconst (v := iI 1) hx hb dX12_areAlike_30 (by decide) ?_
      refine lv_goto (tgt := 35) hx hb dX12_areAlike_31 (by decide) ?_
      cases hM
      exact g_zret S hr hlk hG hsz dX12_areAlike_35 ⟨Nat.le_of_ble_eq_true rfl, Nat.le_of_ble_eq_true rfl⟩ (nar_z (by decide)) ⟨rfl, rfl⟩
theorem wV_12_447 : gWV "GrownKindsModel" 447 yX12_areAlike cX12_areAlike 3 (some .boolean) := ⟨wm_2234, wm_2236, wm_150, wm_188, wm_2237, by decide +kernel, by decide +kernel⟩
def mX12_changes_10 (S0 : St) (a2 : Int) : Nat → Int → Int → Int → Option (Int)
  | 0, _, _, _ => none
  | f + 1, v_2, v_3, v_4 => gd ((inI v_2) ∧ (inI a2)) <| if a2 ≤ v_2 then (some (v_4)) else (bd1 (mX12_areAlike S0 (v_2 - 1) v_2) fun r_14 => bd1 (gd (inI r_14) <| if r_14 = 0 then (some (1)) else (some ((v_3 + 1)))) fun z_15 => nx (v_4 * z_15) fun x_18 => mX12_changes_10 S0 a2 f (v_2 + 1) z_15 x_18)
def mX12_changes (S0 : St) (a1 : Int) (a2 : Int) : Option (Int) := nx (a1 + 1) fun x_1 => bd1 (mX12_changes_10 S0 a2 FU x_1 1 1) fun y_5 => some (y_5)
set_option maxHeartbeats 4000000 in
set_option maxRecDepth 100000 in
theorem vX12_changes (l : Launch) {D : va_G} {cy : Nat → ClassId} {b n : Nat} (hn : 102 ≤ n) {X : Nat → va_E} {S0 : St} (a1 : Int) (a2 : Int) {o1 : Int} (hM : mX12_changes S0 a1 a2 = some o1) : gI l yX12_changes cX12_changes 6 (some .int) 1 0 0 D cy b n (enc b cy X S0) [.ref (b + 80), .int (iI a1), .int (iI a2)] (fun r u => r = iI o1 ∧ u = (n, enc b cy X S0)) := by
  refine gI_of (by decide) (Nat.le_of_ble_eq_true rfl) ?_
  intro p e s m args below meth c S hr hlk hin hsz ls hl hG
  have hx := S.1
  have hb := S.2.1
  have hl : lv_has ls 6 [(0, .ref (b + 80)), (1, .int (iI a1)), (2, .int (iI a2))] := hl
  replace hG : gW D cy b n s s.heap [] (enc b cy X S0) := hG
  obtain ⟨H, eH⟩ : ∃ H, H = s.heap := ⟨_, rfl⟩
  obtain ⟨locs, elocs⟩ : ∃ locs : List Loc, locs = [] := ⟨_, rfl⟩
  rw [← eH, ← elocs] at hG
  rw [← eH, ← elocs]
  clear eH elocs
  unfold mX12_changes at hM
  refine lv_iconst (v := iI 1) hx hb dX12_changes_0 (by decide) ?_
  refine lv_istore_n (lv' := [(3, .int (iI 1)), (0, .ref (b + 80)), (1, .int (iI a1)), (2, .int (iI a2))]) hx hb dX12_changes_1 rfl hl (by decide) rfl (fun ls hl => ?_)
  refine lv_iconst (v := iI 1) hx hb dX12_changes_2 (by decide) ?_
  refine lv_istore (lv' := [(4, .int (iI 1)), (3, .int (iI 1)), (0, .ref (b + 80)), (1, .int (iI a1)), (2, .int (iI a2))]) hx hb dX12_changes_3 hl (by decide) rfl (fun ls hl => ?_)
  refine lv_iload_n hx hb dX12_changes_5 rfl (lv_at hl 3 rfl) ?_
  refine lv_iconst (v := iI 1) hx hb dX12_changes_6 (by decide) ?_
  refine gi_add hx hb dX12_changes_7 ?_
  refine gi_nm (fun x_1 ex_1 => ?_)
  replace hM := nx_at hM ex_1
  clear ex_1
  refine lv_istore (lv' := [(5, .int (iI x_1)), (4, .int (iI 1)), (3, .int (iI 1)), (0, .ref (b + 80)), (1, .int (iI a1)), (2, .int (iI a2))]) hx hb dX12_changes_8 hl (by decide) rfl (fun ls hl => ?_)
  obtain ⟨y_5, hc_6, hM⟩ := bd1_some hM
  have hK_7 : ∀ (H : Heap) (locs : List Loc) (ls : Array Slot), gW D cy b n s H locs (enc b cy X S0) → lv_has ls 6 [(3, .int (iI y_5))] → W p l e (gRm 1 0 0) s m args below meth c H locs 0 0 (gQI D cy b s args below 0 0 (fun r u => r = iI o1 ∧ u = (n, enc b cy X S0))) (F0 m 50 ls []) := by
    intro H locs ls hG hl
    refine lv_iload_n hx hb dX12_changes_50 rfl (lv_at hl 0 rfl) ?_
    cases hM
    exact g_iret S hr hlk hG hsz dX12_changes_51 ⟨Nat.le_of_ble_eq_true rfl, Nat.le_of_ble_eq_true rfl⟩ ⟨rfl, rfl⟩
  have loop_8 : ∀ (f : Nat) (v_2 : Int) (v_3 : Int) (v_4 : Int) (H : Heap) (locs : List Loc) (ls : Array Slot), mX12_changes_10 S0 a2 f v_2 v_3 v_4 = some y_5 → gW D cy b n s H locs (enc b cy X S0) → lv_has ls 6 [(5, .int (iI v_2)), (4, .int (iI v_3)), (3, .int (iI v_4)), (0, .ref (b + 80)), (2, .int (iI a2))] → W p l e (gRm 1 0 0) s m args below meth c H locs 0 0 (gQI D cy b s args below 0 0 (fun r u => r = iI o1 ∧ u = (n, enc b cy X S0))) (F0 m 10 ls []) := by
    clear hM
    intro f
    induction f with
    | zero => intro v_2 v_3 v_4 H locs ls hM; rw [mX12_changes_10] at hM; cases hM
    | succ f_10 ih_9 =>
      intro v_2 v_3 v_4 H locs ls hM hG hl
      rw [mX12_changes_10] at hM
      refine lv_iload hx hb dX12_changes_10 (lv_at hl 0 rfl) ?_
      refine lv_iload_n hx hb dX12_changes_12 rfl (lv_at hl 4 rfl) ?_
      obtain ⟨hg_11, hM⟩ := gd_some hM
      refine gi_icmp_ge (tgt := 50) hx hb dX12_changes_13 (by decide) hg_11.1 hg_11.2 (fun c_12 => ?_) (fun c_12 => ?_)
      · replace hM := ifp hM c_12
        cases hM
        exact hK_7 H locs ls hG (lv_sub hl [2] rfl)
      · replace hM := ifn hM c_12
        refine lv_aload_n hx hb dX12_changes_16 rfl (lv_at hl 3 rfl) ?_
        refine lv_iload hx hb dX12_changes_17 (lv_at hl 0 rfl) ?_
        refine lv_iconst (v := iI 1) hx hb dX12_changes_19 (by decide) ?_
        refine gi_sub hx hb dX12_changes_20 ?_
        refine lv_iload hx hb dX12_changes_21 (lv_at hl 0 rfl) ?_
        obtain ⟨r_14, hc_13, hM⟩ := bd1_some hM
        refine g_vi (As := [.int (iI (v_2 - 1)), .int (iI v_2)]) (rest := []) S hG hsz (vX12_areAlike l hn (v_2 - 1) v_2 hc_13) wV_12_447 (ec_83 _) cpX12 (Nat.lt_of_lt_of_le (Nat.le_of_ble_eq_true rfl) hn) dX12_changes_23 rfl hl.1 (ar := 2) (by decide +kernel) rfl ⟨Nat.le_of_ble_eq_true rfl, Nat.le_of_ble_eq_true rfl, Nat.le_of_ble_eq_true rfl, Nat.le_of_ble_eq_true rfl⟩ (Nat.le_of_ble_eq_true rfl) (fun rv uu H locs hp hG => ?_)
        obtain ⟨rfl, rfl⟩ := hp
        replace hG : gW D cy b n s H locs (enc b cy X S0) := hG
        obtain ⟨z_15, hc_16, hM⟩ := bd1_some hM
        have hK_17 : ∀ (H : Heap) (locs : List Loc) (ls : Array Slot), gW D cy b n s H locs (enc b cy X S0) → lv_has ls 6 [(5, .int (iI v_2)), (3, .int (iI v_4)), (0, .ref (b + 80)), (2, .int (iI a2))] → W p l e (gRm 1 0 0) s m args below meth c H locs 0 0 (gQI D cy b s args below 0 0 (fun r u => r = iI o1 ∧ u = (n, enc b cy X S0))) (F0 m 37 ls [.int (iI z_15)]) := by
          intro H locs ls hG hl
          refine lv_istore (lv' := [(4, .int (iI z_15)), (5, .int (iI v_2)), (3, .int (iI v_4)), (0, .ref (b + 80)), (2, .int (iI a2))]) hx hb dX12_changes_37 hl (by decide) rfl (fun ls hl => ?_)
          refine lv_iload_n hx hb dX12_changes_39 rfl (lv_at hl 2 rfl) ?_
          refine lv_iload hx hb dX12_changes_40 (lv_at hl 0 rfl) ?_
          refine gi_mul hx hb dX12_changes_42 ?_
          refine gi_nm (fun x_18 ex_18 => ?_)
          replace hM := nx_at hM ex_18
          clear ex_18
          refine lv_istore_n (lv' := [(3, .int (iI x_18)), (4, .int (iI z_15)), (5, .int (iI v_2)), (0, .ref (b + 80)), (2, .int (iI a2))]) hx hb dX12_changes_43 rfl hl (by decide) rfl (fun ls hl => ?_)
          refine lv_iinc (v := iI (v_2 + 1)) (lv' := [(5, .int (iI (v_2 + 1))), (3, .int (iI x_18)), (4, .int (iI z_15)), (0, .ref (b + 80)), (2, .int (iI a2))]) hx hb dX12_changes_44 hl (k := 2) rfl ((iI_add v_2 (1)).trans (congrArg iI (by omega))) (by decide) rfl (fun ls hl => ?_)
          refine lv_goto (tgt := 10) hx hb dX12_changes_47 (by decide) ?_
          exact ih_9 (v_2 + 1) z_15 x_18 H locs ls hM hG (lv_sub hl [0, 2, 1, 3, 4] rfl)
        clear hM
        replace hM := hc_16
        obtain ⟨hg_19, hM⟩ := gd_some hM
        refine gi_if_eq (tgt := 36) hx hb dX12_changes_26 (by decide) hg_19 (fun c_20 => ?_) (fun c_20 => ?_)
        · replace hM := ifp hM c_20
          refine lv_iconst (v := iI 1) hx hb dX12_changes_36 (by decide) ?_
          cases hM
          exact hK_17 H locs ls hG (lv_sub hl [0, 2, 3, 4] rfl)
        · replace hM := ifn hM c_20
          refine lv_iload hx hb dX12_changes_29 (lv_at hl 1 rfl) ?_
          refine lv_iconst (v := iI 1) hx hb dX12_changes_31 (by decide) ?_
          refine gi_add hx hb dX12_changes_32 ?_
          refine lv_goto (tgt := 37) hx hb dX12_changes_33 (by decide) ?_
          cases hM
          exact hK_17 H locs ls hG (lv_sub hl [0, 2, 3, 4] rfl)
  exact loop_8 FU x_1 1 1 H locs ls hc_6 hG (lv_sub hl [0, 1, 2, 3, 5] rfl)
def mX12_turnsIn_22 (S0 : St) (v_2 : Int) (v_3 : Int) (x_1 : Int) (a1 : Int) : Nat → Int → Int → Option (Int)
  | 0, _, _ => none
  | f + 1, v_12, v_13 => gd (inI v_12) <| if x_1 ≤ v_12 then (some (v_13)) else (gd (inI v_13) <| if v_13 = 0 then (some (v_13)) else (gd ((0 ≤ (v_12 + v_2) ∧ (v_12 + v_2) ≤ 2147483647) ∧ (0 < x_1 ∧ x_1 ≤ 2147483647)) <| bd1 (mX12_areAlike S0 (a1 + v_12) (a1 + ((v_12 + v_2) % x_1))) fun r_30 => mX12_turnsIn_22 S0 v_2 v_3 x_1 a1 f (v_12 + 1) r_30))
def mX12_turnsIn_10 (S0 : St) (x_1 : Int) (a1 : Int) : Nat → Int → Int → Option (Int)
  | 0, _, _ => none
  | f + 1, v_2, v_3 => gd ((inI v_2) ∧ (inI x_1)) <| if x_1 ≤ v_2 then (some (v_3)) else (bd1 (mX12_turnsIn_22 S0 v_2 v_3 x_1 a1 FU 0 1) fun y_14 => gd (inI y_14) <| if y_14 = 0 then (nx (v_3 + 0) fun x_19 => mX12_turnsIn_10 S0 x_1 a1 f (v_2 + 1) x_19) else (nx (v_3 + 1) fun x_20 => mX12_turnsIn_10 S0 x_1 a1 f (v_2 + 1) x_20))
def mX12_turnsIn (S0 : St) (a1 : Int) (a2 : Int) : Option (Int) := nx (a2 - a1) fun x_1 => bd1 (mX12_turnsIn_10 S0 x_1 a1 FU 0 0) fun y_4 => some (y_4)
set_option maxHeartbeats 4000000 in
set_option maxRecDepth 100000 in
theorem vX12_turnsIn (l : Launch) {D : va_G} {cy : Nat → ClassId} {b n : Nat} (hn : 102 ≤ n) {X : Nat → va_E} {S0 : St} (a1 : Int) (a2 : Int) {o1 : Int} (hM : mX12_turnsIn S0 a1 a2 = some o1) : gI l yX12_turnsIn cX12_turnsIn 8 (some .int) 1 0 0 D cy b n (enc b cy X S0) [.ref (b + 80), .int (iI a1), .int (iI a2)] (fun r u => r = iI o1 ∧ u = (n, enc b cy X S0)) := by
  refine gI_of (by decide) (Nat.le_of_ble_eq_true rfl) ?_
  intro p e s m args below meth c S hr hlk hin hsz ls hl hG
  have hx := S.1
  have hb := S.2.1
  have hl : lv_has ls 8 [(0, .ref (b + 80)), (1, .int (iI a1)), (2, .int (iI a2))] := hl
  replace hG : gW D cy b n s s.heap [] (enc b cy X S0) := hG
  obtain ⟨H, eH⟩ : ∃ H, H = s.heap := ⟨_, rfl⟩
  obtain ⟨locs, elocs⟩ : ∃ locs : List Loc, locs = [] := ⟨_, rfl⟩
  rw [← eH, ← elocs] at hG
  rw [← eH, ← elocs]
  clear eH elocs
  unfold mX12_turnsIn at hM
  refine lv_iload_n hx hb dX12_turnsIn_0 rfl (lv_at hl 2 rfl) ?_
  refine lv_iload_n hx hb dX12_turnsIn_1 rfl (lv_at hl 1 rfl) ?_
  refine gi_sub hx hb dX12_turnsIn_2 ?_
  refine gi_nm (fun x_1 ex_1 => ?_)
  replace hM := nx_at hM ex_1
  clear ex_1
  refine lv_istore_n (lv' := [(3, .int (iI x_1)), (0, .ref (b + 80)), (1, .int (iI a1)), (2, .int (iI a2))]) hx hb dX12_turnsIn_3 rfl hl (by decide) rfl (fun ls hl => ?_)
  refine lv_iconst (v := iI 0) hx hb dX12_turnsIn_4 (by decide) ?_
  refine lv_istore (lv' := [(4, .int (iI 0)), (3, .int (iI x_1)), (0, .ref (b + 80)), (1, .int (iI a1)), (2, .int (iI a2))]) hx hb dX12_turnsIn_5 hl (by decide) rfl (fun ls hl => ?_)
  refine lv_iconst (v := iI 0) hx hb dX12_turnsIn_7 (by decide) ?_
  refine lv_istore (lv' := [(5, .int (iI 0)), (4, .int (iI 0)), (3, .int (iI x_1)), (0, .ref (b + 80)), (1, .int (iI a1)), (2, .int (iI a2))]) hx hb dX12_turnsIn_8 hl (by decide) rfl (fun ls hl => ?_)
  obtain ⟨y_4, hc_5, hM⟩ := bd1_some hM
  have hK_6 : ∀ (H : Heap) (locs : List Loc) (ls : Array Slot), gW D cy b n s H locs (enc b cy X S0) → lv_has ls 8 [(4, .int (iI y_4))] → W p l e (gRm 1 0 0) s m args below meth c H locs 0 0 (gQI D cy b s args below 0 0 (fun r u => r = iI o1 ∧ u = (n, enc b cy X S0))) (F0 m 79 ls []) := by
    intro H locs ls hG hl
    refine lv_iload hx hb dX12_turnsIn_79 (lv_at hl 0 rfl) ?_
    cases hM
    exact g_iret S hr hlk hG hsz dX12_turnsIn_81 ⟨Nat.le_of_ble_eq_true rfl, Nat.le_of_ble_eq_true rfl⟩ ⟨rfl, rfl⟩
  have loop_7 : ∀ (f : Nat) (v_2 : Int) (v_3 : Int) (H : Heap) (locs : List Loc) (ls : Array Slot), mX12_turnsIn_10 S0 x_1 a1 f v_2 v_3 = some y_4 → gW D cy b n s H locs (enc b cy X S0) → lv_has ls 8 [(5, .int (iI v_2)), (4, .int (iI v_3)), (3, .int (iI x_1)), (0, .ref (b + 80)), (1, .int (iI a1))] → W p l e (gRm 1 0 0) s m args below meth c H locs 0 0 (gQI D cy b s args below 0 0 (fun r u => r = iI o1 ∧ u = (n, enc b cy X S0))) (F0 m 10 ls []) := by
    clear hM
    intro f
    induction f with
    | zero => intro v_2 v_3 H locs ls hM; rw [mX12_turnsIn_10] at hM; cases hM
    | succ f_9 ih_8 =>
      intro v_2 v_3 H locs ls hM hG hl
      rw [mX12_turnsIn_10] at hM
      refine lv_iload hx hb dX12_turnsIn_10 (lv_at hl 0 rfl) ?_
      refine lv_iload_n hx hb dX12_turnsIn_12 rfl (lv_at hl 2 rfl) ?_
      obtain ⟨hg_10, hM⟩ := gd_some hM
      refine gi_icmp_ge (tgt := 79) hx hb dX12_turnsIn_13 (by decide) hg_10.1 hg_10.2 (fun c_11 => ?_) (fun c_11 => ?_)
      · replace hM := ifp hM c_11
        cases hM
        exact hK_6 H locs ls hG (lv_sub hl [1] rfl)
      · replace hM := ifn hM c_11
        refine lv_iconst (v := iI 1) hx hb dX12_turnsIn_16 (by decide) ?_
        refine lv_istore (lv' := [(6, .int (iI 1)), (5, .int (iI v_2)), (4, .int (iI v_3)), (3, .int (iI x_1)), (0, .ref (b + 80)), (1, .int (iI a1))]) hx hb dX12_turnsIn_17 hl (by decide) rfl (fun ls hl => ?_)
        refine lv_iconst (v := iI 0) hx hb dX12_turnsIn_19 (by decide) ?_
        refine lv_istore (lv' := [(7, .int (iI 0)), (6, .int (iI 1)), (5, .int (iI v_2)), (4, .int (iI v_3)), (3, .int (iI x_1)), (0, .ref (b + 80)), (1, .int (iI a1))]) hx hb dX12_turnsIn_20 hl (by decide) rfl (fun ls hl => ?_)
        obtain ⟨y_14, hc_15, hM⟩ := bd1_some hM
        have hK_16 : ∀ (H : Heap) (locs : List Loc) (ls : Array Slot), gW D cy b n s H locs (enc b cy X S0) → lv_has ls 8 [(5, .int (iI v_2)), (4, .int (iI v_3)), (3, .int (iI x_1)), (0, .ref (b + 80)), (1, .int (iI a1)), (6, .int (iI y_14))] → W p l e (gRm 1 0 0) s m args below meth c H locs 0 0 (gQI D cy b s args below 0 0 (fun r u => r = iI o1 ∧ u = (n, enc b cy X S0))) (F0 m 58 ls []) := by
          intro H locs ls hG hl
          refine lv_iload hx hb dX12_turnsIn_58 (lv_at hl 1 rfl) ?_
          refine lv_iload hx hb dX12_turnsIn_60 (lv_at hl 5 rfl) ?_
          obtain ⟨hg_17, hM⟩ := gd_some hM
          refine gi_if_eq (tgt := 69) hx hb dX12_turnsIn_62 (by decide) hg_17 (fun c_18 => ?_) (fun c_18 => ?_)
          · replace hM := ifp hM c_18
            refine lv_iconst (v := iI 0) hx hb dX12_turnsIn_69 (by decide) ?_
            refine gi_add hx hb dX12_turnsIn_70 ?_
            refine gi_nm (fun x_19 ex_19 => ?_)
            replace hM := nx_at hM ex_19
            clear ex_19
            refine lv_istore (lv' := [(4, .int (iI x_19)), (5, .int (iI v_2)), (3, .int (iI x_1)), (0, .ref (b + 80)), (1, .int (iI a1)), (6, .int (iI y_14))]) hx hb dX12_turnsIn_71 hl (by decide) rfl (fun ls hl => ?_)
            refine lv_iinc (v := iI (v_2 + 1)) (lv' := [(5, .int (iI (v_2 + 1))), (4, .int (iI x_19)), (3, .int (iI x_1)), (0, .ref (b + 80)), (1, .int (iI a1)), (6, .int (iI y_14))]) hx hb dX12_turnsIn_73 hl (k := 1) rfl ((iI_add v_2 (1)).trans (congrArg iI (by omega))) (by decide) rfl (fun ls hl => ?_)
            refine lv_goto (tgt := 10) hx hb dX12_turnsIn_76 (by decide) ?_
            exact ih_8 (v_2 + 1) x_19 H locs ls hM hG (lv_sub hl [0, 1, 2, 3, 4] rfl)
          · replace hM := ifn hM c_18
            refine lv_iconst (v := iI 1) hx hb dX12_turnsIn_65 (by decide) ?_
            refine lv_goto (tgt := 70) hx hb dX12_turnsIn_66 (by decide) ?_
            refine gi_add hx hb dX12_turnsIn_70 ?_
            refine gi_nm (fun x_20 ex_20 => ?_)
            replace hM := nx_at hM ex_20
            clear ex_20
            refine lv_istore (lv' := [(4, .int (iI x_20)), (5, .int (iI v_2)), (3, .int (iI x_1)), (0, .ref (b + 80)), (1, .int (iI a1)), (6, .int (iI y_14))]) hx hb dX12_turnsIn_71 hl (by decide) rfl (fun ls hl => ?_)
            refine lv_iinc (v := iI (v_2 + 1)) (lv' := [(5, .int (iI (v_2 + 1))), (4, .int (iI x_20)), (3, .int (iI x_1)), (0, .ref (b + 80)), (1, .int (iI a1)), (6, .int (iI y_14))]) hx hb dX12_turnsIn_73 hl (k := 1) rfl ((iI_add v_2 (1)).trans (congrArg iI (by omega))) (by decide) rfl (fun ls hl => ?_)
            refine lv_goto (tgt := 10) hx hb dX12_turnsIn_76 (by decide) ?_
            exact ih_8 (v_2 + 1) x_20 H locs ls hM hG (lv_sub hl [0, 1, 2, 3, 4] rfl)
        have loop_21 : ∀ (f : Nat) (v_12 : Int) (v_13 : Int) (H : Heap) (locs : List Loc) (ls : Array Slot), mX12_turnsIn_22 S0 v_2 v_3 x_1 a1 f v_12 v_13 = some y_14 → gW D cy b n s H locs (enc b cy X S0) → lv_has ls 8 [(7, .int (iI v_12)), (6, .int (iI v_13)), (5, .int (iI v_2)), (4, .int (iI v_3)), (3, .int (iI x_1)), (0, .ref (b + 80)), (1, .int (iI a1))] → W p l e (gRm 1 0 0) s m args below meth c H locs 0 0 (gQI D cy b s args below 0 0 (fun r u => r = iI o1 ∧ u = (n, enc b cy X S0))) (F0 m 22 ls []) := by
          clear hM
          intro f
          induction f with
          | zero => intro v_12 v_13 H locs ls hM; rw [mX12_turnsIn_22] at hM; cases hM
          | succ f_23 ih_22 =>
            intro v_12 v_13 H locs ls hM hG hl
            rw [mX12_turnsIn_22] at hM
            refine lv_iload hx hb dX12_turnsIn_22 (lv_at hl 0 rfl) ?_
            refine lv_iload_n hx hb dX12_turnsIn_24 rfl (lv_at hl 4 rfl) ?_
            obtain ⟨hg_24, hM⟩ := gd_some hM
            refine gi_icmp_ge (tgt := 58) hx hb dX12_turnsIn_25 (by decide) hg_24 hg_10.2 (fun c_25 => ?_) (fun c_25 => ?_)
            · replace hM := ifp hM c_25
              cases hM
              exact hK_16 H locs ls hG (lv_sub hl [2, 3, 4, 5, 6, 1] rfl)
            · replace hM := ifn hM c_25
              refine lv_iload hx hb dX12_turnsIn_28 (lv_at hl 1 rfl) ?_
              obtain ⟨hg_26, hM⟩ := gd_some hM
              refine gi_if_eq (tgt := 58) hx hb dX12_turnsIn_30 (by decide) hg_26 (fun c_27 => ?_) (fun c_27 => ?_)
              · replace hM := ifp hM c_27
                cases hM
                exact hK_16 H locs ls hG (lv_sub hl [2, 3, 4, 5, 6, 1] rfl)
              · replace hM := ifn hM c_27
                refine lv_aload_n hx hb dX12_turnsIn_33 rfl (lv_at hl 5 rfl) ?_
                refine lv_iload_n hx hb dX12_turnsIn_34 rfl (lv_at hl 6 rfl) ?_
                refine lv_iload hx hb dX12_turnsIn_35 (lv_at hl 0 rfl) ?_
                refine gi_add hx hb dX12_turnsIn_37 ?_
                refine lv_iload_n hx hb dX12_turnsIn_38 rfl (lv_at hl 6 rfl) ?_
                refine lv_iload hx hb dX12_turnsIn_39 (lv_at hl 0 rfl) ?_
                refine lv_iload hx hb dX12_turnsIn_41 (lv_at hl 2 rfl) ?_
                refine gi_add hx hb dX12_turnsIn_43 ?_
                refine lv_iload_n hx hb dX12_turnsIn_44 rfl (lv_at hl 4 rfl) ?_
                obtain ⟨hg_28, hM⟩ := gd_some hM
                refine gi_rem hx hb dX12_turnsIn_45 hg_28.1 hg_28.2 ?_
                refine gi_add hx hb dX12_turnsIn_46 ?_
                obtain ⟨r_30, hc_29, hM⟩ := bd1_some hM
                refine g_vi (As := [.int (iI (a1 + v_12)), .int (iI (a1 + ((v_12 + v_2) % x_1)))]) (rest := []) S hG hsz (vX12_areAlike l hn (a1 + v_12) (a1 + ((v_12 + v_2) % x_1)) hc_29) wV_12_447 (ec_83 _) cpX12 (Nat.lt_of_lt_of_le (Nat.le_of_ble_eq_true rfl) hn) dX12_turnsIn_47 rfl hl.1 (ar := 2) (by decide +kernel) rfl ⟨Nat.le_of_ble_eq_true rfl, Nat.le_of_ble_eq_true rfl, Nat.le_of_ble_eq_true rfl, Nat.le_of_ble_eq_true rfl⟩ (Nat.le_of_ble_eq_true rfl) (fun rv uu H locs hp hG => ?_)
                obtain ⟨rfl, rfl⟩ := hp
                replace hG : gW D cy b n s H locs (enc b cy X S0) := hG
                refine lv_istore (lv' := [(6, .int (iI r_30)), (7, .int (iI v_12)), (5, .int (iI v_2)), (4, .int (iI v_3)), (3, .int (iI x_1)), (0, .ref (b + 80)), (1, .int (iI a1))]) hx hb dX12_turnsIn_50 hl (by decide) rfl (fun ls hl => ?_)
                refine lv_iinc (v := iI (v_12 + 1)) (lv' := [(7, .int (iI (v_12 + 1))), (6, .int (iI r_30)), (5, .int (iI v_2)), (4, .int (iI v_3)), (3, .int (iI x_1)), (0, .ref (b + 80)), (1, .int (iI a1))]) hx hb dX12_turnsIn_52 hl (k := 1) rfl ((iI_add v_12 (1)).trans (congrArg iI (by omega))) (by decide) rfl (fun ls hl => ?_)
                refine lv_goto (tgt := 22) hx hb dX12_turnsIn_55 (by decide) ?_
                exact ih_22 (v_12 + 1) r_30 H locs ls hM hG (lv_sub hl [0, 1, 2, 3, 4, 5, 6] rfl)
        exact loop_21 FU 0 1 H locs ls hc_15 hG (lv_sub hl [0, 1, 2, 3, 4, 5, 6] rfl)
  exact loop_7 FU 0 0 H locs ls hc_5 hG (lv_sub hl [0, 1, 2, 3, 4] rfl)
def mX12_isBelow (S0 : St) (a1 : Int) (a2 : Int) (a3 : Int) : Option (Int) := gd (0 ≤ a3 ∧ a3 < 512) <| gd ((inI a1) ∧ (inI (S0 97 a3))) <| if a1 < (S0 97 a3) then (some (1)) else (if a1 = (S0 97 a3) then (gd ((inI a2) ∧ (inI (S0 98 a3))) <| if (S0 98 a3) ≤ a2 then (some (0)) else (some (1))) else (some (0)))
set_option maxHeartbeats 4000000 in
set_option maxRecDepth 100000 in
theorem vX12_isBelow (l : Launch) {D : va_G} {cy : Nat → ClassId} {b n : Nat} (hn : 102 ≤ n) {X : Nat → va_E} {S0 : St} (a1 : Int) (a2 : Int) (a3 : Int) {o1 : Int} (hM : mX12_isBelow S0 a1 a2 a3 = some o1) : gI l yX12_isBelow cX12_isBelow 4 (some .boolean) 0 0 0 D cy b n (enc b cy X S0) [.ref (b + 80), .int (iI a1), .int (iI a2), .int (iI a3)] (fun r u => r = iI o1 ∧ u = (n, enc b cy X S0)) := by
  refine gI_of (by decide) (Nat.le_of_ble_eq_true rfl) ?_
  intro p e s m args below meth c S hr hlk hin hsz ls hl hG
  have hx := S.1
  have hb := S.2.1
  have hl : lv_has ls 4 [(0, .ref (b + 80)), (1, .int (iI a1)), (2, .int (iI a2)), (3, .int (iI a3))] := hl
  replace hG : gW D cy b n s s.heap [] (enc b cy X S0) := hG
  obtain ⟨H, eH⟩ : ∃ H, H = s.heap := ⟨_, rfl⟩
  obtain ⟨locs, elocs⟩ : ∃ locs : List Loc, locs = [] := ⟨_, rfl⟩
  rw [← eH, ← elocs] at hG
  rw [← eH, ← elocs]
  clear eH elocs
  unfold mX12_isBelow at hM
  refine lv_iload_n hx hb dX12_isBelow_0 rfl (lv_at hl 1 rfl) ?_
  refine lv_aload_n hx hb dX12_isBelow_1 rfl (lv_at hl 0 rfl) ?_
  refine m_get S hG 80 83 29 rfl ec_83 cpX12 wm_1702 dX12_isBelow_2 rfl (Nat.lt_of_lt_of_le (Nat.le_of_ble_eq_true rfl) hn) (by decide) ?_
  refine lv_iload_n hx hb dX12_isBelow_5 rfl (lv_at hl 3 rfl) ?_
  obtain ⟨hg_1, hM⟩ := gd_some hM
  refine mi_ald S hG 94 97 rfl ec_97 (Nat.lt_of_lt_of_le (Nat.le_of_ble_eq_true rfl) hn) dX12_isBelow_6 hg_1 (by decide) ?_
  obtain ⟨hg_2, hM⟩ := gd_some hM
  refine gi_icmp_lt (tgt := 30) hx hb dX12_isBelow_7 (by decide) hg_2.1 hg_2.2 (fun c_3 => ?_) (fun c_3 => ?_)
  · replace hM := ifp hM c_3
    refine lv_iconst (v := iI 1) hx hb dX12_isBelow_30 (by decide) ?_
    refine lv_goto (tgt := 35) hx hb dX12_isBelow_31 (by decide) ?_
    cases hM
    exact g_zret S hr hlk hG hsz dX12_isBelow_35 ⟨Nat.le_of_ble_eq_true rfl, Nat.le_of_ble_eq_true rfl⟩ (nar_z (by decide)) ⟨rfl, rfl⟩
  · replace hM := ifn hM c_3
    refine lv_iload_n hx hb dX12_isBelow_10 rfl (lv_at hl 1 rfl) ?_
    refine lv_aload_n hx hb dX12_isBelow_11 rfl (lv_at hl 0 rfl) ?_
    refine m_get S hG 80 83 29 rfl ec_83 cpX12 wm_1702 dX12_isBelow_12 rfl (Nat.lt_of_lt_of_le (Nat.le_of_ble_eq_true rfl) hn) (by decide) ?_
    refine lv_iload_n hx hb dX12_isBelow_15 rfl (lv_at hl 3 rfl) ?_
    refine mi_ald S hG 94 97 rfl ec_97 (Nat.lt_of_lt_of_le (Nat.le_of_ble_eq_true rfl) hn) dX12_isBelow_16 hg_1 (by decide) ?_
    refine gi_icmp_ne (tgt := 34) hx hb dX12_isBelow_17 (by decide) hg_2.1 hg_2.2 (fun c_4 => ?_) (fun c_4 => ?_)
    · replace hM := ifn hM c_4
      refine lv_iconst (v := iI 0) hx hb dX12_isBelow_34 (by decide) ?_
      cases hM
      exact g_zret S hr hlk hG hsz dX12_isBelow_35 ⟨Nat.le_of_ble_eq_true rfl, Nat.le_of_ble_eq_true rfl⟩ (nar_z (by decide)) ⟨rfl, rfl⟩
    · replace hM := ifp hM c_4
      refine lv_iload_n hx hb dX12_isBelow_20 rfl (lv_at hl 2 rfl) ?_
      refine lv_aload_n hx hb dX12_isBelow_21 rfl (lv_at hl 0 rfl) ?_
      refine m_get S hG 80 83 30 rfl ec_83 cpX12 wm_1703 dX12_isBelow_22 rfl (Nat.lt_of_lt_of_le (Nat.le_of_ble_eq_true rfl) hn) (by decide) ?_
      refine lv_iload_n hx hb dX12_isBelow_25 rfl (lv_at hl 3 rfl) ?_
      refine mi_ald S hG 95 98 rfl ec_98 (Nat.lt_of_lt_of_le (Nat.le_of_ble_eq_true rfl) hn) dX12_isBelow_26 hg_1 (by decide) ?_
      obtain ⟨hg_5, hM⟩ := gd_some hM
      refine gi_icmp_ge (tgt := 34) hx hb dX12_isBelow_27 (by decide) hg_5.1 hg_5.2 (fun c_6 => ?_) (fun c_6 => ?_)
      · replace hM := ifp hM c_6
        refine lv_iconst (v := iI 0) hx hb dX12_isBelow_34 (by decide) ?_
        cases hM
        exact g_zret S hr hlk hG hsz dX12_isBelow_35 ⟨Nat.le_of_ble_eq_true rfl, Nat.le_of_ble_eq_true rfl⟩ (nar_z (by decide)) ⟨rfl, rfl⟩
      · replace hM := ifn hM c_6
        refine lv_iconst (v := iI 1) hx hb dX12_isBelow_30 (by decide) ?_
        refine lv_goto (tgt := 35) hx hb dX12_isBelow_31 (by decide) ?_
        cases hM
        exact g_zret S hr hlk hG hsz dX12_isBelow_35 ⟨Nat.le_of_ble_eq_true rfl, Nat.le_of_ble_eq_true rfl⟩ (nar_z (by decide)) ⟨rfl, rfl⟩
theorem wV_12_463 : gWV "GrownKindsModel" 463 yX12_isBelow cX12_isBelow 4 (some .boolean) := ⟨wm_2238, wm_2240, wm_151, wm_188, wm_2241, by decide +kernel, by decide +kernel⟩
def mX12_isLeast_17 (S0 : St) (v_2 : Int) (x_1 : Int) (a1 : Int) : Nat → Int → Option (Int)
  | 0, _ => none
  | f + 1, v_12 => gd (inI v_12) <| if x_1 ≤ v_12 then (some (v_12)) else (gd ((0 ≤ (v_12 + v_2) ∧ (v_12 + v_2) ≤ 2147483647) ∧ (0 < x_1 ∧ x_1 ≤ 2147483647)) <| bd1 (mX12_areAlike S0 (a1 + v_12) (a1 + ((v_12 + v_2) % x_1))) fun r_31 => gd (inI r_31) <| if r_31 = 0 then (some (v_12)) else (mX12_isLeast_17 S0 v_2 x_1 a1 f (v_12 + 1)))
def mX12_isLeast_9 (S0 : St) (x_1 : Int) (a1 : Int) : Nat → Int → Option (Int)
  | 0, _ => none
  | f + 1, v_2 => gd ((inI v_2) ∧ (inI x_1)) <| if x_1 ≤ v_2 then (some (1)) else (bd1 (mX12_isLeast_17 S0 v_2 x_1 a1 FU 0) fun y_13 => gd (inI y_13) <| if x_1 ≤ y_13 then (mX12_isLeast_9 S0 x_1 a1 f (v_2 + 1)) else (gd ((0 ≤ (y_13 + v_2) ∧ (y_13 + v_2) ≤ 2147483647) ∧ (0 < x_1 ∧ x_1 ≤ 2147483647)) <| gd (0 ≤ (a1 + ((y_13 + v_2) % x_1)) ∧ (a1 + ((y_13 + v_2) % x_1)) < 512) <| bd1 (mX12_isBelow S0 (S0 97 (a1 + ((y_13 + v_2) % x_1))) (S0 98 (a1 + ((y_13 + v_2) % x_1))) (a1 + y_13)) fun r_21 => gd (inI r_21) <| if r_21 = 0 then (mX12_isLeast_9 S0 x_1 a1 f (v_2 + 1)) else (some (0))))
def mX12_isLeast (S0 : St) (a1 : Int) : Option (Int) := nx ((S0 83 31) - a1) fun x_1 => bd1 (mX12_isLeast_9 S0 x_1 a1 FU 1) fun t_3 => if t_3 = 0 then (some (0)) else (some (1))
set_option maxHeartbeats 4000000 in
set_option maxRecDepth 100000 in
theorem vX12_isLeast (l : Launch) {D : va_G} {cy : Nat → ClassId} {b n : Nat} (hn : 102 ≤ n) {X : Nat → va_E} {S0 : St} (a1 : Int) {o1 : Int} (hM : mX12_isLeast S0 a1 = some o1) : gI l yX12_isLeast cX12_isLeast 5 (some .boolean) 1 0 0 D cy b n (enc b cy X S0) [.ref (b + 80), .int (iI a1)] (fun r u => r = iI o1 ∧ u = (n, enc b cy X S0)) := by
  refine gI_of (by decide) (Nat.le_of_ble_eq_true rfl) ?_
  intro p e s m args below meth c S hr hlk hin hsz ls hl hG
  have hx := S.1
  have hb := S.2.1
  have hl : lv_has ls 5 [(0, .ref (b + 80)), (1, .int (iI a1))] := hl
  replace hG : gW D cy b n s s.heap [] (enc b cy X S0) := hG
  obtain ⟨H, eH⟩ : ∃ H, H = s.heap := ⟨_, rfl⟩
  obtain ⟨locs, elocs⟩ : ∃ locs : List Loc, locs = [] := ⟨_, rfl⟩
  rw [← eH, ← elocs] at hG
  rw [← eH, ← elocs]
  clear eH elocs
  unfold mX12_isLeast at hM
  refine lv_aload_n hx hb dX12_isLeast_0 rfl (lv_at hl 0 rfl) ?_
  refine m_get S hG 80 83 31 rfl ec_83 cpX12 wm_1704 dX12_isLeast_1 rfl (Nat.lt_of_lt_of_le (Nat.le_of_ble_eq_true rfl) hn) (by decide) ?_
  refine lv_iload_n hx hb dX12_isLeast_4 rfl (lv_at hl 1 rfl) ?_
  refine gi_sub hx hb dX12_isLeast_5 ?_
  refine gi_nm (fun x_1 ex_1 => ?_)
  replace hM := nx_at hM ex_1
  clear ex_1
  refine lv_istore_n (lv' := [(2, .int (iI x_1)), (0, .ref (b + 80)), (1, .int (iI a1))]) hx hb dX12_isLeast_6 rfl hl (by decide) rfl (fun ls hl => ?_)
  refine lv_iconst (v := iI 1) hx hb dX12_isLeast_7 (by decide) ?_
  refine lv_istore_n (lv' := [(3, .int (iI 1)), (2, .int (iI x_1)), (0, .ref (b + 80)), (1, .int (iI a1))]) hx hb dX12_isLeast_8 rfl hl (by decide) rfl (fun ls hl => ?_)
  obtain ⟨t_3, hc_4, hM⟩ := bd1_some hM
  have hK_5 : ∀ (H : Heap) (locs : List Loc) (ls : Array Slot), t_3 = 0 → gW D cy b n s H locs (enc b cy X S0) → lv_has ls 5 [] → W p l e (gRm 1 0 0) s m args below meth c H locs 0 0 (gQI D cy b s args below 0 0 (fun r u => r = iI o1 ∧ u = (n, enc b cy X S0))) (F0 m 91 ls []) := by
    intro H locs ls ht hG hl
    subst ht
    replace hM := ifp hM rfl
    refine lv_iconst (v := iI 0) hx hb dX12_isLeast_91 (by decide) ?_
    cases hM
    exact g_zret S hr hlk hG hsz dX12_isLeast_92 ⟨Nat.le_of_ble_eq_true rfl, Nat.le_of_ble_eq_true rfl⟩ (nar_z (by decide)) ⟨rfl, rfl⟩
  have hK_6 : ∀ (H : Heap) (locs : List Loc) (ls : Array Slot), t_3 = 1 → gW D cy b n s H locs (enc b cy X S0) → lv_has ls 5 [] → W p l e (gRm 1 0 0) s m args below meth c H locs 0 0 (gQI D cy b s args below 0 0 (fun r u => r = iI o1 ∧ u = (n, enc b cy X S0))) (F0 m 99 ls []) := by
    intro H locs ls ht hG hl
    subst ht
    replace hM := ifn hM (by decide)
    refine lv_iconst (v := iI 1) hx hb dX12_isLeast_99 (by decide) ?_
    cases hM
    exact g_zret S hr hlk hG hsz dX12_isLeast_100 ⟨Nat.le_of_ble_eq_true rfl, Nat.le_of_ble_eq_true rfl⟩ (nar_z (by decide)) ⟨rfl, rfl⟩
  have loop_7 : ∀ (f : Nat) (v_2 : Int) (H : Heap) (locs : List Loc) (ls : Array Slot), mX12_isLeast_9 S0 x_1 a1 f v_2 = some t_3 → gW D cy b n s H locs (enc b cy X S0) → lv_has ls 5 [(3, .int (iI v_2)), (2, .int (iI x_1)), (0, .ref (b + 80)), (1, .int (iI a1))] → W p l e (gRm 1 0 0) s m args below meth c H locs 0 0 (gQI D cy b s args below 0 0 (fun r u => r = iI o1 ∧ u = (n, enc b cy X S0))) (F0 m 9 ls []) := by
    clear hM
    intro f
    induction f with
    | zero => intro v_2 H locs ls hM; rw [mX12_isLeast_9] at hM; cases hM
    | succ f_9 ih_8 =>
      intro v_2 H locs ls hM hG hl
      rw [mX12_isLeast_9] at hM
      refine lv_iload_n hx hb dX12_isLeast_9 rfl (lv_at hl 0 rfl) ?_
      refine lv_iload_n hx hb dX12_isLeast_10 rfl (lv_at hl 1 rfl) ?_
      obtain ⟨hg_10, hM⟩ := gd_some hM
      refine gi_icmp_ge (tgt := 99) hx hb dX12_isLeast_11 (by decide) hg_10.1 hg_10.2 (fun c_11 => ?_) (fun c_11 => ?_)
      · replace hM := ifp hM c_11
        cases hM
        exact hK_6 H locs ls rfl hG (lv_sub hl [] rfl)
      · replace hM := ifn hM c_11
        refine lv_iconst (v := iI 0) hx hb dX12_isLeast_14 (by decide) ?_
        refine lv_istore (lv' := [(4, .int (iI 0)), (3, .int (iI v_2)), (2, .int (iI x_1)), (0, .ref (b + 80)), (1, .int (iI a1))]) hx hb dX12_isLeast_15 hl (by decide) rfl (fun ls hl => ?_)
        obtain ⟨y_13, hc_14, hM⟩ := bd1_some hM
        have hK_15 : ∀ (H : Heap) (locs : List Loc) (ls : Array Slot), gW D cy b n s H locs (enc b cy X S0) → lv_has ls 5 [(3, .int (iI v_2)), (2, .int (iI x_1)), (0, .ref (b + 80)), (1, .int (iI a1)), (4, .int (iI y_13))] → W p l e (gRm 1 0 0) s m args below meth c H locs 0 0 (gQI D cy b s args below 0 0 (fun r u => r = iI o1 ∧ u = (n, enc b cy X S0))) (F0 m 48 ls []) := by
          intro H locs ls hG hl
          refine lv_iload hx hb dX12_isLeast_48 (lv_at hl 4 rfl) ?_
          refine lv_iload_n hx hb dX12_isLeast_50 rfl (lv_at hl 1 rfl) ?_
          obtain ⟨hg_16, hM⟩ := gd_some hM
          refine gi_icmp_ge (tgt := 93) hx hb dX12_isLeast_51 (by decide) hg_16 hg_10.2 (fun c_17 => ?_) (fun c_17 => ?_)
          · replace hM := ifp hM c_17
            refine lv_iinc (v := iI (v_2 + 1)) (lv' := [(3, .int (iI (v_2 + 1))), (2, .int (iI x_1)), (0, .ref (b + 80)), (1, .int (iI a1)), (4, .int (iI y_13))]) hx hb dX12_isLeast_93 hl (k := 0) rfl ((iI_add v_2 (1)).trans (congrArg iI (by omega))) (by decide) rfl (fun ls hl => ?_)
            refine lv_goto (tgt := 9) hx hb dX12_isLeast_96 (by decide) ?_
            exact ih_8 (v_2 + 1) H locs ls hM hG (lv_sub hl [0, 1, 2, 3] rfl)
          · replace hM := ifn hM c_17
            refine lv_aload_n hx hb dX12_isLeast_54 rfl (lv_at hl 2 rfl) ?_
            refine lv_aload_n hx hb dX12_isLeast_55 rfl (lv_at hl 2 rfl) ?_
            refine m_get S hG 80 83 29 rfl ec_83 cpX12 wm_1702 dX12_isLeast_56 rfl (Nat.lt_of_lt_of_le (Nat.le_of_ble_eq_true rfl) hn) (by decide) ?_
            refine lv_iload_n hx hb dX12_isLeast_59 rfl (lv_at hl 3 rfl) ?_
            refine lv_iload hx hb dX12_isLeast_60 (lv_at hl 4 rfl) ?_
            refine lv_iload_n hx hb dX12_isLeast_62 rfl (lv_at hl 0 rfl) ?_
            refine gi_add hx hb dX12_isLeast_63 ?_
            refine lv_iload_n hx hb dX12_isLeast_64 rfl (lv_at hl 1 rfl) ?_
            obtain ⟨hg_18, hM⟩ := gd_some hM
            refine gi_rem hx hb dX12_isLeast_65 hg_18.1 hg_18.2 ?_
            refine gi_add hx hb dX12_isLeast_66 ?_
            obtain ⟨hg_19, hM⟩ := gd_some hM
            refine mi_ald S hG 94 97 rfl ec_97 (Nat.lt_of_lt_of_le (Nat.le_of_ble_eq_true rfl) hn) dX12_isLeast_67 hg_19 (by decide) ?_
            refine lv_aload_n hx hb dX12_isLeast_68 rfl (lv_at hl 2 rfl) ?_
            refine m_get S hG 80 83 30 rfl ec_83 cpX12 wm_1703 dX12_isLeast_69 rfl (Nat.lt_of_lt_of_le (Nat.le_of_ble_eq_true rfl) hn) (by decide) ?_
            refine lv_iload_n hx hb dX12_isLeast_72 rfl (lv_at hl 3 rfl) ?_
            refine lv_iload hx hb dX12_isLeast_73 (lv_at hl 4 rfl) ?_
            refine lv_iload_n hx hb dX12_isLeast_75 rfl (lv_at hl 0 rfl) ?_
            refine gi_add hx hb dX12_isLeast_76 ?_
            refine lv_iload_n hx hb dX12_isLeast_77 rfl (lv_at hl 1 rfl) ?_
            refine gi_rem hx hb dX12_isLeast_78 hg_18.1 hg_18.2 ?_
            refine gi_add hx hb dX12_isLeast_79 ?_
            refine mi_ald S hG 95 98 rfl ec_98 (Nat.lt_of_lt_of_le (Nat.le_of_ble_eq_true rfl) hn) dX12_isLeast_80 hg_19 (by decide) ?_
            refine lv_iload_n hx hb dX12_isLeast_81 rfl (lv_at hl 3 rfl) ?_
            refine lv_iload hx hb dX12_isLeast_82 (lv_at hl 4 rfl) ?_
            refine gi_add hx hb dX12_isLeast_84 ?_
            obtain ⟨r_21, hc_20, hM⟩ := bd1_some hM
            refine g_vi (As := [.int (iI (S0 97 (a1 + ((y_13 + v_2) % x_1)))), .int (iI (S0 98 (a1 + ((y_13 + v_2) % x_1)))), .int (iI (a1 + y_13))]) (rest := []) S hG hsz (vX12_isBelow l hn (S0 97 (a1 + ((y_13 + v_2) % x_1))) (S0 98 (a1 + ((y_13 + v_2) % x_1))) (a1 + y_13) hc_20) wV_12_463 (ec_83 _) cpX12 (Nat.lt_of_lt_of_le (Nat.le_of_ble_eq_true rfl) hn) dX12_isLeast_85 rfl hl.1 (ar := 3) (by decide +kernel) rfl ⟨Nat.le_of_ble_eq_true rfl, Nat.le_of_ble_eq_true rfl, Nat.le_of_ble_eq_true rfl, Nat.le_of_ble_eq_true rfl⟩ (Nat.le_of_ble_eq_true rfl) (fun rv uu H locs hp hG => ?_)
            obtain ⟨rfl, rfl⟩ := hp
            replace hG : gW D cy b n s H locs (enc b cy X S0) := hG
            obtain ⟨hg_22, hM⟩ := gd_some hM
            refine gi_if_eq (tgt := 93) hx hb dX12_isLeast_88 (by decide) hg_22 (fun c_23 => ?_) (fun c_23 => ?_)
            · replace hM := ifp hM c_23
              refine lv_iinc (v := iI (v_2 + 1)) (lv' := [(3, .int (iI (v_2 + 1))), (2, .int (iI x_1)), (0, .ref (b + 80)), (1, .int (iI a1)), (4, .int (iI y_13))]) hx hb dX12_isLeast_93 hl (k := 0) rfl ((iI_add v_2 (1)).trans (congrArg iI (by omega))) (by decide) rfl (fun ls hl => ?_)
              refine lv_goto (tgt := 9) hx hb dX12_isLeast_96 (by decide) ?_
              exact ih_8 (v_2 + 1) H locs ls hM hG (lv_sub hl [0, 1, 2, 3] rfl)
            · replace hM := ifn hM c_23
              cases hM
              exact hK_5 H locs ls rfl hG (lv_sub hl [] rfl)
        have loop_24 : ∀ (f : Nat) (v_12 : Int) (H : Heap) (locs : List Loc) (ls : Array Slot), mX12_isLeast_17 S0 v_2 x_1 a1 f v_12 = some y_13 → gW D cy b n s H locs (enc b cy X S0) → lv_has ls 5 [(4, .int (iI v_12)), (3, .int (iI v_2)), (2, .int (iI x_1)), (0, .ref (b + 80)), (1, .int (iI a1))] → W p l e (gRm 1 0 0) s m args below meth c H locs 0 0 (gQI D cy b s args below 0 0 (fun r u => r = iI o1 ∧ u = (n, enc b cy X S0))) (F0 m 17 ls []) := by
          clear hM
          intro f
          induction f with
          | zero => intro v_12 H locs ls hM; rw [mX12_isLeast_17] at hM; cases hM
          | succ f_26 ih_25 =>
            intro v_12 H locs ls hM hG hl
            rw [mX12_isLeast_17] at hM
            refine lv_iload hx hb dX12_isLeast_17 (lv_at hl 0 rfl) ?_
            refine lv_iload_n hx hb dX12_isLeast_19 rfl (lv_at hl 2 rfl) ?_
            obtain ⟨hg_27, hM⟩ := gd_some hM
            refine gi_icmp_ge (tgt := 48) hx hb dX12_isLeast_20 (by decide) hg_27 hg_10.2 (fun c_28 => ?_) (fun c_28 => ?_)
            · replace hM := ifp hM c_28
              cases hM
              exact hK_15 H locs ls hG (lv_sub hl [1, 2, 3, 4, 0] rfl)
            · replace hM := ifn hM c_28
              refine lv_aload_n hx hb dX12_isLeast_23 rfl (lv_at hl 3 rfl) ?_
              refine lv_iload_n hx hb dX12_isLeast_24 rfl (lv_at hl 4 rfl) ?_
              refine lv_iload hx hb dX12_isLeast_25 (lv_at hl 0 rfl) ?_
              refine gi_add hx hb dX12_isLeast_27 ?_
              refine lv_iload_n hx hb dX12_isLeast_28 rfl (lv_at hl 4 rfl) ?_
              refine lv_iload hx hb dX12_isLeast_29 (lv_at hl 0 rfl) ?_
              refine lv_iload_n hx hb dX12_isLeast_31 rfl (lv_at hl 1 rfl) ?_
              refine gi_add hx hb dX12_isLeast_32 ?_
              refine lv_iload_n hx hb dX12_isLeast_33 rfl (lv_at hl 2 rfl) ?_
              obtain ⟨hg_29, hM⟩ := gd_some hM
              refine gi_rem hx hb dX12_isLeast_34 hg_29.1 hg_29.2 ?_
              refine gi_add hx hb dX12_isLeast_35 ?_
              obtain ⟨r_31, hc_30, hM⟩ := bd1_some hM
              refine g_vi (As := [.int (iI (a1 + v_12)), .int (iI (a1 + ((v_12 + v_2) % x_1)))]) (rest := []) S hG hsz (vX12_areAlike l hn (a1 + v_12) (a1 + ((v_12 + v_2) % x_1)) hc_30) wV_12_447 (ec_83 _) cpX12 (Nat.lt_of_lt_of_le (Nat.le_of_ble_eq_true rfl) hn) dX12_isLeast_36 rfl hl.1 (ar := 2) (by decide +kernel) rfl ⟨Nat.le_of_ble_eq_true rfl, Nat.le_of_ble_eq_true rfl, Nat.le_of_ble_eq_true rfl, Nat.le_of_ble_eq_true rfl⟩ (Nat.le_of_ble_eq_true rfl) (fun rv uu H locs hp hG => ?_)
              obtain ⟨rfl, rfl⟩ := hp
              replace hG : gW D cy b n s H locs (enc b cy X S0) := hG
              obtain ⟨hg_32, hM⟩ := gd_some hM
              refine gi_if_eq (tgt := 48) hx hb dX12_isLeast_39 (by decide) hg_32 (fun c_33 => ?_) (fun c_33 => ?_)
              · replace hM := ifp hM c_33
                cases hM
                exact hK_15 H locs ls hG (lv_sub hl [1, 2, 3, 4, 0] rfl)
              · replace hM := ifn hM c_33
                refine lv_iinc (v := iI (v_12 + 1)) (lv' := [(4, .int (iI (v_12 + 1))), (3, .int (iI v_2)), (2, .int (iI x_1)), (0, .ref (b + 80)), (1, .int (iI a1))]) hx hb dX12_isLeast_42 hl (k := 0) rfl ((iI_add v_12 (1)).trans (congrArg iI (by omega))) (by decide) rfl (fun ls hl => ?_)
                refine lv_goto (tgt := 17) hx hb dX12_isLeast_45 (by decide) ?_
                exact ih_25 (v_12 + 1) H locs ls hM hG (lv_sub hl [0, 1, 2, 3, 4] rfl)
        exact loop_24 FU 0 H locs ls hc_14 hG (lv_sub hl [0, 1, 2, 3, 4] rfl)
  exact loop_7 FU 1 H locs ls hc_4 hG (lv_sub hl [0, 1, 2, 3] rfl)
def mX12_whyNot (S0 : St) (a1 : Int) (a2 : Int) (a3 : Int) : Option (Int × St) := bd1 (mX12_isKind S0 a1) fun r_2 => gd (inI r_2) <| if r_2 = 0 then (some ((-2), S0)) else (bd1 (mX12_isSize S0 a2) fun r_6 => gd (inI r_6) <| if r_6 = 0 then (some ((-2), S0)) else (bd1 (mX12_counts S0 (-1)) fun S_10 => bd1 (mX12_kindMany S_10 a1 a2) fun r_12 => gd (inL r_12) <| if r_12 ≤ 200 then (gd (inI a3) <| bd1 (mX12_kindMany S_10 a1 a2) fun r_17 => bd1 (mX12_in a3 0 (r_17 - 1)) fun r_19 => gd (inI r_19) <| if r_19 = 0 then (some ((-2), S_10)) else (some (0, S_10))) else (some ((-3), S_10))))
set_option maxHeartbeats 4000000 in
set_option maxRecDepth 100000 in
theorem vX12_whyNot (l : Launch) {D : va_G} {cy : Nat → ClassId} {b n : Nat} (hn : 102 ≤ n) {X : Nat → va_E} {S0 : St} (a1 : Int) (a2 : Int) (a3 : Int) {o1 : Int} {o2 : St} (hM : mX12_whyNot S0 a1 a2 a3 = some (o1, o2)) : gI l yX12_whyNot cX12_whyNot 4 (some .int) 6 0 0 D cy b n (enc b cy X S0) [.ref (b + 80), .int (iI a1), .int (iI a2), .int (iI a3)] (fun r u => r = iI o1 ∧ u = (n, enc b cy X o2)) := by
  refine gI_of (by decide) (Nat.le_of_ble_eq_true rfl) ?_
  intro p e s m args below meth c S hr hlk hin hsz ls hl hG
  have hx := S.1
  have hb := S.2.1
  have hl : lv_has ls 4 [(0, .ref (b + 80)), (1, .int (iI a1)), (2, .int (iI a2)), (3, .int (iI a3))] := hl
  replace hG : gW D cy b n s s.heap [] (enc b cy X S0) := hG
  obtain ⟨H, eH⟩ : ∃ H, H = s.heap := ⟨_, rfl⟩
  obtain ⟨locs, elocs⟩ : ∃ locs : List Loc, locs = [] := ⟨_, rfl⟩
  rw [← eH, ← elocs] at hG
  rw [← eH, ← elocs]
  clear eH elocs
  unfold mX12_whyNot at hM
  refine lv_aload_n hx hb dX12_whyNot_0 rfl (lv_at hl 0 rfl) ?_
  refine lv_iload_n hx hb dX12_whyNot_1 rfl (lv_at hl 1 rfl) ?_
  obtain ⟨r_2, hc_1, hM⟩ := bd1_some hM
  refine g_vi (As := [.int (iI a1)]) (rest := []) S hG hsz (vX12_isKind l hn a1 hc_1) wV_12_225 (ec_83 _) cpX12 (Nat.lt_of_lt_of_le (Nat.le_of_ble_eq_true rfl) hn) dX12_whyNot_2 rfl hl.1 (ar := 1) (by decide +kernel) rfl ⟨Nat.le_of_ble_eq_true rfl, Nat.le_of_ble_eq_true rfl, Nat.le_of_ble_eq_true rfl, Nat.le_of_ble_eq_true rfl⟩ (Nat.le_of_ble_eq_true rfl) (fun rv uu H locs hp hG => ?_)
  obtain ⟨rfl, rfl⟩ := hp
  replace hG : gW D cy b n s H locs (enc b cy X S0) := hG
  obtain ⟨hg_3, hM⟩ := gd_some hM
  refine gi_if_eq (tgt := 16) hx hb dX12_whyNot_5 (by decide) hg_3 (fun c_4 => ?_) (fun c_4 => ?_)
  · replace hM := ifp hM c_4
    refine lv_bipush (v := iI (-2)) hx hb dX12_whyNot_16 (by decide) ?_
    cases hM
    exact g_iret S hr hlk hG hsz dX12_whyNot_18 ⟨Nat.le_of_ble_eq_true rfl, Nat.le_of_ble_eq_true rfl⟩ ⟨rfl, rfl⟩
  · replace hM := ifn hM c_4
    refine lv_aload_n hx hb dX12_whyNot_8 rfl (lv_at hl 0 rfl) ?_
    refine lv_iload_n hx hb dX12_whyNot_9 rfl (lv_at hl 2 rfl) ?_
    obtain ⟨r_6, hc_5, hM⟩ := bd1_some hM
    refine g_vi (As := [.int (iI a2)]) (rest := []) S hG hsz (vX12_isSize l hn a2 hc_5) wV_12_334 (ec_83 _) cpX12 (Nat.lt_of_lt_of_le (Nat.le_of_ble_eq_true rfl) hn) dX12_whyNot_10 rfl hl.1 (ar := 1) (by decide +kernel) rfl ⟨Nat.le_of_ble_eq_true rfl, Nat.le_of_ble_eq_true rfl, Nat.le_of_ble_eq_true rfl, Nat.le_of_ble_eq_true rfl⟩ (Nat.le_of_ble_eq_true rfl) (fun rv uu H locs hp hG => ?_)
    obtain ⟨rfl, rfl⟩ := hp
    replace hG : gW D cy b n s H locs (enc b cy X S0) := hG
    obtain ⟨hg_7, hM⟩ := gd_some hM
    refine gi_if_ne (tgt := 19) hx hb dX12_whyNot_13 (by decide) hg_7 (fun c_8 => ?_) (fun c_8 => ?_)
    · replace hM := ifn hM c_8
      refine lv_aload_n hx hb dX12_whyNot_19 rfl (lv_at hl 0 rfl) ?_
      refine lv_iconst (v := iI (-1)) hx hb dX12_whyNot_20 (by decide) ?_
      obtain ⟨S_10, hc_9, hM⟩ := bd1_some hM
      refine g_vv (As := [.int (iI (-1))]) (rest := []) S hG hsz (vX12_counts l hn (-1) hc_9) wV_12_324 (ec_83 _) cpX12 (Nat.lt_of_lt_of_le (Nat.le_of_ble_eq_true rfl) hn) dX12_whyNot_21 rfl hl.1 (ar := 1) (by decide +kernel) rfl ⟨Nat.le_of_ble_eq_true rfl, Nat.le_of_ble_eq_true rfl, Nat.le_of_ble_eq_true rfl, Nat.le_of_ble_eq_true rfl⟩ (Nat.le_of_ble_eq_true rfl) (fun uu H locs hp hG => ?_)
      obtain rfl := hp
      replace hG : gW D cy b n s H locs (enc b cy X S_10) := hG
      refine lv_aload_n hx hb dX12_whyNot_24 rfl (lv_at hl 0 rfl) ?_
      refine lv_iload_n hx hb dX12_whyNot_25 rfl (lv_at hl 1 rfl) ?_
      refine lv_iload_n hx hb dX12_whyNot_26 rfl (lv_at hl 2 rfl) ?_
      obtain ⟨r_12, hc_11, hM⟩ := bd1_some hM
      refine g_vl (As := [.int (iI a1), .int (iI a2)]) (rest := []) S hG hsz (vX12_kindMany l hn a1 a2 hc_11) wV_12_320 (ec_83 _) cpX12 (Nat.lt_of_lt_of_le (Nat.le_of_ble_eq_true rfl) hn) dX12_whyNot_27 rfl hl.1 (ar := 2) (by decide +kernel) rfl ⟨Nat.le_of_ble_eq_true rfl, Nat.le_of_ble_eq_true rfl, Nat.le_of_ble_eq_true rfl, Nat.le_of_ble_eq_true rfl⟩ (Nat.le_of_ble_eq_true rfl) (fun rv uu H locs hp hG => ?_)
      obtain ⟨rfl, rfl⟩ := hp
      replace hG : gW D cy b n s H locs (enc b cy X S_10) := hG
      refine lv_ldc2 (v := 200) hx hb S.2.2.2.1 (S.2.2.2.2 _ wm_2182) dX12_whyNot_30 ?_
      refine gj_as 200 (by decide) ?_
      obtain ⟨hg_13, hM⟩ := gd_some hM
      refine gj_cmp_le (tgt := 40) hx hb dX12_whyNot_33 dX12_whyNot_34 (by decide) hg_13 (by decide) (fun c_14 => ?_) (fun c_14 => ?_)
      · replace hM := ifp hM c_14
        refine lv_iload_n hx hb dX12_whyNot_40 rfl (lv_at hl 3 rfl) ?_
        obtain ⟨hg_15, hM⟩ := gd_some hM
        refine gi_i2l hx hb dX12_whyNot_41 hg_15 ?_
        refine lv_lconst (v := jJ 0) hx hb dX12_whyNot_42 (by decide) ?_
        refine lv_aload_n hx hb dX12_whyNot_43 rfl (lv_at hl 0 rfl) ?_
        refine lv_iload_n hx hb dX12_whyNot_44 rfl (lv_at hl 1 rfl) ?_
        refine lv_iload_n hx hb dX12_whyNot_45 rfl (lv_at hl 2 rfl) ?_
        obtain ⟨r_17, hc_16, hM⟩ := bd1_some hM
        refine g_vl (As := [.int (iI a1), .int (iI a2)]) (rest := [.long (jJ 0), .long (jJ a3)]) S hG hsz (vX12_kindMany l hn a1 a2 hc_16) wV_12_320 (ec_83 _) cpX12 (Nat.lt_of_lt_of_le (Nat.le_of_ble_eq_true rfl) hn) dX12_whyNot_46 rfl hl.1 (ar := 2) (by decide +kernel) rfl ⟨Nat.le_of_ble_eq_true rfl, Nat.le_of_ble_eq_true rfl, Nat.le_of_ble_eq_true rfl, Nat.le_of_ble_eq_true rfl⟩ (Nat.le_of_ble_eq_true rfl) (fun rv uu H locs hp hG => ?_)
        obtain ⟨rfl, rfl⟩ := hp
        replace hG : gW D cy b n s H locs (enc b cy X S_10) := hG
        refine lv_lconst (v := jJ 1) hx hb dX12_whyNot_49 (by decide) ?_
        refine gj_sub hx hb dX12_whyNot_50 ?_
        obtain ⟨r_19, hc_18, hM⟩ := bd1_some hM
        refine g_si (As := [.long (jJ a3), .long (jJ 0), .long (jJ (r_17 - 1))]) (rest := []) S hG hsz (vX12_in l hn a3 0 (r_17 - 1) hc_18) wS_12_97 dX12_whyNot_51 rfl hl.1 (ar := 3) (by decide +kernel) rfl ⟨Nat.le_of_ble_eq_true rfl, Nat.le_of_ble_eq_true rfl, Nat.le_of_ble_eq_true rfl, Nat.le_of_ble_eq_true rfl⟩ (Nat.le_of_ble_eq_true rfl) (fun rv uu H locs hp hG => ?_)
        obtain ⟨rfl, rfl⟩ := hp
        replace hG : gW D cy b n s H locs (enc b cy X S_10) := hG
        obtain ⟨hg_20, hM⟩ := gd_some hM
        refine gi_if_eq (tgt := 61) hx hb dX12_whyNot_54 (by decide) hg_20 (fun c_21 => ?_) (fun c_21 => ?_)
        · replace hM := ifp hM c_21
          refine lv_bipush (v := iI (-2)) hx hb dX12_whyNot_61 (by decide) ?_
          cases hM
          exact g_iret S hr hlk hG hsz dX12_whyNot_63 ⟨Nat.le_of_ble_eq_true rfl, Nat.le_of_ble_eq_true rfl⟩ ⟨rfl, rfl⟩
        · replace hM := ifn hM c_21
          refine lv_iconst (v := iI 0) hx hb dX12_whyNot_57 (by decide) ?_
          refine lv_goto (tgt := 63) hx hb dX12_whyNot_58 (by decide) ?_
          cases hM
          exact g_iret S hr hlk hG hsz dX12_whyNot_63 ⟨Nat.le_of_ble_eq_true rfl, Nat.le_of_ble_eq_true rfl⟩ ⟨rfl, rfl⟩
      · replace hM := ifn hM c_14
        refine lv_bipush (v := iI (-3)) hx hb dX12_whyNot_37 (by decide) ?_
        cases hM
        exact g_iret S hr hlk hG hsz dX12_whyNot_39 ⟨Nat.le_of_ble_eq_true rfl, Nat.le_of_ble_eq_true rfl⟩ ⟨rfl, rfl⟩
    · replace hM := ifp hM c_8
      refine lv_bipush (v := iI (-2)) hx hb dX12_whyNot_16 (by decide) ?_
      cases hM
      exact g_iret S hr hlk hG hsz dX12_whyNot_18 ⟨Nat.le_of_ble_eq_true rfl, Nat.le_of_ble_eq_true rfl⟩ ⟨rfl, rfl⟩
def mX12_whyNone (S0 : St) (a1 : Int) (a2 : Int) : Option (Int × St) := bd1 (mX12_isKind S0 a1) fun r_2 => gd (inI r_2) <| if r_2 = 0 then (some ((-2), S0)) else (bd1 (mX12_isSize S0 a2) fun r_6 => gd (inI r_6) <| if r_6 = 0 then (some ((-2), S0)) else (bd1 (mX12_counts S0 (-1)) fun S_10 => bd1 (mX12_kindMany S_10 a1 a2) fun r_12 => gd (inL r_12) <| if r_12 ≤ 200 then (bd1 (mX12_kindMany S_10 a1 a2) fun r_16 => gd (inL r_16) <| if r_16 = 0 then (some ((-1), S_10)) else (some (0, S_10))) else (some ((-3), S_10))))
set_option maxHeartbeats 4000000 in
set_option maxRecDepth 100000 in
theorem vX12_whyNone (l : Launch) {D : va_G} {cy : Nat → ClassId} {b n : Nat} (hn : 102 ≤ n) {X : Nat → va_E} {S0 : St} (a1 : Int) (a2 : Int) {o1 : Int} {o2 : St} (hM : mX12_whyNone S0 a1 a2 = some (o1, o2)) : gI l yX12_whyNone cX12_whyNone 3 (some .int) 6 0 0 D cy b n (enc b cy X S0) [.ref (b + 80), .int (iI a1), .int (iI a2)] (fun r u => r = iI o1 ∧ u = (n, enc b cy X o2)) := by
  refine gI_of (by decide) (Nat.le_of_ble_eq_true rfl) ?_
  intro p e s m args below meth c S hr hlk hin hsz ls hl hG
  have hx := S.1
  have hb := S.2.1
  have hl : lv_has ls 3 [(0, .ref (b + 80)), (1, .int (iI a1)), (2, .int (iI a2))] := hl
  replace hG : gW D cy b n s s.heap [] (enc b cy X S0) := hG
  obtain ⟨H, eH⟩ : ∃ H, H = s.heap := ⟨_, rfl⟩
  obtain ⟨locs, elocs⟩ : ∃ locs : List Loc, locs = [] := ⟨_, rfl⟩
  rw [← eH, ← elocs] at hG
  rw [← eH, ← elocs]
  clear eH elocs
  unfold mX12_whyNone at hM
  refine lv_aload_n hx hb dX12_whyNone_0 rfl (lv_at hl 0 rfl) ?_
  refine lv_iload_n hx hb dX12_whyNone_1 rfl (lv_at hl 1 rfl) ?_
  obtain ⟨r_2, hc_1, hM⟩ := bd1_some hM
  refine g_vi (As := [.int (iI a1)]) (rest := []) S hG hsz (vX12_isKind l hn a1 hc_1) wV_12_225 (ec_83 _) cpX12 (Nat.lt_of_lt_of_le (Nat.le_of_ble_eq_true rfl) hn) dX12_whyNone_2 rfl hl.1 (ar := 1) (by decide +kernel) rfl ⟨Nat.le_of_ble_eq_true rfl, Nat.le_of_ble_eq_true rfl, Nat.le_of_ble_eq_true rfl, Nat.le_of_ble_eq_true rfl⟩ (Nat.le_of_ble_eq_true rfl) (fun rv uu H locs hp hG => ?_)
  obtain ⟨rfl, rfl⟩ := hp
  replace hG : gW D cy b n s H locs (enc b cy X S0) := hG
  obtain ⟨hg_3, hM⟩ := gd_some hM
  refine gi_if_eq (tgt := 16) hx hb dX12_whyNone_5 (by decide) hg_3 (fun c_4 => ?_) (fun c_4 => ?_)
  · replace hM := ifp hM c_4
    refine lv_bipush (v := iI (-2)) hx hb dX12_whyNone_16 (by decide) ?_
    cases hM
    exact g_iret S hr hlk hG hsz dX12_whyNone_18 ⟨Nat.le_of_ble_eq_true rfl, Nat.le_of_ble_eq_true rfl⟩ ⟨rfl, rfl⟩
  · replace hM := ifn hM c_4
    refine lv_aload_n hx hb dX12_whyNone_8 rfl (lv_at hl 0 rfl) ?_
    refine lv_iload_n hx hb dX12_whyNone_9 rfl (lv_at hl 2 rfl) ?_
    obtain ⟨r_6, hc_5, hM⟩ := bd1_some hM
    refine g_vi (As := [.int (iI a2)]) (rest := []) S hG hsz (vX12_isSize l hn a2 hc_5) wV_12_334 (ec_83 _) cpX12 (Nat.lt_of_lt_of_le (Nat.le_of_ble_eq_true rfl) hn) dX12_whyNone_10 rfl hl.1 (ar := 1) (by decide +kernel) rfl ⟨Nat.le_of_ble_eq_true rfl, Nat.le_of_ble_eq_true rfl, Nat.le_of_ble_eq_true rfl, Nat.le_of_ble_eq_true rfl⟩ (Nat.le_of_ble_eq_true rfl) (fun rv uu H locs hp hG => ?_)
    obtain ⟨rfl, rfl⟩ := hp
    replace hG : gW D cy b n s H locs (enc b cy X S0) := hG
    obtain ⟨hg_7, hM⟩ := gd_some hM
    refine gi_if_ne (tgt := 19) hx hb dX12_whyNone_13 (by decide) hg_7 (fun c_8 => ?_) (fun c_8 => ?_)
    · replace hM := ifn hM c_8
      refine lv_aload_n hx hb dX12_whyNone_19 rfl (lv_at hl 0 rfl) ?_
      refine lv_iconst (v := iI (-1)) hx hb dX12_whyNone_20 (by decide) ?_
      obtain ⟨S_10, hc_9, hM⟩ := bd1_some hM
      refine g_vv (As := [.int (iI (-1))]) (rest := []) S hG hsz (vX12_counts l hn (-1) hc_9) wV_12_324 (ec_83 _) cpX12 (Nat.lt_of_lt_of_le (Nat.le_of_ble_eq_true rfl) hn) dX12_whyNone_21 rfl hl.1 (ar := 1) (by decide +kernel) rfl ⟨Nat.le_of_ble_eq_true rfl, Nat.le_of_ble_eq_true rfl, Nat.le_of_ble_eq_true rfl, Nat.le_of_ble_eq_true rfl⟩ (Nat.le_of_ble_eq_true rfl) (fun uu H locs hp hG => ?_)
      obtain rfl := hp
      replace hG : gW D cy b n s H locs (enc b cy X S_10) := hG
      refine lv_aload_n hx hb dX12_whyNone_24 rfl (lv_at hl 0 rfl) ?_
      refine lv_iload_n hx hb dX12_whyNone_25 rfl (lv_at hl 1 rfl) ?_
      refine lv_iload_n hx hb dX12_whyNone_26 rfl (lv_at hl 2 rfl) ?_
      obtain ⟨r_12, hc_11, hM⟩ := bd1_some hM
      refine g_vl (As := [.int (iI a1), .int (iI a2)]) (rest := []) S hG hsz (vX12_kindMany l hn a1 a2 hc_11) wV_12_320 (ec_83 _) cpX12 (Nat.lt_of_lt_of_le (Nat.le_of_ble_eq_true rfl) hn) dX12_whyNone_27 rfl hl.1 (ar := 2) (by decide +kernel) rfl ⟨Nat.le_of_ble_eq_true rfl, Nat.le_of_ble_eq_true rfl, Nat.le_of_ble_eq_true rfl, Nat.le_of_ble_eq_true rfl⟩ (Nat.le_of_ble_eq_true rfl) (fun rv uu H locs hp hG => ?_)
      obtain ⟨rfl, rfl⟩ := hp
      replace hG : gW D cy b n s H locs (enc b cy X S_10) := hG
      refine lv_ldc2 (v := 200) hx hb S.2.2.2.1 (S.2.2.2.2 _ wm_2182) dX12_whyNone_30 ?_
      refine gj_as 200 (by decide) ?_
      obtain ⟨hg_13, hM⟩ := gd_some hM
      refine gj_cmp_le (tgt := 42) hx hb dX12_whyNone_33 dX12_whyNone_34 (by decide) hg_13 (by decide) (fun c_14 => ?_) (fun c_14 => ?_)
      · replace hM := ifp hM c_14
        refine lv_aload_n hx hb dX12_whyNone_42 rfl (lv_at hl 0 rfl) ?_
        refine lv_iload_n hx hb dX12_whyNone_43 rfl (lv_at hl 1 rfl) ?_
        refine lv_iload_n hx hb dX12_whyNone_44 rfl (lv_at hl 2 rfl) ?_
        obtain ⟨r_16, hc_15, hM⟩ := bd1_some hM
        refine g_vl (As := [.int (iI a1), .int (iI a2)]) (rest := []) S hG hsz (vX12_kindMany l hn a1 a2 hc_15) wV_12_320 (ec_83 _) cpX12 (Nat.lt_of_lt_of_le (Nat.le_of_ble_eq_true rfl) hn) dX12_whyNone_45 rfl hl.1 (ar := 2) (by decide +kernel) rfl ⟨Nat.le_of_ble_eq_true rfl, Nat.le_of_ble_eq_true rfl, Nat.le_of_ble_eq_true rfl, Nat.le_of_ble_eq_true rfl⟩ (Nat.le_of_ble_eq_true rfl) (fun rv uu H locs hp hG => ?_)
        obtain ⟨rfl, rfl⟩ := hp
        replace hG : gW D cy b n s H locs (enc b cy X S_10) := hG
        refine lv_lconst (v := jJ 0) hx hb dX12_whyNone_48 (by decide) ?_
        obtain ⟨hg_17, hM⟩ := gd_some hM
        refine gj_cmp_ne (tgt := 57) hx hb dX12_whyNone_49 dX12_whyNone_50 (by decide) hg_17 (by decide) (fun c_18 => ?_) (fun c_18 => ?_)
        · replace hM := ifn hM c_18
          refine lv_iconst (v := iI 0) hx hb dX12_whyNone_57 (by decide) ?_
          cases hM
          exact g_iret S hr hlk hG hsz dX12_whyNone_58 ⟨Nat.le_of_ble_eq_true rfl, Nat.le_of_ble_eq_true rfl⟩ ⟨rfl, rfl⟩
        · replace hM := ifp hM c_18
          refine lv_iconst (v := iI (-1)) hx hb dX12_whyNone_53 (by decide) ?_
          refine lv_goto (tgt := 58) hx hb dX12_whyNone_54 (by decide) ?_
          cases hM
          exact g_iret S hr hlk hG hsz dX12_whyNone_58 ⟨Nat.le_of_ble_eq_true rfl, Nat.le_of_ble_eq_true rfl⟩ ⟨rfl, rfl⟩
      · replace hM := ifn hM c_14
        refine lv_bipush (v := iI (-3)) hx hb dX12_whyNone_37 (by decide) ?_
        refine lv_goto (tgt := 58) hx hb dX12_whyNone_39 (by decide) ?_
        cases hM
        exact g_iret S hr hlk hG hsz dX12_whyNone_58 ⟨Nat.le_of_ble_eq_true rfl, Nat.le_of_ble_eq_true rfl⟩ ⟨rfl, rfl⟩
    · replace hM := ifp hM c_8
      refine lv_bipush (v := iI (-2)) hx hb dX12_whyNone_16 (by decide) ?_
      cases hM
      exact g_iret S hr hlk hG hsz dX12_whyNone_18 ⟨Nat.le_of_ble_eq_true rfl, Nat.le_of_ble_eq_true rfl⟩ ⟨rfl, rfl⟩
def mX12_node (S0 : St) (a1 : Int) (a2 : Int) (a3 : Int) : Option (Int × St) := gd (0 ≤ (S0 83 38) ∧ (S0 83 38) < 1024) <| nx (up S0 99 (S0 83 38) a1) fun S_2 => gd (0 ≤ (S_2 83 38) ∧ (S_2 83 38) < 1024) <| nx (up S_2 100 (S_2 83 38) a2) fun S_4 => gd (0 ≤ (S_4 83 38) ∧ (S_4 83 38) < 1024) <| nx (up S_4 101 (S_4 83 38) a3) fun S_6 => gd (0 ≤ (S_6 83 38) ∧ (S_6 83 38) < 1024) <| nx (up S_6 102 (S_6 83 38) (-1)) fun S_8 => gd (0 ≤ (S_8 83 38) ∧ (S_8 83 38) < 1024) <| nx (up S_8 103 (S_8 83 38) (-1)) fun S_10 => nx (up S_10 83 38 ((S_10 83 38) + 1)) fun S_11 => some (((S_11 83 38) - 1), S_11)
set_option maxHeartbeats 4000000 in
set_option maxRecDepth 100000 in
theorem vX12_node (l : Launch) {D : va_G} {cy : Nat → ClassId} {b n : Nat} (hn : 102 ≤ n) {X : Nat → va_E} {S0 : St} (a1 : Int) (a2 : Int) (a3 : Int) {o1 : Int} {o2 : St} (hM : mX12_node S0 a1 a2 a3 = some (o1, o2)) : gI l yX12_node cX12_node 4 (some .int) 0 0 0 D cy b n (enc b cy X S0) [.ref (b + 80), .int (iI a1), .int (iI a2), .int (iI a3)] (fun r u => r = iI o1 ∧ u = (n, enc b cy X o2)) := by
  refine gI_of (by decide) (Nat.le_of_ble_eq_true rfl) ?_
  intro p e s m args below meth c S hr hlk hin hsz ls hl hG
  have hx := S.1
  have hb := S.2.1
  have hl : lv_has ls 4 [(0, .ref (b + 80)), (1, .int (iI a1)), (2, .int (iI a2)), (3, .int (iI a3))] := hl
  replace hG : gW D cy b n s s.heap [] (enc b cy X S0) := hG
  obtain ⟨H, eH⟩ : ∃ H, H = s.heap := ⟨_, rfl⟩
  obtain ⟨locs, elocs⟩ : ∃ locs : List Loc, locs = [] := ⟨_, rfl⟩
  rw [← eH, ← elocs] at hG
  rw [← eH, ← elocs]
  clear eH elocs
  unfold mX12_node at hM
  refine lv_aload_n hx hb dX12_node_0 rfl (lv_at hl 0 rfl) ?_
  refine m_get S hG 80 83 33 rfl ec_83 cpX12 wm_1706 dX12_node_1 rfl (Nat.lt_of_lt_of_le (Nat.le_of_ble_eq_true rfl) hn) (by decide) ?_
  refine lv_aload_n hx hb dX12_node_4 rfl (lv_at hl 0 rfl) ?_
  refine m_get S hG 80 83 38 rfl ec_83 cpX12 wm_1711 dX12_node_5 rfl (Nat.lt_of_lt_of_le (Nat.le_of_ble_eq_true rfl) hn) (by decide) ?_
  refine lv_iload_n hx hb dX12_node_8 rfl (lv_at hl 1 rfl) ?_
  obtain ⟨hg_1, hM⟩ := gd_some hM
  refine mi_ast S hG 96 99 rfl ec_99 (Nat.lt_of_lt_of_le (Nat.le_of_ble_eq_true rfl) hn) dX12_node_9 hg_1 (by decide) (fun H locs S_2 eS_2 hG => ?_)
  replace hM := nx_at hM eS_2
  clear eS_2
  refine lv_aload_n hx hb dX12_node_10 rfl (lv_at hl 0 rfl) ?_
  refine m_get S hG 80 83 34 rfl ec_83 cpX12 wm_1707 dX12_node_11 rfl (Nat.lt_of_lt_of_le (Nat.le_of_ble_eq_true rfl) hn) (by decide) ?_
  refine lv_aload_n hx hb dX12_node_14 rfl (lv_at hl 0 rfl) ?_
  refine m_get S hG 80 83 38 rfl ec_83 cpX12 wm_1711 dX12_node_15 rfl (Nat.lt_of_lt_of_le (Nat.le_of_ble_eq_true rfl) hn) (by decide) ?_
  refine lv_iload_n hx hb dX12_node_18 rfl (lv_at hl 2 rfl) ?_
  obtain ⟨hg_3, hM⟩ := gd_some hM
  refine mi_ast S hG 97 100 rfl ec_100 (Nat.lt_of_lt_of_le (Nat.le_of_ble_eq_true rfl) hn) dX12_node_19 hg_3 (by decide) (fun H locs S_4 eS_4 hG => ?_)
  replace hM := nx_at hM eS_4
  clear eS_4
  refine lv_aload_n hx hb dX12_node_20 rfl (lv_at hl 0 rfl) ?_
  refine m_get S hG 80 83 35 rfl ec_83 cpX12 wm_1708 dX12_node_21 rfl (Nat.lt_of_lt_of_le (Nat.le_of_ble_eq_true rfl) hn) (by decide) ?_
  refine lv_aload_n hx hb dX12_node_24 rfl (lv_at hl 0 rfl) ?_
  refine m_get S hG 80 83 38 rfl ec_83 cpX12 wm_1711 dX12_node_25 rfl (Nat.lt_of_lt_of_le (Nat.le_of_ble_eq_true rfl) hn) (by decide) ?_
  refine lv_iload_n hx hb dX12_node_28 rfl (lv_at hl 3 rfl) ?_
  obtain ⟨hg_5, hM⟩ := gd_some hM
  refine mi_ast S hG 98 101 rfl ec_101 (Nat.lt_of_lt_of_le (Nat.le_of_ble_eq_true rfl) hn) dX12_node_29 hg_5 (by decide) (fun H locs S_6 eS_6 hG => ?_)
  replace hM := nx_at hM eS_6
  clear eS_6
  refine lv_aload_n hx hb dX12_node_30 rfl (lv_at hl 0 rfl) ?_
  refine m_get S hG 80 83 36 rfl ec_83 cpX12 wm_1709 dX12_node_31 rfl (Nat.lt_of_lt_of_le (Nat.le_of_ble_eq_true rfl) hn) (by decide) ?_
  refine lv_aload_n hx hb dX12_node_34 rfl (lv_at hl 0 rfl) ?_
  refine m_get S hG 80 83 38 rfl ec_83 cpX12 wm_1711 dX12_node_35 rfl (Nat.lt_of_lt_of_le (Nat.le_of_ble_eq_true rfl) hn) (by decide) ?_
  refine lv_iconst (v := iI (-1)) hx hb dX12_node_38 (by decide) ?_
  obtain ⟨hg_7, hM⟩ := gd_some hM
  refine mi_ast S hG 99 102 rfl ec_102 (Nat.lt_of_lt_of_le (Nat.le_of_ble_eq_true rfl) hn) dX12_node_39 hg_7 (by decide) (fun H locs S_8 eS_8 hG => ?_)
  replace hM := nx_at hM eS_8
  clear eS_8
  refine lv_aload_n hx hb dX12_node_40 rfl (lv_at hl 0 rfl) ?_
  refine m_get S hG 80 83 37 rfl ec_83 cpX12 wm_1710 dX12_node_41 rfl (Nat.lt_of_lt_of_le (Nat.le_of_ble_eq_true rfl) hn) (by decide) ?_
  refine lv_aload_n hx hb dX12_node_44 rfl (lv_at hl 0 rfl) ?_
  refine m_get S hG 80 83 38 rfl ec_83 cpX12 wm_1711 dX12_node_45 rfl (Nat.lt_of_lt_of_le (Nat.le_of_ble_eq_true rfl) hn) (by decide) ?_
  refine lv_iconst (v := iI (-1)) hx hb dX12_node_48 (by decide) ?_
  obtain ⟨hg_9, hM⟩ := gd_some hM
  refine mi_ast S hG 100 103 rfl ec_103 (Nat.lt_of_lt_of_le (Nat.le_of_ble_eq_true rfl) hn) dX12_node_49 hg_9 (by decide) (fun H locs S_10 eS_10 hG => ?_)
  replace hM := nx_at hM eS_10
  clear eS_10
  refine lv_aload_n hx hb dX12_node_50 rfl (lv_at hl 0 rfl) ?_
  refine lv_dup hx hb dX12_node_51 rfl ?_
  refine m_get S hG 80 83 38 rfl ec_83 cpX12 wm_1711 dX12_node_52 rfl (Nat.lt_of_lt_of_le (Nat.le_of_ble_eq_true rfl) hn) (by decide) ?_
  refine lv_iconst (v := iI 1) hx hb dX12_node_55 (by decide) ?_
  refine gi_add hx hb dX12_node_56 ?_
  refine m_put S hG 80 83 38 rfl 38 ((S_10 83 38) + 1) ec_83 cpX12 wm_1711 dX12_node_57 (pf_83_38) (Nat.lt_of_lt_of_le (Nat.le_of_ble_eq_true rfl) hn) (by decide) (Nat.le_of_ble_eq_true rfl) rfl rfl rfl (fun H locs S_11 eS_11 hG => ?_)
  replace hM := nx_at hM eS_11
  clear eS_11
  refine lv_aload_n hx hb dX12_node_60 rfl (lv_at hl 0 rfl) ?_
  refine m_get S hG 80 83 38 rfl ec_83 cpX12 wm_1711 dX12_node_61 rfl (Nat.lt_of_lt_of_le (Nat.le_of_ble_eq_true rfl) hn) (by decide) ?_
  refine lv_iconst (v := iI 1) hx hb dX12_node_64 (by decide) ?_
  refine gi_sub hx hb dX12_node_65 ?_
  cases hM
  exact g_iret S hr hlk hG hsz dX12_node_66 ⟨Nat.le_of_ble_eq_true rfl, Nat.le_of_ble_eq_true rfl⟩ ⟨rfl, rfl⟩
def mX12_here (S0 : St)  : Option (Int) := gd ((inI (S0 83 41)) ∧ (inI (S0 83 40))) <| if (S0 83 40) ≤ (S0 83 41) then (some ((-1))) else (gd (0 ≤ (S0 83 41) ∧ (S0 83 41) < 40) <| some ((S0 104 (S0 83 41))))
set_option maxHeartbeats 4000000 in
set_option maxRecDepth 100000 in
theorem vX12_here (l : Launch) {D : va_G} {cy : Nat → ClassId} {b n : Nat} (hn : 102 ≤ n) {X : Nat → va_E} {S0 : St}  {o1 : Int} (hM : mX12_here S0  = some o1) : gI l yX12_here cX12_here 1 (some .int) 0 0 0 D cy b n (enc b cy X S0) [.ref (b + 80)] (fun r u => r = iI o1 ∧ u = (n, enc b cy X S0)) := by
  refine gI_of (by decide) (Nat.le_of_ble_eq_true rfl) ?_
  intro p e s m args below meth c S hr hlk hin hsz ls hl hG
  have hx := S.1
  have hb := S.2.1
  have hl : lv_has ls 1 [(0, .ref (b + 80))] := hl
  replace hG : gW D cy b n s s.heap [] (enc b cy X S0) := hG
  obtain ⟨H, eH⟩ : ∃ H, H = s.heap := ⟨_, rfl⟩
  obtain ⟨locs, elocs⟩ : ∃ locs : List Loc, locs = [] := ⟨_, rfl⟩
  rw [← eH, ← elocs] at hG
  rw [← eH, ← elocs]
  clear eH elocs
  unfold mX12_here at hM
  refine lv_aload_n hx hb dX12_here_0 rfl (lv_at hl 0 rfl) ?_
  refine m_get S hG 80 83 41 rfl ec_83 cpX12 wm_1714 dX12_here_1 rfl (Nat.lt_of_lt_of_le (Nat.le_of_ble_eq_true rfl) hn) (by decide) ?_
  refine lv_aload_n hx hb dX12_here_4 rfl (lv_at hl 0 rfl) ?_
  refine m_get S hG 80 83 40 rfl ec_83 cpX12 wm_1713 dX12_here_5 rfl (Nat.lt_of_lt_of_le (Nat.le_of_ble_eq_true rfl) hn) (by decide) ?_
  obtain ⟨hg_1, hM⟩ := gd_some hM
  refine gi_icmp_ge (tgt := 23) hx hb dX12_here_8 (by decide) hg_1.1 hg_1.2 (fun c_2 => ?_) (fun c_2 => ?_)
  · replace hM := ifp hM c_2
    refine lv_iconst (v := iI (-1)) hx hb dX12_here_23 (by decide) ?_
    cases hM
    exact g_iret S hr hlk hG hsz dX12_here_24 ⟨Nat.le_of_ble_eq_true rfl, Nat.le_of_ble_eq_true rfl⟩ ⟨rfl, rfl⟩
  · replace hM := ifn hM c_2
    refine lv_aload_n hx hb dX12_here_11 rfl (lv_at hl 0 rfl) ?_
    refine m_get S hG 80 83 39 rfl ec_83 cpX12 wm_1712 dX12_here_12 rfl (Nat.lt_of_lt_of_le (Nat.le_of_ble_eq_true rfl) hn) (by decide) ?_
    refine lv_aload_n hx hb dX12_here_15 rfl (lv_at hl 0 rfl) ?_
    refine m_get S hG 80 83 41 rfl ec_83 cpX12 wm_1714 dX12_here_16 rfl (Nat.lt_of_lt_of_le (Nat.le_of_ble_eq_true rfl) hn) (by decide) ?_
    obtain ⟨hg_3, hM⟩ := gd_some hM
    refine mi_ald S hG 101 104 rfl ec_104 (Nat.lt_of_lt_of_le (Nat.le_of_ble_eq_true rfl) hn) dX12_here_19 hg_3 (by decide) ?_
    refine lv_goto (tgt := 24) hx hb dX12_here_20 (by decide) ?_
    cases hM
    exact g_iret S hr hlk hG hsz dX12_here_24 ⟨Nat.le_of_ble_eq_true rfl, Nat.le_of_ble_eq_true rfl⟩ ⟨rfl, rfl⟩
def mX12_isBlank_2 (S0 : St) (a1 : Int) : Nat → Int → Option (Int)
  | 0, _ => none
  | f + 1, v_1 => gd (inI v_1) <| if 8 ≤ v_1 then (some (1)) else (bd1 (mX12_place a1 v_1 0) fun r_12 => gd (0 ≤ r_12 ∧ r_12 < 1920) <| gd (inL (S0 90 r_12)) <| if (S0 90 r_12) ≤ 0 then (mX12_isBlank_2 S0 a1 f (v_1 + 1)) else (some (0)))
def mX12_isBlank (S0 : St) (a1 : Int) : Option (Int) := bd1 (mX12_isBlank_2 S0 a1 FU 0) fun t_2 => if t_2 = 0 then (some (0)) else (some (1))
set_option maxHeartbeats 4000000 in
set_option maxRecDepth 100000 in
theorem vX12_isBlank (l : Launch) {D : va_G} {cy : Nat → ClassId} {b n : Nat} (hn : 102 ≤ n) {X : Nat → va_E} {S0 : St} (a1 : Int) {o1 : Int} (hM : mX12_isBlank S0 a1 = some o1) : gI l yX12_isBlank cX12_isBlank 3 (some .boolean) 1 0 0 D cy b n (enc b cy X S0) [.ref (b + 80), .int (iI a1)] (fun r u => r = iI o1 ∧ u = (n, enc b cy X S0)) := by
  refine gI_of (by decide) (Nat.le_of_ble_eq_true rfl) ?_
  intro p e s m args below meth c S hr hlk hin hsz ls hl hG
  have hx := S.1
  have hb := S.2.1
  have hl : lv_has ls 3 [(0, .ref (b + 80)), (1, .int (iI a1))] := hl
  replace hG : gW D cy b n s s.heap [] (enc b cy X S0) := hG
  obtain ⟨H, eH⟩ : ∃ H, H = s.heap := ⟨_, rfl⟩
  obtain ⟨locs, elocs⟩ : ∃ locs : List Loc, locs = [] := ⟨_, rfl⟩
  rw [← eH, ← elocs] at hG
  rw [← eH, ← elocs]
  clear eH elocs
  unfold mX12_isBlank at hM
  refine lv_iconst (v := iI 0) hx hb dX12_isBlank_0 (by decide) ?_
  refine lv_istore_n (lv' := [(2, .int (iI 0)), (0, .ref (b + 80)), (1, .int (iI a1))]) hx hb dX12_isBlank_1 rfl hl (by decide) rfl (fun ls hl => ?_)
  obtain ⟨t_2, hc_3, hM⟩ := bd1_some hM
  have hK_4 : ∀ (H : Heap) (locs : List Loc) (ls : Array Slot), t_2 = 0 → gW D cy b n s H locs (enc b cy X S0) → lv_has ls 3 [] → W p l e (gRm 1 0 0) s m args below meth c H locs 0 0 (gQI D cy b s args below 0 0 (fun r u => r = iI o1 ∧ u = (n, enc b cy X S0))) (F0 m 24 ls []) := by
    intro H locs ls ht hG hl
    subst ht
    replace hM := ifp hM rfl
    refine lv_iconst (v := iI 0) hx hb dX12_isBlank_24 (by decide) ?_
    cases hM
    exact g_zret S hr hlk hG hsz dX12_isBlank_25 ⟨Nat.le_of_ble_eq_true rfl, Nat.le_of_ble_eq_true rfl⟩ (nar_z (by decide)) ⟨rfl, rfl⟩
  have hK_5 : ∀ (H : Heap) (locs : List Loc) (ls : Array Slot), t_2 = 1 → gW D cy b n s H locs (enc b cy X S0) → lv_has ls 3 [] → W p l e (gRm 1 0 0) s m args below meth c H locs 0 0 (gQI D cy b s args below 0 0 (fun r u => r = iI o1 ∧ u = (n, enc b cy X S0))) (F0 m 32 ls []) := by
    intro H locs ls ht hG hl
    subst ht
    replace hM := ifn hM (by decide)
    refine lv_iconst (v := iI 1) hx hb dX12_isBlank_32 (by decide) ?_
    cases hM
    exact g_zret S hr hlk hG hsz dX12_isBlank_33 ⟨Nat.le_of_ble_eq_true rfl, Nat.le_of_ble_eq_true rfl⟩ (nar_z (by decide)) ⟨rfl, rfl⟩
  have loop_6 : ∀ (f : Nat) (v_1 : Int) (H : Heap) (locs : List Loc) (ls : Array Slot), mX12_isBlank_2 S0 a1 f v_1 = some t_2 → gW D cy b n s H locs (enc b cy X S0) → lv_has ls 3 [(2, .int (iI v_1)), (0, .ref (b + 80)), (1, .int (iI a1))] → W p l e (gRm 1 0 0) s m args below meth c H locs 0 0 (gQI D cy b s args below 0 0 (fun r u => r = iI o1 ∧ u = (n, enc b cy X S0))) (F0 m 2 ls []) := by
    clear hM
    intro f
    induction f with
    | zero => intro v_1 H locs ls hM; rw [mX12_isBlank_2] at hM; cases hM
    | succ f_8 ih_7 =>
      intro v_1 H locs ls hM hG hl
      rw [mX12_isBlank_2] at hM
      refine lv_iload_n hx hb dX12_isBlank_2 rfl (lv_at hl 0 rfl) ?_
      refine lv_bipush (v := iI 8) hx hb dX12_isBlank_3 (by decide) ?_
      obtain ⟨hg_9, hM⟩ := gd_some hM
      refine gi_icmp_ge (tgt := 32) hx hb dX12_isBlank_5 (by decide) hg_9 (by decide) (fun c_10 => ?_) (fun c_10 => ?_)
      · replace hM := ifp hM c_10
        cases hM
        exact hK_5 H locs ls rfl hG (lv_sub hl [] rfl)
      · replace hM := ifn hM c_10
        refine lv_aload_n hx hb dX12_isBlank_8 rfl (lv_at hl 1 rfl) ?_
        refine m_get S hG 80 83 14 rfl ec_83 cpX12 wm_1687 dX12_isBlank_9 rfl (Nat.lt_of_lt_of_le (Nat.le_of_ble_eq_true rfl) hn) (by decide) ?_
        refine lv_iload_n hx hb dX12_isBlank_12 rfl (lv_at hl 2 rfl) ?_
        refine lv_iload_n hx hb dX12_isBlank_13 rfl (lv_at hl 0 rfl) ?_
        refine lv_iconst (v := iI 0) hx hb dX12_isBlank_14 (by decide) ?_
        obtain ⟨r_12, hc_11, hM⟩ := bd1_some hM
        refine g_si (As := [.int (iI a1), .int (iI v_1), .int (iI 0)]) (rest := [.ref (b + 87)]) S hG hsz (vX12_place l hn a1 v_1 0 hc_11) wS_12_276 dX12_isBlank_15 rfl hl.1 (ar := 3) (by decide +kernel) rfl ⟨Nat.le_of_ble_eq_true rfl, Nat.le_of_ble_eq_true rfl, Nat.le_of_ble_eq_true rfl, Nat.le_of_ble_eq_true rfl⟩ (Nat.le_of_ble_eq_true rfl) (fun rv uu H locs hp hG => ?_)
        obtain ⟨rfl, rfl⟩ := hp
        replace hG : gW D cy b n s H locs (enc b cy X S0) := hG
        obtain ⟨hg_13, hM⟩ := gd_some hM
        refine mj_ald S hG 87 90 rfl ec_90 (Nat.lt_of_lt_of_le (Nat.le_of_ble_eq_true rfl) hn) dX12_isBlank_18 hg_13 (by decide) ?_
        refine lv_lconst (v := jJ 0) hx hb dX12_isBlank_19 (by decide) ?_
        obtain ⟨hg_14, hM⟩ := gd_some hM
        refine gj_cmp_le (tgt := 26) hx hb dX12_isBlank_20 dX12_isBlank_21 (by decide) hg_14 (by decide) (fun c_15 => ?_) (fun c_15 => ?_)
        · replace hM := ifp hM c_15
          refine lv_iinc (v := iI (v_1 + 1)) (lv' := [(2, .int (iI (v_1 + 1))), (0, .ref (b + 80)), (1, .int (iI a1))]) hx hb dX12_isBlank_26 hl (k := 0) rfl ((iI_add v_1 (1)).trans (congrArg iI (by omega))) (by decide) rfl (fun ls hl => ?_)
          refine lv_goto (tgt := 2) hx hb dX12_isBlank_29 (by decide) ?_
          exact ih_7 (v_1 + 1) H locs ls hM hG (lv_sub hl [0, 1, 2] rfl)
        · replace hM := ifn hM c_15
          cases hM
          exact hK_4 H locs ls rfl hG (lv_sub hl [] rfl)
  exact loop_6 FU 0 H locs ls hc_3 hG (lv_sub hl [0, 1, 2] rfl)
theorem wV_12_491 : gWV "GrownKindsModel" 491 yX12_isBlank cX12_isBlank 3 (some .boolean) := ⟨wm_2314, wm_2316, wm_162, wm_188, wm_2317, by decide +kernel, by decide +kernel⟩
def mX12_partOf_2 (S0 : St)  : Nat → Int → Option (Int × Int)
  | 0, _ => none
  | f + 1, v_1 => gd (0 ≤ (24 + v_1) ∧ (24 + v_1) < 228) <| bd1 (gd (inI (S0 84 (24 + v_1))) <| if (S0 84 (24 + v_1)) = 2 then (some (0)) else (if (S0 84 (24 + v_1)) = 7 then (some (0)) else (some (1)))) fun t_11 => if t_11 = 0 then (gd (0 ≤ (48 + v_1) ∧ (48 + v_1) < 228) <| nx (S0 84 (48 + v_1)) fun x_15 => bd1 (mX12_isBlank S0 v_1) fun r_17 => gd (inI r_17) <| if r_17 = 0 then (gd (0 ≤ (198 + x_15) ∧ (198 + x_15) < 228) <| gd (inI (S0 84 (198 + x_15))) <| if (S0 84 (198 + x_15)) = 1 then (gd (0 ≤ (168 + x_15) ∧ (168 + x_15) < 228) <| gd (0 ≤ (120 + (S0 84 (168 + x_15))) ∧ (120 + (S0 84 (168 + x_15))) < 228) <| gd (0 ≤ (96 + (S0 84 (120 + (S0 84 (168 + x_15))))) ∧ (96 + (S0 84 (120 + (S0 84 (168 + x_15))))) < 228) <| gd (inI (S0 84 (96 + (S0 84 (120 + (S0 84 (168 + x_15))))))) <| if (S0 84 (96 + (S0 84 (120 + (S0 84 (168 + x_15)))))) < 0 then (nx (S0 84 (120 + (S0 84 (168 + x_15)))) fun x_28 => mX12_partOf_2 S0 f x_28) else (some (0, v_1))) else (some (0, v_1))) else (some (0, v_1))) else (some (1, v_1))
def mX12_partOf (S0 : St) (a1 : Int) : Option (Int) := bd2 (mX12_partOf_2 S0 FU a1) fun t_2 y_3 => if t_2 = 0 then (some (y_3)) else (some (y_3))
set_option maxHeartbeats 4000000 in
set_option maxRecDepth 100000 in
theorem vX12_partOf (l : Launch) {D : va_G} {cy : Nat → ClassId} {b n : Nat} (hn : 102 ≤ n) {X : Nat → va_E} {S0 : St} (a1 : Int) {o1 : Int} (hM : mX12_partOf S0 a1 = some o1) : gI l yX12_partOf cX12_partOf 4 (some .int) 2 0 0 D cy b n (enc b cy X S0) [.ref (b + 80), .int (iI a1)] (fun r u => r = iI o1 ∧ u = (n, enc b cy X S0)) := by
  refine gI_of (by decide) (Nat.le_of_ble_eq_true rfl) ?_
  intro p e s m args below meth c S hr hlk hin hsz ls hl hG
  have hx := S.1
  have hb := S.2.1
  have hl : lv_has ls 4 [(0, .ref (b + 80)), (1, .int (iI a1))] := hl
  replace hG : gW D cy b n s s.heap [] (enc b cy X S0) := hG
  obtain ⟨H, eH⟩ : ∃ H, H = s.heap := ⟨_, rfl⟩
  obtain ⟨locs, elocs⟩ : ∃ locs : List Loc, locs = [] := ⟨_, rfl⟩
  rw [← eH, ← elocs] at hG
  rw [← eH, ← elocs]
  clear eH elocs
  unfold mX12_partOf at hM
  refine lv_iload_n hx hb dX12_partOf_0 rfl (lv_at hl 1 rfl) ?_
  refine lv_istore_n (lv' := [(2, .int (iI a1)), (0, .ref (b + 80)), (1, .int (iI a1))]) hx hb dX12_partOf_1 rfl hl (by decide) rfl (fun ls hl => ?_)
  obtain ⟨t_2, y_3, hc_4, hM⟩ := bd2_some hM
  have hK_5 : ∀ (H : Heap) (locs : List Loc) (ls : Array Slot), t_2 = 0 → gW D cy b n s H locs (enc b cy X S0) → lv_has ls 4 [(2, .int (iI y_3))] → W p l e (gRm 2 0 0) s m args below meth c H locs 0 0 (gQI D cy b s args below 0 0 (fun r u => r = iI o1 ∧ u = (n, enc b cy X S0))) (F0 m 90 ls []) := by
    intro H locs ls ht hG hl
    subst ht
    replace hM := ifp hM rfl
    refine lv_iload_n hx hb dX12_partOf_90 rfl (lv_at hl 0 rfl) ?_
    cases hM
    exact g_iret S hr hlk hG hsz dX12_partOf_91 ⟨Nat.le_of_ble_eq_true rfl, Nat.le_of_ble_eq_true rfl⟩ ⟨rfl, rfl⟩
  have hK_6 : ∀ (H : Heap) (locs : List Loc) (ls : Array Slot), t_2 = 1 → gW D cy b n s H locs (enc b cy X S0) → lv_has ls 4 [(2, .int (iI y_3))] → W p l e (gRm 2 0 0) s m args below meth c H locs 0 0 (gQI D cy b s args below 0 0 (fun r u => r = iI o1 ∧ u = (n, enc b cy X S0))) (F0 m 114 ls []) := by
    intro H locs ls ht hG hl
    subst ht
    replace hM := ifn hM (by decide)
    refine lv_iload_n hx hb dX12_partOf_114 rfl (lv_at hl 0 rfl) ?_
    cases hM
    exact g_iret S hr hlk hG hsz dX12_partOf_115 ⟨Nat.le_of_ble_eq_true rfl, Nat.le_of_ble_eq_true rfl⟩ ⟨rfl, rfl⟩
  have loop_7 : ∀ (f : Nat) (v_1 : Int) (H : Heap) (locs : List Loc) (ls : Array Slot), mX12_partOf_2 S0 f v_1 = some (t_2, y_3) → gW D cy b n s H locs (enc b cy X S0) → lv_has ls 4 [(2, .int (iI v_1)), (0, .ref (b + 80))] → W p l e (gRm 2 0 0) s m args below meth c H locs 0 0 (gQI D cy b s args below 0 0 (fun r u => r = iI o1 ∧ u = (n, enc b cy X S0))) (F0 m 2 ls []) := by
    clear hM
    intro f
    induction f with
    | zero => intro v_1 H locs ls hM; rw [mX12_partOf_2] at hM; cases hM
    | succ f_9 ih_8 =>
      intro v_1 H locs ls hM hG hl
      rw [mX12_partOf_2] at hM
      refine lv_aload_n hx hb dX12_partOf_2 rfl (lv_at hl 1 rfl) ?_
      refine m_get S hG 80 83 0 rfl ec_83 cpX12 wm_1673 dX12_partOf_3 rfl (Nat.lt_of_lt_of_le (Nat.le_of_ble_eq_true rfl) hn) (by decide) ?_
      refine lv_bipush (v := iI 24) hx hb dX12_partOf_6 (by decide) ?_
      refine lv_iload_n hx hb dX12_partOf_8 rfl (lv_at hl 0 rfl) ?_
      refine gi_add hx hb dX12_partOf_9 ?_
      obtain ⟨hg_10, hM⟩ := gd_some hM
      refine mi_ald S hG 81 84 rfl ec_84 (Nat.lt_of_lt_of_le (Nat.le_of_ble_eq_true rfl) hn) dX12_partOf_10 hg_10 (by decide) ?_
      refine lv_iconst (v := iI 2) hx hb dX12_partOf_11 (by decide) ?_
      obtain ⟨t_11, hc_12, hM⟩ := bd1_some hM
      have hK_13 : ∀ (H : Heap) (locs : List Loc) (ls : Array Slot), t_11 = 0 → gW D cy b n s H locs (enc b cy X S0) → lv_has ls 4 [(2, .int (iI v_1)), (0, .ref (b + 80))] → W p l e (gRm 2 0 0) s m args below meth c H locs 0 0 (gQI D cy b s args below 0 0 (fun r u => r = iI o1 ∧ u = (n, enc b cy X S0))) (F0 m 29 ls []) := by
        intro H locs ls ht hG hl
        subst ht
        replace hM := ifp hM rfl
        refine lv_aload_n hx hb dX12_partOf_29 rfl (lv_at hl 1 rfl) ?_
        refine m_get S hG 80 83 0 rfl ec_83 cpX12 wm_1673 dX12_partOf_30 rfl (Nat.lt_of_lt_of_le (Nat.le_of_ble_eq_true rfl) hn) (by decide) ?_
        refine lv_bipush (v := iI 48) hx hb dX12_partOf_33 (by decide) ?_
        refine lv_iload_n hx hb dX12_partOf_35 rfl (lv_at hl 0 rfl) ?_
        refine gi_add hx hb dX12_partOf_36 ?_
        obtain ⟨hg_14, hM⟩ := gd_some hM
        refine mi_ald S hG 81 84 rfl ec_84 (Nat.lt_of_lt_of_le (Nat.le_of_ble_eq_true rfl) hn) dX12_partOf_37 hg_14 (by decide) ?_
        refine gi_nm (fun x_15 ex_15 => ?_)
        replace hM := nx_at hM ex_15
        clear ex_15
        refine lv_istore_n (lv' := [(3, .int (iI x_15)), (2, .int (iI v_1)), (0, .ref (b + 80))]) hx hb dX12_partOf_38 rfl hl (by decide) rfl (fun ls hl => ?_)
        refine lv_aload_n hx hb dX12_partOf_39 rfl (lv_at hl 2 rfl) ?_
        refine lv_iload_n hx hb dX12_partOf_40 rfl (lv_at hl 1 rfl) ?_
        obtain ⟨r_17, hc_16, hM⟩ := bd1_some hM
        refine g_vi (As := [.int (iI v_1)]) (rest := []) S hG hsz (vX12_isBlank l hn v_1 hc_16) wV_12_491 (ec_83 _) cpX12 (Nat.lt_of_lt_of_le (Nat.le_of_ble_eq_true rfl) hn) dX12_partOf_41 rfl hl.1 (ar := 1) (by decide +kernel) rfl ⟨Nat.le_of_ble_eq_true rfl, Nat.le_of_ble_eq_true rfl, Nat.le_of_ble_eq_true rfl, Nat.le_of_ble_eq_true rfl⟩ (Nat.le_of_ble_eq_true rfl) (fun rv uu H locs hp hG => ?_)
        obtain ⟨rfl, rfl⟩ := hp
        replace hG : gW D cy b n s H locs (enc b cy X S0) := hG
        obtain ⟨hg_18, hM⟩ := gd_some hM
        refine gi_if_ne (tgt := 90) hx hb dX12_partOf_44 (by decide) hg_18 (fun c_19 => ?_) (fun c_19 => ?_)
        · replace hM := ifn hM c_19
          cases hM
          exact hK_5 H locs ls rfl hG (lv_sub hl [1] rfl)
        · replace hM := ifp hM c_19
          refine lv_aload_n hx hb dX12_partOf_47 rfl (lv_at hl 2 rfl) ?_
          refine m_get S hG 80 83 0 rfl ec_83 cpX12 wm_1673 dX12_partOf_48 rfl (Nat.lt_of_lt_of_le (Nat.le_of_ble_eq_true rfl) hn) (by decide) ?_
          refine lv_sipush (v := iI 198) hx hb dX12_partOf_51 (by decide) ?_
          refine lv_iload_n hx hb dX12_partOf_54 rfl (lv_at hl 0 rfl) ?_
          refine gi_add hx hb dX12_partOf_55 ?_
          obtain ⟨hg_20, hM⟩ := gd_some hM
          refine mi_ald S hG 81 84 rfl ec_84 (Nat.lt_of_lt_of_le (Nat.le_of_ble_eq_true rfl) hn) dX12_partOf_56 hg_20 (by decide) ?_
          refine lv_iconst (v := iI 1) hx hb dX12_partOf_57 (by decide) ?_
          obtain ⟨hg_21, hM⟩ := gd_some hM
          refine gi_icmp_ne (tgt := 90) hx hb dX12_partOf_58 (by decide) hg_21 (by decide) (fun c_22 => ?_) (fun c_22 => ?_)
          · replace hM := ifn hM c_22
            cases hM
            exact hK_5 H locs ls rfl hG (lv_sub hl [1] rfl)
          · replace hM := ifp hM c_22
            refine lv_aload_n hx hb dX12_partOf_61 rfl (lv_at hl 2 rfl) ?_
            refine m_get S hG 80 83 0 rfl ec_83 cpX12 wm_1673 dX12_partOf_62 rfl (Nat.lt_of_lt_of_le (Nat.le_of_ble_eq_true rfl) hn) (by decide) ?_
            refine lv_bipush (v := iI 96) hx hb dX12_partOf_65 (by decide) ?_
            refine lv_aload_n hx hb dX12_partOf_67 rfl (lv_at hl 2 rfl) ?_
            refine m_get S hG 80 83 0 rfl ec_83 cpX12 wm_1673 dX12_partOf_68 rfl (Nat.lt_of_lt_of_le (Nat.le_of_ble_eq_true rfl) hn) (by decide) ?_
            refine lv_bipush (v := iI 120) hx hb dX12_partOf_71 (by decide) ?_
            refine lv_aload_n hx hb dX12_partOf_73 rfl (lv_at hl 2 rfl) ?_
            refine m_get S hG 80 83 0 rfl ec_83 cpX12 wm_1673 dX12_partOf_74 rfl (Nat.lt_of_lt_of_le (Nat.le_of_ble_eq_true rfl) hn) (by decide) ?_
            refine lv_sipush (v := iI 168) hx hb dX12_partOf_77 (by decide) ?_
            refine lv_iload_n hx hb dX12_partOf_80 rfl (lv_at hl 0 rfl) ?_
            refine gi_add hx hb dX12_partOf_81 ?_
            obtain ⟨hg_23, hM⟩ := gd_some hM
            refine mi_ald S hG 81 84 rfl ec_84 (Nat.lt_of_lt_of_le (Nat.le_of_ble_eq_true rfl) hn) dX12_partOf_82 hg_23 (by decide) ?_
            refine gi_add hx hb dX12_partOf_83 ?_
            obtain ⟨hg_24, hM⟩ := gd_some hM
            refine mi_ald S hG 81 84 rfl ec_84 (Nat.lt_of_lt_of_le (Nat.le_of_ble_eq_true rfl) hn) dX12_partOf_84 hg_24 (by decide) ?_
            refine gi_add hx hb dX12_partOf_85 ?_
            obtain ⟨hg_25, hM⟩ := gd_some hM
            refine mi_ald S hG 81 84 rfl ec_84 (Nat.lt_of_lt_of_le (Nat.le_of_ble_eq_true rfl) hn) dX12_partOf_86 hg_25 (by decide) ?_
            obtain ⟨hg_26, hM⟩ := gd_some hM
            refine gi_if_lt (tgt := 92) hx hb dX12_partOf_87 (by decide) hg_26 (fun c_27 => ?_) (fun c_27 => ?_)
            · replace hM := ifp hM c_27
              refine lv_aload_n hx hb dX12_partOf_92 rfl (lv_at hl 2 rfl) ?_
              refine m_get S hG 80 83 0 rfl ec_83 cpX12 wm_1673 dX12_partOf_93 rfl (Nat.lt_of_lt_of_le (Nat.le_of_ble_eq_true rfl) hn) (by decide) ?_
              refine lv_bipush (v := iI 120) hx hb dX12_partOf_96 (by decide) ?_
              refine lv_aload_n hx hb dX12_partOf_98 rfl (lv_at hl 2 rfl) ?_
              refine m_get S hG 80 83 0 rfl ec_83 cpX12 wm_1673 dX12_partOf_99 rfl (Nat.lt_of_lt_of_le (Nat.le_of_ble_eq_true rfl) hn) (by decide) ?_
              refine lv_sipush (v := iI 168) hx hb dX12_partOf_102 (by decide) ?_
              refine lv_iload_n hx hb dX12_partOf_105 rfl (lv_at hl 0 rfl) ?_
              refine gi_add hx hb dX12_partOf_106 ?_
              refine mi_ald S hG 81 84 rfl ec_84 (Nat.lt_of_lt_of_le (Nat.le_of_ble_eq_true rfl) hn) dX12_partOf_107 hg_23 (by decide) ?_
              refine gi_add hx hb dX12_partOf_108 ?_
              refine mi_ald S hG 81 84 rfl ec_84 (Nat.lt_of_lt_of_le (Nat.le_of_ble_eq_true rfl) hn) dX12_partOf_109 hg_24 (by decide) ?_
              refine gi_nm (fun x_28 ex_28 => ?_)
              replace hM := nx_at hM ex_28
              clear ex_28
              refine lv_istore_n (lv' := [(2, .int (iI x_28)), (3, .int (iI x_15)), (0, .ref (b + 80))]) hx hb dX12_partOf_110 rfl hl (by decide) rfl (fun ls hl => ?_)
              refine lv_goto (tgt := 2) hx hb dX12_partOf_111 (by decide) ?_
              exact ih_8 x_28 H locs ls hM hG (lv_sub hl [0, 2] rfl)
            · replace hM := ifn hM c_27
              cases hM
              exact hK_5 H locs ls rfl hG (lv_sub hl [1] rfl)
      have hK_29 : ∀ (H : Heap) (locs : List Loc) (ls : Array Slot), t_11 = 1 → gW D cy b n s H locs (enc b cy X S0) → lv_has ls 4 [(2, .int (iI v_1))] → W p l e (gRm 2 0 0) s m args below meth c H locs 0 0 (gQI D cy b s args below 0 0 (fun r u => r = iI o1 ∧ u = (n, enc b cy X S0))) (F0 m 114 ls []) := by
        intro H locs ls ht hG hl
        subst ht
        replace hM := ifn hM (by decide)
        cases hM
        exact hK_6 H locs ls rfl hG (lv_sub hl [0] rfl)
      clear hM
      replace hM := hc_12
      obtain ⟨hg_30, hM⟩ := gd_some hM
      refine gi_icmp_eq (tgt := 29) hx hb dX12_partOf_12 (by decide) hg_30 (by decide) (fun c_31 => ?_) (fun c_31 => ?_)
      · replace hM := ifp hM c_31
        cases hM
        exact hK_13 H locs ls rfl hG (lv_sub hl [0, 1] rfl)
      · replace hM := ifn hM c_31
        refine lv_aload_n hx hb dX12_partOf_15 rfl (lv_at hl 1 rfl) ?_
        refine m_get S hG 80 83 0 rfl ec_83 cpX12 wm_1673 dX12_partOf_16 rfl (Nat.lt_of_lt_of_le (Nat.le_of_ble_eq_true rfl) hn) (by decide) ?_
        refine lv_bipush (v := iI 24) hx hb dX12_partOf_19 (by decide) ?_
        refine lv_iload_n hx hb dX12_partOf_21 rfl (lv_at hl 0 rfl) ?_
        refine gi_add hx hb dX12_partOf_22 ?_
        refine mi_ald S hG 81 84 rfl ec_84 (Nat.lt_of_lt_of_le (Nat.le_of_ble_eq_true rfl) hn) dX12_partOf_23 hg_10 (by decide) ?_
        refine lv_bipush (v := iI 7) hx hb dX12_partOf_24 (by decide) ?_
        refine gi_icmp_ne (tgt := 114) hx hb dX12_partOf_26 (by decide) hg_30 (by decide) (fun c_32 => ?_) (fun c_32 => ?_)
        · replace hM := ifn hM c_32
          cases hM
          exact hK_29 H locs ls rfl hG (lv_sub hl [0] rfl)
        · replace hM := ifp hM c_32
          cases hM
          exact hK_13 H locs ls rfl hG (lv_sub hl [0, 1] rfl)
  exact loop_7 FU a1 H locs ls hc_4 hG (lv_sub hl [0, 1] rfl)
def mX12_comesBehind (S0 : St) (a1 : Int) (a2 : Int) (a3 : Int) (a4 : Int) : Option (Int × St) := bd1 (gd (inI a2) <| if 0 ≤ a2 then (gd (0 ≤ a2 ∧ a2 < 1024) <| nx (up S0 103 a2 a3) fun S_9 => some (S_9)) else (gd (0 ≤ a1 ∧ a1 < 1024) <| nx (up S0 102 a1 a3) fun S_11 => some (S_11))) fun S_1 => gd (0 ≤ a1 ∧ a1 < 1024) <| nx (up S_1 101 a1 ((S_1 101 a1) + a4)) fun S_5 => some (a3, S_5)
set_option maxHeartbeats 4000000 in
set_option maxRecDepth 100000 in
theorem vX12_comesBehind (l : Launch) {D : va_G} {cy : Nat → ClassId} {b n : Nat} (hn : 102 ≤ n) {X : Nat → va_E} {S0 : St} (a1 : Int) (a2 : Int) (a3 : Int) (a4 : Int) {o1 : Int} {o2 : St} (hM : mX12_comesBehind S0 a1 a2 a3 a4 = some (o1, o2)) : gI l yX12_comesBehind cX12_comesBehind 5 (some .int) 0 0 0 D cy b n (enc b cy X S0) [.ref (b + 80), .int (iI a1), .int (iI a2), .int (iI a3), .int (iI a4)] (fun r u => r = iI o1 ∧ u = (n, enc b cy X o2)) := by
  refine gI_of (by decide) (Nat.le_of_ble_eq_true rfl) ?_
  intro p e s m args below meth c S hr hlk hin hsz ls hl hG
  have hx := S.1
  have hb := S.2.1
  have hl : lv_has ls 5 [(0, .ref (b + 80)), (1, .int (iI a1)), (2, .int (iI a2)), (3, .int (iI a3)), (4, .int (iI a4))] := hl
  replace hG : gW D cy b n s s.heap [] (enc b cy X S0) := hG
  obtain ⟨H, eH⟩ : ∃ H, H = s.heap := ⟨_, rfl⟩
  obtain ⟨locs, elocs⟩ : ∃ locs : List Loc, locs = [] := ⟨_, rfl⟩
  rw [← eH, ← elocs] at hG
  rw [← eH, ← elocs]
  clear eH elocs
  unfold mX12_comesBehind at hM
  refine lv_iload_n hx hb dX12_comesBehind_0 rfl (lv_at hl 2 rfl) ?_
  obtain ⟨S_1, hc_2, hM⟩ := bd1_some hM
  have hK_3 : ∀ (H : Heap) (locs : List Loc) (ls : Array Slot), gW D cy b n s H locs (enc b cy X S_1) → lv_has ls 5 [(0, .ref (b + 80)), (1, .int (iI a1)), (3, .int (iI a3)), (4, .int (iI a4))] → W p l e (gRm 0 0 0) s m args below meth c H locs 0 0 (gQI D cy b s args below 0 0 (fun r u => r = iI o1 ∧ u = (n, enc b cy X o2))) (F0 m 21 ls []) := by
    intro H locs ls hG hl
    refine lv_aload_n hx hb dX12_comesBehind_21 rfl (lv_at hl 0 rfl) ?_
    refine m_get S hG 80 83 35 rfl ec_83 cpX12 wm_1708 dX12_comesBehind_22 rfl (Nat.lt_of_lt_of_le (Nat.le_of_ble_eq_true rfl) hn) (by decide) ?_
    refine lv_iload_n hx hb dX12_comesBehind_25 rfl (lv_at hl 1 rfl) ?_
    refine lv_dup2_11 hx hb dX12_comesBehind_26 rfl rfl ?_
    obtain ⟨hg_4, hM⟩ := gd_some hM
    refine mi_ald S hG 98 101 rfl ec_101 (Nat.lt_of_lt_of_le (Nat.le_of_ble_eq_true rfl) hn) dX12_comesBehind_27 hg_4 (by decide) ?_
    refine lv_iload hx hb dX12_comesBehind_28 (lv_at hl 3 rfl) ?_
    refine gi_add hx hb dX12_comesBehind_30 ?_
    refine mi_ast S hG 98 101 rfl ec_101 (Nat.lt_of_lt_of_le (Nat.le_of_ble_eq_true rfl) hn) dX12_comesBehind_31 hg_4 (by decide) (fun H locs S_5 eS_5 hG => ?_)
    replace hM := nx_at hM eS_5
    clear eS_5
    refine lv_iload_n hx hb dX12_comesBehind_32 rfl (lv_at hl 2 rfl) ?_
    cases hM
    exact g_iret S hr hlk hG hsz dX12_comesBehind_33 ⟨Nat.le_of_ble_eq_true rfl, Nat.le_of_ble_eq_true rfl⟩ ⟨rfl, rfl⟩
  clear hM
  replace hM := hc_2
  obtain ⟨hg_6, hM⟩ := gd_some hM
  refine gi_if_ge (tgt := 14) hx hb dX12_comesBehind_1 (by decide) hg_6 (fun c_7 => ?_) (fun c_7 => ?_)
  · replace hM := ifp hM c_7
    refine lv_aload_n hx hb dX12_comesBehind_14 rfl (lv_at hl 0 rfl) ?_
    refine m_get S hG 80 83 37 rfl ec_83 cpX12 wm_1710 dX12_comesBehind_15 rfl (Nat.lt_of_lt_of_le (Nat.le_of_ble_eq_true rfl) hn) (by decide) ?_
    refine lv_iload_n hx hb dX12_comesBehind_18 rfl (lv_at hl 2 rfl) ?_
    refine lv_iload_n hx hb dX12_comesBehind_19 rfl (lv_at hl 3 rfl) ?_
    obtain ⟨hg_8, hM⟩ := gd_some hM
    refine mi_ast S hG 100 103 rfl ec_103 (Nat.lt_of_lt_of_le (Nat.le_of_ble_eq_true rfl) hn) dX12_comesBehind_20 hg_8 (by decide) (fun H locs S_9 eS_9 hG => ?_)
    replace hM := nx_at hM eS_9
    clear eS_9
    cases hM
    exact hK_3 H locs ls hG (lv_sub hl [0, 1, 3, 4] rfl)
  · replace hM := ifn hM c_7
    refine lv_aload_n hx hb dX12_comesBehind_4 rfl (lv_at hl 0 rfl) ?_
    refine m_get S hG 80 83 36 rfl ec_83 cpX12 wm_1709 dX12_comesBehind_5 rfl (Nat.lt_of_lt_of_le (Nat.le_of_ble_eq_true rfl) hn) (by decide) ?_
    refine lv_iload_n hx hb dX12_comesBehind_8 rfl (lv_at hl 1 rfl) ?_
    refine lv_iload_n hx hb dX12_comesBehind_9 rfl (lv_at hl 3 rfl) ?_
    obtain ⟨hg_10, hM⟩ := gd_some hM
    refine mi_ast S hG 99 102 rfl ec_102 (Nat.lt_of_lt_of_le (Nat.le_of_ble_eq_true rfl) hn) dX12_comesBehind_10 hg_10 (by decide) (fun H locs S_11 eS_11 hG => ?_)
    replace hM := nx_at hM eS_11
    clear eS_11
    refine lv_goto (tgt := 21) hx hb dX12_comesBehind_11 (by decide) ?_
    cases hM
    exact hK_3 H locs ls hG (lv_sub hl [0, 1, 3, 4] rfl)
def mX12_takesSpelled_10  : Nat → Int → St → Option (St)
  | 0, _, _ => none
  | f + 1, v_2, S_3 => gd ((inI v_2) ∧ (inI (S_3 83 20))) <| if (S_3 83 20) ≤ v_2 then (some (S_3)) else (gd (0 ≤ v_2 ∧ v_2 < 40) <| nx (up S_3 104 v_2 (S_3 96 v_2)) fun S_13 => mX12_takesSpelled_10 f (v_2 + 1) S_13)
def mX12_takesSpelled (S0 : St)  : Option (St) := nx (up S0 83 40 (S0 83 20)) fun S_1 => bd1 (mX12_takesSpelled_10 FU 0 S_1) fun S_4 => some (S_4)
set_option maxHeartbeats 4000000 in
set_option maxRecDepth 100000 in
theorem vX12_takesSpelled (l : Launch) {D : va_G} {cy : Nat → ClassId} {b n : Nat} (hn : 102 ≤ n) {X : Nat → va_E} {S0 : St}  {o1 : St} (hM : mX12_takesSpelled S0  = some o1) : gV l yX12_takesSpelled cX12_takesSpelled 2 0 0 0 D cy b n (enc b cy X S0) [.ref (b + 80)] (fun u => u = (n, enc b cy X o1)) := by
  refine gV_of (by decide) (Nat.le_of_ble_eq_true rfl) ?_
  intro p e s m args below meth c S hr hlk hin hsz ls hl hG
  have hx := S.1
  have hb := S.2.1
  have hl : lv_has ls 2 [(0, .ref (b + 80))] := hl
  replace hG : gW D cy b n s s.heap [] (enc b cy X S0) := hG
  obtain ⟨H, eH⟩ : ∃ H, H = s.heap := ⟨_, rfl⟩
  obtain ⟨locs, elocs⟩ : ∃ locs : List Loc, locs = [] := ⟨_, rfl⟩
  rw [← eH, ← elocs] at hG
  rw [← eH, ← elocs]
  clear eH elocs
  unfold mX12_takesSpelled at hM
  refine lv_aload_n hx hb dX12_takesSpelled_0 rfl (lv_at hl 0 rfl) ?_
  refine lv_aload_n hx hb dX12_takesSpelled_1 rfl (lv_at hl 0 rfl) ?_
  refine m_get S hG 80 83 20 rfl ec_83 cpX12 wm_1693 dX12_takesSpelled_2 rfl (Nat.lt_of_lt_of_le (Nat.le_of_ble_eq_true rfl) hn) (by decide) ?_
  refine m_put S hG 80 83 40 rfl 40 (S0 83 20) ec_83 cpX12 wm_1713 dX12_takesSpelled_5 (pf_83_40) (Nat.lt_of_lt_of_le (Nat.le_of_ble_eq_true rfl) hn) (by decide) (Nat.le_of_ble_eq_true rfl) rfl rfl rfl (fun H locs S_1 eS_1 hG => ?_)
  replace hM := nx_at hM eS_1
  clear eS_1
  refine lv_iconst (v := iI 0) hx hb dX12_takesSpelled_8 (by decide) ?_
  refine lv_istore_n (lv' := [(1, .int (iI 0)), (0, .ref (b + 80))]) hx hb dX12_takesSpelled_9 rfl hl (by decide) rfl (fun ls hl => ?_)
  obtain ⟨S_4, hc_5, hM⟩ := bd1_some hM
  have hK_6 : ∀ (H : Heap) (locs : List Loc) (ls : Array Slot), gW D cy b n s H locs (enc b cy X S_4) → lv_has ls 2 [] → W p l e (gRm 0 0 0) s m args below meth c H locs 0 0 (gQV D cy b s args below 0 0 (fun u => u = (n, enc b cy X o1))) (F0 m 36 ls []) := by
    intro H locs ls hG hl
    cases hM
    exact g_vret S hr hlk hG hsz dX12_takesSpelled_36 ⟨Nat.le_of_ble_eq_true rfl, Nat.le_of_ble_eq_true rfl⟩ rfl
  have loop_7 : ∀ (f : Nat) (v_2 : Int) (S_3 : St) (H : Heap) (locs : List Loc) (ls : Array Slot), mX12_takesSpelled_10 f v_2 S_3 = some S_4 → gW D cy b n s H locs (enc b cy X S_3) → lv_has ls 2 [(1, .int (iI v_2)), (0, .ref (b + 80))] → W p l e (gRm 0 0 0) s m args below meth c H locs 0 0 (gQV D cy b s args below 0 0 (fun u => u = (n, enc b cy X o1))) (F0 m 10 ls []) := by
    clear hM
    intro f
    induction f with
    | zero => intro v_2 S_3 H locs ls hM; rw [mX12_takesSpelled_10] at hM; cases hM
    | succ f_9 ih_8 =>
      intro v_2 S_3 H locs ls hM hG hl
      rw [mX12_takesSpelled_10] at hM
      refine lv_iload_n hx hb dX12_takesSpelled_10 rfl (lv_at hl 0 rfl) ?_
      refine lv_aload_n hx hb dX12_takesSpelled_11 rfl (lv_at hl 1 rfl) ?_
      refine m_get S hG 80 83 20 rfl ec_83 cpX12 wm_1693 dX12_takesSpelled_12 rfl (Nat.lt_of_lt_of_le (Nat.le_of_ble_eq_true rfl) hn) (by decide) ?_
      obtain ⟨hg_10, hM⟩ := gd_some hM
      refine gi_icmp_ge (tgt := 36) hx hb dX12_takesSpelled_15 (by decide) hg_10.1 hg_10.2 (fun c_11 => ?_) (fun c_11 => ?_)
      · replace hM := ifp hM c_11
        cases hM
        exact hK_6 H locs ls hG (lv_sub hl [] rfl)
      · replace hM := ifn hM c_11
        refine lv_aload_n hx hb dX12_takesSpelled_18 rfl (lv_at hl 1 rfl) ?_
        refine m_get S hG 80 83 39 rfl ec_83 cpX12 wm_1712 dX12_takesSpelled_19 rfl (Nat.lt_of_lt_of_le (Nat.le_of_ble_eq_true rfl) hn) (by decide) ?_
        refine lv_iload_n hx hb dX12_takesSpelled_22 rfl (lv_at hl 0 rfl) ?_
        refine lv_aload_n hx hb dX12_takesSpelled_23 rfl (lv_at hl 1 rfl) ?_
        refine m_get S hG 80 83 28 rfl ec_83 cpX12 wm_1701 dX12_takesSpelled_24 rfl (Nat.lt_of_lt_of_le (Nat.le_of_ble_eq_true rfl) hn) (by decide) ?_
        refine lv_iload_n hx hb dX12_takesSpelled_27 rfl (lv_at hl 0 rfl) ?_
        obtain ⟨hg_12, hM⟩ := gd_some hM
        refine mi_ald S hG 93 96 rfl ec_96 (Nat.lt_of_lt_of_le (Nat.le_of_ble_eq_true rfl) hn) dX12_takesSpelled_28 hg_12 (by decide) ?_
        refine mi_ast S hG 101 104 rfl ec_104 (Nat.lt_of_lt_of_le (Nat.le_of_ble_eq_true rfl) hn) dX12_takesSpelled_29 hg_12 (by decide) (fun H locs S_13 eS_13 hG => ?_)
        replace hM := nx_at hM eS_13
        clear eS_13
        refine lv_iinc (v := iI (v_2 + 1)) (lv' := [(1, .int (iI (v_2 + 1))), (0, .ref (b + 80))]) hx hb dX12_takesSpelled_30 hl (k := 0) rfl ((iI_add v_2 (1)).trans (congrArg iI (by omega))) (by decide) rfl (fun ls hl => ?_)
        refine lv_goto (tgt := 10) hx hb dX12_takesSpelled_33 (by decide) ?_
        exact ih_8 (v_2 + 1) S_13 H locs ls hM hG (lv_sub hl [0, 1] rfl)
  exact loop_7 FU 0 S_1 H locs ls hc_5 hG (lv_sub hl [0, 1] rfl)
def mX12_told (S0 : St) (a1 : Int) : Option (Int) := gd (inI a1) <| if a1 = 0 then (some ((S0 83 42))) else (if a1 = 1 then (some ((S0 83 43))) else (some ((-1))))
set_option maxHeartbeats 4000000 in
set_option maxRecDepth 100000 in
theorem vX12_told (l : Launch) {D : va_G} {cy : Nat → ClassId} {b n : Nat} (hn : 102 ≤ n) {X : Nat → va_E} {S0 : St} (a1 : Int) {o1 : Int} (hM : mX12_told S0 a1 = some o1) : gI l yX12_told cX12_told 2 (some .int) 0 0 0 D cy b n (enc b cy X S0) [.ref (b + 80), .int (iI a1)] (fun r u => r = iI o1 ∧ u = (n, enc b cy X S0)) := by
  refine gI_of (by decide) (Nat.le_of_ble_eq_true rfl) ?_
  intro p e s m args below meth c S hr hlk hin hsz ls hl hG
  have hx := S.1
  have hb := S.2.1
  have hl : lv_has ls 2 [(0, .ref (b + 80)), (1, .int (iI a1))] := hl
  replace hG : gW D cy b n s s.heap [] (enc b cy X S0) := hG
  obtain ⟨H, eH⟩ : ∃ H, H = s.heap := ⟨_, rfl⟩
  obtain ⟨locs, elocs⟩ : ∃ locs : List Loc, locs = [] := ⟨_, rfl⟩
  rw [← eH, ← elocs] at hG
  rw [← eH, ← elocs]
  clear eH elocs
  unfold mX12_told at hM
  refine lv_iload_n hx hb dX12_told_0 rfl (lv_at hl 1 rfl) ?_
  obtain ⟨hg_1, hM⟩ := gd_some hM
  refine gi_if_ne (tgt := 11) hx hb dX12_told_1 (by decide) hg_1 (fun c_2 => ?_) (fun c_2 => ?_)
  · replace hM := ifn hM c_2
    refine lv_iload_n hx hb dX12_told_11 rfl (lv_at hl 1 rfl) ?_
    refine lv_iconst (v := iI 1) hx hb dX12_told_12 (by decide) ?_
    refine gi_icmp_ne (tgt := 23) hx hb dX12_told_13 (by decide) hg_1 (by decide) (fun c_3 => ?_) (fun c_3 => ?_)
    · replace hM := ifn hM c_3
      refine lv_iconst (v := iI (-1)) hx hb dX12_told_23 (by decide) ?_
      cases hM
      exact g_iret S hr hlk hG hsz dX12_told_24 ⟨Nat.le_of_ble_eq_true rfl, Nat.le_of_ble_eq_true rfl⟩ ⟨rfl, rfl⟩
    · replace hM := ifp hM c_3
      refine lv_aload_n hx hb dX12_told_16 rfl (lv_at hl 0 rfl) ?_
      refine m_get S hG 80 83 43 rfl ec_83 cpX12 wm_1716 dX12_told_17 rfl (Nat.lt_of_lt_of_le (Nat.le_of_ble_eq_true rfl) hn) (by decide) ?_
      refine lv_goto (tgt := 24) hx hb dX12_told_20 (by decide) ?_
      cases hM
      exact g_iret S hr hlk hG hsz dX12_told_24 ⟨Nat.le_of_ble_eq_true rfl, Nat.le_of_ble_eq_true rfl⟩ ⟨rfl, rfl⟩
  · replace hM := ifp hM c_2
    refine lv_aload_n hx hb dX12_told_4 rfl (lv_at hl 0 rfl) ?_
    refine m_get S hG 80 83 42 rfl ec_83 cpX12 wm_1715 dX12_told_5 rfl (Nat.lt_of_lt_of_le (Nat.le_of_ble_eq_true rfl) hn) (by decide) ?_
    refine lv_goto (tgt := 24) hx hb dX12_told_8 (by decide) ?_
    cases hM
    exact g_iret S hr hlk hG hsz dX12_told_24 ⟨Nat.le_of_ble_eq_true rfl, Nat.le_of_ble_eq_true rfl⟩ ⟨rfl, rfl⟩
theorem wV_12_534 : gWV "GrownKindsModel" 534 yX12_whyNone cX12_whyNone 3 (some .int) := ⟨wm_2354, wm_2356, wm_170, wm_188, wm_2357, by decide +kernel, by decide +kernel⟩
theorem wS_12_542 : gWS "GrownKindsModel" 542 yX12_part cX12_part 3 (some .int) := ⟨wm_2378, wm_2379, wm_188, wm_2380, by decide +kernel, by decide +kernel⟩
def mX12_chance (S0 : St) (a1 : Int) (a2 : Int) (a3 : Int) (a4 : Int) : Option (Int × St) := bd1 (mX12_isTerm S0 a1 a3) fun r_2 => bd2 (gd (inI r_2) <| if r_2 = 0 then (some ((-2), S0)) else (gd (inI a4) <| bd1 (mX12_in a4 0 1) fun r_19 => gd (inI r_19) <| if r_19 = 0 then (some ((-2), S0)) else (bd2 (mX12_whyNone S0 a1 a2) fun r_23 S_24 => some (r_23, S_24)))) fun z_3 S_4 => gd (inI z_3) <| if 0 ≤ z_3 then (bd1 (mX12_byTerm S_4 a1 a2 a3) fun r_10 => bd1 (mX12_kindMany S_4 a1 a2) fun r_12 => bd1 (mX12_part r_10 r_12 a4) fun r_14 => some (r_14, S_4)) else (some (z_3, S_4))
set_option maxHeartbeats 4000000 in
set_option maxRecDepth 100000 in
theorem vX12_chance (l : Launch) {D : va_G} {cy : Nat → ClassId} {b n : Nat} (hn : 102 ≤ n) {X : Nat → va_E} {S0 : St} (a1 : Int) (a2 : Int) (a3 : Int) (a4 : Int) {o1 : Int} {o2 : St} (hM : mX12_chance S0 a1 a2 a3 a4 = some (o1, o2)) : gI l yX12_chance cX12_chance 6 (some .int) 7 0 0 D cy b n (enc b cy X S0) [.ref (b + 80), .int (iI a1), .int (iI a2), .int (iI a3), .int (iI a4)] (fun r u => r = iI o1 ∧ u = (n, enc b cy X o2)) := by
  refine gI_of (by decide) (Nat.le_of_ble_eq_true rfl) ?_
  intro p e s m args below meth c S hr hlk hin hsz ls hl hG
  have hx := S.1
  have hb := S.2.1
  have hl : lv_has ls 6 [(0, .ref (b + 80)), (1, .int (iI a1)), (2, .int (iI a2)), (3, .int (iI a3)), (4, .int (iI a4))] := hl
  replace hG : gW D cy b n s s.heap [] (enc b cy X S0) := hG
  obtain ⟨H, eH⟩ : ∃ H, H = s.heap := ⟨_, rfl⟩
  obtain ⟨locs, elocs⟩ : ∃ locs : List Loc, locs = [] := ⟨_, rfl⟩
  rw [← eH, ← elocs] at hG
  rw [← eH, ← elocs]
  clear eH elocs
  unfold mX12_chance at hM
  refine lv_aload_n hx hb dX12_chance_0 rfl (lv_at hl 0 rfl) ?_
  refine lv_iload_n hx hb dX12_chance_1 rfl (lv_at hl 1 rfl) ?_
  refine lv_iload_n hx hb dX12_chance_2 rfl (lv_at hl 3 rfl) ?_
  obtain ⟨r_2, hc_1, hM⟩ := bd1_some hM
  refine g_vi (As := [.int (iI a1), .int (iI a3)]) (rest := []) S hG hsz (vX12_isTerm l hn a1 a3 hc_1) wV_12_344 (ec_83 _) cpX12 (Nat.lt_of_lt_of_le (Nat.le_of_ble_eq_true rfl) hn) dX12_chance_3 rfl hl.1 (ar := 2) (by decide +kernel) rfl ⟨Nat.le_of_ble_eq_true rfl, Nat.le_of_ble_eq_true rfl, Nat.le_of_ble_eq_true rfl, Nat.le_of_ble_eq_true rfl⟩ (Nat.le_of_ble_eq_true rfl) (fun rv uu H locs hp hG => ?_)
  obtain ⟨rfl, rfl⟩ := hp
  replace hG : gW D cy b n s H locs (enc b cy X S0) := hG
  obtain ⟨z_3, S_4, hc_5, hM⟩ := bd2_some hM
  have hK_6 : ∀ (H : Heap) (locs : List Loc) (ls : Array Slot), gW D cy b n s H locs (enc b cy X S_4) → lv_has ls 6 [(0, .ref (b + 80)), (1, .int (iI a1)), (2, .int (iI a2)), (3, .int (iI a3)), (4, .int (iI a4))] → W p l e (gRm 7 0 0) s m args below meth c H locs 0 0 (gQI D cy b s args below 0 0 (fun r u => r = iI o1 ∧ u = (n, enc b cy X o2))) (F0 m 31 ls [.int (iI z_3)]) := by
    intro H locs ls hG hl
    refine lv_istore (lv' := [(5, .int (iI z_3)), (0, .ref (b + 80)), (1, .int (iI a1)), (2, .int (iI a2)), (3, .int (iI a3)), (4, .int (iI a4))]) hx hb dX12_chance_31 hl (by decide) rfl (fun ls hl => ?_)
    refine lv_iload hx hb dX12_chance_33 (lv_at hl 0 rfl) ?_
    obtain ⟨hg_7, hM⟩ := gd_some hM
    refine gi_if_ge (tgt := 43) hx hb dX12_chance_35 (by decide) hg_7 (fun c_8 => ?_) (fun c_8 => ?_)
    · replace hM := ifp hM c_8
      refine lv_aload_n hx hb dX12_chance_43 rfl (lv_at hl 1 rfl) ?_
      refine lv_iload_n hx hb dX12_chance_44 rfl (lv_at hl 2 rfl) ?_
      refine lv_iload_n hx hb dX12_chance_45 rfl (lv_at hl 3 rfl) ?_
      refine lv_iload_n hx hb dX12_chance_46 rfl (lv_at hl 4 rfl) ?_
      obtain ⟨r_10, hc_9, hM⟩ := bd1_some hM
      refine g_vl (As := [.int (iI a1), .int (iI a2), .int (iI a3)]) (rest := []) S hG hsz (vX12_byTerm l hn a1 a2 a3 hc_9) wV_12_347 (ec_83 _) cpX12 (Nat.lt_of_lt_of_le (Nat.le_of_ble_eq_true rfl) hn) dX12_chance_47 rfl hl.1 (ar := 3) (by decide +kernel) rfl ⟨Nat.le_of_ble_eq_true rfl, Nat.le_of_ble_eq_true rfl, Nat.le_of_ble_eq_true rfl, Nat.le_of_ble_eq_true rfl⟩ (Nat.le_of_ble_eq_true rfl) (fun rv uu H locs hp hG => ?_)
      obtain ⟨rfl, rfl⟩ := hp
      replace hG : gW D cy b n s H locs (enc b cy X S_4) := hG
      refine gj_l2i hx hb dX12_chance_50 ?_
      refine lv_aload_n hx hb dX12_chance_51 rfl (lv_at hl 1 rfl) ?_
      refine lv_iload_n hx hb dX12_chance_52 rfl (lv_at hl 2 rfl) ?_
      refine lv_iload_n hx hb dX12_chance_53 rfl (lv_at hl 3 rfl) ?_
      obtain ⟨r_12, hc_11, hM⟩ := bd1_some hM
      refine g_vl (As := [.int (iI a1), .int (iI a2)]) (rest := [.int (iI r_10)]) S hG hsz (vX12_kindMany l hn a1 a2 hc_11) wV_12_320 (ec_83 _) cpX12 (Nat.lt_of_lt_of_le (Nat.le_of_ble_eq_true rfl) hn) dX12_chance_54 rfl hl.1 (ar := 2) (by decide +kernel) rfl ⟨Nat.le_of_ble_eq_true rfl, Nat.le_of_ble_eq_true rfl, Nat.le_of_ble_eq_true rfl, Nat.le_of_ble_eq_true rfl⟩ (Nat.le_of_ble_eq_true rfl) (fun rv uu H locs hp hG => ?_)
      obtain ⟨rfl, rfl⟩ := hp
      replace hG : gW D cy b n s H locs (enc b cy X S_4) := hG
      refine gj_l2i hx hb dX12_chance_57 ?_
      refine lv_iload hx hb dX12_chance_58 (lv_at hl 5 rfl) ?_
      obtain ⟨r_14, hc_13, hM⟩ := bd1_some hM
      refine g_si (As := [.int (iI r_10), .int (iI r_12), .int (iI a4)]) (rest := []) S hG hsz (vX12_part l hn r_10 r_12 a4 hc_13) wS_12_542 dX12_chance_60 rfl hl.1 (ar := 3) (by decide +kernel) rfl ⟨Nat.le_of_ble_eq_true rfl, Nat.le_of_ble_eq_true rfl, Nat.le_of_ble_eq_true rfl, Nat.le_of_ble_eq_true rfl⟩ (Nat.le_of_ble_eq_true rfl) (fun rv uu H locs hp hG => ?_)
      obtain ⟨rfl, rfl⟩ := hp
      replace hG : gW D cy b n s H locs (enc b cy X S_4) := hG
      cases hM
      exact g_iret S hr hlk hG hsz dX12_chance_63 ⟨Nat.le_of_ble_eq_true rfl, Nat.le_of_ble_eq_true rfl⟩ ⟨rfl, rfl⟩
    · replace hM := ifn hM c_8
      refine lv_iload hx hb dX12_chance_38 (lv_at hl 0 rfl) ?_
      refine lv_goto (tgt := 63) hx hb dX12_chance_40 (by decide) ?_
      cases hM
      exact g_iret S hr hlk hG hsz dX12_chance_63 ⟨Nat.le_of_ble_eq_true rfl, Nat.le_of_ble_eq_true rfl⟩ ⟨rfl, rfl⟩
  clear hM
  replace hM := hc_5
  obtain ⟨hg_15, hM⟩ := gd_some hM
  refine gi_if_eq (tgt := 29) hx hb dX12_chance_6 (by decide) hg_15 (fun c_16 => ?_) (fun c_16 => ?_)
  · replace hM := ifp hM c_16
    refine lv_bipush (v := iI (-2)) hx hb dX12_chance_29 (by decide) ?_
    cases hM
    exact hK_6 H locs ls hG (lv_sub hl [0, 1, 2, 3, 4] rfl)
  · replace hM := ifn hM c_16
    refine lv_iload hx hb dX12_chance_9 (lv_at hl 4 rfl) ?_
    obtain ⟨hg_17, hM⟩ := gd_some hM
    refine gi_i2l hx hb dX12_chance_11 hg_17 ?_
    refine lv_lconst (v := jJ 0) hx hb dX12_chance_12 (by decide) ?_
    refine lv_lconst (v := jJ 1) hx hb dX12_chance_13 (by decide) ?_
    obtain ⟨r_19, hc_18, hM⟩ := bd1_some hM
    refine g_si (As := [.long (jJ a4), .long (jJ 0), .long (jJ 1)]) (rest := []) S hG hsz (vX12_in l hn a4 0 1 hc_18) wS_12_97 dX12_chance_14 rfl hl.1 (ar := 3) (by decide +kernel) rfl ⟨Nat.le_of_ble_eq_true rfl, Nat.le_of_ble_eq_true rfl, Nat.le_of_ble_eq_true rfl, Nat.le_of_ble_eq_true rfl⟩ (Nat.le_of_ble_eq_true rfl) (fun rv uu H locs hp hG => ?_)
    obtain ⟨rfl, rfl⟩ := hp
    replace hG : gW D cy b n s H locs (enc b cy X S0) := hG
    obtain ⟨hg_20, hM⟩ := gd_some hM
    refine gi_if_eq (tgt := 29) hx hb dX12_chance_17 (by decide) hg_20 (fun c_21 => ?_) (fun c_21 => ?_)
    · replace hM := ifp hM c_21
      refine lv_bipush (v := iI (-2)) hx hb dX12_chance_29 (by decide) ?_
      cases hM
      exact hK_6 H locs ls hG (lv_sub hl [0, 1, 2, 3, 4] rfl)
    · replace hM := ifn hM c_21
      refine lv_aload_n hx hb dX12_chance_20 rfl (lv_at hl 0 rfl) ?_
      refine lv_iload_n hx hb dX12_chance_21 rfl (lv_at hl 1 rfl) ?_
      refine lv_iload_n hx hb dX12_chance_22 rfl (lv_at hl 2 rfl) ?_
      obtain ⟨r_23, S_24, hc_22, hM⟩ := bd2_some hM
      refine g_vi (As := [.int (iI a1), .int (iI a2)]) (rest := []) S hG hsz (vX12_whyNone l hn a1 a2 hc_22) wV_12_534 (ec_83 _) cpX12 (Nat.lt_of_lt_of_le (Nat.le_of_ble_eq_true rfl) hn) dX12_chance_23 rfl hl.1 (ar := 2) (by decide +kernel) rfl ⟨Nat.le_of_ble_eq_true rfl, Nat.le_of_ble_eq_true rfl, Nat.le_of_ble_eq_true rfl, Nat.le_of_ble_eq_true rfl⟩ (Nat.le_of_ble_eq_true rfl) (fun rv uu H locs hp hG => ?_)
      obtain ⟨rfl, rfl⟩ := hp
      replace hG : gW D cy b n s H locs (enc b cy X S_24) := hG
      refine lv_goto (tgt := 31) hx hb dX12_chance_26 (by decide) ?_
      cases hM
      exact hK_6 H locs ls hG (lv_sub hl [0, 1, 2, 3, 4] rfl)
theorem wV_12_545 : gWV "GrownKindsModel" 545 yX12_isBox cX12_isBox 4 (some .boolean) := ⟨wm_2392, wm_2394, wm_172, wm_188, wm_2395, by decide +kernel, by decide +kernel⟩
def mX12_boxed (S0 : St) (a1 : Int) (a2 : Int) (a3 : Int) : Option (Int × St) := bd1 (mX12_isBox S0 a1 a2 a3) fun r_2 => gd (inI r_2) <| if r_2 = 0 then (some ((-2), S0)) else (bd1 (mX12_counts S0 (-1)) fun S_6 => bd1 (mX12_upTo S_6 a1 a2 a3) fun r_8 => some (r_8, S_6))
set_option maxHeartbeats 4000000 in
set_option maxRecDepth 100000 in
theorem vX12_boxed (l : Launch) {D : va_G} {cy : Nat → ClassId} {b n : Nat} (hn : 102 ≤ n) {X : Nat → va_E} {S0 : St} (a1 : Int) (a2 : Int) (a3 : Int) {o1 : Int} {o2 : St} (hM : mX12_boxed S0 a1 a2 a3 = some (o1, o2)) : gL l yX12_boxed cX12_boxed 4 6 0 0 D cy b n (enc b cy X S0) [.ref (b + 80), .int (iI a1), .int (iI a2), .int (iI a3)] (fun r u => r = jJ o1 ∧ u = (n, enc b cy X o2)) := by
  refine gL_of (by decide) (Nat.le_of_ble_eq_true rfl) ?_
  intro p e s m args below meth c S hr hlk hin hsz ls hl hG
  have hx := S.1
  have hb := S.2.1
  have hl : lv_has ls 4 [(0, .ref (b + 80)), (1, .int (iI a1)), (2, .int (iI a2)), (3, .int (iI a3))] := hl
  replace hG : gW D cy b n s s.heap [] (enc b cy X S0) := hG
  obtain ⟨H, eH⟩ : ∃ H, H = s.heap := ⟨_, rfl⟩
  obtain ⟨locs, elocs⟩ : ∃ locs : List Loc, locs = [] := ⟨_, rfl⟩
  rw [← eH, ← elocs] at hG
  rw [← eH, ← elocs]
  clear eH elocs
  unfold mX12_boxed at hM
  refine lv_aload_n hx hb dX12_boxed_0 rfl (lv_at hl 0 rfl) ?_
  refine lv_iload_n hx hb dX12_boxed_1 rfl (lv_at hl 1 rfl) ?_
  refine lv_iload_n hx hb dX12_boxed_2 rfl (lv_at hl 2 rfl) ?_
  refine lv_iload_n hx hb dX12_boxed_3 rfl (lv_at hl 3 rfl) ?_
  obtain ⟨r_2, hc_1, hM⟩ := bd1_some hM
  refine g_vi (As := [.int (iI a1), .int (iI a2), .int (iI a3)]) (rest := []) S hG hsz (vX12_isBox l hn a1 a2 a3 hc_1) wV_12_545 (ec_83 _) cpX12 (Nat.lt_of_lt_of_le (Nat.le_of_ble_eq_true rfl) hn) dX12_boxed_4 rfl hl.1 (ar := 3) (by decide +kernel) rfl ⟨Nat.le_of_ble_eq_true rfl, Nat.le_of_ble_eq_true rfl, Nat.le_of_ble_eq_true rfl, Nat.le_of_ble_eq_true rfl⟩ (Nat.le_of_ble_eq_true rfl) (fun rv uu H locs hp hG => ?_)
  obtain ⟨rfl, rfl⟩ := hp
  replace hG : gW D cy b n s H locs (enc b cy X S0) := hG
  obtain ⟨hg_3, hM⟩ := gd_some hM
  refine gi_if_ne (tgt := 14) hx hb dX12_boxed_7 (by decide) hg_3 (fun c_4 => ?_) (fun c_4 => ?_)
  · replace hM := ifn hM c_4
    refine lv_aload_n hx hb dX12_boxed_14 rfl (lv_at hl 0 rfl) ?_
    refine lv_iconst (v := iI (-1)) hx hb dX12_boxed_15 (by decide) ?_
    obtain ⟨S_6, hc_5, hM⟩ := bd1_some hM
    refine g_vv (As := [.int (iI (-1))]) (rest := []) S hG hsz (vX12_counts l hn (-1) hc_5) wV_12_324 (ec_83 _) cpX12 (Nat.lt_of_lt_of_le (Nat.le_of_ble_eq_true rfl) hn) dX12_boxed_16 rfl hl.1 (ar := 1) (by decide +kernel) rfl ⟨Nat.le_of_ble_eq_true rfl, Nat.le_of_ble_eq_true rfl, Nat.le_of_ble_eq_true rfl, Nat.le_of_ble_eq_true rfl⟩ (Nat.le_of_ble_eq_true rfl) (fun uu H locs hp hG => ?_)
    obtain rfl := hp
    replace hG : gW D cy b n s H locs (enc b cy X S_6) := hG
    refine lv_aload_n hx hb dX12_boxed_19 rfl (lv_at hl 0 rfl) ?_
    refine lv_iload_n hx hb dX12_boxed_20 rfl (lv_at hl 1 rfl) ?_
    refine lv_iload_n hx hb dX12_boxed_21 rfl (lv_at hl 2 rfl) ?_
    refine lv_iload_n hx hb dX12_boxed_22 rfl (lv_at hl 3 rfl) ?_
    obtain ⟨r_8, hc_7, hM⟩ := bd1_some hM
    refine g_vl (As := [.int (iI a1), .int (iI a2), .int (iI a3)]) (rest := []) S hG hsz (vX12_upTo l hn a1 a2 a3 hc_7) wV_12_327 (ec_83 _) cpX12 (Nat.lt_of_lt_of_le (Nat.le_of_ble_eq_true rfl) hn) dX12_boxed_23 rfl hl.1 (ar := 3) (by decide +kernel) rfl ⟨Nat.le_of_ble_eq_true rfl, Nat.le_of_ble_eq_true rfl, Nat.le_of_ble_eq_true rfl, Nat.le_of_ble_eq_true rfl⟩ (Nat.le_of_ble_eq_true rfl) (fun rv uu H locs hp hG => ?_)
    obtain ⟨rfl, rfl⟩ := hp
    replace hG : gW D cy b n s H locs (enc b cy X S_6) := hG
    cases hM
    exact g_lret S hr hlk hG hsz dX12_boxed_26 ⟨Nat.le_of_ble_eq_true rfl, Nat.le_of_ble_eq_true rfl⟩ ⟨rfl, rfl⟩
  · replace hM := ifp hM c_4
    refine lv_ldc2 (v := -2) hx hb S.2.2.2.1 (S.2.2.2.2 _ wm_2101) dX12_boxed_10 ?_
    refine gj_as (-2) (by decide) ?_
    cases hM
    exact g_lret S hr hlk hG hsz dX12_boxed_13 ⟨Nat.le_of_ble_eq_true rfl, Nat.le_of_ble_eq_true rfl⟩ ⟨rfl, rfl⟩
def mX12_inBox (S0 : St) (a1 : Int) (a2 : Int) (a3 : Int) (a4 : Int) : Option (Int × St) := bd1 (mX12_isBox S0 a1 a2 a3) fun r_2 => gd (inI r_2) <| if r_2 = 0 then (some ((-2), S0)) else (bd1 (mX12_counts S0 (-1)) fun S_6 => bd1 (mX12_upTo S_6 a1 a2 a3) fun r_8 => gd (inI a4) <| gd ((inL r_8) ∧ (inL a4)) <| if r_8 ≤ a4 then (if r_8 = 0 then (some ((-1), S_6)) else (some (r_8, S_6))) else (some ((-3), S_6)))
set_option maxHeartbeats 4000000 in
set_option maxRecDepth 100000 in
theorem vX12_inBox (l : Launch) {D : va_G} {cy : Nat → ClassId} {b n : Nat} (hn : 102 ≤ n) {X : Nat → va_E} {S0 : St} (a1 : Int) (a2 : Int) (a3 : Int) (a4 : Int) {o1 : Int} {o2 : St} (hM : mX12_inBox S0 a1 a2 a3 a4 = some (o1, o2)) : gI l yX12_inBox cX12_inBox 7 (some .int) 6 0 0 D cy b n (enc b cy X S0) [.ref (b + 80), .int (iI a1), .int (iI a2), .int (iI a3), .int (iI a4)] (fun r u => r = iI o1 ∧ u = (n, enc b cy X o2)) := by
  refine gI_of (by decide) (Nat.le_of_ble_eq_true rfl) ?_
  intro p e s m args below meth c S hr hlk hin hsz ls hl hG
  have hx := S.1
  have hb := S.2.1
  have hl : lv_has ls 7 [(0, .ref (b + 80)), (1, .int (iI a1)), (2, .int (iI a2)), (3, .int (iI a3)), (4, .int (iI a4))] := hl
  replace hG : gW D cy b n s s.heap [] (enc b cy X S0) := hG
  obtain ⟨H, eH⟩ : ∃ H, H = s.heap := ⟨_, rfl⟩
  obtain ⟨locs, elocs⟩ : ∃ locs : List Loc, locs = [] := ⟨_, rfl⟩
  rw [← eH, ← elocs] at hG
  rw [← eH, ← elocs]
  clear eH elocs
  unfold mX12_inBox at hM
  refine lv_aload_n hx hb dX12_inBox_0 rfl (lv_at hl 0 rfl) ?_
  refine lv_iload_n hx hb dX12_inBox_1 rfl (lv_at hl 1 rfl) ?_
  refine lv_iload_n hx hb dX12_inBox_2 rfl (lv_at hl 2 rfl) ?_
  refine lv_iload_n hx hb dX12_inBox_3 rfl (lv_at hl 3 rfl) ?_
  obtain ⟨r_2, hc_1, hM⟩ := bd1_some hM
  refine g_vi (As := [.int (iI a1), .int (iI a2), .int (iI a3)]) (rest := []) S hG hsz (vX12_isBox l hn a1 a2 a3 hc_1) wV_12_545 (ec_83 _) cpX12 (Nat.lt_of_lt_of_le (Nat.le_of_ble_eq_true rfl) hn) dX12_inBox_4 rfl hl.1 (ar := 3) (by decide +kernel) rfl ⟨Nat.le_of_ble_eq_true rfl, Nat.le_of_ble_eq_true rfl, Nat.le_of_ble_eq_true rfl, Nat.le_of_ble_eq_true rfl⟩ (Nat.le_of_ble_eq_true rfl) (fun rv uu H locs hp hG => ?_)
  obtain ⟨rfl, rfl⟩ := hp
  replace hG : gW D cy b n s H locs (enc b cy X S0) := hG
  obtain ⟨hg_3, hM⟩ := gd_some hM
  refine gi_if_ne (tgt := 13) hx hb dX12_inBox_7 (by decide) hg_3 (fun c_4 => ?_) (fun c_4 => ?_)
  · replace hM := ifn hM c_4
    refine lv_aload_n hx hb dX12_inBox_13 rfl (lv_at hl 0 rfl) ?_
    refine lv_iconst (v := iI (-1)) hx hb dX12_inBox_14 (by decide) ?_
    obtain ⟨S_6, hc_5, hM⟩ := bd1_some hM
    refine g_vv (As := [.int (iI (-1))]) (rest := []) S hG hsz (vX12_counts l hn (-1) hc_5) wV_12_324 (ec_83 _) cpX12 (Nat.lt_of_lt_of_le (Nat.le_of_ble_eq_true rfl) hn) dX12_inBox_15 rfl hl.1 (ar := 1) (by decide +kernel) rfl ⟨Nat.le_of_ble_eq_true rfl, Nat.le_of_ble_eq_true rfl, Nat.le_of_ble_eq_true rfl, Nat.le_of_ble_eq_true rfl⟩ (Nat.le_of_ble_eq_true rfl) (fun uu H locs hp hG => ?_)
    obtain rfl := hp
    replace hG : gW D cy b n s H locs (enc b cy X S_6) := hG
    refine lv_aload_n hx hb dX12_inBox_18 rfl (lv_at hl 0 rfl) ?_
    refine lv_iload_n hx hb dX12_inBox_19 rfl (lv_at hl 1 rfl) ?_
    refine lv_iload_n hx hb dX12_inBox_20 rfl (lv_at hl 2 rfl) ?_
    refine lv_iload_n hx hb dX12_inBox_21 rfl (lv_at hl 3 rfl) ?_
    obtain ⟨r_8, hc_7, hM⟩ := bd1_some hM
    refine g_vl (As := [.int (iI a1), .int (iI a2), .int (iI a3)]) (rest := []) S hG hsz (vX12_upTo l hn a1 a2 a3 hc_7) wV_12_327 (ec_83 _) cpX12 (Nat.lt_of_lt_of_le (Nat.le_of_ble_eq_true rfl) hn) dX12_inBox_22 rfl hl.1 (ar := 3) (by decide +kernel) rfl ⟨Nat.le_of_ble_eq_true rfl, Nat.le_of_ble_eq_true rfl, Nat.le_of_ble_eq_true rfl, Nat.le_of_ble_eq_true rfl⟩ (Nat.le_of_ble_eq_true rfl) (fun rv uu H locs hp hG => ?_)
    obtain ⟨rfl, rfl⟩ := hp
    replace hG : gW D cy b n s H locs (enc b cy X S_6) := hG
    refine lv_lstore (lv' := [(5, .long (jJ r_8)), (0, .ref (b + 80)), (1, .int (iI a1)), (2, .int (iI a2)), (3, .int (iI a3)), (4, .int (iI a4))]) hx hb dX12_inBox_25 hl (by decide) rfl (fun ls hl => ?_)
    refine lv_lload hx hb dX12_inBox_27 (lv_at hl 0 rfl) ?_
    refine lv_iload hx hb dX12_inBox_29 (lv_at hl 5 rfl) ?_
    obtain ⟨hg_9, hM⟩ := gd_some hM
    refine gi_i2l hx hb dX12_inBox_31 hg_9 ?_
    obtain ⟨hg_10, hM⟩ := gd_some hM
    refine gj_cmp_le (tgt := 41) hx hb dX12_inBox_32 dX12_inBox_33 (by decide) hg_10.1 hg_10.2 (fun c_11 => ?_) (fun c_11 => ?_)
    · replace hM := ifp hM c_11
      refine lv_lload hx hb dX12_inBox_41 (lv_at hl 0 rfl) ?_
      refine lv_lconst (v := jJ 0) hx hb dX12_inBox_43 (by decide) ?_
      refine gj_cmp_ne (tgt := 52) hx hb dX12_inBox_44 dX12_inBox_45 (by decide) hg_10.1 (by decide) (fun c_12 => ?_) (fun c_12 => ?_)
      · replace hM := ifn hM c_12
        refine lv_lload hx hb dX12_inBox_52 (lv_at hl 0 rfl) ?_
        refine gj_l2i hx hb dX12_inBox_54 ?_
        cases hM
        exact g_iret S hr hlk hG hsz dX12_inBox_55 ⟨Nat.le_of_ble_eq_true rfl, Nat.le_of_ble_eq_true rfl⟩ ⟨rfl, rfl⟩
      · replace hM := ifp hM c_12
        refine lv_iconst (v := iI (-1)) hx hb dX12_inBox_48 (by decide) ?_
        refine lv_goto (tgt := 55) hx hb dX12_inBox_49 (by decide) ?_
        cases hM
        exact g_iret S hr hlk hG hsz dX12_inBox_55 ⟨Nat.le_of_ble_eq_true rfl, Nat.le_of_ble_eq_true rfl⟩ ⟨rfl, rfl⟩
    · replace hM := ifn hM c_11
      refine lv_bipush (v := iI (-3)) hx hb dX12_inBox_36 (by decide) ?_
      refine lv_goto (tgt := 55) hx hb dX12_inBox_38 (by decide) ?_
      cases hM
      exact g_iret S hr hlk hG hsz dX12_inBox_55 ⟨Nat.le_of_ble_eq_true rfl, Nat.le_of_ble_eq_true rfl⟩ ⟨rfl, rfl⟩
  · replace hM := ifp hM c_4
    refine lv_bipush (v := iI (-2)) hx hb dX12_inBox_10 (by decide) ?_
    cases hM
    exact g_iret S hr hlk hG hsz dX12_inBox_12 ⟨Nat.le_of_ble_eq_true rfl, Nat.le_of_ble_eq_true rfl⟩ ⟨rfl, rfl⟩
theorem wV_12_549 : gWV "GrownKindsModel" 549 yX12_inBox cX12_inBox 7 (some .int) := ⟨wm_2401, wm_2403, wm_173, wm_188, wm_2404, by decide +kernel, by decide +kernel⟩
theorem wS_12_552 : gWS "GrownKindsModel" 552 yX12_bitsFor cX12_bitsFor 3 (some .int) := ⟨wm_2405, wm_2406, wm_188, wm_2407, by decide +kernel, by decide +kernel⟩
def mX12_bits (S0 : St) (a1 : Int) (a2 : Int) (a3 : Int) : Option (Int × St) := bd2 (mX12_inBox S0 a1 a2 a3 1000000) fun r_2 S_3 => gd (inI r_2) <| if 0 ≤ r_2 then (bd1 (mX12_bitsFor r_2) fun r_7 => some (r_7, S_3)) else (some (r_2, S_3))
set_option maxHeartbeats 4000000 in
set_option maxRecDepth 100000 in
theorem vX12_bits (l : Launch) {D : va_G} {cy : Nat → ClassId} {b n : Nat} (hn : 102 ≤ n) {X : Nat → va_E} {S0 : St} (a1 : Int) (a2 : Int) (a3 : Int) {o1 : Int} {o2 : St} (hM : mX12_bits S0 a1 a2 a3 = some (o1, o2)) : gI l yX12_bits cX12_bits 5 (some .int) 7 0 0 D cy b n (enc b cy X S0) [.ref (b + 80), .int (iI a1), .int (iI a2), .int (iI a3)] (fun r u => r = iI o1 ∧ u = (n, enc b cy X o2)) := by
  refine gI_of (by decide) (Nat.le_of_ble_eq_true rfl) ?_
  intro p e s m args below meth c S hr hlk hin hsz ls hl hG
  have hx := S.1
  have hb := S.2.1
  have hl : lv_has ls 5 [(0, .ref (b + 80)), (1, .int (iI a1)), (2, .int (iI a2)), (3, .int (iI a3))] := hl
  replace hG : gW D cy b n s s.heap [] (enc b cy X S0) := hG
  obtain ⟨H, eH⟩ : ∃ H, H = s.heap := ⟨_, rfl⟩
  obtain ⟨locs, elocs⟩ : ∃ locs : List Loc, locs = [] := ⟨_, rfl⟩
  rw [← eH, ← elocs] at hG
  rw [← eH, ← elocs]
  clear eH elocs
  unfold mX12_bits at hM
  refine lv_aload_n hx hb dX12_bits_0 rfl (lv_at hl 0 rfl) ?_
  refine lv_iload_n hx hb dX12_bits_1 rfl (lv_at hl 1 rfl) ?_
  refine lv_iload_n hx hb dX12_bits_2 rfl (lv_at hl 2 rfl) ?_
  refine lv_iload_n hx hb dX12_bits_3 rfl (lv_at hl 3 rfl) ?_
  refine lv_ldcw (v := 1000000) hx hb S.2.2.2.1 (S.2.2.2.2 _ wm_2400) dX12_bits_4 ?_
  refine gi_as 1000000 (by decide) ?_
  obtain ⟨r_2, S_3, hc_1, hM⟩ := bd2_some hM
  refine g_vi (As := [.int (iI a1), .int (iI a2), .int (iI a3), .int (iI 1000000)]) (rest := []) S hG hsz (vX12_inBox l hn a1 a2 a3 1000000 hc_1) wV_12_549 (ec_83 _) cpX12 (Nat.lt_of_lt_of_le (Nat.le_of_ble_eq_true rfl) hn) dX12_bits_7 rfl hl.1 (ar := 4) (by decide +kernel) rfl ⟨Nat.le_of_ble_eq_true rfl, Nat.le_of_ble_eq_true rfl, Nat.le_of_ble_eq_true rfl, Nat.le_of_ble_eq_true rfl⟩ (Nat.le_of_ble_eq_true rfl) (fun rv uu H locs hp hG => ?_)
  obtain ⟨rfl, rfl⟩ := hp
  replace hG : gW D cy b n s H locs (enc b cy X S_3) := hG
  refine lv_istore (lv' := [(4, .int (iI r_2)), (0, .ref (b + 80)), (1, .int (iI a1)), (2, .int (iI a2)), (3, .int (iI a3))]) hx hb dX12_bits_10 hl (by decide) rfl (fun ls hl => ?_)
  refine lv_iload hx hb dX12_bits_12 (lv_at hl 0 rfl) ?_
  obtain ⟨hg_4, hM⟩ := gd_some hM
  refine gi_if_ge (tgt := 22) hx hb dX12_bits_14 (by decide) hg_4 (fun c_5 => ?_) (fun c_5 => ?_)
  · replace hM := ifp hM c_5
    refine lv_iload hx hb dX12_bits_22 (lv_at hl 0 rfl) ?_
    refine gi_i2l hx hb dX12_bits_24 hg_4 ?_
    obtain ⟨r_7, hc_6, hM⟩ := bd1_some hM
    refine g_si (As := [.long (jJ r_2)]) (rest := []) S hG hsz (vX12_bitsFor l hn r_2 hc_6) wS_12_552 dX12_bits_25 rfl hl.1 (ar := 1) (by decide +kernel) rfl ⟨Nat.le_of_ble_eq_true rfl, Nat.le_of_ble_eq_true rfl, Nat.le_of_ble_eq_true rfl, Nat.le_of_ble_eq_true rfl⟩ (Nat.le_of_ble_eq_true rfl) (fun rv uu H locs hp hG => ?_)
    obtain ⟨rfl, rfl⟩ := hp
    replace hG : gW D cy b n s H locs (enc b cy X S_3) := hG
    cases hM
    exact g_iret S hr hlk hG hsz dX12_bits_28 ⟨Nat.le_of_ble_eq_true rfl, Nat.le_of_ble_eq_true rfl⟩ ⟨rfl, rfl⟩
  · replace hM := ifn hM c_5
    refine lv_iload hx hb dX12_bits_17 (lv_at hl 0 rfl) ?_
    refine lv_goto (tgt := 28) hx hb dX12_bits_19 (by decide) ?_
    cases hM
    exact g_iret S hr hlk hG hsz dX12_bits_28 ⟨Nat.le_of_ble_eq_true rfl, Nat.le_of_ble_eq_true rfl⟩ ⟨rfl, rfl⟩
def mX12_rankIn_7 (S0 : St) (a1 : Int) : Nat → Int → Int → Option (Int × Int)
  | 0, _, _ => none
  | f + 1, v_2, v_3 => bd1 (mX12_kindMany S0 a1 v_3) fun r_13 => gd ((inL v_2) ∧ (inL r_13)) <| if v_2 < r_13 then (some (v_3, v_2)) else (bd1 (mX12_kindMany S0 a1 v_3) fun r_17 => nx (v_2 - r_17) fun x_18 => mX12_rankIn_7 S0 a1 f x_18 (v_3 + 1))
def mX12_rankIn (S0 : St) (a1 : Int) (a2 : Int) (a3 : Int) : Option (Int × St) := gd (inI a3) <| bd2 (mX12_rankIn_7 S0 a1 FU a3 a2) fun y_4 y_5 => nx (up S0 83 44 y_4) fun S_8 => some (y_5, S_8)
set_option maxHeartbeats 4000000 in
set_option maxRecDepth 100000 in
theorem vX12_rankIn (l : Launch) {D : va_G} {cy : Nat → ClassId} {b n : Nat} (hn : 102 ≤ n) {X : Nat → va_E} {S0 : St} (a1 : Int) (a2 : Int) (a3 : Int) {o1 : Int} {o2 : St} (hM : mX12_rankIn S0 a1 a2 a3 = some (o1, o2)) : gI l yX12_rankIn cX12_rankIn 7 (some .int) 2 0 0 D cy b n (enc b cy X S0) [.ref (b + 80), .int (iI a1), .int (iI a2), .int (iI a3)] (fun r u => r = iI o1 ∧ u = (n, enc b cy X o2)) := by
  refine gI_of (by decide) (Nat.le_of_ble_eq_true rfl) ?_
  intro p e s m args below meth c S hr hlk hin hsz ls hl hG
  have hx := S.1
  have hb := S.2.1
  have hl : lv_has ls 7 [(0, .ref (b + 80)), (1, .int (iI a1)), (2, .int (iI a2)), (3, .int (iI a3))] := hl
  replace hG : gW D cy b n s s.heap [] (enc b cy X S0) := hG
  obtain ⟨H, eH⟩ : ∃ H, H = s.heap := ⟨_, rfl⟩
  obtain ⟨locs, elocs⟩ : ∃ locs : List Loc, locs = [] := ⟨_, rfl⟩
  rw [← eH, ← elocs] at hG
  rw [← eH, ← elocs]
  clear eH elocs
  unfold mX12_rankIn at hM
  refine lv_iload_n hx hb dX12_rankIn_0 rfl (lv_at hl 2 rfl) ?_
  refine lv_istore (lv' := [(4, .int (iI a2)), (0, .ref (b + 80)), (1, .int (iI a1)), (2, .int (iI a2)), (3, .int (iI a3))]) hx hb dX12_rankIn_1 hl (by decide) rfl (fun ls hl => ?_)
  refine lv_iload_n hx hb dX12_rankIn_3 rfl (lv_at hl 4 rfl) ?_
  obtain ⟨hg_1, hM⟩ := gd_some hM
  refine gi_i2l hx hb dX12_rankIn_4 hg_1 ?_
  refine lv_lstore (lv' := [(5, .long (jJ a3)), (4, .int (iI a2)), (0, .ref (b + 80)), (1, .int (iI a1)), (2, .int (iI a2)), (3, .int (iI a3))]) hx hb dX12_rankIn_5 hl (by decide) rfl (fun ls hl => ?_)
  obtain ⟨y_4, y_5, hc_6, hM⟩ := bd2_some hM
  have hK_7 : ∀ (H : Heap) (locs : List Loc) (ls : Array Slot), gW D cy b n s H locs (enc b cy X S0) → lv_has ls 7 [(0, .ref (b + 80)), (4, .int (iI y_4)), (5, .long (jJ y_5))] → W p l e (gRm 2 0 0) s m args below meth c H locs 0 0 (gQI D cy b s args below 0 0 (fun r u => r = iI o1 ∧ u = (n, enc b cy X o2))) (F0 m 38 ls []) := by
    intro H locs ls hG hl
    refine lv_aload_n hx hb dX12_rankIn_38 rfl (lv_at hl 0 rfl) ?_
    refine lv_iload hx hb dX12_rankIn_39 (lv_at hl 1 rfl) ?_
    refine m_put S hG 80 83 44 rfl 44 y_4 ec_83 cpX12 wm_1717 dX12_rankIn_41 (pf_83_44) (Nat.lt_of_lt_of_le (Nat.le_of_ble_eq_true rfl) hn) (by decide) (Nat.le_of_ble_eq_true rfl) rfl rfl rfl (fun H locs S_8 eS_8 hG => ?_)
    replace hM := nx_at hM eS_8
    clear eS_8
    refine lv_lload hx hb dX12_rankIn_44 (lv_at hl 2 rfl) ?_
    refine gj_l2i hx hb dX12_rankIn_46 ?_
    cases hM
    exact g_iret S hr hlk hG hsz dX12_rankIn_47 ⟨Nat.le_of_ble_eq_true rfl, Nat.le_of_ble_eq_true rfl⟩ ⟨rfl, rfl⟩
  have loop_9 : ∀ (f : Nat) (v_2 : Int) (v_3 : Int) (H : Heap) (locs : List Loc) (ls : Array Slot), mX12_rankIn_7 S0 a1 f v_2 v_3 = some (y_4, y_5) → gW D cy b n s H locs (enc b cy X S0) → lv_has ls 7 [(5, .long (jJ v_2)), (4, .int (iI v_3)), (0, .ref (b + 80)), (1, .int (iI a1))] → W p l e (gRm 2 0 0) s m args below meth c H locs 0 0 (gQI D cy b s args below 0 0 (fun r u => r = iI o1 ∧ u = (n, enc b cy X o2))) (F0 m 7 ls []) := by
    clear hM
    intro f
    induction f with
    | zero => intro v_2 v_3 H locs ls hM; rw [mX12_rankIn_7] at hM; cases hM
    | succ f_11 ih_10 =>
      intro v_2 v_3 H locs ls hM hG hl
      rw [mX12_rankIn_7] at hM
      refine lv_lload hx hb dX12_rankIn_7 (lv_at hl 0 rfl) ?_
      refine lv_aload_n hx hb dX12_rankIn_9 rfl (lv_at hl 2 rfl) ?_
      refine lv_iload_n hx hb dX12_rankIn_10 rfl (lv_at hl 3 rfl) ?_
      refine lv_iload hx hb dX12_rankIn_11 (lv_at hl 1 rfl) ?_
      obtain ⟨r_13, hc_12, hM⟩ := bd1_some hM
      refine g_vl (As := [.int (iI a1), .int (iI v_3)]) (rest := [.long (jJ v_2)]) S hG hsz (vX12_kindMany l hn a1 v_3 hc_12) wV_12_320 (ec_83 _) cpX12 (Nat.lt_of_lt_of_le (Nat.le_of_ble_eq_true rfl) hn) dX12_rankIn_13 rfl hl.1 (ar := 2) (by decide +kernel) rfl ⟨Nat.le_of_ble_eq_true rfl, Nat.le_of_ble_eq_true rfl, Nat.le_of_ble_eq_true rfl, Nat.le_of_ble_eq_true rfl⟩ (Nat.le_of_ble_eq_true rfl) (fun rv uu H locs hp hG => ?_)
      obtain ⟨rfl, rfl⟩ := hp
      replace hG : gW D cy b n s H locs (enc b cy X S0) := hG
      obtain ⟨hg_14, hM⟩ := gd_some hM
      refine gj_cmp_lt (tgt := 38) hx hb dX12_rankIn_16 dX12_rankIn_17 (by decide) hg_14.1 hg_14.2 (fun c_15 => ?_) (fun c_15 => ?_)
      · replace hM := ifp hM c_15
        cases hM
        exact hK_7 H locs ls hG (lv_sub hl [2, 1, 0] rfl)
      · replace hM := ifn hM c_15
        refine lv_lload hx hb dX12_rankIn_20 (lv_at hl 0 rfl) ?_
        refine lv_aload_n hx hb dX12_rankIn_22 rfl (lv_at hl 2 rfl) ?_
        refine lv_iload_n hx hb dX12_rankIn_23 rfl (lv_at hl 3 rfl) ?_
        refine lv_iload hx hb dX12_rankIn_24 (lv_at hl 1 rfl) ?_
        obtain ⟨r_17, hc_16, hM⟩ := bd1_some hM
        refine g_vl (As := [.int (iI a1), .int (iI v_3)]) (rest := [.long (jJ v_2)]) S hG hsz (vX12_kindMany l hn a1 v_3 hc_16) wV_12_320 (ec_83 _) cpX12 (Nat.lt_of_lt_of_le (Nat.le_of_ble_eq_true rfl) hn) dX12_rankIn_26 rfl hl.1 (ar := 2) (by decide +kernel) rfl ⟨Nat.le_of_ble_eq_true rfl, Nat.le_of_ble_eq_true rfl, Nat.le_of_ble_eq_true rfl, Nat.le_of_ble_eq_true rfl⟩ (Nat.le_of_ble_eq_true rfl) (fun rv uu H locs hp hG => ?_)
        obtain ⟨rfl, rfl⟩ := hp
        replace hG : gW D cy b n s H locs (enc b cy X S0) := hG
        refine gj_sub hx hb dX12_rankIn_29 ?_
        refine gj_nm (fun x_18 ex_18 => ?_)
        replace hM := nx_at hM ex_18
        clear ex_18
        refine lv_lstore (lv' := [(5, .long (jJ x_18)), (4, .int (iI v_3)), (0, .ref (b + 80)), (1, .int (iI a1))]) hx hb dX12_rankIn_30 hl (by decide) rfl (fun ls hl => ?_)
        refine lv_iinc (v := iI (v_3 + 1)) (lv' := [(4, .int (iI (v_3 + 1))), (5, .long (jJ x_18)), (0, .ref (b + 80)), (1, .int (iI a1))]) hx hb dX12_rankIn_32 hl (k := 1) rfl ((iI_add v_3 (1)).trans (congrArg iI (by omega))) (by decide) rfl (fun ls hl => ?_)
        refine lv_goto (tgt := 7) hx hb dX12_rankIn_35 (by decide) ?_
        exact ih_10 x_18 (v_3 + 1) H locs ls hM hG (lv_sub hl [1, 0, 2, 3] rfl)
  exact loop_9 FU a3 a2 H locs ls hc_6 hG (lv_sub hl [0, 1, 2, 3] rfl)
theorem wV_12_561 : gWV "GrownKindsModel" 561 yX12_rankIn cX12_rankIn 7 (some .int) := ⟨wm_2413, wm_2415, wm_174, wm_188, wm_2416, by decide +kernel, by decide +kernel⟩
def mX12_drawn_72 (S_5 : St) (r_11 : Int) (z_4 : Int) (a1 : Int) (a2 : Int) (a4 : Int) (a5 : Int) : Nat → Int → Int → Option (Int)
  | 0, _, _ => none
  | f + 1, v_15, v_16 => gd (inI r_11) <| if r_11 ≤ 0 then (some (v_16)) else (gd (0 < r_11 ∧ r_11 ≤ 2147483647) <| gd ((inI v_15) ∧ (inI (30 / r_11))) <| if (30 / r_11) ≤ v_15 then (some (v_16)) else (gd (inI v_16) <| if 0 ≤ v_16 then (some (v_16)) else (nx (an (shr a4 (v_15 * r_11)) ((shl 1 r_11) - 1)) fun x_37 => gd (inI x_37) <| if z_4 ≤ x_37 then (mX12_drawn_72 S_5 r_11 z_4 a1 a2 a4 a5 f (v_15 + 1) (-1)) else (mX12_drawn_72 S_5 r_11 z_4 a1 a2 a4 a5 f (v_15 + 1) x_37))))
def mX12_drawn (S0 : St) (a1 : Int) (a2 : Int) (a3 : Int) (a4 : Int) (a5 : Int) : Option (Int × St) := gd (inI a4) <| bd1 (mX12_in a4 0 1073741823) fun r_3 => bd2 (gd (inI r_3) <| if r_3 = 0 then (some ((-2), S0)) else (gd (inI a5) <| bd1 (mX12_in a5 0 1) fun r_46 => gd (inI r_46) <| if r_46 = 0 then (some ((-2), S0)) else (bd2 (mX12_inBox S0 a1 a2 a3 1000000) fun r_50 S_51 => some (r_50, S_51)))) fun z_4 S_5 => gd (inI z_4) <| if 0 ≤ z_4 then (bd1 (mX12_bitsFor z_4) fun r_11 => bd1 (gd (inI r_11) <| if r_11 = 0 then (some (0)) else (some ((-1)))) fun z_12 => bd1 (mX12_drawn_72 S_5 r_11 z_4 a1 a2 a4 a5 FU 0 z_12) fun y_17 => gd (inI y_17) <| if 0 ≤ y_17 then (bd2 (mX12_rankIn S_5 a1 a2 y_17) fun r_23 S_24 => gd (inI a5) <| if a5 = 0 then (some ((S_24 83 44), S_24)) else (some (r_23, S_24))) else (some ((-1), S_5))) else (some (z_4, S_5))
set_option maxHeartbeats 4000000 in
set_option maxRecDepth 100000 in
theorem vX12_drawn (l : Launch) {D : va_G} {cy : Nat → ClassId} {b n : Nat} (hn : 102 ≤ n) {X : Nat → va_E} {S0 : St} (a1 : Int) (a2 : Int) (a3 : Int) (a4 : Int) (a5 : Int) {o1 : Int} {o2 : St} (hM : mX12_drawn S0 a1 a2 a3 a4 a5 = some (o1, o2)) : gI l yX12_drawn cX12_drawn 11 (some .int) 7 0 0 D cy b n (enc b cy X S0) [.ref (b + 80), .int (iI a1), .int (iI a2), .int (iI a3), .int (iI a4), .int (iI a5)] (fun r u => r = iI o1 ∧ u = (n, enc b cy X o2)) := by
  refine gI_of (by decide) (Nat.le_of_ble_eq_true rfl) ?_
  intro p e s m args below meth c S hr hlk hin hsz ls hl hG
  have hx := S.1
  have hb := S.2.1
  have hl : lv_has ls 11 [(0, .ref (b + 80)), (1, .int (iI a1)), (2, .int (iI a2)), (3, .int (iI a3)), (4, .int (iI a4)), (5, .int (iI a5))] := hl
  replace hG : gW D cy b n s s.heap [] (enc b cy X S0) := hG
  obtain ⟨H, eH⟩ : ∃ H, H = s.heap := ⟨_, rfl⟩
  obtain ⟨locs, elocs⟩ : ∃ locs : List Loc, locs = [] := ⟨_, rfl⟩
  rw [← eH, ← elocs] at hG
  rw [← eH, ← elocs]
  clear eH elocs
  unfold mX12_drawn at hM
  refine lv_iload hx hb dX12_drawn_0 (lv_at hl 4 rfl) ?_
  obtain ⟨hg_1, hM⟩ := gd_some hM
  refine gi_i2l hx hb dX12_drawn_2 hg_1 ?_
  refine lv_lconst (v := jJ 0) hx hb dX12_drawn_3 (by decide) ?_
  refine lv_ldc2 (v := 1073741823) hx hb S.2.2.2.1 (S.2.2.2.2 _ wm_2412) dX12_drawn_4 ?_
  refine gj_as 1073741823 (by decide) ?_
  obtain ⟨r_3, hc_2, hM⟩ := bd1_some hM
  refine g_si (As := [.long (jJ a4), .long (jJ 0), .long (jJ 1073741823)]) (rest := []) S hG hsz (vX12_in l hn a4 0 1073741823 hc_2) wS_12_97 dX12_drawn_7 rfl hl.1 (ar := 3) (by decide +kernel) rfl ⟨Nat.le_of_ble_eq_true rfl, Nat.le_of_ble_eq_true rfl, Nat.le_of_ble_eq_true rfl, Nat.le_of_ble_eq_true rfl⟩ (Nat.le_of_ble_eq_true rfl) (fun rv uu H locs hp hG => ?_)
  obtain ⟨rfl, rfl⟩ := hp
  replace hG : gW D cy b n s H locs (enc b cy X S0) := hG
  obtain ⟨z_4, S_5, hc_6, hM⟩ := bd2_some hM
  have hK_7 : ∀ (H : Heap) (locs : List Loc) (ls : Array Slot), gW D cy b n s H locs (enc b cy X S_5) → lv_has ls 11 [(0, .ref (b + 80)), (1, .int (iI a1)), (2, .int (iI a2)), (4, .int (iI a4)), (5, .int (iI a5))] → W p l e (gRm 7 0 0) s m args below meth c H locs 0 0 (gQI D cy b s args below 0 0 (fun r u => r = iI o1 ∧ u = (n, enc b cy X o2))) (F0 m 39 ls [.int (iI z_4)]) := by
    intro H locs ls hG hl
    refine lv_istore (lv' := [(6, .int (iI z_4)), (0, .ref (b + 80)), (1, .int (iI a1)), (2, .int (iI a2)), (4, .int (iI a4)), (5, .int (iI a5))]) hx hb dX12_drawn_39 hl (by decide) rfl (fun ls hl => ?_)
    refine lv_iload hx hb dX12_drawn_41 (lv_at hl 0 rfl) ?_
    obtain ⟨hg_8, hM⟩ := gd_some hM
    refine gi_if_ge (tgt := 49) hx hb dX12_drawn_43 (by decide) hg_8 (fun c_9 => ?_) (fun c_9 => ?_)
    · replace hM := ifp hM c_9
      refine lv_iload hx hb dX12_drawn_49 (lv_at hl 0 rfl) ?_
      refine gi_i2l hx hb dX12_drawn_51 hg_8 ?_
      obtain ⟨r_11, hc_10, hM⟩ := bd1_some hM
      refine g_si (As := [.long (jJ z_4)]) (rest := []) S hG hsz (vX12_bitsFor l hn z_4 hc_10) wS_12_552 dX12_drawn_52 rfl hl.1 (ar := 1) (by decide +kernel) rfl ⟨Nat.le_of_ble_eq_true rfl, Nat.le_of_ble_eq_true rfl, Nat.le_of_ble_eq_true rfl, Nat.le_of_ble_eq_true rfl⟩ (Nat.le_of_ble_eq_true rfl) (fun rv uu H locs hp hG => ?_)
      obtain ⟨rfl, rfl⟩ := hp
      replace hG : gW D cy b n s H locs (enc b cy X S_5) := hG
      refine lv_istore (lv' := [(7, .int (iI r_11)), (6, .int (iI z_4)), (0, .ref (b + 80)), (1, .int (iI a1)), (2, .int (iI a2)), (4, .int (iI a4)), (5, .int (iI a5))]) hx hb dX12_drawn_55 hl (by decide) rfl (fun ls hl => ?_)
      refine lv_iload hx hb dX12_drawn_57 (lv_at hl 0 rfl) ?_
      obtain ⟨z_12, hc_13, hM⟩ := bd1_some hM
      have hK_14 : ∀ (H : Heap) (locs : List Loc) (ls : Array Slot), gW D cy b n s H locs (enc b cy X S_5) → lv_has ls 11 [(7, .int (iI r_11)), (6, .int (iI z_4)), (0, .ref (b + 80)), (1, .int (iI a1)), (2, .int (iI a2)), (4, .int (iI a4)), (5, .int (iI a5))] → W p l e (gRm 7 0 0) s m args below meth c H locs 0 0 (gQI D cy b s args below 0 0 (fun r u => r = iI o1 ∧ u = (n, enc b cy X o2))) (F0 m 67 ls [.int (iI z_12)]) := by
        intro H locs ls hG hl
        refine lv_istore (lv' := [(8, .int (iI z_12)), (7, .int (iI r_11)), (6, .int (iI z_4)), (0, .ref (b + 80)), (1, .int (iI a1)), (2, .int (iI a2)), (4, .int (iI a4)), (5, .int (iI a5))]) hx hb dX12_drawn_67 hl (by decide) rfl (fun ls hl => ?_)
        refine lv_iconst (v := iI 0) hx hb dX12_drawn_69 (by decide) ?_
        refine lv_istore (lv' := [(9, .int (iI 0)), (8, .int (iI z_12)), (7, .int (iI r_11)), (6, .int (iI z_4)), (0, .ref (b + 80)), (1, .int (iI a1)), (2, .int (iI a2)), (4, .int (iI a4)), (5, .int (iI a5))]) hx hb dX12_drawn_70 hl (by decide) rfl (fun ls hl => ?_)
        obtain ⟨y_17, hc_18, hM⟩ := bd1_some hM
        have hK_19 : ∀ (H : Heap) (locs : List Loc) (ls : Array Slot), gW D cy b n s H locs (enc b cy X S_5) → lv_has ls 11 [(0, .ref (b + 80)), (1, .int (iI a1)), (2, .int (iI a2)), (5, .int (iI a5)), (8, .int (iI y_17))] → W p l e (gRm 7 0 0) s m args below meth c H locs 0 0 (gQI D cy b s args below 0 0 (fun r u => r = iI o1 ∧ u = (n, enc b cy X o2))) (F0 m 130 ls []) := by
          intro H locs ls hG hl
          refine lv_iload hx hb dX12_drawn_130 (lv_at hl 4 rfl) ?_
          obtain ⟨hg_20, hM⟩ := gd_some hM
          refine gi_if_ge (tgt := 137) hx hb dX12_drawn_132 (by decide) hg_20 (fun c_21 => ?_) (fun c_21 => ?_)
          · replace hM := ifp hM c_21
            refine lv_aload_n hx hb dX12_drawn_137 rfl (lv_at hl 0 rfl) ?_
            refine lv_iload_n hx hb dX12_drawn_138 rfl (lv_at hl 1 rfl) ?_
            refine lv_iload_n hx hb dX12_drawn_139 rfl (lv_at hl 2 rfl) ?_
            refine lv_iload hx hb dX12_drawn_140 (lv_at hl 4 rfl) ?_
            obtain ⟨r_23, S_24, hc_22, hM⟩ := bd2_some hM
            refine g_vi (As := [.int (iI a1), .int (iI a2), .int (iI y_17)]) (rest := []) S hG hsz (vX12_rankIn l hn a1 a2 y_17 hc_22) wV_12_561 (ec_83 _) cpX12 (Nat.lt_of_lt_of_le (Nat.le_of_ble_eq_true rfl) hn) dX12_drawn_142 rfl hl.1 (ar := 3) (by decide +kernel) rfl ⟨Nat.le_of_ble_eq_true rfl, Nat.le_of_ble_eq_true rfl, Nat.le_of_ble_eq_true rfl, Nat.le_of_ble_eq_true rfl⟩ (Nat.le_of_ble_eq_true rfl) (fun rv uu H locs hp hG => ?_)
            obtain ⟨rfl, rfl⟩ := hp
            replace hG : gW D cy b n s H locs (enc b cy X S_24) := hG
            refine lv_istore (lv' := [(9, .int (iI r_23)), (0, .ref (b + 80)), (1, .int (iI a1)), (2, .int (iI a2)), (5, .int (iI a5)), (8, .int (iI y_17))]) hx hb dX12_drawn_145 hl (by decide) rfl (fun ls hl => ?_)
            refine lv_iload hx hb dX12_drawn_147 (lv_at hl 4 rfl) ?_
            obtain ⟨hg_25, hM⟩ := gd_some hM
            refine gi_if_ne (tgt := 159) hx hb dX12_drawn_149 (by decide) hg_25 (fun c_26 => ?_) (fun c_26 => ?_)
            · replace hM := ifn hM c_26
              refine lv_iload hx hb dX12_drawn_159 (lv_at hl 0 rfl) ?_
              cases hM
              exact g_iret S hr hlk hG hsz dX12_drawn_161 ⟨Nat.le_of_ble_eq_true rfl, Nat.le_of_ble_eq_true rfl⟩ ⟨rfl, rfl⟩
            · replace hM := ifp hM c_26
              refine lv_aload_n hx hb dX12_drawn_152 rfl (lv_at hl 1 rfl) ?_
              refine m_get S hG 80 83 44 rfl ec_83 cpX12 wm_1717 dX12_drawn_153 rfl (Nat.lt_of_lt_of_le (Nat.le_of_ble_eq_true rfl) hn) (by decide) ?_
              refine lv_goto (tgt := 161) hx hb dX12_drawn_156 (by decide) ?_
              cases hM
              exact g_iret S hr hlk hG hsz dX12_drawn_161 ⟨Nat.le_of_ble_eq_true rfl, Nat.le_of_ble_eq_true rfl⟩ ⟨rfl, rfl⟩
          · replace hM := ifn hM c_21
            refine lv_iconst (v := iI (-1)) hx hb dX12_drawn_135 (by decide) ?_
            cases hM
            exact g_iret S hr hlk hG hsz dX12_drawn_136 ⟨Nat.le_of_ble_eq_true rfl, Nat.le_of_ble_eq_true rfl⟩ ⟨rfl, rfl⟩
        have loop_27 : ∀ (f : Nat) (v_15 : Int) (v_16 : Int) (H : Heap) (locs : List Loc) (ls : Array Slot), mX12_drawn_72 S_5 r_11 z_4 a1 a2 a4 a5 f v_15 v_16 = some y_17 → gW D cy b n s H locs (enc b cy X S_5) → lv_has ls 11 [(9, .int (iI v_15)), (8, .int (iI v_16)), (7, .int (iI r_11)), (6, .int (iI z_4)), (0, .ref (b + 80)), (1, .int (iI a1)), (2, .int (iI a2)), (4, .int (iI a4)), (5, .int (iI a5))] → W p l e (gRm 7 0 0) s m args below meth c H locs 0 0 (gQI D cy b s args below 0 0 (fun r u => r = iI o1 ∧ u = (n, enc b cy X o2))) (F0 m 72 ls []) := by
          clear hM
          intro f
          induction f with
          | zero => intro v_15 v_16 H locs ls hM; rw [mX12_drawn_72] at hM; cases hM
          | succ f_29 ih_28 =>
            intro v_15 v_16 H locs ls hM hG hl
            rw [mX12_drawn_72] at hM
            refine lv_iload hx hb dX12_drawn_72 (lv_at hl 2 rfl) ?_
            obtain ⟨hg_30, hM⟩ := gd_some hM
            refine gi_if_le (tgt := 130) hx hb dX12_drawn_74 (by decide) hg_30 (fun c_31 => ?_) (fun c_31 => ?_)
            · replace hM := ifp hM c_31
              cases hM
              exact hK_19 H locs ls hG (lv_sub hl [4, 5, 6, 8, 1] rfl)
            · replace hM := ifn hM c_31
              refine lv_iload hx hb dX12_drawn_77 (lv_at hl 0 rfl) ?_
              refine lv_bipush (v := iI 30) hx hb dX12_drawn_79 (by decide) ?_
              refine lv_iload hx hb dX12_drawn_81 (lv_at hl 2 rfl) ?_
              obtain ⟨hg_32, hM⟩ := gd_some hM
              refine gi_div hx hb dX12_drawn_83 (by decide) hg_32 ?_
              obtain ⟨hg_33, hM⟩ := gd_some hM
              refine gi_icmp_ge (tgt := 130) hx hb dX12_drawn_84 (by decide) hg_33.1 hg_33.2 (fun c_34 => ?_) (fun c_34 => ?_)
              · replace hM := ifp hM c_34
                cases hM
                exact hK_19 H locs ls hG (lv_sub hl [4, 5, 6, 8, 1] rfl)
              · replace hM := ifn hM c_34
                refine lv_iload hx hb dX12_drawn_87 (lv_at hl 1 rfl) ?_
                obtain ⟨hg_35, hM⟩ := gd_some hM
                refine gi_if_ge (tgt := 130) hx hb dX12_drawn_89 (by decide) hg_35 (fun c_36 => ?_) (fun c_36 => ?_)
                · replace hM := ifp hM c_36
                  cases hM
                  exact hK_19 H locs ls hG (lv_sub hl [4, 5, 6, 8, 1] rfl)
                · replace hM := ifn hM c_36
                  refine lv_iload hx hb dX12_drawn_92 (lv_at hl 7 rfl) ?_
                  refine lv_iload hx hb dX12_drawn_94 (lv_at hl 0 rfl) ?_
                  refine lv_iload hx hb dX12_drawn_96 (lv_at hl 2 rfl) ?_
                  refine gi_mul hx hb dX12_drawn_98 ?_
                  refine gi_shr hx hb dX12_drawn_99 ?_
                  refine lv_iconst (v := iI 1) hx hb dX12_drawn_100 (by decide) ?_
                  refine lv_iload hx hb dX12_drawn_101 (lv_at hl 2 rfl) ?_
                  refine gi_shl hx hb dX12_drawn_103 ?_
                  refine lv_iconst (v := iI 1) hx hb dX12_drawn_104 (by decide) ?_
                  refine gi_sub hx hb dX12_drawn_105 ?_
                  refine gi_and hx hb dX12_drawn_106 ?_
                  refine gi_nm (fun x_37 ex_37 => ?_)
                  replace hM := nx_at hM ex_37
                  clear ex_37
                  refine lv_istore (lv' := [(10, .int (iI x_37)), (9, .int (iI v_15)), (8, .int (iI v_16)), (7, .int (iI r_11)), (6, .int (iI z_4)), (0, .ref (b + 80)), (1, .int (iI a1)), (2, .int (iI a2)), (4, .int (iI a4)), (5, .int (iI a5))]) hx hb dX12_drawn_107 hl (by decide) rfl (fun ls hl => ?_)
                  refine lv_iload hx hb dX12_drawn_109 (lv_at hl 0 rfl) ?_
                  refine lv_iload hx hb dX12_drawn_111 (lv_at hl 4 rfl) ?_
                  obtain ⟨hg_38, hM⟩ := gd_some hM
                  refine gi_icmp_ge (tgt := 121) hx hb dX12_drawn_113 (by decide) hg_38 hg_8 (fun c_39 => ?_) (fun c_39 => ?_)
                  · replace hM := ifp hM c_39
                    refine lv_iconst (v := iI (-1)) hx hb dX12_drawn_121 (by decide) ?_
                    refine lv_istore (lv' := [(8, .int (iI (-1))), (10, .int (iI x_37)), (9, .int (iI v_15)), (7, .int (iI r_11)), (6, .int (iI z_4)), (0, .ref (b + 80)), (1, .int (iI a1)), (2, .int (iI a2)), (4, .int (iI a4)), (5, .int (iI a5))]) hx hb dX12_drawn_122 hl (by decide) rfl (fun ls hl => ?_)
                    refine lv_iinc (v := iI (v_15 + 1)) (lv' := [(9, .int (iI (v_15 + 1))), (8, .int (iI (-1))), (10, .int (iI x_37)), (7, .int (iI r_11)), (6, .int (iI z_4)), (0, .ref (b + 80)), (1, .int (iI a1)), (2, .int (iI a2)), (4, .int (iI a4)), (5, .int (iI a5))]) hx hb dX12_drawn_124 hl (k := 2) rfl ((iI_add v_15 (1)).trans (congrArg iI (by omega))) (by decide) rfl (fun ls hl => ?_)
                    refine lv_goto (tgt := 72) hx hb dX12_drawn_127 (by decide) ?_
                    exact ih_28 (v_15 + 1) (-1) H locs ls hM hG (lv_sub hl [0, 1, 3, 4, 5, 6, 7, 8, 9] rfl)
                  · replace hM := ifn hM c_39
                    refine lv_iload hx hb dX12_drawn_116 (lv_at hl 0 rfl) ?_
                    refine lv_goto (tgt := 122) hx hb dX12_drawn_118 (by decide) ?_
                    refine lv_istore (lv' := [(8, .int (iI x_37)), (10, .int (iI x_37)), (9, .int (iI v_15)), (7, .int (iI r_11)), (6, .int (iI z_4)), (0, .ref (b + 80)), (1, .int (iI a1)), (2, .int (iI a2)), (4, .int (iI a4)), (5, .int (iI a5))]) hx hb dX12_drawn_122 hl (by decide) rfl (fun ls hl => ?_)
                    refine lv_iinc (v := iI (v_15 + 1)) (lv' := [(9, .int (iI (v_15 + 1))), (8, .int (iI x_37)), (10, .int (iI x_37)), (7, .int (iI r_11)), (6, .int (iI z_4)), (0, .ref (b + 80)), (1, .int (iI a1)), (2, .int (iI a2)), (4, .int (iI a4)), (5, .int (iI a5))]) hx hb dX12_drawn_124 hl (k := 2) rfl ((iI_add v_15 (1)).trans (congrArg iI (by omega))) (by decide) rfl (fun ls hl => ?_)
                    refine lv_goto (tgt := 72) hx hb dX12_drawn_127 (by decide) ?_
                    exact ih_28 (v_15 + 1) x_37 H locs ls hM hG (lv_sub hl [0, 1, 3, 4, 5, 6, 7, 8, 9] rfl)
        exact loop_27 FU 0 z_12 H locs ls hc_18 hG (lv_sub hl [0, 1, 2, 3, 4, 5, 6, 7, 8] rfl)
      clear hM
      replace hM := hc_13
      obtain ⟨hg_40, hM⟩ := gd_some hM
      refine gi_if_ne (tgt := 66) hx hb dX12_drawn_59 (by decide) hg_40 (fun c_41 => ?_) (fun c_41 => ?_)
      · replace hM := ifn hM c_41
        refine lv_iconst (v := iI (-1)) hx hb dX12_drawn_66 (by decide) ?_
        cases hM
        exact hK_14 H locs ls hG (lv_sub hl [0, 1, 2, 3, 4, 5, 6] rfl)
      · replace hM := ifp hM c_41
        refine lv_iconst (v := iI 0) hx hb dX12_drawn_62 (by decide) ?_
        refine lv_goto (tgt := 67) hx hb dX12_drawn_63 (by decide) ?_
        cases hM
        exact hK_14 H locs ls hG (lv_sub hl [0, 1, 2, 3, 4, 5, 6] rfl)
    · replace hM := ifn hM c_9
      refine lv_iload hx hb dX12_drawn_46 (lv_at hl 0 rfl) ?_
      cases hM
      exact g_iret S hr hlk hG hsz dX12_drawn_48 ⟨Nat.le_of_ble_eq_true rfl, Nat.le_of_ble_eq_true rfl⟩ ⟨rfl, rfl⟩
  clear hM
  replace hM := hc_6
  obtain ⟨hg_42, hM⟩ := gd_some hM
  refine gi_if_eq (tgt := 37) hx hb dX12_drawn_10 (by decide) hg_42 (fun c_43 => ?_) (fun c_43 => ?_)
  · replace hM := ifp hM c_43
    refine lv_bipush (v := iI (-2)) hx hb dX12_drawn_37 (by decide) ?_
    cases hM
    exact hK_7 H locs ls hG (lv_sub hl [0, 1, 2, 4, 5] rfl)
  · replace hM := ifn hM c_43
    refine lv_iload hx hb dX12_drawn_13 (lv_at hl 5 rfl) ?_
    obtain ⟨hg_44, hM⟩ := gd_some hM
    refine gi_i2l hx hb dX12_drawn_15 hg_44 ?_
    refine lv_lconst (v := jJ 0) hx hb dX12_drawn_16 (by decide) ?_
    refine lv_lconst (v := jJ 1) hx hb dX12_drawn_17 (by decide) ?_
    obtain ⟨r_46, hc_45, hM⟩ := bd1_some hM
    refine g_si (As := [.long (jJ a5), .long (jJ 0), .long (jJ 1)]) (rest := []) S hG hsz (vX12_in l hn a5 0 1 hc_45) wS_12_97 dX12_drawn_18 rfl hl.1 (ar := 3) (by decide +kernel) rfl ⟨Nat.le_of_ble_eq_true rfl, Nat.le_of_ble_eq_true rfl, Nat.le_of_ble_eq_true rfl, Nat.le_of_ble_eq_true rfl⟩ (Nat.le_of_ble_eq_true rfl) (fun rv uu H locs hp hG => ?_)
    obtain ⟨rfl, rfl⟩ := hp
    replace hG : gW D cy b n s H locs (enc b cy X S0) := hG
    obtain ⟨hg_47, hM⟩ := gd_some hM
    refine gi_if_eq (tgt := 37) hx hb dX12_drawn_21 (by decide) hg_47 (fun c_48 => ?_) (fun c_48 => ?_)
    · replace hM := ifp hM c_48
      refine lv_bipush (v := iI (-2)) hx hb dX12_drawn_37 (by decide) ?_
      cases hM
      exact hK_7 H locs ls hG (lv_sub hl [0, 1, 2, 4, 5] rfl)
    · replace hM := ifn hM c_48
      refine lv_aload_n hx hb dX12_drawn_24 rfl (lv_at hl 0 rfl) ?_
      refine lv_iload_n hx hb dX12_drawn_25 rfl (lv_at hl 1 rfl) ?_
      refine lv_iload_n hx hb dX12_drawn_26 rfl (lv_at hl 2 rfl) ?_
      refine lv_iload_n hx hb dX12_drawn_27 rfl (lv_at hl 3 rfl) ?_
      refine lv_ldcw (v := 1000000) hx hb S.2.2.2.1 (S.2.2.2.2 _ wm_2400) dX12_drawn_28 ?_
      refine gi_as 1000000 (by decide) ?_
      obtain ⟨r_50, S_51, hc_49, hM⟩ := bd2_some hM
      refine g_vi (As := [.int (iI a1), .int (iI a2), .int (iI a3), .int (iI 1000000)]) (rest := []) S hG hsz (vX12_inBox l hn a1 a2 a3 1000000 hc_49) wV_12_549 (ec_83 _) cpX12 (Nat.lt_of_lt_of_le (Nat.le_of_ble_eq_true rfl) hn) dX12_drawn_31 rfl hl.1 (ar := 4) (by decide +kernel) rfl ⟨Nat.le_of_ble_eq_true rfl, Nat.le_of_ble_eq_true rfl, Nat.le_of_ble_eq_true rfl, Nat.le_of_ble_eq_true rfl⟩ (Nat.le_of_ble_eq_true rfl) (fun rv uu H locs hp hG => ?_)
      obtain ⟨rfl, rfl⟩ := hp
      replace hG : gW D cy b n s H locs (enc b cy X S_51) := hG
      refine lv_goto (tgt := 39) hx hb dX12_drawn_34 (by decide) ?_
      cases hM
      exact hK_7 H locs ls hG (lv_sub hl [0, 1, 2, 4, 5] rfl)
def mX12_deal (S0 : St) (a1 : Int) (a2 : Int) (a3 : Int) (a4 : Int) : Option (Int × St) := gd (inI a4) <| bd1 (mX12_in a4 0 2000000000) fun r_3 => bd2 (gd (inI r_3) <| if r_3 = 0 then (some ((-2), S0)) else (bd2 (mX12_inBox S0 a1 a2 a3 1000) fun r_24 S_25 => some (r_24, S_25))) fun z_4 S_5 => gd (inI z_4) <| if (-1) ≤ z_4 then (nx (up S_5 83 45 1) fun S_10 => nx (up S_10 83 46 a1) fun S_11 => nx (up S_11 83 47 a2) fun S_12 => nx (up S_12 83 48 (max 0 z_4)) fun S_13 => nx (up S_13 83 49 (S_13 83 48)) fun S_14 => gd (inI (S_14 83 48)) <| bd1 (mX12_bitsFor (S_14 83 48)) fun r_17 => nx (up S_14 83 50 (shl 1 r_17)) fun S_18 => gd ((0 ≤ a4 ∧ a4 ≤ 2147483647) ∧ (0 < (S_18 83 50) ∧ (S_18 83 50) ≤ 2147483647)) <| nx (up S_18 83 51 (a4 % (S_18 83 50))) fun S_20 => some ((S_20 83 48), S_20)) else (some (z_4, S_5))
set_option maxHeartbeats 4000000 in
set_option maxRecDepth 100000 in
theorem vX12_deal (l : Launch) {D : va_G} {cy : Nat → ClassId} {b n : Nat} (hn : 102 ≤ n) {X : Nat → va_E} {S0 : St} (a1 : Int) (a2 : Int) (a3 : Int) (a4 : Int) {o1 : Int} {o2 : St} (hM : mX12_deal S0 a1 a2 a3 a4 = some (o1, o2)) : gI l yX12_deal cX12_deal 6 (some .int) 7 0 0 D cy b n (enc b cy X S0) [.ref (b + 80), .int (iI a1), .int (iI a2), .int (iI a3), .int (iI a4)] (fun r u => r = iI o1 ∧ u = (n, enc b cy X o2)) := by
  refine gI_of (by decide) (Nat.le_of_ble_eq_true rfl) ?_
  intro p e s m args below meth c S hr hlk hin hsz ls hl hG
  have hx := S.1
  have hb := S.2.1
  have hl : lv_has ls 6 [(0, .ref (b + 80)), (1, .int (iI a1)), (2, .int (iI a2)), (3, .int (iI a3)), (4, .int (iI a4))] := hl
  replace hG : gW D cy b n s s.heap [] (enc b cy X S0) := hG
  obtain ⟨H, eH⟩ : ∃ H, H = s.heap := ⟨_, rfl⟩
  obtain ⟨locs, elocs⟩ : ∃ locs : List Loc, locs = [] := ⟨_, rfl⟩
  rw [← eH, ← elocs] at hG
  rw [← eH, ← elocs]
  clear eH elocs
  unfold mX12_deal at hM
  refine lv_iload hx hb dX12_deal_0 (lv_at hl 4 rfl) ?_
  obtain ⟨hg_1, hM⟩ := gd_some hM
  refine gi_i2l hx hb dX12_deal_2 hg_1 ?_
  refine lv_lconst (v := jJ 0) hx hb dX12_deal_3 (by decide) ?_
  refine lv_ldc2 (v := 2000000000) hx hb S.2.2.2.1 (S.2.2.2.2 _ wm_2421) dX12_deal_4 ?_
  refine gj_as 2000000000 (by decide) ?_
  obtain ⟨r_3, hc_2, hM⟩ := bd1_some hM
  refine g_si (As := [.long (jJ a4), .long (jJ 0), .long (jJ 2000000000)]) (rest := []) S hG hsz (vX12_in l hn a4 0 2000000000 hc_2) wS_12_97 dX12_deal_7 rfl hl.1 (ar := 3) (by decide +kernel) rfl ⟨Nat.le_of_ble_eq_true rfl, Nat.le_of_ble_eq_true rfl, Nat.le_of_ble_eq_true rfl, Nat.le_of_ble_eq_true rfl⟩ (Nat.le_of_ble_eq_true rfl) (fun rv uu H locs hp hG => ?_)
  obtain ⟨rfl, rfl⟩ := hp
  replace hG : gW D cy b n s H locs (enc b cy X S0) := hG
  obtain ⟨z_4, S_5, hc_6, hM⟩ := bd2_some hM
  have hK_7 : ∀ (H : Heap) (locs : List Loc) (ls : Array Slot), gW D cy b n s H locs (enc b cy X S_5) → lv_has ls 6 [(0, .ref (b + 80)), (1, .int (iI a1)), (2, .int (iI a2)), (4, .int (iI a4))] → W p l e (gRm 7 0 0) s m args below meth c H locs 0 0 (gQI D cy b s args below 0 0 (fun r u => r = iI o1 ∧ u = (n, enc b cy X o2))) (F0 m 28 ls [.int (iI z_4)]) := by
    intro H locs ls hG hl
    refine lv_istore (lv' := [(5, .int (iI z_4)), (0, .ref (b + 80)), (1, .int (iI a1)), (2, .int (iI a2)), (4, .int (iI a4))]) hx hb dX12_deal_28 hl (by decide) rfl (fun ls hl => ?_)
    refine lv_iload hx hb dX12_deal_30 (lv_at hl 0 rfl) ?_
    refine lv_iconst (v := iI (-1)) hx hb dX12_deal_32 (by decide) ?_
    obtain ⟨hg_8, hM⟩ := gd_some hM
    refine gi_icmp_ge (tgt := 39) hx hb dX12_deal_33 (by decide) hg_8 (by decide) (fun c_9 => ?_) (fun c_9 => ?_)
    · replace hM := ifp hM c_9
      refine lv_aload_n hx hb dX12_deal_39 rfl (lv_at hl 1 rfl) ?_
      refine lv_iconst (v := iI 1) hx hb dX12_deal_40 (by decide) ?_
      refine m_put S hG 80 83 45 rfl 45 1 ec_83 cpX12 wm_1718 dX12_deal_41 (pf_83_45) (Nat.lt_of_lt_of_le (Nat.le_of_ble_eq_true rfl) hn) (by decide) (Nat.le_of_ble_eq_true rfl) rfl rfl rfl (fun H locs S_10 eS_10 hG => ?_)
      replace hM := nx_at hM eS_10
      clear eS_10
      refine lv_aload_n hx hb dX12_deal_44 rfl (lv_at hl 1 rfl) ?_
      refine lv_iload_n hx hb dX12_deal_45 rfl (lv_at hl 2 rfl) ?_
      refine m_put S hG 80 83 46 rfl 46 a1 ec_83 cpX12 wm_1719 dX12_deal_46 (pf_83_46) (Nat.lt_of_lt_of_le (Nat.le_of_ble_eq_true rfl) hn) (by decide) (Nat.le_of_ble_eq_true rfl) rfl rfl rfl (fun H locs S_11 eS_11 hG => ?_)
      replace hM := nx_at hM eS_11
      clear eS_11
      refine lv_aload_n hx hb dX12_deal_49 rfl (lv_at hl 1 rfl) ?_
      refine lv_iload_n hx hb dX12_deal_50 rfl (lv_at hl 3 rfl) ?_
      refine m_put S hG 80 83 47 rfl 47 a2 ec_83 cpX12 wm_1720 dX12_deal_51 (pf_83_47) (Nat.lt_of_lt_of_le (Nat.le_of_ble_eq_true rfl) hn) (by decide) (Nat.le_of_ble_eq_true rfl) rfl rfl rfl (fun H locs S_12 eS_12 hG => ?_)
      replace hM := nx_at hM eS_12
      clear eS_12
      refine lv_aload_n hx hb dX12_deal_54 rfl (lv_at hl 1 rfl) ?_
      refine lv_iconst (v := iI 0) hx hb dX12_deal_55 (by decide) ?_
      refine lv_iload hx hb dX12_deal_56 (lv_at hl 0 rfl) ?_
      refine gi_max S wm_2258 wm_1338 wm_190 wm_1339 hl.1 dX12_deal_58 ⟨Nat.le_of_ble_eq_true rfl, Nat.le_of_ble_eq_true rfl, Nat.le_of_ble_eq_true rfl, Nat.le_of_ble_eq_true rfl⟩ (by decide) hg_8 ?_
      refine m_put S hG 80 83 48 rfl 48 (max 0 z_4) ec_83 cpX12 wm_1721 dX12_deal_61 (pf_83_48) (Nat.lt_of_lt_of_le (Nat.le_of_ble_eq_true rfl) hn) (by decide) (Nat.le_of_ble_eq_true rfl) rfl rfl rfl (fun H locs S_13 eS_13 hG => ?_)
      replace hM := nx_at hM eS_13
      clear eS_13
      refine lv_aload_n hx hb dX12_deal_64 rfl (lv_at hl 1 rfl) ?_
      refine lv_aload_n hx hb dX12_deal_65 rfl (lv_at hl 1 rfl) ?_
      refine m_get S hG 80 83 48 rfl ec_83 cpX12 wm_1721 dX12_deal_66 rfl (Nat.lt_of_lt_of_le (Nat.le_of_ble_eq_true rfl) hn) (by decide) ?_
      refine m_put S hG 80 83 49 rfl 49 (S_13 83 48) ec_83 cpX12 wm_1722 dX12_deal_69 (pf_83_49) (Nat.lt_of_lt_of_le (Nat.le_of_ble_eq_true rfl) hn) (by decide) (Nat.le_of_ble_eq_true rfl) rfl rfl rfl (fun H locs S_14 eS_14 hG => ?_)
      replace hM := nx_at hM eS_14
      clear eS_14
      refine lv_aload_n hx hb dX12_deal_72 rfl (lv_at hl 1 rfl) ?_
      refine lv_iconst (v := iI 1) hx hb dX12_deal_73 (by decide) ?_
      refine lv_aload_n hx hb dX12_deal_74 rfl (lv_at hl 1 rfl) ?_
      refine m_get S hG 80 83 48 rfl ec_83 cpX12 wm_1721 dX12_deal_75 rfl (Nat.lt_of_lt_of_le (Nat.le_of_ble_eq_true rfl) hn) (by decide) ?_
      obtain ⟨hg_15, hM⟩ := gd_some hM
      refine gi_i2l hx hb dX12_deal_78 hg_15 ?_
      obtain ⟨r_17, hc_16, hM⟩ := bd1_some hM
      refine g_si (As := [.long (jJ (S_14 83 48))]) (rest := [.int (iI 1), .ref (b + 80)]) S hG hsz (vX12_bitsFor l hn (S_14 83 48) hc_16) wS_12_552 dX12_deal_79 rfl hl.1 (ar := 1) (by decide +kernel) rfl ⟨Nat.le_of_ble_eq_true rfl, Nat.le_of_ble_eq_true rfl, Nat.le_of_ble_eq_true rfl, Nat.le_of_ble_eq_true rfl⟩ (Nat.le_of_ble_eq_true rfl) (fun rv uu H locs hp hG => ?_)
      obtain ⟨rfl, rfl⟩ := hp
      replace hG : gW D cy b n s H locs (enc b cy X S_14) := hG
      refine gi_shl hx hb dX12_deal_82 ?_
      refine m_put S hG 80 83 50 rfl 50 (shl 1 r_17) ec_83 cpX12 wm_1723 dX12_deal_83 (pf_83_50) (Nat.lt_of_lt_of_le (Nat.le_of_ble_eq_true rfl) hn) (by decide) (Nat.le_of_ble_eq_true rfl) rfl rfl rfl (fun H locs S_18 eS_18 hG => ?_)
      replace hM := nx_at hM eS_18
      clear eS_18
      refine lv_aload_n hx hb dX12_deal_86 rfl (lv_at hl 1 rfl) ?_
      refine lv_iload hx hb dX12_deal_87 (lv_at hl 4 rfl) ?_
      refine lv_aload_n hx hb dX12_deal_89 rfl (lv_at hl 1 rfl) ?_
      refine m_get S hG 80 83 50 rfl ec_83 cpX12 wm_1723 dX12_deal_90 rfl (Nat.lt_of_lt_of_le (Nat.le_of_ble_eq_true rfl) hn) (by decide) ?_
      obtain ⟨hg_19, hM⟩ := gd_some hM
      refine gi_rem hx hb dX12_deal_93 hg_19.1 hg_19.2 ?_
      refine m_put S hG 80 83 51 rfl 51 (a4 % (S_18 83 50)) ec_83 cpX12 wm_1724 dX12_deal_94 (pf_83_51) (Nat.lt_of_lt_of_le (Nat.le_of_ble_eq_true rfl) hn) (by decide) (Nat.le_of_ble_eq_true rfl) rfl rfl rfl (fun H locs S_20 eS_20 hG => ?_)
      replace hM := nx_at hM eS_20
      clear eS_20
      refine lv_aload_n hx hb dX12_deal_97 rfl (lv_at hl 1 rfl) ?_
      refine m_get S hG 80 83 48 rfl ec_83 cpX12 wm_1721 dX12_deal_98 rfl (Nat.lt_of_lt_of_le (Nat.le_of_ble_eq_true rfl) hn) (by decide) ?_
      cases hM
      exact g_iret S hr hlk hG hsz dX12_deal_101 ⟨Nat.le_of_ble_eq_true rfl, Nat.le_of_ble_eq_true rfl⟩ ⟨rfl, rfl⟩
    · replace hM := ifn hM c_9
      refine lv_iload hx hb dX12_deal_36 (lv_at hl 0 rfl) ?_
      cases hM
      exact g_iret S hr hlk hG hsz dX12_deal_38 ⟨Nat.le_of_ble_eq_true rfl, Nat.le_of_ble_eq_true rfl⟩ ⟨rfl, rfl⟩
  clear hM
  replace hM := hc_6
  obtain ⟨hg_21, hM⟩ := gd_some hM
  refine gi_if_eq (tgt := 26) hx hb dX12_deal_10 (by decide) hg_21 (fun c_22 => ?_) (fun c_22 => ?_)
  · replace hM := ifp hM c_22
    refine lv_bipush (v := iI (-2)) hx hb dX12_deal_26 (by decide) ?_
    cases hM
    exact hK_7 H locs ls hG (lv_sub hl [0, 1, 2, 4] rfl)
  · replace hM := ifn hM c_22
    refine lv_aload_n hx hb dX12_deal_13 rfl (lv_at hl 0 rfl) ?_
    refine lv_iload_n hx hb dX12_deal_14 rfl (lv_at hl 1 rfl) ?_
    refine lv_iload_n hx hb dX12_deal_15 rfl (lv_at hl 2 rfl) ?_
    refine lv_iload_n hx hb dX12_deal_16 rfl (lv_at hl 3 rfl) ?_
    refine lv_sipush (v := iI 1000) hx hb dX12_deal_17 (by decide) ?_
    obtain ⟨r_24, S_25, hc_23, hM⟩ := bd2_some hM
    refine g_vi (As := [.int (iI a1), .int (iI a2), .int (iI a3), .int (iI 1000)]) (rest := []) S hG hsz (vX12_inBox l hn a1 a2 a3 1000 hc_23) wV_12_549 (ec_83 _) cpX12 (Nat.lt_of_lt_of_le (Nat.le_of_ble_eq_true rfl) hn) dX12_deal_20 rfl hl.1 (ar := 4) (by decide +kernel) rfl ⟨Nat.le_of_ble_eq_true rfl, Nat.le_of_ble_eq_true rfl, Nat.le_of_ble_eq_true rfl, Nat.le_of_ble_eq_true rfl⟩ (Nat.le_of_ble_eq_true rfl) (fun rv uu H locs hp hG => ?_)
    obtain ⟨rfl, rfl⟩ := hp
    replace hG : gW D cy b n s H locs (enc b cy X S_25) := hG
    refine lv_goto (tgt := 28) hx hb dX12_deal_23 (by decide) ?_
    cases hM
    exact hK_7 H locs ls hG (lv_sub hl [0, 1, 2, 4] rfl)
def mX12_dealt_16  : Nat → St → Option (St)
  | 0, _ => none
  | f + 1, S_5 => gd ((inI (S_5 83 51)) ∧ (inI (S_5 83 48))) <| if (S_5 83 51) < (S_5 83 48) then (some (S_5)) else (gd ((0 ≤ ((5 * (S_5 83 51)) + 3) ∧ ((5 * (S_5 83 51)) + 3) ≤ 2147483647) ∧ (0 < (S_5 83 50) ∧ (S_5 83 50) ≤ 2147483647)) <| nx (up S_5 83 51 (((5 * (S_5 83 51)) + 3) % (S_5 83 50))) fun S_24 => mX12_dealt_16 f S_24)
def mX12_dealt (S0 : St)  : Option (Int × St) := gd (inI (S0 83 45)) <| if (S0 83 45) = 0 then (some ((-1), S0)) else (gd (inI (S0 83 49)) <| if (S0 83 49) = 0 then (some ((-1), S0)) else (bd1 (mX12_dealt_16 FU S0) fun S_6 => nx (S_6 83 51) fun x_9 => gd ((0 ≤ ((5 * (S_6 83 51)) + 3) ∧ ((5 * (S_6 83 51)) + 3) ≤ 2147483647) ∧ (0 < (S_6 83 50) ∧ (S_6 83 50) ≤ 2147483647)) <| nx (up S_6 83 51 (((5 * (S_6 83 51)) + 3) % (S_6 83 50))) fun S_11 => nx (up S_11 83 49 ((S_11 83 49) - 1)) fun S_12 => bd1 (mX12_counts S_12 (-1)) fun S_14 => bd2 (mX12_rankIn S_14 (S_14 83 46) (S_14 83 47) x_9) fun r_16 S_17 => some (((10000 * (S_17 83 44)) + r_16), S_17)))
set_option maxHeartbeats 4000000 in
set_option maxRecDepth 100000 in
theorem vX12_dealt (l : Launch) {D : va_G} {cy : Nat → ClassId} {b n : Nat} (hn : 102 ≤ n) {X : Nat → va_E} {S0 : St}  {o1 : Int} {o2 : St} (hM : mX12_dealt S0  = some (o1, o2)) : gI l yX12_dealt cX12_dealt 3 (some .int) 6 0 0 D cy b n (enc b cy X S0) [.ref (b + 80)] (fun r u => r = iI o1 ∧ u = (n, enc b cy X o2)) := by
  refine gI_of (by decide) (Nat.le_of_ble_eq_true rfl) ?_
  intro p e s m args below meth c S hr hlk hin hsz ls hl hG
  have hx := S.1
  have hb := S.2.1
  have hl : lv_has ls 3 [(0, .ref (b + 80))] := hl
  replace hG : gW D cy b n s s.heap [] (enc b cy X S0) := hG
  obtain ⟨H, eH⟩ : ∃ H, H = s.heap := ⟨_, rfl⟩
  obtain ⟨locs, elocs⟩ : ∃ locs : List Loc, locs = [] := ⟨_, rfl⟩
  rw [← eH, ← elocs] at hG
  rw [← eH, ← elocs]
  clear eH elocs
  unfold mX12_dealt at hM
  refine lv_aload_n hx hb dX12_dealt_0 rfl (lv_at hl 0 rfl) ?_
  refine m_get S hG 80 83 45 rfl ec_83 cpX12 wm_1718 dX12_dealt_1 rfl (Nat.lt_of_lt_of_le (Nat.le_of_ble_eq_true rfl) hn) (by decide) ?_
  obtain ⟨hg_1, hM⟩ := gd_some hM
  refine gi_if_eq (tgt := 14) hx hb dX12_dealt_4 (by decide) hg_1 (fun c_2 => ?_) (fun c_2 => ?_)
  · replace hM := ifp hM c_2
    refine lv_iconst (v := iI (-1)) hx hb dX12_dealt_14 (by decide) ?_
    cases hM
    exact g_iret S hr hlk hG hsz dX12_dealt_15 ⟨Nat.le_of_ble_eq_true rfl, Nat.le_of_ble_eq_true rfl⟩ ⟨rfl, rfl⟩
  · replace hM := ifn hM c_2
    refine lv_aload_n hx hb dX12_dealt_7 rfl (lv_at hl 0 rfl) ?_
    refine m_get S hG 80 83 49 rfl ec_83 cpX12 wm_1722 dX12_dealt_8 rfl (Nat.lt_of_lt_of_le (Nat.le_of_ble_eq_true rfl) hn) (by decide) ?_
    obtain ⟨hg_3, hM⟩ := gd_some hM
    refine gi_if_ne (tgt := 16) hx hb dX12_dealt_11 (by decide) hg_3 (fun c_4 => ?_) (fun c_4 => ?_)
    · replace hM := ifn hM c_4
      obtain ⟨S_6, hc_7, hM⟩ := bd1_some hM
      have hK_8 : ∀ (H : Heap) (locs : List Loc) (ls : Array Slot), gW D cy b n s H locs (enc b cy X S_6) → lv_has ls 3 [(0, .ref (b + 80))] → W p l e (gRm 6 0 0) s m args below meth c H locs 0 0 (gQI D cy b s args below 0 0 (fun r u => r = iI o1 ∧ u = (n, enc b cy X o2))) (F0 m 47 ls []) := by
        intro H locs ls hG hl
        refine lv_aload_n hx hb dX12_dealt_47 rfl (lv_at hl 0 rfl) ?_
        refine m_get S hG 80 83 51 rfl ec_83 cpX12 wm_1724 dX12_dealt_48 rfl (Nat.lt_of_lt_of_le (Nat.le_of_ble_eq_true rfl) hn) (by decide) ?_
        refine gi_nm (fun x_9 ex_9 => ?_)
        replace hM := nx_at hM ex_9
        clear ex_9
        refine lv_istore_n (lv' := [(1, .int (iI x_9)), (0, .ref (b + 80))]) hx hb dX12_dealt_51 rfl hl (by decide) rfl (fun ls hl => ?_)
        refine lv_aload_n hx hb dX12_dealt_52 rfl (lv_at hl 1 rfl) ?_
        refine lv_iconst (v := iI 5) hx hb dX12_dealt_53 (by decide) ?_
        refine lv_aload_n hx hb dX12_dealt_54 rfl (lv_at hl 1 rfl) ?_
        refine m_get S hG 80 83 51 rfl ec_83 cpX12 wm_1724 dX12_dealt_55 rfl (Nat.lt_of_lt_of_le (Nat.le_of_ble_eq_true rfl) hn) (by decide) ?_
        refine gi_mul hx hb dX12_dealt_58 ?_
        refine lv_iconst (v := iI 3) hx hb dX12_dealt_59 (by decide) ?_
        refine gi_add hx hb dX12_dealt_60 ?_
        refine lv_aload_n hx hb dX12_dealt_61 rfl (lv_at hl 1 rfl) ?_
        refine m_get S hG 80 83 50 rfl ec_83 cpX12 wm_1723 dX12_dealt_62 rfl (Nat.lt_of_lt_of_le (Nat.le_of_ble_eq_true rfl) hn) (by decide) ?_
        obtain ⟨hg_10, hM⟩ := gd_some hM
        refine gi_rem hx hb dX12_dealt_65 hg_10.1 hg_10.2 ?_
        refine m_put S hG 80 83 51 rfl 51 (((5 * (S_6 83 51)) + 3) % (S_6 83 50)) ec_83 cpX12 wm_1724 dX12_dealt_66 (pf_83_51) (Nat.lt_of_lt_of_le (Nat.le_of_ble_eq_true rfl) hn) (by decide) (Nat.le_of_ble_eq_true rfl) rfl rfl rfl (fun H locs S_11 eS_11 hG => ?_)
        replace hM := nx_at hM eS_11
        clear eS_11
        refine lv_aload_n hx hb dX12_dealt_69 rfl (lv_at hl 1 rfl) ?_
        refine lv_dup hx hb dX12_dealt_70 rfl ?_
        refine m_get S hG 80 83 49 rfl ec_83 cpX12 wm_1722 dX12_dealt_71 rfl (Nat.lt_of_lt_of_le (Nat.le_of_ble_eq_true rfl) hn) (by decide) ?_
        refine lv_iconst (v := iI 1) hx hb dX12_dealt_74 (by decide) ?_
        refine gi_sub hx hb dX12_dealt_75 ?_
        refine m_put S hG 80 83 49 rfl 49 ((S_11 83 49) - 1) ec_83 cpX12 wm_1722 dX12_dealt_76 (pf_83_49) (Nat.lt_of_lt_of_le (Nat.le_of_ble_eq_true rfl) hn) (by decide) (Nat.le_of_ble_eq_true rfl) rfl rfl rfl (fun H locs S_12 eS_12 hG => ?_)
        replace hM := nx_at hM eS_12
        clear eS_12
        refine lv_aload_n hx hb dX12_dealt_79 rfl (lv_at hl 1 rfl) ?_
        refine lv_iconst (v := iI (-1)) hx hb dX12_dealt_80 (by decide) ?_
        obtain ⟨S_14, hc_13, hM⟩ := bd1_some hM
        refine g_vv (As := [.int (iI (-1))]) (rest := []) S hG hsz (vX12_counts l hn (-1) hc_13) wV_12_324 (ec_83 _) cpX12 (Nat.lt_of_lt_of_le (Nat.le_of_ble_eq_true rfl) hn) dX12_dealt_81 rfl hl.1 (ar := 1) (by decide +kernel) rfl ⟨Nat.le_of_ble_eq_true rfl, Nat.le_of_ble_eq_true rfl, Nat.le_of_ble_eq_true rfl, Nat.le_of_ble_eq_true rfl⟩ (Nat.le_of_ble_eq_true rfl) (fun uu H locs hp hG => ?_)
        obtain rfl := hp
        replace hG : gW D cy b n s H locs (enc b cy X S_14) := hG
        refine lv_aload_n hx hb dX12_dealt_84 rfl (lv_at hl 1 rfl) ?_
        refine lv_aload_n hx hb dX12_dealt_85 rfl (lv_at hl 1 rfl) ?_
        refine m_get S hG 80 83 46 rfl ec_83 cpX12 wm_1719 dX12_dealt_86 rfl (Nat.lt_of_lt_of_le (Nat.le_of_ble_eq_true rfl) hn) (by decide) ?_
        refine lv_aload_n hx hb dX12_dealt_89 rfl (lv_at hl 1 rfl) ?_
        refine m_get S hG 80 83 47 rfl ec_83 cpX12 wm_1720 dX12_dealt_90 rfl (Nat.lt_of_lt_of_le (Nat.le_of_ble_eq_true rfl) hn) (by decide) ?_
        refine lv_iload_n hx hb dX12_dealt_93 rfl (lv_at hl 0 rfl) ?_
        obtain ⟨r_16, S_17, hc_15, hM⟩ := bd2_some hM
        refine g_vi (As := [.int (iI (S_14 83 46)), .int (iI (S_14 83 47)), .int (iI x_9)]) (rest := []) S hG hsz (vX12_rankIn l hn (S_14 83 46) (S_14 83 47) x_9 hc_15) wV_12_561 (ec_83 _) cpX12 (Nat.lt_of_lt_of_le (Nat.le_of_ble_eq_true rfl) hn) dX12_dealt_94 rfl hl.1 (ar := 3) (by decide +kernel) rfl ⟨Nat.le_of_ble_eq_true rfl, Nat.le_of_ble_eq_true rfl, Nat.le_of_ble_eq_true rfl, Nat.le_of_ble_eq_true rfl⟩ (Nat.le_of_ble_eq_true rfl) (fun rv uu H locs hp hG => ?_)
        obtain ⟨rfl, rfl⟩ := hp
        replace hG : gW D cy b n s H locs (enc b cy X S_17) := hG
        refine lv_istore_n (lv' := [(2, .int (iI r_16)), (1, .int (iI x_9)), (0, .ref (b + 80))]) hx hb dX12_dealt_97 rfl hl (by decide) rfl (fun ls hl => ?_)
        refine lv_sipush (v := iI 10000) hx hb dX12_dealt_98 (by decide) ?_
        refine lv_aload_n hx hb dX12_dealt_101 rfl (lv_at hl 2 rfl) ?_
        refine m_get S hG 80 83 44 rfl ec_83 cpX12 wm_1717 dX12_dealt_102 rfl (Nat.lt_of_lt_of_le (Nat.le_of_ble_eq_true rfl) hn) (by decide) ?_
        refine gi_mul hx hb dX12_dealt_105 ?_
        refine lv_iload_n hx hb dX12_dealt_106 rfl (lv_at hl 0 rfl) ?_
        refine gi_add hx hb dX12_dealt_107 ?_
        cases hM
        exact g_iret S hr hlk hG hsz dX12_dealt_108 ⟨Nat.le_of_ble_eq_true rfl, Nat.le_of_ble_eq_true rfl⟩ ⟨rfl, rfl⟩
      have loop_18 : ∀ (f : Nat)  (S_5 : St) (H : Heap) (locs : List Loc) (ls : Array Slot), mX12_dealt_16 f S_5 = some S_6 → gW D cy b n s H locs (enc b cy X S_5) → lv_has ls 3 [(0, .ref (b + 80))] → W p l e (gRm 6 0 0) s m args below meth c H locs 0 0 (gQI D cy b s args below 0 0 (fun r u => r = iI o1 ∧ u = (n, enc b cy X o2))) (F0 m 16 ls []) := by
        clear hM
        intro f
        induction f with
        | zero => intro  S_5 H locs ls hM; rw [mX12_dealt_16] at hM; cases hM
        | succ f_20 ih_19 =>
          intro  S_5 H locs ls hM hG hl
          rw [mX12_dealt_16] at hM
          refine lv_aload_n hx hb dX12_dealt_16 rfl (lv_at hl 0 rfl) ?_
          refine m_get S hG 80 83 51 rfl ec_83 cpX12 wm_1724 dX12_dealt_17 rfl (Nat.lt_of_lt_of_le (Nat.le_of_ble_eq_true rfl) hn) (by decide) ?_
          refine lv_aload_n hx hb dX12_dealt_20 rfl (lv_at hl 0 rfl) ?_
          refine m_get S hG 80 83 48 rfl ec_83 cpX12 wm_1721 dX12_dealt_21 rfl (Nat.lt_of_lt_of_le (Nat.le_of_ble_eq_true rfl) hn) (by decide) ?_
          obtain ⟨hg_21, hM⟩ := gd_some hM
          refine gi_icmp_lt (tgt := 47) hx hb dX12_dealt_24 (by decide) hg_21.1 hg_21.2 (fun c_22 => ?_) (fun c_22 => ?_)
          · replace hM := ifp hM c_22
            cases hM
            exact hK_8 H locs ls hG (lv_sub hl [0] rfl)
          · replace hM := ifn hM c_22
            refine lv_aload_n hx hb dX12_dealt_27 rfl (lv_at hl 0 rfl) ?_
            refine lv_iconst (v := iI 5) hx hb dX12_dealt_28 (by decide) ?_
            refine lv_aload_n hx hb dX12_dealt_29 rfl (lv_at hl 0 rfl) ?_
            refine m_get S hG 80 83 51 rfl ec_83 cpX12 wm_1724 dX12_dealt_30 rfl (Nat.lt_of_lt_of_le (Nat.le_of_ble_eq_true rfl) hn) (by decide) ?_
            refine gi_mul hx hb dX12_dealt_33 ?_
            refine lv_iconst (v := iI 3) hx hb dX12_dealt_34 (by decide) ?_
            refine gi_add hx hb dX12_dealt_35 ?_
            refine lv_aload_n hx hb dX12_dealt_36 rfl (lv_at hl 0 rfl) ?_
            refine m_get S hG 80 83 50 rfl ec_83 cpX12 wm_1723 dX12_dealt_37 rfl (Nat.lt_of_lt_of_le (Nat.le_of_ble_eq_true rfl) hn) (by decide) ?_
            obtain ⟨hg_23, hM⟩ := gd_some hM
            refine gi_rem hx hb dX12_dealt_40 hg_23.1 hg_23.2 ?_
            refine m_put S hG 80 83 51 rfl 51 (((5 * (S_5 83 51)) + 3) % (S_5 83 50)) ec_83 cpX12 wm_1724 dX12_dealt_41 (pf_83_51) (Nat.lt_of_lt_of_le (Nat.le_of_ble_eq_true rfl) hn) (by decide) (Nat.le_of_ble_eq_true rfl) rfl rfl rfl (fun H locs S_24 eS_24 hG => ?_)
            replace hM := nx_at hM eS_24
            clear eS_24
            refine lv_goto (tgt := 16) hx hb dX12_dealt_44 (by decide) ?_
            exact ih_19  S_24 H locs ls hM hG (lv_sub hl [0] rfl)
      exact loop_18 FU  S0 H locs ls hc_7 hG (lv_sub hl [0] rfl)
    · replace hM := ifp hM c_4
      refine lv_iconst (v := iI (-1)) hx hb dX12_dealt_14 (by decide) ?_
      cases hM
      exact g_iret S hr hlk hG hsz dX12_dealt_15 ⟨Nat.le_of_ble_eq_true rfl, Nat.le_of_ble_eq_true rfl⟩ ⟨rfl, rfl⟩
def mX12_left (S0 : St)  : Option (Int) := gd (inI (S0 83 45)) <| if (S0 83 45) = 0 then (some (0)) else (some ((S0 83 49)))
set_option maxHeartbeats 4000000 in
set_option maxRecDepth 100000 in
theorem vX12_left (l : Launch) {D : va_G} {cy : Nat → ClassId} {b n : Nat} (hn : 102 ≤ n) {X : Nat → va_E} {S0 : St}  {o1 : Int} (hM : mX12_left S0  = some o1) : gI l yX12_left cX12_left 1 (some .int) 0 0 0 D cy b n (enc b cy X S0) [.ref (b + 80)] (fun r u => r = iI o1 ∧ u = (n, enc b cy X S0)) := by
  refine gI_of (by decide) (Nat.le_of_ble_eq_true rfl) ?_
  intro p e s m args below meth c S hr hlk hin hsz ls hl hG
  have hx := S.1
  have hb := S.2.1
  have hl : lv_has ls 1 [(0, .ref (b + 80))] := hl
  replace hG : gW D cy b n s s.heap [] (enc b cy X S0) := hG
  obtain ⟨H, eH⟩ : ∃ H, H = s.heap := ⟨_, rfl⟩
  obtain ⟨locs, elocs⟩ : ∃ locs : List Loc, locs = [] := ⟨_, rfl⟩
  rw [← eH, ← elocs] at hG
  rw [← eH, ← elocs]
  clear eH elocs
  unfold mX12_left at hM
  refine lv_aload_n hx hb dX12_left_0 rfl (lv_at hl 0 rfl) ?_
  refine m_get S hG 80 83 45 rfl ec_83 cpX12 wm_1718 dX12_left_1 rfl (Nat.lt_of_lt_of_le (Nat.le_of_ble_eq_true rfl) hn) (by decide) ?_
  obtain ⟨hg_1, hM⟩ := gd_some hM
  refine gi_if_eq (tgt := 14) hx hb dX12_left_4 (by decide) hg_1 (fun c_2 => ?_) (fun c_2 => ?_)
  · replace hM := ifp hM c_2
    refine lv_iconst (v := iI 0) hx hb dX12_left_14 (by decide) ?_
    cases hM
    exact g_iret S hr hlk hG hsz dX12_left_15 ⟨Nat.le_of_ble_eq_true rfl, Nat.le_of_ble_eq_true rfl⟩ ⟨rfl, rfl⟩
  · replace hM := ifn hM c_2
    refine lv_aload_n hx hb dX12_left_7 rfl (lv_at hl 0 rfl) ?_
    refine m_get S hG 80 83 49 rfl ec_83 cpX12 wm_1722 dX12_left_8 rfl (Nat.lt_of_lt_of_le (Nat.le_of_ble_eq_true rfl) hn) (by decide) ?_
    refine lv_goto (tgt := 15) hx hb dX12_left_11 (by decide) ?_
    cases hM
    exact g_iret S hr hlk hG hsz dX12_left_15 ⟨Nat.le_of_ble_eq_true rfl, Nat.le_of_ble_eq_true rfl⟩ ⟨rfl, rfl⟩
theorem wS_12_584 : gWS "GrownKindsModel" 584 yX12_bitsOf cX12_bitsOf 3 (some .int) := ⟨wm_2434, wm_2435, wm_188, wm_2436, by decide +kernel, by decide +kernel⟩
def mX12_takes (S0 : St) (a1 : Int) (a2 : Int) : Option (Int × St) := bd1 (mX12_isTerm S0 a1 a2) fun r_2 => gd (inI r_2) <| if r_2 = 0 then (some ((-2), S0)) else (bd1 (mX12_isOff S0 a1 a2) fun r_6 => gd (inI r_6) <| if r_6 = 0 then (gd (inI (S0 84 4)) <| if (S0 84 4) = 10 then (some ((-5), S0)) else (nx (6 + a1) fun x_11 => gd (0 ≤ x_11 ∧ x_11 < 228) <| nx (up S0 84 x_11 (orr (S0 84 x_11) (shl 1 a2))) fun S_13 => gd (0 ≤ (12 + (S_13 84 4)) ∧ (12 + (S_13 84 4)) < 228) <| nx (up S_13 84 (12 + (S_13 84 4)) ((a1 * 10) + a2)) fun S_15 => nx (up S_15 84 4 ((S_15 84 4) + 1)) fun S_16 => nx (up S_16 83 45 0) fun S_17 => gd (0 ≤ (198 + a1) ∧ (198 + a1) < 228) <| gd (0 ≤ (6 + a1) ∧ (6 + a1) < 228) <| bd1 (mX12_bitsOf (S_17 84 (6 + a1))) fun r_21 => some (((S_17 84 (198 + a1)) - r_21), S_17))) else (some ((-5), S0)))
set_option maxHeartbeats 4000000 in
set_option maxRecDepth 100000 in
theorem vX12_takes (l : Launch) {D : va_G} {cy : Nat → ClassId} {b n : Nat} (hn : 102 ≤ n) {X : Nat → va_E} {S0 : St} (a1 : Int) (a2 : Int) {o1 : Int} {o2 : St} (hM : mX12_takes S0 a1 a2 = some (o1, o2)) : gI l yX12_takes cX12_takes 3 (some .int) 3 0 0 D cy b n (enc b cy X S0) [.ref (b + 80), .int (iI a1), .int (iI a2)] (fun r u => r = iI o1 ∧ u = (n, enc b cy X o2)) := by
  refine gI_of (by decide) (Nat.le_of_ble_eq_true rfl) ?_
  intro p e s m args below meth c S hr hlk hin hsz ls hl hG
  have hx := S.1
  have hb := S.2.1
  have hl : lv_has ls 3 [(0, .ref (b + 80)), (1, .int (iI a1)), (2, .int (iI a2))] := hl
  replace hG : gW D cy b n s s.heap [] (enc b cy X S0) := hG
  obtain ⟨H, eH⟩ : ∃ H, H = s.heap := ⟨_, rfl⟩
  obtain ⟨locs, elocs⟩ : ∃ locs : List Loc, locs = [] := ⟨_, rfl⟩
  rw [← eH, ← elocs] at hG
  rw [← eH, ← elocs]
  clear eH elocs
  unfold mX12_takes at hM
  refine lv_aload_n hx hb dX12_takes_0 rfl (lv_at hl 0 rfl) ?_
  refine lv_iload_n hx hb dX12_takes_1 rfl (lv_at hl 1 rfl) ?_
  refine lv_iload_n hx hb dX12_takes_2 rfl (lv_at hl 2 rfl) ?_
  obtain ⟨r_2, hc_1, hM⟩ := bd1_some hM
  refine g_vi (As := [.int (iI a1), .int (iI a2)]) (rest := []) S hG hsz (vX12_isTerm l hn a1 a2 hc_1) wV_12_344 (ec_83 _) cpX12 (Nat.lt_of_lt_of_le (Nat.le_of_ble_eq_true rfl) hn) dX12_takes_3 rfl hl.1 (ar := 2) (by decide +kernel) rfl ⟨Nat.le_of_ble_eq_true rfl, Nat.le_of_ble_eq_true rfl, Nat.le_of_ble_eq_true rfl, Nat.le_of_ble_eq_true rfl⟩ (Nat.le_of_ble_eq_true rfl) (fun rv uu H locs hp hG => ?_)
  obtain ⟨rfl, rfl⟩ := hp
  replace hG : gW D cy b n s H locs (enc b cy X S0) := hG
  obtain ⟨hg_3, hM⟩ := gd_some hM
  refine gi_if_ne (tgt := 12) hx hb dX12_takes_6 (by decide) hg_3 (fun c_4 => ?_) (fun c_4 => ?_)
  · replace hM := ifn hM c_4
    refine lv_aload_n hx hb dX12_takes_12 rfl (lv_at hl 0 rfl) ?_
    refine lv_iload_n hx hb dX12_takes_13 rfl (lv_at hl 1 rfl) ?_
    refine lv_iload_n hx hb dX12_takes_14 rfl (lv_at hl 2 rfl) ?_
    obtain ⟨r_6, hc_5, hM⟩ := bd1_some hM
    refine g_vi (As := [.int (iI a1), .int (iI a2)]) (rest := []) S hG hsz (vX12_isOff l hn a1 a2 hc_5) wV_12_231 (ec_83 _) cpX12 (Nat.lt_of_lt_of_le (Nat.le_of_ble_eq_true rfl) hn) dX12_takes_15 rfl hl.1 (ar := 2) (by decide +kernel) rfl ⟨Nat.le_of_ble_eq_true rfl, Nat.le_of_ble_eq_true rfl, Nat.le_of_ble_eq_true rfl, Nat.le_of_ble_eq_true rfl⟩ (Nat.le_of_ble_eq_true rfl) (fun rv uu H locs hp hG => ?_)
    obtain ⟨rfl, rfl⟩ := hp
    replace hG : gW D cy b n s H locs (enc b cy X S0) := hG
    obtain ⟨hg_7, hM⟩ := gd_some hM
    refine gi_if_ne (tgt := 32) hx hb dX12_takes_18 (by decide) hg_7 (fun c_8 => ?_) (fun c_8 => ?_)
    · replace hM := ifn hM c_8
      refine lv_bipush (v := iI (-5)) hx hb dX12_takes_32 (by decide) ?_
      cases hM
      exact g_iret S hr hlk hG hsz dX12_takes_34 ⟨Nat.le_of_ble_eq_true rfl, Nat.le_of_ble_eq_true rfl⟩ ⟨rfl, rfl⟩
    · replace hM := ifp hM c_8
      refine lv_aload_n hx hb dX12_takes_21 rfl (lv_at hl 0 rfl) ?_
      refine m_get S hG 80 83 0 rfl ec_83 cpX12 wm_1673 dX12_takes_22 rfl (Nat.lt_of_lt_of_le (Nat.le_of_ble_eq_true rfl) hn) (by decide) ?_
      refine lv_iconst (v := iI 4) hx hb dX12_takes_25 (by decide) ?_
      refine mi_ald S hG 81 84 rfl ec_84 (Nat.lt_of_lt_of_le (Nat.le_of_ble_eq_true rfl) hn) dX12_takes_26 (by decide) (by decide) ?_
      refine lv_bipush (v := iI 10) hx hb dX12_takes_27 (by decide) ?_
      obtain ⟨hg_9, hM⟩ := gd_some hM
      refine gi_icmp_ne (tgt := 35) hx hb dX12_takes_29 (by decide) hg_9 (by decide) (fun c_10 => ?_) (fun c_10 => ?_)
      · replace hM := ifn hM c_10
        refine lv_aload_n hx hb dX12_takes_35 rfl (lv_at hl 0 rfl) ?_
        refine m_get S hG 80 83 0 rfl ec_83 cpX12 wm_1673 dX12_takes_36 rfl (Nat.lt_of_lt_of_le (Nat.le_of_ble_eq_true rfl) hn) (by decide) ?_
        refine lv_bipush (v := iI 6) hx hb dX12_takes_39 (by decide) ?_
        refine lv_iload_n hx hb dX12_takes_41 rfl (lv_at hl 1 rfl) ?_
        refine gi_add hx hb dX12_takes_42 ?_
        refine gi_nm (fun x_11 ex_11 => ?_)
        replace hM := nx_at hM ex_11
        clear ex_11
        refine lv_dup2_11 hx hb dX12_takes_43 rfl rfl ?_
        obtain ⟨hg_12, hM⟩ := gd_some hM
        refine mi_ald S hG 81 84 rfl ec_84 (Nat.lt_of_lt_of_le (Nat.le_of_ble_eq_true rfl) hn) dX12_takes_44 hg_12 (by decide) ?_
        refine lv_iconst (v := iI 1) hx hb dX12_takes_45 (by decide) ?_
        refine lv_iload_n hx hb dX12_takes_46 rfl (lv_at hl 2 rfl) ?_
        refine gi_shl hx hb dX12_takes_47 ?_
        refine gi_or hx hb dX12_takes_48 ?_
        refine mi_ast S hG 81 84 rfl ec_84 (Nat.lt_of_lt_of_le (Nat.le_of_ble_eq_true rfl) hn) dX12_takes_49 hg_12 (by decide) (fun H locs S_13 eS_13 hG => ?_)
        replace hM := nx_at hM eS_13
        clear eS_13
        refine lv_aload_n hx hb dX12_takes_50 rfl (lv_at hl 0 rfl) ?_
        refine m_get S hG 80 83 0 rfl ec_83 cpX12 wm_1673 dX12_takes_51 rfl (Nat.lt_of_lt_of_le (Nat.le_of_ble_eq_true rfl) hn) (by decide) ?_
        refine lv_bipush (v := iI 12) hx hb dX12_takes_54 (by decide) ?_
        refine lv_aload_n hx hb dX12_takes_56 rfl (lv_at hl 0 rfl) ?_
        refine m_get S hG 80 83 0 rfl ec_83 cpX12 wm_1673 dX12_takes_57 rfl (Nat.lt_of_lt_of_le (Nat.le_of_ble_eq_true rfl) hn) (by decide) ?_
        refine lv_iconst (v := iI 4) hx hb dX12_takes_60 (by decide) ?_
        refine mi_ald S hG 81 84 rfl ec_84 (Nat.lt_of_lt_of_le (Nat.le_of_ble_eq_true rfl) hn) dX12_takes_61 (by decide) (by decide) ?_
        refine gi_add hx hb dX12_takes_62 ?_
        refine lv_iload_n hx hb dX12_takes_63 rfl (lv_at hl 1 rfl) ?_
        refine lv_bipush (v := iI 10) hx hb dX12_takes_64 (by decide) ?_
        refine gi_mul hx hb dX12_takes_66 ?_
        refine lv_iload_n hx hb dX12_takes_67 rfl (lv_at hl 2 rfl) ?_
        refine gi_add hx hb dX12_takes_68 ?_
        obtain ⟨hg_14, hM⟩ := gd_some hM
        refine mi_ast S hG 81 84 rfl ec_84 (Nat.lt_of_lt_of_le (Nat.le_of_ble_eq_true rfl) hn) dX12_takes_69 hg_14 (by decide) (fun H locs S_15 eS_15 hG => ?_)
        replace hM := nx_at hM eS_15
        clear eS_15
        refine lv_aload_n hx hb dX12_takes_70 rfl (lv_at hl 0 rfl) ?_
        refine m_get S hG 80 83 0 rfl ec_83 cpX12 wm_1673 dX12_takes_71 rfl (Nat.lt_of_lt_of_le (Nat.le_of_ble_eq_true rfl) hn) (by decide) ?_
        refine lv_iconst (v := iI 4) hx hb dX12_takes_74 (by decide) ?_
        refine lv_dup2_11 hx hb dX12_takes_75 rfl rfl ?_
        refine mi_ald S hG 81 84 rfl ec_84 (Nat.lt_of_lt_of_le (Nat.le_of_ble_eq_true rfl) hn) dX12_takes_76 (by decide) (by decide) ?_
        refine lv_iconst (v := iI 1) hx hb dX12_takes_77 (by decide) ?_
        refine gi_add hx hb dX12_takes_78 ?_
        refine mi_ast S hG 81 84 rfl ec_84 (Nat.lt_of_lt_of_le (Nat.le_of_ble_eq_true rfl) hn) dX12_takes_79 (by decide) (by decide) (fun H locs S_16 eS_16 hG => ?_)
        replace hM := nx_at hM eS_16
        clear eS_16
        refine lv_aload_n hx hb dX12_takes_80 rfl (lv_at hl 0 rfl) ?_
        refine lv_iconst (v := iI 0) hx hb dX12_takes_81 (by decide) ?_
        refine m_put S hG 80 83 45 rfl 45 0 ec_83 cpX12 wm_1718 dX12_takes_82 (pf_83_45) (Nat.lt_of_lt_of_le (Nat.le_of_ble_eq_true rfl) hn) (by decide) (Nat.le_of_ble_eq_true rfl) rfl rfl rfl (fun H locs S_17 eS_17 hG => ?_)
        replace hM := nx_at hM eS_17
        clear eS_17
        refine lv_aload_n hx hb dX12_takes_85 rfl (lv_at hl 0 rfl) ?_
        refine m_get S hG 80 83 0 rfl ec_83 cpX12 wm_1673 dX12_takes_86 rfl (Nat.lt_of_lt_of_le (Nat.le_of_ble_eq_true rfl) hn) (by decide) ?_
        refine lv_sipush (v := iI 198) hx hb dX12_takes_89 (by decide) ?_
        refine lv_iload_n hx hb dX12_takes_92 rfl (lv_at hl 1 rfl) ?_
        refine gi_add hx hb dX12_takes_93 ?_
        obtain ⟨hg_18, hM⟩ := gd_some hM
        refine mi_ald S hG 81 84 rfl ec_84 (Nat.lt_of_lt_of_le (Nat.le_of_ble_eq_true rfl) hn) dX12_takes_94 hg_18 (by decide) ?_
        refine lv_aload_n hx hb dX12_takes_95 rfl (lv_at hl 0 rfl) ?_
        refine m_get S hG 80 83 0 rfl ec_83 cpX12 wm_1673 dX12_takes_96 rfl (Nat.lt_of_lt_of_le (Nat.le_of_ble_eq_true rfl) hn) (by decide) ?_
        refine lv_bipush (v := iI 6) hx hb dX12_takes_99 (by decide) ?_
        refine lv_iload_n hx hb dX12_takes_101 rfl (lv_at hl 1 rfl) ?_
        refine gi_add hx hb dX12_takes_102 ?_
        obtain ⟨hg_19, hM⟩ := gd_some hM
        refine mi_ald S hG 81 84 rfl ec_84 (Nat.lt_of_lt_of_le (Nat.le_of_ble_eq_true rfl) hn) dX12_takes_103 hg_19 (by decide) ?_
        obtain ⟨r_21, hc_20, hM⟩ := bd1_some hM
        refine g_si (As := [.int (iI (S_17 84 (6 + a1)))]) (rest := [.int (iI (S_17 84 (198 + a1)))]) S hG hsz (vX12_bitsOf l hn (S_17 84 (6 + a1)) hc_20) wS_12_584 dX12_takes_104 rfl hl.1 (ar := 1) (by decide +kernel) rfl ⟨Nat.le_of_ble_eq_true rfl, Nat.le_of_ble_eq_true rfl, Nat.le_of_ble_eq_true rfl, Nat.le_of_ble_eq_true rfl⟩ (Nat.le_of_ble_eq_true rfl) (fun rv uu H locs hp hG => ?_)
        obtain ⟨rfl, rfl⟩ := hp
        replace hG : gW D cy b n s H locs (enc b cy X S_17) := hG
        refine gi_sub hx hb dX12_takes_107 ?_
        cases hM
        exact g_iret S hr hlk hG hsz dX12_takes_108 ⟨Nat.le_of_ble_eq_true rfl, Nat.le_of_ble_eq_true rfl⟩ ⟨rfl, rfl⟩
      · replace hM := ifp hM c_10
        refine lv_bipush (v := iI (-5)) hx hb dX12_takes_32 (by decide) ?_
        cases hM
        exact g_iret S hr hlk hG hsz dX12_takes_34 ⟨Nat.le_of_ble_eq_true rfl, Nat.le_of_ble_eq_true rfl⟩ ⟨rfl, rfl⟩
  · replace hM := ifp hM c_4
    refine lv_bipush (v := iI (-2)) hx hb dX12_takes_9 (by decide) ?_
    cases hM
    exact g_iret S hr hlk hG hsz dX12_takes_11 ⟨Nat.le_of_ble_eq_true rfl, Nat.le_of_ble_eq_true rfl⟩ ⟨rfl, rfl⟩
def mX12_takesBack (S0 : St)  : Option (St) := nx (up S0 84 4 ((S0 84 4) - 1)) fun S_1 => gd (0 ≤ (12 + (S_1 84 4)) ∧ (12 + (S_1 84 4)) < 228) <| nx (S_1 84 (12 + (S_1 84 4))) fun x_3 => gd (0 ≤ x_3 ∧ x_3 ≤ 2147483647) <| nx (6 + (x_3 / 10)) fun x_5 => gd (0 ≤ x_5 ∧ x_5 < 228) <| nx (up S_1 84 x_5 ((S_1 84 x_5) - (shl 1 (x_3 % 10)))) fun S_7 => nx (up S_7 83 45 0) fun S_8 => some (S_8)
set_option maxHeartbeats 4000000 in
set_option maxRecDepth 100000 in
theorem vX12_takesBack (l : Launch) {D : va_G} {cy : Nat → ClassId} {b n : Nat} (hn : 102 ≤ n) {X : Nat → va_E} {S0 : St}  {o1 : St} (hM : mX12_takesBack S0  = some o1) : gV l yX12_takesBack cX12_takesBack 2 0 0 0 D cy b n (enc b cy X S0) [.ref (b + 80)] (fun u => u = (n, enc b cy X o1)) := by
  refine gV_of (by decide) (Nat.le_of_ble_eq_true rfl) ?_
  intro p e s m args below meth c S hr hlk hin hsz ls hl hG
  have hx := S.1
  have hb := S.2.1
  have hl : lv_has ls 2 [(0, .ref (b + 80))] := hl
  replace hG : gW D cy b n s s.heap [] (enc b cy X S0) := hG
  obtain ⟨H, eH⟩ : ∃ H, H = s.heap := ⟨_, rfl⟩
  obtain ⟨locs, elocs⟩ : ∃ locs : List Loc, locs = [] := ⟨_, rfl⟩
  rw [← eH, ← elocs] at hG
  rw [← eH, ← elocs]
  clear eH elocs
  unfold mX12_takesBack at hM
  refine lv_aload_n hx hb dX12_takesBack_0 rfl (lv_at hl 0 rfl) ?_
  refine m_get S hG 80 83 0 rfl ec_83 cpX12 wm_1673 dX12_takesBack_1 rfl (Nat.lt_of_lt_of_le (Nat.le_of_ble_eq_true rfl) hn) (by decide) ?_
  refine lv_iconst (v := iI 4) hx hb dX12_takesBack_4 (by decide) ?_
  refine lv_dup2_11 hx hb dX12_takesBack_5 rfl rfl ?_
  refine mi_ald S hG 81 84 rfl ec_84 (Nat.lt_of_lt_of_le (Nat.le_of_ble_eq_true rfl) hn) dX12_takesBack_6 (by decide) (by decide) ?_
  refine lv_iconst (v := iI 1) hx hb dX12_takesBack_7 (by decide) ?_
  refine gi_sub hx hb dX12_takesBack_8 ?_
  refine mi_ast S hG 81 84 rfl ec_84 (Nat.lt_of_lt_of_le (Nat.le_of_ble_eq_true rfl) hn) dX12_takesBack_9 (by decide) (by decide) (fun H locs S_1 eS_1 hG => ?_)
  replace hM := nx_at hM eS_1
  clear eS_1
  refine lv_aload_n hx hb dX12_takesBack_10 rfl (lv_at hl 0 rfl) ?_
  refine m_get S hG 80 83 0 rfl ec_83 cpX12 wm_1673 dX12_takesBack_11 rfl (Nat.lt_of_lt_of_le (Nat.le_of_ble_eq_true rfl) hn) (by decide) ?_
  refine lv_bipush (v := iI 12) hx hb dX12_takesBack_14 (by decide) ?_
  refine lv_aload_n hx hb dX12_takesBack_16 rfl (lv_at hl 0 rfl) ?_
  refine m_get S hG 80 83 0 rfl ec_83 cpX12 wm_1673 dX12_takesBack_17 rfl (Nat.lt_of_lt_of_le (Nat.le_of_ble_eq_true rfl) hn) (by decide) ?_
  refine lv_iconst (v := iI 4) hx hb dX12_takesBack_20 (by decide) ?_
  refine mi_ald S hG 81 84 rfl ec_84 (Nat.lt_of_lt_of_le (Nat.le_of_ble_eq_true rfl) hn) dX12_takesBack_21 (by decide) (by decide) ?_
  refine gi_add hx hb dX12_takesBack_22 ?_
  obtain ⟨hg_2, hM⟩ := gd_some hM
  refine mi_ald S hG 81 84 rfl ec_84 (Nat.lt_of_lt_of_le (Nat.le_of_ble_eq_true rfl) hn) dX12_takesBack_23 hg_2 (by decide) ?_
  refine gi_nm (fun x_3 ex_3 => ?_)
  replace hM := nx_at hM ex_3
  clear ex_3
  refine lv_istore_n (lv' := [(1, .int (iI x_3)), (0, .ref (b + 80))]) hx hb dX12_takesBack_24 rfl hl (by decide) rfl (fun ls hl => ?_)
  refine lv_aload_n hx hb dX12_takesBack_25 rfl (lv_at hl 1 rfl) ?_
  refine m_get S hG 80 83 0 rfl ec_83 cpX12 wm_1673 dX12_takesBack_26 rfl (Nat.lt_of_lt_of_le (Nat.le_of_ble_eq_true rfl) hn) (by decide) ?_
  refine lv_bipush (v := iI 6) hx hb dX12_takesBack_29 (by decide) ?_
  refine lv_iload_n hx hb dX12_takesBack_31 rfl (lv_at hl 0 rfl) ?_
  refine lv_bipush (v := iI 10) hx hb dX12_takesBack_32 (by decide) ?_
  obtain ⟨hg_4, hM⟩ := gd_some hM
  refine gi_div hx hb dX12_takesBack_34 hg_4 (by decide) ?_
  refine gi_add hx hb dX12_takesBack_35 ?_
  refine gi_nm (fun x_5 ex_5 => ?_)
  replace hM := nx_at hM ex_5
  clear ex_5
  refine lv_dup2_11 hx hb dX12_takesBack_36 rfl rfl ?_
  obtain ⟨hg_6, hM⟩ := gd_some hM
  refine mi_ald S hG 81 84 rfl ec_84 (Nat.lt_of_lt_of_le (Nat.le_of_ble_eq_true rfl) hn) dX12_takesBack_37 hg_6 (by decide) ?_
  refine lv_iconst (v := iI 1) hx hb dX12_takesBack_38 (by decide) ?_
  refine lv_iload_n hx hb dX12_takesBack_39 rfl (lv_at hl 0 rfl) ?_
  refine lv_bipush (v := iI 10) hx hb dX12_takesBack_40 (by decide) ?_
  refine gi_rem hx hb dX12_takesBack_42 hg_4 (by decide) ?_
  refine gi_shl hx hb dX12_takesBack_43 ?_
  refine gi_sub hx hb dX12_takesBack_44 ?_
  refine mi_ast S hG 81 84 rfl ec_84 (Nat.lt_of_lt_of_le (Nat.le_of_ble_eq_true rfl) hn) dX12_takesBack_45 hg_6 (by decide) (fun H locs S_7 eS_7 hG => ?_)
  replace hM := nx_at hM eS_7
  clear eS_7
  refine lv_aload_n hx hb dX12_takesBack_46 rfl (lv_at hl 1 rfl) ?_
  refine lv_iconst (v := iI 0) hx hb dX12_takesBack_47 (by decide) ?_
  refine m_put S hG 80 83 45 rfl 45 0 ec_83 cpX12 wm_1718 dX12_takesBack_48 (pf_83_45) (Nat.lt_of_lt_of_le (Nat.le_of_ble_eq_true rfl) hn) (by decide) (Nat.le_of_ble_eq_true rfl) rfl rfl rfl (fun H locs S_8 eS_8 hG => ?_)
  replace hM := nx_at hM eS_8
  clear eS_8
  cases hM
  exact g_vret S hr hlk hG hsz dX12_takesBack_51 ⟨Nat.le_of_ble_eq_true rfl, Nat.le_of_ble_eq_true rfl⟩ rfl
theorem wV_12_587 : gWV "GrownKindsModel" 587 yX12_takesBack cX12_takesBack 2 none := ⟨wm_2441, wm_2443, wm_175, wm_188, wm_2444, by decide +kernel, by decide +kernel⟩
def mX12_undo (S0 : St)  : Option (Int × St) := gd (inI (S0 84 3)) <| if (S0 84 3) = 0 then (some ((-2), S0)) else (gd (inI (S0 84 4)) <| if (S0 84 4) = 0 then (some ((-5), S0)) else (bd1 (mX12_takesBack S0) fun S_6 => some ((S_6 84 4), S_6)))
set_option maxHeartbeats 4000000 in
set_option maxRecDepth 100000 in
theorem vX12_undo (l : Launch) {D : va_G} {cy : Nat → ClassId} {b n : Nat} (hn : 102 ≤ n) {X : Nat → va_E} {S0 : St}  {o1 : Int} {o2 : St} (hM : mX12_undo S0  = some (o1, o2)) : gI l yX12_undo cX12_undo 1 (some .int) 1 0 0 D cy b n (enc b cy X S0) [.ref (b + 80)] (fun r u => r = iI o1 ∧ u = (n, enc b cy X o2)) := by
  refine gI_of (by decide) (Nat.le_of_ble_eq_true rfl) ?_
  intro p e s m args below meth c S hr hlk hin hsz ls hl hG
  have hx := S.1
  have hb := S.2.1
  have hl : lv_has ls 1 [(0, .ref (b + 80))] := hl
  replace hG : gW D cy b n s s.heap [] (enc b cy X S0) := hG
  obtain ⟨H, eH⟩ : ∃ H, H = s.heap := ⟨_, rfl⟩
  obtain ⟨locs, elocs⟩ : ∃ locs : List Loc, locs = [] := ⟨_, rfl⟩
  rw [← eH, ← elocs] at hG
  rw [← eH, ← elocs]
  clear eH elocs
  unfold mX12_undo at hM
  refine lv_aload_n hx hb dX12_undo_0 rfl (lv_at hl 0 rfl) ?_
  refine m_get S hG 80 83 0 rfl ec_83 cpX12 wm_1673 dX12_undo_1 rfl (Nat.lt_of_lt_of_le (Nat.le_of_ble_eq_true rfl) hn) (by decide) ?_
  refine lv_iconst (v := iI 3) hx hb dX12_undo_4 (by decide) ?_
  refine mi_ald S hG 81 84 rfl ec_84 (Nat.lt_of_lt_of_le (Nat.le_of_ble_eq_true rfl) hn) dX12_undo_5 (by decide) (by decide) ?_
  obtain ⟨hg_1, hM⟩ := gd_some hM
  refine gi_if_ne (tgt := 12) hx hb dX12_undo_6 (by decide) hg_1 (fun c_2 => ?_) (fun c_2 => ?_)
  · replace hM := ifn hM c_2
    refine lv_aload_n hx hb dX12_undo_12 rfl (lv_at hl 0 rfl) ?_
    refine m_get S hG 80 83 0 rfl ec_83 cpX12 wm_1673 dX12_undo_13 rfl (Nat.lt_of_lt_of_le (Nat.le_of_ble_eq_true rfl) hn) (by decide) ?_
    refine lv_iconst (v := iI 4) hx hb dX12_undo_16 (by decide) ?_
    refine mi_ald S hG 81 84 rfl ec_84 (Nat.lt_of_lt_of_le (Nat.le_of_ble_eq_true rfl) hn) dX12_undo_17 (by decide) (by decide) ?_
    obtain ⟨hg_3, hM⟩ := gd_some hM
    refine gi_if_ne (tgt := 24) hx hb dX12_undo_18 (by decide) hg_3 (fun c_4 => ?_) (fun c_4 => ?_)
    · replace hM := ifn hM c_4
      refine lv_aload_n hx hb dX12_undo_24 rfl (lv_at hl 0 rfl) ?_
      obtain ⟨S_6, hc_5, hM⟩ := bd1_some hM
      refine g_vv (As := []) (rest := []) S hG hsz (vX12_takesBack l hn  hc_5) wV_12_587 (ec_83 _) cpX12 (Nat.lt_of_lt_of_le (Nat.le_of_ble_eq_true rfl) hn) dX12_undo_25 rfl hl.1 (ar := 0) (by decide +kernel) rfl ⟨Nat.le_of_ble_eq_true rfl, Nat.le_of_ble_eq_true rfl, Nat.le_of_ble_eq_true rfl, Nat.le_of_ble_eq_true rfl⟩ (Nat.le_of_ble_eq_true rfl) (fun uu H locs hp hG => ?_)
      obtain rfl := hp
      replace hG : gW D cy b n s H locs (enc b cy X S_6) := hG
      refine lv_aload_n hx hb dX12_undo_28 rfl (lv_at hl 0 rfl) ?_
      refine m_get S hG 80 83 0 rfl ec_83 cpX12 wm_1673 dX12_undo_29 rfl (Nat.lt_of_lt_of_le (Nat.le_of_ble_eq_true rfl) hn) (by decide) ?_
      refine lv_iconst (v := iI 4) hx hb dX12_undo_32 (by decide) ?_
      refine mi_ald S hG 81 84 rfl ec_84 (Nat.lt_of_lt_of_le (Nat.le_of_ble_eq_true rfl) hn) dX12_undo_33 (by decide) (by decide) ?_
      cases hM
      exact g_iret S hr hlk hG hsz dX12_undo_34 ⟨Nat.le_of_ble_eq_true rfl, Nat.le_of_ble_eq_true rfl⟩ ⟨rfl, rfl⟩
    · replace hM := ifp hM c_4
      refine lv_bipush (v := iI (-5)) hx hb dX12_undo_21 (by decide) ?_
      cases hM
      exact g_iret S hr hlk hG hsz dX12_undo_23 ⟨Nat.le_of_ble_eq_true rfl, Nat.le_of_ble_eq_true rfl⟩ ⟨rfl, rfl⟩
  · replace hM := ifp hM c_2
    refine lv_bipush (v := iI (-2)) hx hb dX12_undo_9 (by decide) ?_
    cases hM
    exact g_iret S hr hlk hG hsz dX12_undo_11 ⟨Nat.le_of_ble_eq_true rfl, Nat.le_of_ble_eq_true rfl⟩ ⟨rfl, rfl⟩
def mX12_anew_19 (x_3 : Int) : Nat → St → Option (St)
  | 0, _ => none
  | f + 1, S_4 => gd (inI (S_4 84 4)) <| if (S_4 84 4) ≤ 0 then (some (S_4)) else (bd1 (mX12_takesBack S_4) fun S_15 => mX12_anew_19 x_3 f S_15)
def mX12_anew (S0 : St)  : Option (Int × St) := gd (inI (S0 84 3)) <| if (S0 84 3) = 0 then (some ((-2), S0)) else (nx (S0 84 4) fun x_3 => bd1 (mX12_anew_19 x_3 FU S0) fun S_5 => nx (up S_5 83 45 0) fun S_8 => some (x_3, S_8))
set_option maxHeartbeats 4000000 in
set_option maxRecDepth 100000 in
theorem vX12_anew (l : Launch) {D : va_G} {cy : Nat → ClassId} {b n : Nat} (hn : 102 ≤ n) {X : Nat → va_E} {S0 : St}  {o1 : Int} {o2 : St} (hM : mX12_anew S0  = some (o1, o2)) : gI l yX12_anew cX12_anew 2 (some .int) 1 0 0 D cy b n (enc b cy X S0) [.ref (b + 80)] (fun r u => r = iI o1 ∧ u = (n, enc b cy X o2)) := by
  refine gI_of (by decide) (Nat.le_of_ble_eq_true rfl) ?_
  intro p e s m args below meth c S hr hlk hin hsz ls hl hG
  have hx := S.1
  have hb := S.2.1
  have hl : lv_has ls 2 [(0, .ref (b + 80))] := hl
  replace hG : gW D cy b n s s.heap [] (enc b cy X S0) := hG
  obtain ⟨H, eH⟩ : ∃ H, H = s.heap := ⟨_, rfl⟩
  obtain ⟨locs, elocs⟩ : ∃ locs : List Loc, locs = [] := ⟨_, rfl⟩
  rw [← eH, ← elocs] at hG
  rw [← eH, ← elocs]
  clear eH elocs
  unfold mX12_anew at hM
  refine lv_aload_n hx hb dX12_anew_0 rfl (lv_at hl 0 rfl) ?_
  refine m_get S hG 80 83 0 rfl ec_83 cpX12 wm_1673 dX12_anew_1 rfl (Nat.lt_of_lt_of_le (Nat.le_of_ble_eq_true rfl) hn) (by decide) ?_
  refine lv_iconst (v := iI 3) hx hb dX12_anew_4 (by decide) ?_
  refine mi_ald S hG 81 84 rfl ec_84 (Nat.lt_of_lt_of_le (Nat.le_of_ble_eq_true rfl) hn) dX12_anew_5 (by decide) (by decide) ?_
  obtain ⟨hg_1, hM⟩ := gd_some hM
  refine gi_if_ne (tgt := 12) hx hb dX12_anew_6 (by decide) hg_1 (fun c_2 => ?_) (fun c_2 => ?_)
  · replace hM := ifn hM c_2
    refine lv_aload_n hx hb dX12_anew_12 rfl (lv_at hl 0 rfl) ?_
    refine m_get S hG 80 83 0 rfl ec_83 cpX12 wm_1673 dX12_anew_13 rfl (Nat.lt_of_lt_of_le (Nat.le_of_ble_eq_true rfl) hn) (by decide) ?_
    refine lv_iconst (v := iI 4) hx hb dX12_anew_16 (by decide) ?_
    refine mi_ald S hG 81 84 rfl ec_84 (Nat.lt_of_lt_of_le (Nat.le_of_ble_eq_true rfl) hn) dX12_anew_17 (by decide) (by decide) ?_
    refine gi_nm (fun x_3 ex_3 => ?_)
    replace hM := nx_at hM ex_3
    clear ex_3
    refine lv_istore_n (lv' := [(1, .int (iI x_3)), (0, .ref (b + 80))]) hx hb dX12_anew_18 rfl hl (by decide) rfl (fun ls hl => ?_)
    obtain ⟨S_5, hc_6, hM⟩ := bd1_some hM
    have hK_7 : ∀ (H : Heap) (locs : List Loc) (ls : Array Slot), gW D cy b n s H locs (enc b cy X S_5) → lv_has ls 2 [(1, .int (iI x_3)), (0, .ref (b + 80))] → W p l e (gRm 1 0 0) s m args below meth c H locs 0 0 (gQI D cy b s args below 0 0 (fun r u => r = iI o1 ∧ u = (n, enc b cy X o2))) (F0 m 35 ls []) := by
      intro H locs ls hG hl
      refine lv_aload_n hx hb dX12_anew_35 rfl (lv_at hl 1 rfl) ?_
      refine lv_iconst (v := iI 0) hx hb dX12_anew_36 (by decide) ?_
      refine m_put S hG 80 83 45 rfl 45 0 ec_83 cpX12 wm_1718 dX12_anew_37 (pf_83_45) (Nat.lt_of_lt_of_le (Nat.le_of_ble_eq_true rfl) hn) (by decide) (Nat.le_of_ble_eq_true rfl) rfl rfl rfl (fun H locs S_8 eS_8 hG => ?_)
      replace hM := nx_at hM eS_8
      clear eS_8
      refine lv_iload_n hx hb dX12_anew_40 rfl (lv_at hl 0 rfl) ?_
      cases hM
      exact g_iret S hr hlk hG hsz dX12_anew_41 ⟨Nat.le_of_ble_eq_true rfl, Nat.le_of_ble_eq_true rfl⟩ ⟨rfl, rfl⟩
    have loop_9 : ∀ (f : Nat)  (S_4 : St) (H : Heap) (locs : List Loc) (ls : Array Slot), mX12_anew_19 x_3 f S_4 = some S_5 → gW D cy b n s H locs (enc b cy X S_4) → lv_has ls 2 [(1, .int (iI x_3)), (0, .ref (b + 80))] → W p l e (gRm 1 0 0) s m args below meth c H locs 0 0 (gQI D cy b s args below 0 0 (fun r u => r = iI o1 ∧ u = (n, enc b cy X o2))) (F0 m 19 ls []) := by
      clear hM
      intro f
      induction f with
      | zero => intro  S_4 H locs ls hM; rw [mX12_anew_19] at hM; cases hM
      | succ f_11 ih_10 =>
        intro  S_4 H locs ls hM hG hl
        rw [mX12_anew_19] at hM
        refine lv_aload_n hx hb dX12_anew_19 rfl (lv_at hl 1 rfl) ?_
        refine m_get S hG 80 83 0 rfl ec_83 cpX12 wm_1673 dX12_anew_20 rfl (Nat.lt_of_lt_of_le (Nat.le_of_ble_eq_true rfl) hn) (by decide) ?_
        refine lv_iconst (v := iI 4) hx hb dX12_anew_23 (by decide) ?_
        refine mi_ald S hG 81 84 rfl ec_84 (Nat.lt_of_lt_of_le (Nat.le_of_ble_eq_true rfl) hn) dX12_anew_24 (by decide) (by decide) ?_
        obtain ⟨hg_12, hM⟩ := gd_some hM
        refine gi_if_le (tgt := 35) hx hb dX12_anew_25 (by decide) hg_12 (fun c_13 => ?_) (fun c_13 => ?_)
        · replace hM := ifp hM c_13
          cases hM
          exact hK_7 H locs ls hG (lv_sub hl [0, 1] rfl)
        · replace hM := ifn hM c_13
          refine lv_aload_n hx hb dX12_anew_28 rfl (lv_at hl 1 rfl) ?_
          obtain ⟨S_15, hc_14, hM⟩ := bd1_some hM
          refine g_vv (As := []) (rest := []) S hG hsz (vX12_takesBack l hn  hc_14) wV_12_587 (ec_83 _) cpX12 (Nat.lt_of_lt_of_le (Nat.le_of_ble_eq_true rfl) hn) dX12_anew_29 rfl hl.1 (ar := 0) (by decide +kernel) rfl ⟨Nat.le_of_ble_eq_true rfl, Nat.le_of_ble_eq_true rfl, Nat.le_of_ble_eq_true rfl, Nat.le_of_ble_eq_true rfl⟩ (Nat.le_of_ble_eq_true rfl) (fun uu H locs hp hG => ?_)
          obtain rfl := hp
          replace hG : gW D cy b n s H locs (enc b cy X S_15) := hG
          refine lv_goto (tgt := 19) hx hb dX12_anew_32 (by decide) ?_
          exact ih_10  S_15 H locs ls hM hG (lv_sub hl [0, 1] rfl)
    exact loop_9 FU  S0 H locs ls hc_6 hG (lv_sub hl [0, 1] rfl)
  · replace hM := ifp hM c_2
    refine lv_bipush (v := iI (-2)) hx hb dX12_anew_9 (by decide) ?_
    cases hM
    exact g_iret S hr hlk hG hsz dX12_anew_11 ⟨Nat.le_of_ble_eq_true rfl, Nat.le_of_ble_eq_true rfl⟩ ⟨rfl, rfl⟩
