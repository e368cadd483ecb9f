theorem dX10_branches_29 : decode cX10_branches 29 = .ok (.iastore, 1) := by decide +kernel
theorem dX10_branches_30 : decode cX10_branches 30 = .ok (.aload_n 0, 1) := by decide +kernel
theorem dX10_branches_31 : decode cX10_branches 31 = .ok (.dup, 1) := by decide +kernel
theorem dX10_branches_32 : decode cX10_branches 32 = .ok (.getfield 289, 3) := by decide +kernel
theorem dX10_branches_35 : decode cX10_branches 35 = .ok (.iconst 1, 1) := by decide +kernel
theorem dX10_branches_36 : decode cX10_branches 36 = .ok (.iadd, 1) := by decide +kernel
theorem dX10_branches_37 : decode cX10_branches 37 = .ok (.putfield 289, 3) := by decide +kernel
theorem dX10_branches_40 : decode cX10_branches 40 = .ok (.return_, 1) := by decide +kernel
theorem dX10_step_0 : decode cX10_step 0 = .ok (.bipush 8, 2) := by decide +kernel
theorem dX10_step_2 : decode cX10_step 2 = .ok (.aload_n 0, 1) := by decide +kernel
theorem dX10_step_3 : decode cX10_step 3 = .ok (.getfield 292, 3) := by decide +kernel
theorem dX10_step_6 : decode cX10_step 6 = .ok (.imul, 1) := by decide +kernel
theorem dX10_step_7 : decode cX10_step 7 = .ok (.istore_n 2, 1) := by decide +kernel
theorem dX10_step_8 : decode cX10_step 8 = .ok (.iload_n 1, 1) := by decide +kernel
theorem dX10_step_9 : decode cX10_step 9 = .ok (.iconst 1, 1) := by decide +kernel
theorem dX10_step_10 : decode cX10_step 10 = .ok (.iadd, 1) := by decide +kernel
theorem dX10_step_11 : decode cX10_step 11 = .ok (.istore_n 3, 1) := by decide +kernel
theorem dX10_step_12 : decode cX10_step 12 = .ok (.iconst 0, 1) := by decide +kernel
theorem dX10_step_13 : decode cX10_step 13 = .ok (.istore 4, 2) := by decide +kernel
theorem dX10_step_15 : decode cX10_step 15 = .ok (.iload 4, 2) := by decide +kernel
theorem dX10_step_17 : decode cX10_step 17 = .ok (.bipush 8, 2) := by decide +kernel
theorem dX10_step_19 : decode cX10_step 19 = .ok (.if_icmp .ge 30, 3) := by decide +kernel
theorem dX10_step_22 : decode cX10_step 22 = .ok (.aload_n 0, 1) := by decide +kernel
theorem dX10_step_23 : decode cX10_step 23 = .ok (.getfield 34, 3) := by decide +kernel
theorem dX10_step_26 : decode cX10_step 26 = .ok (.iload_n 2, 1) := by decide +kernel
theorem dX10_step_27 : decode cX10_step 27 = .ok (.bipush 8, 2) := by decide +kernel
theorem dX10_step_29 : decode cX10_step 29 = .ok (.iadd, 1) := by decide +kernel
theorem dX10_step_30 : decode cX10_step 30 = .ok (.iload 4, 2) := by decide +kernel
theorem dX10_step_32 : decode cX10_step 32 = .ok (.iadd, 1) := by decide +kernel
theorem dX10_step_33 : decode cX10_step 33 = .ok (.aload_n 0, 1) := by decide +kernel
theorem dX10_step_34 : decode cX10_step 34 = .ok (.getfield 34, 3) := by decide +kernel
theorem dX10_step_37 : decode cX10_step 37 = .ok (.iload_n 2, 1) := by decide +kernel
theorem dX10_step_38 : decode cX10_step 38 = .ok (.iload 4, 2) := by decide +kernel
theorem dX10_step_40 : decode cX10_step 40 = .ok (.iadd, 1) := by decide +kernel
theorem dX10_step_41 : decode cX10_step 41 = .ok (.iaload, 1) := by decide +kernel
theorem dX10_step_42 : decode cX10_step 42 = .ok (.iastore, 1) := by decide +kernel
theorem dX10_step_43 : decode cX10_step 43 = .ok (.iinc 4 1, 3) := by decide +kernel
theorem dX10_step_46 : decode cX10_step 46 = .ok (.goto (-31), 3) := by decide +kernel
theorem dX10_step_49 : decode cX10_step 49 = .ok (.aload_n 0, 1) := by decide +kernel
theorem dX10_step_50 : decode cX10_step 50 = .ok (.iload_n 1, 1) := by decide +kernel
theorem dX10_step_51 : decode cX10_step 51 = .ok (.invokevirtual 283, 3) := by decide +kernel
theorem dX10_step_54 : decode cX10_step 54 = .ok (.invokestatic 295, 3) := by decide +kernel
theorem dX10_step_57 : decode cX10_step 57 = .ok (.ifCond .eq 48, 3) := by decide +kernel
theorem dX10_step_60 : decode cX10_step 60 = .ok (.aload_n 0, 1) := by decide +kernel
theorem dX10_step_61 : decode cX10_step 61 = .ok (.iload_n 1, 1) := by decide +kernel
theorem dX10_step_62 : decode cX10_step 62 = .ok (.iload_n 2, 1) := by decide +kernel
theorem dX10_step_63 : decode cX10_step 63 = .ok (.invokevirtual 299, 3) := by decide +kernel
theorem dX10_step_66 : decode cX10_step 66 = .ok (.istore 4, 2) := by decide +kernel
theorem dX10_step_68 : decode cX10_step 68 = .ok (.aload_n 0, 1) := by decide +kernel
theorem dX10_step_69 : decode cX10_step 69 = .ok (.iload_n 1, 1) := by decide +kernel
theorem dX10_step_70 : decode cX10_step 70 = .ok (.iload 4, 2) := by decide +kernel
theorem dX10_step_72 : decode cX10_step 72 = .ok (.ifCond .eq 7, 3) := by decide +kernel
theorem dX10_step_75 : decode cX10_step 75 = .ok (.iconst 1, 1) := by decide +kernel
theorem dX10_step_76 : decode cX10_step 76 = .ok (.goto 4, 3) := by decide +kernel
theorem dX10_step_79 : decode cX10_step 79 = .ok (.iconst 0, 1) := by decide +kernel
theorem dX10_step_80 : decode cX10_step 80 = .ok (.aload_n 0, 1) := by decide +kernel
theorem dX10_step_81 : decode cX10_step 81 = .ok (.getfield 292, 3) := by decide +kernel
theorem dX10_step_84 : decode cX10_step 84 = .ok (.invokevirtual 303, 3) := by decide +kernel
theorem dX10_step_87 : decode cX10_step 87 = .ok (.iload 4, 2) := by decide +kernel
theorem dX10_step_89 : decode cX10_step 89 = .ok (.ifCond .eq 11, 3) := by decide +kernel
theorem dX10_step_92 : decode cX10_step 92 = .ok (.aload_n 0, 1) := by decide +kernel
theorem dX10_step_93 : decode cX10_step 93 = .ok (.iload_n 1, 1) := by decide +kernel
theorem dX10_step_94 : decode cX10_step 94 = .ok (.invokevirtual 307, 3) := by decide +kernel
theorem dX10_step_97 : decode cX10_step 97 = .ok (.goto 4, 3) := by decide +kernel
theorem dX10_step_100 : decode cX10_step 100 = .ok (.iload_n 3, 1) := by decide +kernel
theorem dX10_step_101 : decode cX10_step 101 = .ok (.istore_n 3, 1) := by decide +kernel
theorem dX10_step_102 : decode cX10_step 102 = .ok (.goto 50, 3) := by decide +kernel
theorem dX10_step_105 : decode cX10_step 105 = .ok (.aload_n 0, 1) := by decide +kernel
theorem dX10_step_106 : decode cX10_step 106 = .ok (.iload_n 1, 1) := by decide +kernel
theorem dX10_step_107 : decode cX10_step 107 = .ok (.invokevirtual 283, 3) := by decide +kernel
theorem dX10_step_110 : decode cX10_step 110 = .ok (.bipush 9, 2) := by decide +kernel
theorem dX10_step_112 : decode cX10_step 112 = .ok (.if_icmp .ne 12, 3) := by decide +kernel
theorem dX10_step_115 : decode cX10_step 115 = .ok (.aload_n 0, 1) := by decide +kernel
theorem dX10_step_116 : decode cX10_step 116 = .ok (.iload_n 1, 1) := by decide +kernel
theorem dX10_step_117 : decode cX10_step 117 = .ok (.invokevirtual 307, 3) := by decide +kernel
theorem dX10_step_120 : decode cX10_step 120 = .ok (.istore_n 3, 1) := by decide +kernel
theorem dX10_step_121 : decode cX10_step 121 = .ok (.goto 31, 3) := by decide +kernel
theorem dX10_step_124 : decode cX10_step 124 = .ok (.aload_n 0, 1) := by decide +kernel
theorem dX10_step_125 : decode cX10_step 125 = .ok (.iload_n 1, 1) := by decide +kernel
theorem dX10_step_126 : decode cX10_step 126 = .ok (.invokevirtual 283, 3) := by decide +kernel
theorem dX10_step_129 : decode cX10_step 129 = .ok (.aload_n 0, 1) := by decide +kernel
theorem dX10_step_130 : decode cX10_step 130 = .ok (.iload_n 1, 1) := by decide +kernel
theorem dX10_step_131 : decode cX10_step 131 = .ok (.iconst 0, 1) := by decide +kernel
theorem dX10_step_132 : decode cX10_step 132 = .ok (.invokevirtual 286, 3) := by decide +kernel
theorem dX10_step_135 : decode cX10_step 135 = .ok (.aload_n 0, 1) := by decide +kernel
theorem dX10_step_136 : decode cX10_step 136 = .ok (.iload_n 1, 1) := by decide +kernel
theorem dX10_step_137 : decode cX10_step 137 = .ok (.iconst 1, 1) := by decide +kernel
theorem dX10_step_138 : decode cX10_step 138 = .ok (.invokevirtual 286, 3) := by decide +kernel
theorem dX10_step_141 : decode cX10_step 141 = .ok (.aload_n 0, 1) := by decide +kernel
theorem dX10_step_142 : decode cX10_step 142 = .ok (.getfield 34, 3) := by decide +kernel
theorem dX10_step_145 : decode cX10_step 145 = .ok (.iload_n 2, 1) := by decide +kernel
theorem dX10_step_146 : decode cX10_step 146 = .ok (.bipush 8, 2) := by decide +kernel
theorem dX10_step_148 : decode cX10_step 148 = .ok (.iadd, 1) := by decide +kernel
theorem dX10_step_149 : decode cX10_step 149 = .ok (.invokestatic 310, 3) := by decide +kernel
theorem dX10_step_152 : decode cX10_step 152 = .ok (.aload_n 0, 1) := by decide +kernel
theorem dX10_step_153 : decode cX10_step 153 = .ok (.dup, 1) := by decide +kernel
theorem dX10_step_154 : decode cX10_step 154 = .ok (.getfield 292, 3) := by decide +kernel
theorem dX10_step_157 : decode cX10_step 157 = .ok (.iconst 1, 1) := by decide +kernel
theorem dX10_step_158 : decode cX10_step 158 = .ok (.iadd, 1) := by decide +kernel
theorem dX10_step_159 : decode cX10_step 159 = .ok (.putfield 292, 3) := by decide +kernel
theorem dX10_step_162 : decode cX10_step 162 = .ok (.aload_n 0, 1) := by decide +kernel
theorem dX10_step_163 : decode cX10_step 163 = .ok (.getfield 37, 3) := by decide +kernel
theorem dX10_step_166 : decode cX10_step 166 = .ok (.aload_n 0, 1) := by decide +kernel
theorem dX10_step_167 : decode cX10_step 167 = .ok (.getfield 292, 3) := by decide +kernel
theorem dX10_step_170 : decode cX10_step 170 = .ok (.iload_n 3, 1) := by decide +kernel
theorem dX10_step_171 : decode cX10_step 171 = .ok (.iastore, 1) := by decide +kernel
theorem dX10_step_172 : decode cX10_step 172 = .ok (.return_, 1) := by decide +kernel
theorem dX10_endNow_0 : decode cX10_endNow 0 = .ok (.aload_n 0, 1) := by decide +kernel
theorem dX10_endNow_1 : decode cX10_endNow 1 = .ok (.getfield 292, 3) := by decide +kernel
theorem dX10_endNow_4 : decode cX10_endNow 4 = .ok (.sipush 200, 3) := by decide +kernel
theorem dX10_endNow_7 : decode cX10_endNow 7 = .ok (.if_icmp .ne 5, 3) := by decide +kernel
theorem dX10_endNow_10 : decode cX10_endNow 10 = .ok (.iconst 3, 1) := by decide +kernel
theorem dX10_endNow_11 : decode cX10_endNow 11 = .ok (.ireturn, 1) := by decide +kernel
theorem dX10_endNow_12 : decode cX10_endNow 12 = .ok (.aload_n 0, 1) := by decide +kernel
theorem dX10_endNow_13 : decode cX10_endNow 13 = .ok (.aload_n 0, 1) := by decide +kernel
theorem dX10_endNow_14 : decode cX10_endNow 14 = .ok (.getfield 37, 3) := by decide +kernel
theorem dX10_endNow_17 : decode cX10_endNow 17 = .ok (.aload_n 0, 1) := by decide +kernel
theorem dX10_endNow_18 : decode cX10_endNow 18 = .ok (.getfield 292, 3) := by decide +kernel
theorem dX10_endNow_21 : decode cX10_endNow 21 = .ok (.iaload, 1) := by decide +kernel
theorem dX10_endNow_22 : decode cX10_endNow 22 = .ok (.invokevirtual 314, 3) := by decide +kernel
theorem dX10_endNow_25 : decode cX10_endNow 25 = .ok (.ifCond .ne 5, 3) := by decide +kernel
theorem dX10_endNow_28 : decode cX10_endNow 28 = .ok (.iconst 2, 1) := by decide +kernel
theorem dX10_endNow_29 : decode cX10_endNow 29 = .ok (.ireturn, 1) := by decide +kernel
theorem dX10_endNow_30 : decode cX10_endNow 30 = .ok (.aload_n 0, 1) := by decide +kernel
theorem dX10_endNow_31 : decode cX10_endNow 31 = .ok (.aload_n 0, 1) := by decide +kernel
theorem dX10_endNow_32 : decode cX10_endNow 32 = .ok (.getfield 37, 3) := by decide +kernel
theorem dX10_endNow_35 : decode cX10_endNow 35 = .ok (.aload_n 0, 1) := by decide +kernel
theorem dX10_endNow_36 : decode cX10_endNow 36 = .ok (.getfield 292, 3) := by decide +kernel
theorem dX10_endNow_39 : decode cX10_endNow 39 = .ok (.iaload, 1) := by decide +kernel
theorem dX10_endNow_40 : decode cX10_endNow 40 = .ok (.invokevirtual 283, 3) := by decide +kernel
theorem dX10_endNow_43 : decode cX10_endNow 43 = .ok (.bipush 10, 2) := by decide +kernel
theorem dX10_endNow_45 : decode cX10_endNow 45 = .ok (.if_icmp .ne 7, 3) := by decide +kernel
theorem dX10_endNow_48 : decode cX10_endNow 48 = .ok (.iconst 1, 1) := by decide +kernel
theorem dX10_endNow_49 : decode cX10_endNow 49 = .ok (.goto 4, 3) := by decide +kernel
theorem dX10_endNow_52 : decode cX10_endNow 52 = .ok (.iconst 0, 1) := by decide +kernel
theorem dX10_endNow_53 : decode cX10_endNow 53 = .ok (.ireturn, 1) := by decide +kernel
theorem dX10_layRun_0 : decode cX10_layRun 0 = .ok (.aload_n 0, 1) := by decide +kernel
theorem dX10_layRun_1 : decode cX10_layRun 1 = .ok (.iconst 0, 1) := by decide +kernel
theorem dX10_layRun_2 : decode cX10_layRun 2 = .ok (.putfield 292, 3) := by decide +kernel
theorem dX10_layRun_5 : decode cX10_layRun 5 = .ok (.aload_n 0, 1) := by decide +kernel
theorem dX10_layRun_6 : decode cX10_layRun 6 = .ok (.iconst 0, 1) := by decide +kernel
theorem dX10_layRun_7 : decode cX10_layRun 7 = .ok (.putfield 289, 3) := by decide +kernel
theorem dX10_layRun_10 : decode cX10_layRun 10 = .ok (.aload_n 0, 1) := by decide +kernel
theorem dX10_layRun_11 : decode cX10_layRun 11 = .ok (.getfield 37, 3) := by decide +kernel
theorem dX10_layRun_14 : decode cX10_layRun 14 = .ok (.iconst 0, 1) := by decide +kernel
theorem dX10_layRun_15 : decode cX10_layRun 15 = .ok (.iconst 0, 1) := by decide +kernel
theorem dX10_layRun_16 : decode cX10_layRun 16 = .ok (.iastore, 1) := by decide +kernel
theorem dX10_layRun_17 : decode cX10_layRun 17 = .ok (.iconst 0, 1) := by decide +kernel
theorem dX10_layRun_18 : decode cX10_layRun 18 = .ok (.istore_n 1, 1) := by decide +kernel
theorem dX10_layRun_19 : decode cX10_layRun 19 = .ok (.iload_n 1, 1) := by decide +kernel
theorem dX10_layRun_20 : decode cX10_layRun 20 = .ok (.bipush 8, 2) := by decide +kernel
theorem dX10_layRun_22 : decode cX10_layRun 22 = .ok (.if_icmp .ge 16, 3) := by decide +kernel
theorem dX10_layRun_25 : decode cX10_layRun 25 = .ok (.aload_n 0, 1) := by decide +kernel
theorem dX10_layRun_26 : decode cX10_layRun 26 = .ok (.getfield 34, 3) := by decide +kernel
theorem dX10_layRun_29 : decode cX10_layRun 29 = .ok (.iload_n 1, 1) := by decide +kernel
theorem dX10_layRun_30 : decode cX10_layRun 30 = .ok (.iconst 0, 1) := by decide +kernel
theorem dX10_layRun_31 : decode cX10_layRun 31 = .ok (.iastore, 1) := by decide +kernel
theorem dX10_layRun_32 : decode cX10_layRun 32 = .ok (.iinc 1 1, 3) := by decide +kernel
theorem dX10_layRun_35 : decode cX10_layRun 35 = .ok (.goto (-16), 3) := by decide +kernel
theorem dX10_layRun_38 : decode cX10_layRun 38 = .ok (.aload_n 0, 1) := by decide +kernel
theorem dX10_layRun_39 : decode cX10_layRun 39 = .ok (.aload_n 0, 1) := by decide +kernel
theorem dX10_layRun_40 : decode cX10_layRun 40 = .ok (.invokevirtual 317, 3) := by decide +kernel
theorem dX10_layRun_43 : decode cX10_layRun 43 = .ok (.putfield 320, 3) := by decide +kernel
theorem dX10_layRun_46 : decode cX10_layRun 46 = .ok (.aload_n 0, 1) := by decide +kernel
theorem dX10_layRun_47 : decode cX10_layRun 47 = .ok (.getfield 320, 3) := by decide +kernel
theorem dX10_layRun_50 : decode cX10_layRun 50 = .ok (.ifCond .ne 27, 3) := by decide +kernel
theorem dX10_layRun_53 : decode cX10_layRun 53 = .ok (.aload_n 0, 1) := by decide +kernel
theorem dX10_layRun_54 : decode cX10_layRun 54 = .ok (.aload_n 0, 1) := by decide +kernel
theorem dX10_layRun_55 : decode cX10_layRun 55 = .ok (.getfield 37, 3) := by decide +kernel
theorem dX10_layRun_58 : decode cX10_layRun 58 = .ok (.aload_n 0, 1) := by decide +kernel
theorem dX10_layRun_59 : decode cX10_layRun 59 = .ok (.getfield 292, 3) := by decide +kernel
theorem dX10_layRun_62 : decode cX10_layRun 62 = .ok (.iaload, 1) := by decide +kernel
theorem dX10_layRun_63 : decode cX10_layRun 63 = .ok (.invokevirtual 323, 3) := by decide +kernel
theorem dX10_layRun_66 : decode cX10_layRun 66 = .ok (.aload_n 0, 1) := by decide +kernel
theorem dX10_layRun_67 : decode cX10_layRun 67 = .ok (.aload_n 0, 1) := by decide +kernel
theorem dX10_layRun_68 : decode cX10_layRun 68 = .ok (.invokevirtual 317, 3) := by decide +kernel
theorem dX10_layRun_71 : decode cX10_layRun 71 = .ok (.putfield 320, 3) := by decide +kernel
theorem dX10_layRun_74 : decode cX10_layRun 74 = .ok (.goto (-28), 3) := by decide +kernel
theorem dX10_layRun_77 : decode cX10_layRun 77 = .ok (.aload_n 0, 1) := by decide +kernel
theorem dX10_layRun_78 : decode cX10_layRun 78 = .ok (.aload_n 0, 1) := by decide +kernel
theorem dX10_layRun_79 : decode cX10_layRun 79 = .ok (.getfield 289, 3) := by decide +kernel
theorem dX10_layRun_82 : decode cX10_layRun 82 = .ok (.putfield 326, 3) := by decide +kernel
theorem dX10_layRun_85 : decode cX10_layRun 85 = .ok (.iconst 0, 1) := by decide +kernel
theorem dX10_layRun_86 : decode cX10_layRun 86 = .ok (.istore_n 1, 1) := by decide +kernel
theorem dX10_layRun_87 : decode cX10_layRun 87 = .ok (.iload_n 1, 1) := by decide +kernel
theorem dX10_layRun_88 : decode cX10_layRun 88 = .ok (.aload_n 0, 1) := by decide +kernel
theorem dX10_layRun_89 : decode cX10_layRun 89 = .ok (.getfield 9, 3) := by decide +kernel
theorem dX10_layRun_92 : decode cX10_layRun 92 = .ok (.bipush 8, 2) := by decide +kernel
theorem dX10_layRun_94 : decode cX10_layRun 94 = .ok (.iaload, 1) := by decide +kernel
theorem dX10_layRun_95 : decode cX10_layRun 95 = .ok (.if_icmp .ge 38, 3) := by decide +kernel
theorem dX10_layRun_98 : decode cX10_layRun 98 = .ok (.aload_n 0, 1) := by decide +kernel
theorem dX10_layRun_99 : decode cX10_layRun 99 = .ok (.aload_n 0, 1) := by decide +kernel
theorem dX10_layRun_100 : decode cX10_layRun 100 = .ok (.getfield 9, 3) := by decide +kernel
theorem dX10_layRun_103 : decode cX10_layRun 103 = .ok (.sipush 175, 3) := by decide +kernel
theorem dX10_layRun_106 : decode cX10_layRun 106 = .ok (.iload_n 1, 1) := by decide +kernel
theorem dX10_layRun_107 : decode cX10_layRun 107 = .ok (.iadd, 1) := by decide +kernel
theorem dX10_layRun_108 : decode cX10_layRun 108 = .ok (.iaload, 1) := by decide +kernel
theorem dX10_layRun_109 : decode cX10_layRun 109 = .ok (.iconst 2, 1) := by decide +kernel
theorem dX10_layRun_110 : decode cX10_layRun 110 = .ok (.idiv, 1) := by decide +kernel
theorem dX10_layRun_111 : decode cX10_layRun 111 = .ok (.aload_n 0, 1) := by decide +kernel
theorem dX10_layRun_112 : decode cX10_layRun 112 = .ok (.getfield 9, 3) := by decide +kernel
theorem dX10_layRun_115 : decode cX10_layRun 115 = .ok (.sipush 175, 3) := by decide +kernel
theorem dX10_layRun_118 : decode cX10_layRun 118 = .ok (.iload_n 1, 1) := by decide +kernel
theorem dX10_layRun_119 : decode cX10_layRun 119 = .ok (.iadd, 1) := by decide +kernel
theorem dX10_layRun_120 : decode cX10_layRun 120 = .ok (.iaload, 1) := by decide +kernel
theorem dX10_layRun_121 : decode cX10_layRun 121 = .ok (.iconst 2, 1) := by decide +kernel
theorem dX10_layRun_122 : decode cX10_layRun 122 = .ok (.irem, 1) := by decide +kernel
theorem dX10_layRun_123 : decode cX10_layRun 123 = .ok (.iconst (-1), 1) := by decide +kernel
theorem dX10_layRun_124 : decode cX10_layRun 124 = .ok (.invokevirtual 303, 3) := by decide +kernel
theorem dX10_layRun_127 : decode cX10_layRun 127 = .ok (.iinc 1 1, 3) := by decide +kernel
theorem dX10_layRun_130 : decode cX10_layRun 130 = .ok (.goto (-43), 3) := by decide +kernel
theorem dX10_layRun_133 : decode cX10_layRun 133 = .ok (.return_, 1) := by decide +kernel
theorem dX10_has_0 : decode cX10_has 0 = .ok (.aload_n 0, 1) := by decide +kernel
theorem dX10_has_1 : decode cX10_has 1 = .ok (.getfield 329, 3) := by decide +kernel
theorem dX10_has_4 : decode cX10_has 4 = .ok (.iload_n 1, 1) := by decide +kernel
theorem dX10_has_5 : decode cX10_has 5 = .ok (.iand, 1) := by decide +kernel
theorem dX10_has_6 : decode cX10_has 6 = .ok (.ifCond .eq 7, 3) := by decide +kernel
theorem dX10_has_9 : decode cX10_has 9 = .ok (.iconst 1, 1) := by decide +kernel
theorem dX10_has_10 : decode cX10_has 10 = .ok (.goto 4, 3) := by decide +kernel
theorem dX10_has_13 : decode cX10_has 13 = .ok (.iconst 0, 1) := by decide +kernel
theorem dX10_has_14 : decode cX10_has 14 = .ok (.ireturn, 1) := by decide +kernel
theorem dX10_tables_0 : decode cX10_tables 0 = .ok (.aload_n 0, 1) := by decide +kernel
theorem dX10_tables_1 : decode cX10_tables 1 = .ok (.getfield 9, 3) := by decide +kernel
theorem dX10_tables_4 : decode cX10_tables 4 = .ok (.bipush 6, 2) := by decide +kernel
theorem dX10_tables_6 : decode cX10_tables 6 = .ok (.iaload, 1) := by decide +kernel
theorem dX10_tables_7 : decode cX10_tables 7 = .ok (.ireturn, 1) := by decide +kernel
theorem dX10_rowsOf_0 : decode cX10_rowsOf 0 = .ok (.iconst 1, 1) := by decide +kernel
theorem dX10_rowsOf_1 : decode cX10_rowsOf 1 = .ok (.aload_n 0, 1) := by decide +kernel
theorem dX10_rowsOf_2 : decode cX10_rowsOf 2 = .ok (.getfield 9, 3) := by decide +kernel
theorem dX10_rowsOf_5 : decode cX10_rowsOf 5 = .ok (.iconst 0, 1) := by decide +kernel
theorem dX10_rowsOf_6 : decode cX10_rowsOf 6 = .ok (.iaload, 1) := by decide +kernel
theorem dX10_rowsOf_7 : decode cX10_rowsOf 7 = .ok (.ishl, 1) := by decide +kernel
theorem dX10_rowsOf_8 : decode cX10_rowsOf 8 = .ok (.ireturn, 1) := by decide +kernel
theorem dX10_asTold_0 : decode cX10_asTold 0 = .ok (.aload_n 0, 1) := by decide +kernel
theorem dX10_asTold_1 : decode cX10_asTold 1 = .ok (.aload_n 0, 1) := by decide +kernel
theorem dX10_asTold_2 : decode cX10_asTold 2 = .ok (.getfield 9, 3) := by decide +kernel
theorem dX10_asTold_5 : decode cX10_asTold 5 = .ok (.iconst 5, 1) := by decide +kernel
theorem dX10_asTold_6 : decode cX10_asTold 6 = .ok (.iaload, 1) := by decide +kernel
theorem dX10_asTold_7 : decode cX10_asTold 7 = .ok (.putfield 329, 3) := by decide +kernel
theorem dX10_asTold_10 : decode cX10_asTold 10 = .ok (.aload_n 0, 1) := by decide +kernel
theorem dX10_asTold_11 : decode cX10_asTold 11 = .ok (.iconst 0, 1) := by decide +kernel
theorem dX10_asTold_12 : decode cX10_asTold 12 = .ok (.putfield 332, 3) := by decide +kernel
theorem dX10_asTold_15 : decode cX10_asTold 15 = .ok (.iconst 1, 1) := by decide +kernel
theorem dX10_asTold_16 : decode cX10_asTold 16 = .ok (.istore_n 1, 1) := by decide +kernel
theorem dX10_asTold_17 : decode cX10_asTold 17 = .ok (.iload_n 1, 1) := by decide +kernel
theorem dX10_asTold_18 : decode cX10_asTold 18 = .ok (.aload_n 0, 1) := by decide +kernel
theorem dX10_asTold_19 : decode cX10_asTold 19 = .ok (.invokevirtual 335, 3) := by decide +kernel
theorem dX10_asTold_22 : decode cX10_asTold 22 = .ok (.if_icmp .gt 26, 3) := by decide +kernel
theorem dX10_asTold_25 : decode cX10_asTold 25 = .ok (.aload_n 0, 1) := by decide +kernel
theorem dX10_asTold_26 : decode cX10_asTold 26 = .ok (.getfield 49, 3) := by decide +kernel
theorem dX10_asTold_29 : decode cX10_asTold 29 = .ok (.iload_n 1, 1) := by decide +kernel
theorem dX10_asTold_30 : decode cX10_asTold 30 = .ok (.aload_n 0, 1) := by decide +kernel
theorem dX10_asTold_31 : decode cX10_asTold 31 = .ok (.getfield 9, 3) := by decide +kernel
theorem dX10_asTold_34 : decode cX10_asTold 34 = .ok (.bipush 10, 2) := by decide +kernel
theorem dX10_asTold_36 : decode cX10_asTold 36 = .ok (.iload_n 1, 1) := by decide +kernel
theorem dX10_asTold_37 : decode cX10_asTold 37 = .ok (.iadd, 1) := by decide +kernel
theorem dX10_asTold_38 : decode cX10_asTold 38 = .ok (.iconst 1, 1) := by decide +kernel
theorem dX10_asTold_39 : decode cX10_asTold 39 = .ok (.isub, 1) := by decide +kernel
theorem dX10_asTold_40 : decode cX10_asTold 40 = .ok (.iaload, 1) := by decide +kernel
theorem dX10_asTold_41 : decode cX10_asTold 41 = .ok (.iastore, 1) := by decide +kernel
theorem dX10_asTold_42 : decode cX10_asTold 42 = .ok (.iinc 1 1, 3) := by decide +kernel
theorem dX10_asTold_45 : decode cX10_asTold 45 = .ok (.goto (-28), 3) := by decide +kernel
theorem dX10_asTold_48 : decode cX10_asTold 48 = .ok (.return_, 1) := by decide +kernel
theorem dX10_beginGuesser_0 : decode cX10_beginGuesser 0 = .ok (.iconst 0, 1) := by decide +kernel
theorem dX10_beginGuesser_1 : decode cX10_beginGuesser 1 = .ok (.istore_n 1, 1) := by decide +kernel
theorem dX10_beginGuesser_2 : decode cX10_beginGuesser 2 = .ok (.iload_n 1, 1) := by decide +kernel
theorem dX10_beginGuesser_3 : decode cX10_beginGuesser 3 = .ok (.bipush 80, 2) := by decide +kernel
theorem dX10_beginGuesser_5 : decode cX10_beginGuesser 5 = .ok (.if_icmp .ge 30, 3) := by decide +kernel
theorem dX10_beginGuesser_8 : decode cX10_beginGuesser 8 = .ok (.aload_n 0, 1) := by decide +kernel
theorem dX10_beginGuesser_9 : decode cX10_beginGuesser 9 = .ok (.getfield 52, 3) := by decide +kernel
theorem dX10_beginGuesser_12 : decode cX10_beginGuesser 12 = .ok (.iload_n 1, 1) := by decide +kernel
theorem dX10_beginGuesser_13 : decode cX10_beginGuesser 13 = .ok (.iconst (-1), 1) := by decide +kernel
theorem dX10_beginGuesser_14 : decode cX10_beginGuesser 14 = .ok (.iastore, 1) := by decide +kernel
theorem dX10_beginGuesser_15 : decode cX10_beginGuesser 15 = .ok (.aload_n 0, 1) := by decide +kernel
theorem dX10_beginGuesser_16 : decode cX10_beginGuesser 16 = .ok (.getfield 55, 3) := by decide +kernel
theorem dX10_beginGuesser_19 : decode cX10_beginGuesser 19 = .ok (.iload_n 1, 1) := by decide +kernel
theorem dX10_beginGuesser_20 : decode cX10_beginGuesser 20 = .ok (.iconst 0, 1) := by decide +kernel
theorem dX10_beginGuesser_21 : decode cX10_beginGuesser 21 = .ok (.iastore, 1) := by decide +kernel
theorem dX10_beginGuesser_22 : decode cX10_beginGuesser 22 = .ok (.aload_n 0, 1) := by decide +kernel
theorem dX10_beginGuesser_23 : decode cX10_beginGuesser 23 = .ok (.getfield 58, 3) := by decide +kernel
theorem dX10_beginGuesser_26 : decode cX10_beginGuesser 26 = .ok (.iload_n 1, 1) := by decide +kernel
theorem dX10_beginGuesser_27 : decode cX10_beginGuesser 27 = .ok (.iconst 0, 1) := by decide +kernel
theorem dX10_beginGuesser_28 : decode cX10_beginGuesser 28 = .ok (.iastore, 1) := by decide +kernel
theorem dX10_beginGuesser_29 : decode cX10_beginGuesser 29 = .ok (.iinc 1 1, 3) := by decide +kernel
theorem dX10_beginGuesser_32 : decode cX10_beginGuesser 32 = .ok (.goto (-30), 3) := by decide +kernel
theorem dX10_beginGuesser_35 : decode cX10_beginGuesser 35 = .ok (.iconst 0, 1) := by decide +kernel
theorem dX10_beginGuesser_36 : decode cX10_beginGuesser 36 = .ok (.istore_n 1, 1) := by decide +kernel
theorem dX10_beginGuesser_37 : decode cX10_beginGuesser 37 = .ok (.iload_n 1, 1) := by decide +kernel
theorem dX10_beginGuesser_38 : decode cX10_beginGuesser 38 = .ok (.bipush 16, 2) := by decide +kernel
theorem dX10_beginGuesser_40 : decode cX10_beginGuesser 40 = .ok (.if_icmp .ge 16, 3) := by decide +kernel
theorem dX10_beginGuesser_43 : decode cX10_beginGuesser 43 = .ok (.aload_n 0, 1) := by decide +kernel
theorem dX10_beginGuesser_44 : decode cX10_beginGuesser 44 = .ok (.getfield 61, 3) := by decide +kernel
theorem dX10_beginGuesser_47 : decode cX10_beginGuesser 47 = .ok (.iload_n 1, 1) := by decide +kernel
theorem dX10_beginGuesser_48 : decode cX10_beginGuesser 48 = .ok (.iconst 1, 1) := by decide +kernel
theorem dX10_beginGuesser_49 : decode cX10_beginGuesser 49 = .ok (.iastore, 1) := by decide +kernel
theorem dX10_beginGuesser_50 : decode cX10_beginGuesser 50 = .ok (.iinc 1 1, 3) := by decide +kernel
theorem dX10_beginGuesser_53 : decode cX10_beginGuesser 53 = .ok (.goto (-16), 3) := by decide +kernel
theorem dX10_beginGuesser_56 : decode cX10_beginGuesser 56 = .ok (.iconst 0, 1) := by decide +kernel
theorem dX10_beginGuesser_57 : decode cX10_beginGuesser 57 = .ok (.istore_n 1, 1) := by decide +kernel
theorem dX10_beginGuesser_58 : decode cX10_beginGuesser 58 = .ok (.iload_n 1, 1) := by decide +kernel
theorem dX10_beginGuesser_59 : decode cX10_beginGuesser 59 = .ok (.bipush 8, 2) := by decide +kernel
theorem dX10_beginGuesser_61 : decode cX10_beginGuesser 61 = .ok (.if_icmp .ge 21, 3) := by decide +kernel
theorem dX10_beginGuesser_64 : decode cX10_beginGuesser 64 = .ok (.aload_n 0, 1) := by decide +kernel
theorem dX10_beginGuesser_65 : decode cX10_beginGuesser 65 = .ok (.iload_n 1, 1) := by decide +kernel
theorem dX10_beginGuesser_66 : decode cX10_beginGuesser 66 = .ok (.invokevirtual 338, 3) := by decide +kernel
theorem dX10_beginGuesser_69 : decode cX10_beginGuesser 69 = .ok (.aload_n 0, 1) := by decide +kernel
theorem dX10_beginGuesser_70 : decode cX10_beginGuesser 70 = .ok (.getfield 76, 3) := by decide +kernel
theorem dX10_beginGuesser_73 : decode cX10_beginGuesser 73 = .ok (.iload_n 1, 1) := by decide +kernel
theorem dX10_beginGuesser_74 : decode cX10_beginGuesser 74 = .ok (.iconst 0, 1) := by decide +kernel
theorem dX10_beginGuesser_75 : decode cX10_beginGuesser 75 = .ok (.iastore, 1) := by decide +kernel
theorem dX10_beginGuesser_76 : decode cX10_beginGuesser 76 = .ok (.iinc 1 1, 3) := by decide +kernel
theorem dX10_beginGuesser_79 : decode cX10_beginGuesser 79 = .ok (.goto (-21), 3) := by decide +kernel
theorem dX10_beginGuesser_82 : decode cX10_beginGuesser 82 = .ok (.iconst 0, 1) := by decide +kernel
theorem dX10_beginGuesser_83 : decode cX10_beginGuesser 83 = .ok (.istore_n 1, 1) := by decide +kernel
theorem dX10_beginGuesser_84 : decode cX10_beginGuesser 84 = .ok (.iload_n 1, 1) := by decide +kernel
theorem dX10_beginGuesser_85 : decode cX10_beginGuesser 85 = .ok (.bipush 48, 2) := by decide +kernel
theorem dX10_beginGuesser_87 : decode cX10_beginGuesser 87 = .ok (.if_icmp .ge 16, 3) := by decide +kernel
theorem dX10_beginGuesser_90 : decode cX10_beginGuesser 90 = .ok (.aload_n 0, 1) := by decide +kernel
theorem dX10_beginGuesser_91 : decode cX10_beginGuesser 91 = .ok (.getfield 79, 3) := by decide +kernel
theorem dX10_beginGuesser_94 : decode cX10_beginGuesser 94 = .ok (.iload_n 1, 1) := by decide +kernel
theorem dX10_beginGuesser_95 : decode cX10_beginGuesser 95 = .ok (.iconst 0, 1) := by decide +kernel
theorem dX10_beginGuesser_96 : decode cX10_beginGuesser 96 = .ok (.iastore, 1) := by decide +kernel
theorem dX10_beginGuesser_97 : decode cX10_beginGuesser 97 = .ok (.iinc 1 1, 3) := by decide +kernel
theorem dX10_beginGuesser_100 : decode cX10_beginGuesser 100 = .ok (.goto (-16), 3) := by decide +kernel
theorem dX10_beginGuesser_103 : decode cX10_beginGuesser 103 = .ok (.aload_n 0, 1) := by decide +kernel
theorem dX10_beginGuesser_104 : decode cX10_beginGuesser 104 = .ok (.bipush 8, 2) := by decide +kernel
theorem dX10_beginGuesser_106 : decode cX10_beginGuesser 106 = .ok (.putfield 341, 3) := by decide +kernel
theorem dX10_beginGuesser_109 : decode cX10_beginGuesser 109 = .ok (.aload_n 0, 1) := by decide +kernel
theorem dX10_beginGuesser_110 : decode cX10_beginGuesser 110 = .ok (.iconst 0, 1) := by decide +kernel
theorem dX10_beginGuesser_111 : decode cX10_beginGuesser 111 = .ok (.putfield 344, 3) := by decide +kernel
theorem dX10_beginGuesser_114 : decode cX10_beginGuesser 114 = .ok (.aload_n 0, 1) := by decide +kernel
theorem dX10_beginGuesser_115 : decode cX10_beginGuesser 115 = .ok (.iconst 4, 1) := by decide +kernel
theorem dX10_beginGuesser_116 : decode cX10_beginGuesser 116 = .ok (.putfield 347, 3) := by decide +kernel
theorem dX10_beginGuesser_119 : decode cX10_beginGuesser 119 = .ok (.aload_n 0, 1) := by decide +kernel
theorem dX10_beginGuesser_120 : decode cX10_beginGuesser 120 = .ok (.iconst 0, 1) := by decide +kernel
theorem dX10_beginGuesser_121 : decode cX10_beginGuesser 121 = .ok (.putfield 350, 3) := by decide +kernel
theorem dX10_beginGuesser_124 : decode cX10_beginGuesser 124 = .ok (.aload_n 0, 1) := by decide +kernel
theorem dX10_beginGuesser_125 : decode cX10_beginGuesser 125 = .ok (.lconst 0, 1) := by decide +kernel
theorem dX10_beginGuesser_126 : decode cX10_beginGuesser 126 = .ok (.putfield 353, 3) := by decide +kernel
theorem dX10_beginGuesser_129 : decode cX10_beginGuesser 129 = .ok (.return_, 1) := by decide +kernel
theorem dX10_empties_0 : decode cX10_empties 0 = .ok (.aload_n 0, 1) := by decide +kernel
theorem dX10_empties_1 : decode cX10_empties 1 = .ok (.getfield 64, 3) := by decide +kernel
theorem dX10_empties_4 : decode cX10_empties 4 = .ok (.iload_n 1, 1) := by decide +kernel
theorem dX10_empties_5 : decode cX10_empties 5 = .ok (.iconst (-1), 1) := by decide +kernel
theorem dX10_empties_6 : decode cX10_empties 6 = .ok (.iastore, 1) := by decide +kernel
theorem dX10_empties_7 : decode cX10_empties 7 = .ok (.aload_n 0, 1) := by decide +kernel
theorem dX10_empties_8 : decode cX10_empties 8 = .ok (.getfield 67, 3) := by decide +kernel
theorem dX10_empties_11 : decode cX10_empties 11 = .ok (.iload_n 1, 1) := by decide +kernel
theorem dX10_empties_12 : decode cX10_empties 12 = .ok (.iconst (-1), 1) := by decide +kernel
theorem dX10_empties_13 : decode cX10_empties 13 = .ok (.iastore, 1) := by decide +kernel
theorem dX10_empties_14 : decode cX10_empties 14 = .ok (.aload_n 0, 1) := by decide +kernel
theorem dX10_empties_15 : decode cX10_empties 15 = .ok (.getfield 70, 3) := by decide +kernel
theorem dX10_empties_18 : decode cX10_empties 18 = .ok (.iload_n 1, 1) := by decide +kernel
theorem dX10_empties_19 : decode cX10_empties 19 = .ok (.iconst 0, 1) := by decide +kernel
theorem dX10_empties_20 : decode cX10_empties 20 = .ok (.iastore, 1) := by decide +kernel
theorem dX10_empties_21 : decode cX10_empties 21 = .ok (.aload_n 0, 1) := by decide +kernel
theorem dX10_empties_22 : decode cX10_empties 22 = .ok (.getfield 73, 3) := by decide +kernel
theorem dX10_empties_25 : decode cX10_empties 25 = .ok (.iload_n 1, 1) := by decide +kernel
theorem dX10_empties_26 : decode cX10_empties 26 = .ok (.iconst 0, 1) := by decide +kernel
theorem dX10_empties_27 : decode cX10_empties 27 = .ok (.iastore, 1) := by decide +kernel
theorem dX10_empties_28 : decode cX10_empties 28 = .ok (.return_, 1) := by decide +kernel
theorem dX10_foldOf_0 : decode cX10_foldOf 0 = .ok (.iconst 0, 1) := by decide +kernel
theorem dX10_foldOf_1 : decode cX10_foldOf 1 = .ok (.istore_n 3, 1) := by decide +kernel
theorem dX10_foldOf_2 : decode cX10_foldOf 2 = .ok (.iconst 0, 1) := by decide +kernel
theorem dX10_foldOf_3 : decode cX10_foldOf 3 = .ok (.istore 4, 2) := by decide +kernel
theorem dX10_foldOf_5 : decode cX10_foldOf 5 = .ok (.iload 4, 2) := by decide +kernel
theorem dX10_foldOf_7 : decode cX10_foldOf 7 = .ok (.iload_n 1, 1) := by decide +kernel
theorem dX10_foldOf_8 : decode cX10_foldOf 8 = .ok (.if_icmp .ge 32, 3) := by decide +kernel
theorem dX10_foldOf_11 : decode cX10_foldOf 11 = .ok (.aload_n 0, 1) := by decide +kernel
theorem dX10_foldOf_12 : decode cX10_foldOf 12 = .ok (.getfield 353, 3) := by decide +kernel
theorem dX10_foldOf_15 : decode cX10_foldOf 15 = .ok (.iload 4, 2) := by decide +kernel
theorem dX10_foldOf_17 : decode cX10_foldOf 17 = .ok (.lshr, 1) := by decide +kernel
theorem dX10_foldOf_18 : decode cX10_foldOf 18 = .ok (.lconst 1, 1) := by decide +kernel
theorem dX10_foldOf_19 : decode cX10_foldOf 19 = .ok (.land, 1) := by decide +kernel
theorem dX10_foldOf_20 : decode cX10_foldOf 20 = .ok (.lconst 1, 1) := by decide +kernel
theorem dX10_foldOf_21 : decode cX10_foldOf 21 = .ok (.lcmp, 1) := by decide +kernel
theorem dX10_foldOf_22 : decode cX10_foldOf 22 = .ok (.ifCond .ne 12, 3) := by decide +kernel
theorem dX10_foldOf_25 : decode cX10_foldOf 25 = .ok (.iload_n 3, 1) := by decide +kernel
theorem dX10_foldOf_26 : decode cX10_foldOf 26 = .ok (.iconst 1, 1) := by decide +kernel
theorem dX10_foldOf_27 : decode cX10_foldOf 27 = .ok (.iload 4, 2) := by decide +kernel
theorem dX10_foldOf_29 : decode cX10_foldOf 29 = .ok (.iload_n 2, 1) := by decide +kernel
theorem dX10_foldOf_30 : decode cX10_foldOf 30 = .ok (.irem, 1) := by decide +kernel
theorem dX10_foldOf_31 : decode cX10_foldOf 31 = .ok (.ishl, 1) := by decide +kernel
theorem dX10_foldOf_32 : decode cX10_foldOf 32 = .ok (.ixor, 1) := by decide +kernel
theorem dX10_foldOf_33 : decode cX10_foldOf 33 = .ok (.istore_n 3, 1) := by decide +kernel
theorem dX10_foldOf_34 : decode cX10_foldOf 34 = .ok (.iinc 4 1, 3) := by decide +kernel
theorem dX10_foldOf_37 : decode cX10_foldOf 37 = .ok (.goto (-32), 3) := by decide +kernel
theorem dX10_foldOf_40 : decode cX10_foldOf 40 = .ok (.iload_n 3, 1) := by decide +kernel
theorem dX10_foldOf_41 : decode cX10_foldOf 41 = .ok (.ireturn, 1) := by decide +kernel
theorem dX10_indexOf_0 : decode cX10_indexOf 0 = .ok (.aload_n 0, 1) := by decide +kernel
theorem dX10_indexOf_1 : decode cX10_indexOf 1 = .ok (.getfield 9, 3) := by decide +kernel
theorem dX10_indexOf_4 : decode cX10_indexOf 4 = .ok (.iconst 0, 1) := by decide +kernel
theorem dX10_indexOf_5 : decode cX10_indexOf 5 = .ok (.iaload, 1) := by decide +kernel
theorem dX10_indexOf_6 : decode cX10_indexOf 6 = .ok (.istore_n 3, 1) := by decide +kernel
theorem dX10_indexOf_7 : decode cX10_indexOf 7 = .ok (.iload_n 2, 1) := by decide +kernel
theorem dX10_indexOf_8 : decode cX10_indexOf 8 = .ok (.iload_n 2, 1) := by decide +kernel
theorem dX10_indexOf_9 : decode cX10_indexOf 9 = .ok (.iload_n 3, 1) := by decide +kernel
theorem dX10_indexOf_10 : decode cX10_indexOf 10 = .ok (.ishr, 1) := by decide +kernel
theorem dX10_indexOf_11 : decode cX10_indexOf 11 = .ok (.ixor, 1) := by decide +kernel
theorem dX10_indexOf_12 : decode cX10_indexOf 12 = .ok (.aload_n 0, 1) := by decide +kernel
theorem dX10_indexOf_13 : decode cX10_indexOf 13 = .ok (.aload_n 0, 1) := by decide +kernel
theorem dX10_indexOf_14 : decode cX10_indexOf 14 = .ok (.getfield 49, 3) := by decide +kernel
theorem dX10_indexOf_17 : decode cX10_indexOf 17 = .ok (.iload_n 1, 1) := by decide +kernel
theorem dX10_indexOf_18 : decode cX10_indexOf 18 = .ok (.iaload, 1) := by decide +kernel
theorem dX10_indexOf_19 : decode cX10_indexOf 19 = .ok (.iload_n 3, 1) := by decide +kernel
theorem dX10_indexOf_20 : decode cX10_indexOf 20 = .ok (.invokevirtual 357, 3) := by decide +kernel
theorem dX10_indexOf_23 : decode cX10_indexOf 23 = .ok (.ixor, 1) := by decide +kernel
theorem dX10_indexOf_24 : decode cX10_indexOf 24 = .ok (.iload_n 1, 1) := by decide +kernel
theorem dX10_indexOf_25 : decode cX10_indexOf 25 = .ok (.ixor, 1) := by decide +kernel
theorem dX10_indexOf_26 : decode cX10_indexOf 26 = .ok (.aload_n 0, 1) := by decide +kernel
theorem dX10_indexOf_27 : decode cX10_indexOf 27 = .ok (.invokevirtual 360, 3) := by decide +kernel
theorem dX10_indexOf_30 : decode cX10_indexOf 30 = .ok (.iconst 1, 1) := by decide +kernel
theorem dX10_indexOf_31 : decode cX10_indexOf 31 = .ok (.isub, 1) := by decide +kernel
theorem dX10_indexOf_32 : decode cX10_indexOf 32 = .ok (.iand, 1) := by decide +kernel
theorem dX10_indexOf_33 : decode cX10_indexOf 33 = .ok (.ireturn, 1) := by decide +kernel
theorem dX10_tagOf_0 : decode cX10_tagOf 0 = .ok (.aload_n 0, 1) := by decide +kernel
theorem dX10_tagOf_1 : decode cX10_tagOf 1 = .ok (.getfield 9, 3) := by decide +kernel
theorem dX10_tagOf_4 : decode cX10_tagOf 4 = .ok (.iconst 1, 1) := by decide +kernel
theorem dX10_tagOf_5 : decode cX10_tagOf 5 = .ok (.iaload, 1) := by decide +kernel
theorem dX10_tagOf_6 : decode cX10_tagOf 6 = .ok (.istore_n 3, 1) := by decide +kernel
theorem dX10_tagOf_7 : decode cX10_tagOf 7 = .ok (.iload_n 2, 1) := by decide +kernel
theorem dX10_tagOf_8 : decode cX10_tagOf 8 = .ok (.iconst 1, 1) := by decide +kernel
theorem dX10_tagOf_9 : decode cX10_tagOf 9 = .ok (.iload_n 3, 1) := by decide +kernel
theorem dX10_tagOf_10 : decode cX10_tagOf 10 = .ok (.ishl, 1) := by decide +kernel
theorem dX10_tagOf_11 : decode cX10_tagOf 11 = .ok (.iconst 1, 1) := by decide +kernel
theorem dX10_tagOf_12 : decode cX10_tagOf 12 = .ok (.isub, 1) := by decide +kernel
theorem dX10_tagOf_13 : decode cX10_tagOf 13 = .ok (.iand, 1) := by decide +kernel
theorem dX10_tagOf_14 : decode cX10_tagOf 14 = .ok (.aload_n 0, 1) := by decide +kernel
theorem dX10_tagOf_15 : decode cX10_tagOf 15 = .ok (.aload_n 0, 1) := by decide +kernel
theorem dX10_tagOf_16 : decode cX10_tagOf 16 = .ok (.getfield 49, 3) := by decide +kernel
theorem dX10_tagOf_19 : decode cX10_tagOf 19 = .ok (.iload_n 1, 1) := by decide +kernel
theorem dX10_tagOf_20 : decode cX10_tagOf 20 = .ok (.iaload, 1) := by decide +kernel
theorem dX10_tagOf_21 : decode cX10_tagOf 21 = .ok (.iload_n 3, 1) := by decide +kernel
theorem dX10_tagOf_22 : decode cX10_tagOf 22 = .ok (.invokevirtual 357, 3) := by decide +kernel
theorem dX10_tagOf_25 : decode cX10_tagOf 25 = .ok (.ixor, 1) := by decide +kernel
theorem dX10_tagOf_26 : decode cX10_tagOf 26 = .ok (.iconst 2, 1) := by decide +kernel
theorem dX10_tagOf_27 : decode cX10_tagOf 27 = .ok (.aload_n 0, 1) := by decide +kernel
theorem dX10_tagOf_28 : decode cX10_tagOf 28 = .ok (.aload_n 0, 1) := by decide +kernel
theorem dX10_tagOf_29 : decode cX10_tagOf 29 = .ok (.getfield 49, 3) := by decide +kernel
theorem dX10_tagOf_32 : decode cX10_tagOf 32 = .ok (.iload_n 1, 1) := by decide +kernel
theorem dX10_tagOf_33 : decode cX10_tagOf 33 = .ok (.iaload, 1) := by decide +kernel
theorem dX10_tagOf_34 : decode cX10_tagOf 34 = .ok (.iload_n 3, 1) := by decide +kernel
theorem dX10_tagOf_35 : decode cX10_tagOf 35 = .ok (.iconst 1, 1) := by decide +kernel
theorem dX10_tagOf_36 : decode cX10_tagOf 36 = .ok (.isub, 1) := by decide +kernel
theorem dX10_tagOf_37 : decode cX10_tagOf 37 = .ok (.invokevirtual 357, 3) := by decide +kernel
theorem dX10_tagOf_40 : decode cX10_tagOf 40 = .ok (.imul, 1) := by decide +kernel
theorem dX10_tagOf_41 : decode cX10_tagOf 41 = .ok (.ixor, 1) := by decide +kernel
theorem dX10_tagOf_42 : decode cX10_tagOf 42 = .ok (.ireturn, 1) := by decide +kernel
theorem dX10_saysOf_0 : decode cX10_saysOf 0 = .ok (.iload_n 1, 1) := by decide +kernel
theorem dX10_saysOf_1 : decode cX10_saysOf 1 = .ok (.ifCond .ne 25, 3) := by decide +kernel
theorem dX10_saysOf_4 : decode cX10_saysOf 4 = .ok (.aload_n 0, 1) := by decide +kernel
theorem dX10_saysOf_5 : decode cX10_saysOf 5 = .ok (.getfield 61, 3) := by decide +kernel
theorem dX10_saysOf_8 : decode cX10_saysOf 8 = .ok (.aload_n 0, 1) := by decide +kernel
theorem dX10_saysOf_9 : decode cX10_saysOf 9 = .ok (.getfield 363, 3) := by decide +kernel
theorem dX10_saysOf_12 : decode cX10_saysOf 12 = .ok (.bipush 16, 2) := by decide +kernel
theorem dX10_saysOf_14 : decode cX10_saysOf 14 = .ok (.irem, 1) := by decide +kernel
theorem dX10_saysOf_15 : decode cX10_saysOf 15 = .ok (.iaload, 1) := by decide +kernel
theorem dX10_saysOf_16 : decode cX10_saysOf 16 = .ok (.iconst 2, 1) := by decide +kernel
theorem dX10_saysOf_17 : decode cX10_saysOf 17 = .ok (.if_icmp .lt 7, 3) := by decide +kernel
theorem dX10_saysOf_20 : decode cX10_saysOf 20 = .ok (.iconst 1, 1) := by decide +kernel
theorem dX10_saysOf_21 : decode cX10_saysOf 21 = .ok (.goto 4, 3) := by decide +kernel
theorem dX10_saysOf_24 : decode cX10_saysOf 24 = .ok (.iconst 0, 1) := by decide +kernel
theorem dX10_saysOf_25 : decode cX10_saysOf 25 = .ok (.ireturn, 1) := by decide +kernel
theorem dX10_saysOf_26 : decode cX10_saysOf 26 = .ok (.aload_n 0, 1) := by decide +kernel
theorem dX10_saysOf_27 : decode cX10_saysOf 27 = .ok (.getfield 55, 3) := by decide +kernel
theorem dX10_saysOf_30 : decode cX10_saysOf 30 = .ok (.aload_n 0, 1) := by decide +kernel
theorem dX10_saysOf_31 : decode cX10_saysOf 31 = .ok (.getfield 82, 3) := by decide +kernel
theorem dX10_saysOf_34 : decode cX10_saysOf 34 = .ok (.iload_n 1, 1) := by decide +kernel
theorem dX10_saysOf_35 : decode cX10_saysOf 35 = .ok (.iaload, 1) := by decide +kernel
theorem dX10_saysOf_36 : decode cX10_saysOf 36 = .ok (.iaload, 1) := by decide +kernel
theorem dX10_saysOf_37 : decode cX10_saysOf 37 = .ok (.ifCond .lt 7, 3) := by decide +kernel
theorem dX10_saysOf_40 : decode cX10_saysOf 40 = .ok (.iconst 1, 1) := by decide +kernel
theorem dX10_saysOf_41 : decode cX10_saysOf 41 = .ok (.goto 4, 3) := by decide +kernel
theorem dX10_saysOf_44 : decode cX10_saysOf 44 = .ok (.iconst 0, 1) := by decide +kernel
theorem dX10_saysOf_45 : decode cX10_saysOf 45 = .ok (.ireturn, 1) := by decide +kernel
theorem dX10_matches_0 : decode cX10_matches 0 = .ok (.iload_n 1, 1) := by decide +kernel
theorem dX10_matches_1 : decode cX10_matches 1 = .ok (.aload_n 0, 1) := by decide +kernel
theorem dX10_matches_2 : decode cX10_matches 2 = .ok (.getfield 332, 3) := by decide +kernel
theorem dX10_matches_5 : decode cX10_matches 5 = .ok (.if_icmp .eq 27, 3) := by decide +kernel
theorem dX10_matches_8 : decode cX10_matches 8 = .ok (.aload_n 0, 1) := by decide +kernel
theorem dX10_matches_9 : decode cX10_matches 9 = .ok (.getfield 52, 3) := by decide +kernel
theorem dX10_matches_12 : decode cX10_matches 12 = .ok (.aload_n 0, 1) := by decide +kernel
theorem dX10_matches_13 : decode cX10_matches 13 = .ok (.getfield 82, 3) := by decide +kernel
theorem dX10_matches_16 : decode cX10_matches 16 = .ok (.iload_n 1, 1) := by decide +kernel
theorem dX10_matches_17 : decode cX10_matches 17 = .ok (.iaload, 1) := by decide +kernel
theorem dX10_matches_18 : decode cX10_matches 18 = .ok (.iaload, 1) := by decide +kernel
theorem dX10_matches_19 : decode cX10_matches 19 = .ok (.aload_n 0, 1) := by decide +kernel
theorem dX10_matches_20 : decode cX10_matches 20 = .ok (.getfield 85, 3) := by decide +kernel
theorem dX10_matches_23 : decode cX10_matches 23 = .ok (.iload_n 1, 1) := by decide +kernel
theorem dX10_matches_24 : decode cX10_matches 24 = .ok (.iaload, 1) := by decide +kernel
theorem dX10_matches_25 : decode cX10_matches 25 = .ok (.if_icmp .ne 7, 3) := by decide +kernel
theorem dX10_matches_28 : decode cX10_matches 28 = .ok (.iconst 1, 1) := by decide +kernel
theorem dX10_matches_29 : decode cX10_matches 29 = .ok (.goto 4, 3) := by decide +kernel
theorem dX10_matches_32 : decode cX10_matches 32 = .ok (.iconst 0, 1) := by decide +kernel
theorem dX10_matches_33 : decode cX10_matches 33 = .ok (.ireturn, 1) := by decide +kernel
theorem dX10_matching_0 : decode cX10_matching 0 = .ok (.iload_n 1, 1) := by decide +kernel
theorem dX10_matching_1 : decode cX10_matching 1 = .ok (.iconst 1, 1) := by decide +kernel
theorem dX10_matching_2 : decode cX10_matching 2 = .ok (.isub, 1) := by decide +kernel
theorem dX10_matching_3 : decode cX10_matching 3 = .ok (.istore_n 2, 1) := by decide +kernel
theorem dX10_matching_4 : decode cX10_matching 4 = .ok (.iload_n 2, 1) := by decide +kernel
theorem dX10_matching_5 : decode cX10_matching 5 = .ok (.ifCond .le 17, 3) := by decide +kernel
theorem dX10_matching_8 : decode cX10_matching 8 = .ok (.aload_n 0, 1) := by decide +kernel
theorem dX10_matching_9 : decode cX10_matching 9 = .ok (.iload_n 2, 1) := by decide +kernel
theorem dX10_matching_10 : decode cX10_matching 10 = .ok (.invokevirtual 366, 3) := by decide +kernel
theorem dX10_matching_13 : decode cX10_matching 13 = .ok (.ifCond .ne 9, 3) := by decide +kernel
theorem dX10_matching_16 : decode cX10_matching 16 = .ok (.iinc 2 (-1), 3) := by decide +kernel
theorem dX10_matching_19 : decode cX10_matching 19 = .ok (.goto (-15), 3) := by decide +kernel
theorem dX10_matching_22 : decode cX10_matching 22 = .ok (.iload_n 2, 1) := by decide +kernel
theorem dX10_matching_23 : decode cX10_matching 23 = .ok (.ireturn, 1) := by decide +kernel
theorem dX10_askTables_0 : decode cX10_askTables 0 = .ok (.iconst 1, 1) := by decide +kernel
theorem dX10_askTables_1 : decode cX10_askTables 1 = .ok (.istore_n 1, 1) := by decide +kernel
theorem dX10_askTables_2 : decode cX10_askTables 2 = .ok (.iload_n 1, 1) := by decide +kernel
theorem dX10_askTables_3 : decode cX10_askTables 3 = .ok (.aload_n 0, 1) := by decide +kernel
theorem dX10_askTables_4 : decode cX10_askTables 4 = .ok (.invokevirtual 335, 3) := by decide +kernel
theorem dX10_askTables_7 : decode cX10_askTables 7 = .ok (.if_icmp .gt 46, 3) := by decide +kernel
theorem dX10_askTables_10 : decode cX10_askTables 10 = .ok (.aload_n 0, 1) := by decide +kernel
theorem dX10_askTables_11 : decode cX10_askTables 11 = .ok (.getfield 82, 3) := by decide +kernel
theorem dX10_askTables_14 : decode cX10_askTables 14 = .ok (.iload_n 1, 1) := by decide +kernel
theorem dX10_askTables_15 : decode cX10_askTables 15 = .ok (.bipush 16, 2) := by decide +kernel
theorem dX10_askTables_17 : decode cX10_askTables 17 = .ok (.iload_n 1, 1) := by decide +kernel
theorem dX10_askTables_18 : decode cX10_askTables 18 = .ok (.iconst 1, 1) := by decide +kernel
theorem dX10_askTables_19 : decode cX10_askTables 19 = .ok (.isub, 1) := by decide +kernel
theorem dX10_askTables_20 : decode cX10_askTables 20 = .ok (.imul, 1) := by decide +kernel
theorem dX10_askTables_21 : decode cX10_askTables 21 = .ok (.aload_n 0, 1) := by decide +kernel
theorem dX10_askTables_22 : decode cX10_askTables 22 = .ok (.iload_n 1, 1) := by decide +kernel
theorem dX10_askTables_23 : decode cX10_askTables 23 = .ok (.aload_n 0, 1) := by decide +kernel
theorem dX10_askTables_24 : decode cX10_askTables 24 = .ok (.getfield 363, 3) := by decide +kernel
theorem dX10_askTables_27 : decode cX10_askTables 27 = .ok (.invokevirtual 369, 3) := by decide +kernel
theorem dX10_askTables_30 : decode cX10_askTables 30 = .ok (.iadd, 1) := by decide +kernel
theorem dX10_askTables_31 : decode cX10_askTables 31 = .ok (.iastore, 1) := by decide +kernel
theorem dX10_askTables_32 : decode cX10_askTables 32 = .ok (.aload_n 0, 1) := by decide +kernel
theorem dX10_askTables_33 : decode cX10_askTables 33 = .ok (.getfield 85, 3) := by decide +kernel
theorem dX10_askTables_36 : decode cX10_askTables 36 = .ok (.iload_n 1, 1) := by decide +kernel
theorem dX10_askTables_37 : decode cX10_askTables 37 = .ok (.aload_n 0, 1) := by decide +kernel
theorem dX10_askTables_38 : decode cX10_askTables 38 = .ok (.iload_n 1, 1) := by decide +kernel
theorem dX10_askTables_39 : decode cX10_askTables 39 = .ok (.aload_n 0, 1) := by decide +kernel
theorem dX10_askTables_40 : decode cX10_askTables 40 = .ok (.getfield 363, 3) := by decide +kernel
theorem dX10_askTables_43 : decode cX10_askTables 43 = .ok (.invokevirtual 372, 3) := by decide +kernel
theorem dX10_askTables_46 : decode cX10_askTables 46 = .ok (.iastore, 1) := by decide +kernel
theorem dX10_askTables_47 : decode cX10_askTables 47 = .ok (.iinc 1 1, 3) := by decide +kernel
theorem dX10_askTables_50 : decode cX10_askTables 50 = .ok (.goto (-48), 3) := by decide +kernel
theorem dX10_askTables_53 : decode cX10_askTables 53 = .ok (.aload_n 0, 1) := by decide +kernel
theorem dX10_askTables_54 : decode cX10_askTables 54 = .ok (.aload_n 0, 1) := by decide +kernel
theorem dX10_askTables_55 : decode cX10_askTables 55 = .ok (.aload_n 0, 1) := by decide +kernel
theorem dX10_askTables_56 : decode cX10_askTables 56 = .ok (.invokevirtual 335, 3) := by decide +kernel
theorem dX10_askTables_59 : decode cX10_askTables 59 = .ok (.iconst 1, 1) := by decide +kernel
theorem dX10_askTables_60 : decode cX10_askTables 60 = .ok (.iadd, 1) := by decide +kernel
theorem dX10_askTables_61 : decode cX10_askTables 61 = .ok (.invokevirtual 375, 3) := by decide +kernel
theorem dX10_askTables_64 : decode cX10_askTables 64 = .ok (.putfield 378, 3) := by decide +kernel
theorem dX10_askTables_67 : decode cX10_askTables 67 = .ok (.aload_n 0, 1) := by decide +kernel
theorem dX10_askTables_68 : decode cX10_askTables 68 = .ok (.aload_n 0, 1) := by decide +kernel
theorem dX10_askTables_69 : decode cX10_askTables 69 = .ok (.getfield 378, 3) := by decide +kernel
theorem dX10_askTables_72 : decode cX10_askTables 72 = .ok (.ifCond .ne 7, 3) := by decide +kernel
theorem dX10_askTables_75 : decode cX10_askTables 75 = .ok (.iconst 0, 1) := by decide +kernel
theorem dX10_askTables_76 : decode cX10_askTables 76 = .ok (.goto 11, 3) := by decide +kernel
theorem dX10_askTables_79 : decode cX10_askTables 79 = .ok (.aload_n 0, 1) := by decide +kernel
theorem dX10_askTables_80 : decode cX10_askTables 80 = .ok (.aload_n 0, 1) := by decide +kernel
theorem dX10_askTables_81 : decode cX10_askTables 81 = .ok (.getfield 378, 3) := by decide +kernel
theorem dX10_askTables_84 : decode cX10_askTables 84 = .ok (.invokevirtual 375, 3) := by decide +kernel
theorem dX10_askTables_87 : decode cX10_askTables 87 = .ok (.putfield 381, 3) := by decide +kernel
theorem dX10_askTables_90 : decode cX10_askTables 90 = .ok (.aload_n 0, 1) := by decide +kernel
theorem dX10_askTables_91 : decode cX10_askTables 91 = .ok (.aload_n 0, 1) := by decide +kernel
theorem dX10_askTables_92 : decode cX10_askTables 92 = .ok (.aload_n 0, 1) := by decide +kernel
theorem dX10_askTables_93 : decode cX10_askTables 93 = .ok (.getfield 378, 3) := by decide +kernel
theorem dX10_askTables_96 : decode cX10_askTables 96 = .ok (.invokevirtual 384, 3) := by decide +kernel
theorem dX10_askTables_99 : decode cX10_askTables 99 = .ok (.putfield 387, 3) := by decide +kernel
theorem dX10_askTables_102 : decode cX10_askTables 102 = .ok (.aload_n 0, 1) := by decide +kernel
theorem dX10_askTables_103 : decode cX10_askTables 103 = .ok (.aload_n 0, 1) := by decide +kernel
theorem dX10_askTables_104 : decode cX10_askTables 104 = .ok (.aload_n 0, 1) := by decide +kernel
theorem dX10_askTables_105 : decode cX10_askTables 105 = .ok (.getfield 381, 3) := by decide +kernel
theorem dX10_askTables_108 : decode cX10_askTables 108 = .ok (.invokevirtual 384, 3) := by decide +kernel
theorem dX10_askTables_111 : decode cX10_askTables 111 = .ok (.putfield 390, 3) := by decide +kernel
theorem dX10_askTables_114 : decode cX10_askTables 114 = .ok (.aload_n 0, 1) := by decide +kernel
theorem dX10_askTables_115 : decode cX10_askTables 115 = .ok (.getfield 82, 3) := by decide +kernel
theorem dX10_askTables_118 : decode cX10_askTables 118 = .ok (.aload_n 0, 1) := by decide +kernel
theorem dX10_askTables_119 : decode cX10_askTables 119 = .ok (.getfield 378, 3) := by decide +kernel
theorem dX10_askTables_122 : decode cX10_askTables 122 = .ok (.iaload, 1) := by decide +kernel
theorem dX10_askTables_123 : decode cX10_askTables 123 = .ok (.istore_n 1, 1) := by decide +kernel
theorem dX10_askTables_124 : decode cX10_askTables 124 = .ok (.aload_n 0, 1) := by decide +kernel
theorem dX10_askTables_125 : decode cX10_askTables 125 = .ok (.aload_n 0, 1) := by decide +kernel
theorem dX10_askTables_126 : decode cX10_askTables 126 = .ok (.getfield 378, 3) := by decide +kernel
theorem dX10_askTables_129 : decode cX10_askTables 129 = .ok (.ifCond .le 33, 3) := by decide +kernel
theorem dX10_askTables_132 : decode cX10_askTables 132 = .ok (.aload_n 0, 1) := by decide +kernel
theorem dX10_askTables_133 : decode cX10_askTables 133 = .ok (.getfield 55, 3) := by decide +kernel
theorem dX10_askTables_136 : decode cX10_askTables 136 = .ok (.iload_n 1, 1) := by decide +kernel
theorem dX10_askTables_137 : decode cX10_askTables 137 = .ok (.iaload, 1) := by decide +kernel
theorem dX10_askTables_138 : decode cX10_askTables 138 = .ok (.i2l, 1) := by decide +kernel
theorem dX10_askTables_139 : decode cX10_askTables 139 = .ok (.ldc2_w 393, 3) := by decide +kernel
theorem dX10_askTables_142 : decode cX10_askTables 142 = .ok (.lconst 0, 1) := by decide +kernel
theorem dX10_askTables_143 : decode cX10_askTables 143 = .ok (.invokestatic 139, 3) := by decide +kernel
theorem dX10_askTables_146 : decode cX10_askTables 146 = .ok (.ifCond .eq 16, 3) := by decide +kernel
theorem dX10_askTables_149 : decode cX10_askTables 149 = .ok (.aload_n 0, 1) := by decide +kernel
theorem dX10_askTables_150 : decode cX10_askTables 150 = .ok (.getfield 58, 3) := by decide +kernel
theorem dX10_askTables_153 : decode cX10_askTables 153 = .ok (.iload_n 1, 1) := by decide +kernel
theorem dX10_askTables_154 : decode cX10_askTables 154 = .ok (.iaload, 1) := by decide +kernel
theorem dX10_askTables_155 : decode cX10_askTables 155 = .ok (.ifCond .ne 7, 3) := by decide +kernel
theorem dX10_askTables_158 : decode cX10_askTables 158 = .ok (.iconst 1, 1) := by decide +kernel
theorem dX10_askTables_159 : decode cX10_askTables 159 = .ok (.goto 4, 3) := by decide +kernel
theorem dX10_askTables_162 : decode cX10_askTables 162 = .ok (.iconst 0, 1) := by decide +kernel
theorem dX10_askTables_163 : decode cX10_askTables 163 = .ok (.putfield 395, 3) := by decide +kernel
theorem dX10_askTables_166 : decode cX10_askTables 166 = .ok (.aload_n 0, 1) := by decide +kernel
theorem dX10_askTables_167 : decode cX10_askTables 167 = .ok (.aload_n 0, 1) := by decide +kernel
theorem dX10_askTables_168 : decode cX10_askTables 168 = .ok (.getfield 395, 3) := by decide +kernel
theorem dX10_askTables_171 : decode cX10_askTables 171 = .ok (.ifCond .eq 27, 3) := by decide +kernel
theorem dX10_askTables_174 : decode cX10_askTables 174 = .ok (.aload_n 0, 1) := by decide +kernel
theorem dX10_askTables_175 : decode cX10_askTables 175 = .ok (.iconst 4, 1) := by decide +kernel
theorem dX10_askTables_176 : decode cX10_askTables 176 = .ok (.invokevirtual 399, 3) := by decide +kernel
theorem dX10_askTables_179 : decode cX10_askTables 179 = .ok (.ifCond .eq 19, 3) := by decide +kernel
theorem dX10_askTables_182 : decode cX10_askTables 182 = .ok (.aload_n 0, 1) := by decide +kernel
theorem dX10_askTables_183 : decode cX10_askTables 183 = .ok (.getfield 341, 3) := by decide +kernel
theorem dX10_askTables_186 : decode cX10_askTables 186 = .ok (.bipush 7, 2) := by decide +kernel
theorem dX10_askTables_188 : decode cX10_askTables 188 = .ok (.if_icmp .le 10, 3) := by decide +kernel
theorem dX10_askTables_191 : decode cX10_askTables 191 = .ok (.aload_n 0, 1) := by decide +kernel
theorem dX10_askTables_192 : decode cX10_askTables 192 = .ok (.getfield 390, 3) := by decide +kernel
theorem dX10_askTables_195 : decode cX10_askTables 195 = .ok (.goto 7, 3) := by decide +kernel
theorem dX10_askTables_198 : decode cX10_askTables 198 = .ok (.aload_n 0, 1) := by decide +kernel
theorem dX10_askTables_199 : decode cX10_askTables 199 = .ok (.getfield 387, 3) := by decide +kernel
theorem dX10_askTables_202 : decode cX10_askTables 202 = .ok (.putfield 402, 3) := by decide +kernel
theorem dX10_askTables_205 : decode cX10_askTables 205 = .ok (.return_, 1) := by decide +kernel
theorem dX10_loopSays_0 : decode cX10_loopSays 0 = .ok (.aload_n 0, 1) := by decide +kernel
theorem dX10_loopSays_1 : decode cX10_loopSays 1 = .ok (.getfield 363, 3) := by decide +kernel
theorem dX10_loopSays_4 : decode cX10_loopSays 4 = .ok (.bipush 8, 2) := by decide +kernel
theorem dX10_loopSays_6 : decode cX10_loopSays 6 = .ok (.irem, 1) := by decide +kernel
theorem dX10_loopSays_7 : decode cX10_loopSays 7 = .ok (.istore_n 1, 1) := by decide +kernel
theorem dX10_loopSays_8 : decode cX10_loopSays 8 = .ok (.aload_n 0, 1) := by decide +kernel
theorem dX10_loopSays_9 : decode cX10_loopSays 9 = .ok (.iconst 1, 1) := by decide +kernel
theorem dX10_loopSays_10 : decode cX10_loopSays 10 = .ok (.invokevirtual 399, 3) := by decide +kernel
theorem dX10_loopSays_13 : decode cX10_loopSays 13 = .ok (.ifCond .eq 26, 3) := by decide +kernel
theorem dX10_loopSays_16 : decode cX10_loopSays 16 = .ok (.aload_n 0, 1) := by decide +kernel
theorem dX10_loopSays_17 : decode cX10_loopSays 17 = .ok (.getfield 64, 3) := by decide +kernel
theorem dX10_loopSays_20 : decode cX10_loopSays 20 = .ok (.iload_n 1, 1) := by decide +kernel
theorem dX10_loopSays_21 : decode cX10_loopSays 21 = .ok (.iaload, 1) := by decide +kernel
theorem dX10_loopSays_22 : decode cX10_loopSays 22 = .ok (.aload_n 0, 1) := by decide +kernel
theorem dX10_loopSays_23 : decode cX10_loopSays 23 = .ok (.getfield 363, 3) := by decide +kernel
theorem dX10_loopSays_26 : decode cX10_loopSays 26 = .ok (.if_icmp .ne 13, 3) := by decide +kernel
theorem dX10_loopSays_29 : decode cX10_loopSays 29 = .ok (.aload_n 0, 1) := by decide +kernel
theorem dX10_loopSays_30 : decode cX10_loopSays 30 = .ok (.getfield 73, 3) := by decide +kernel
theorem dX10_loopSays_33 : decode cX10_loopSays 33 = .ok (.iload_n 1, 1) := by decide +kernel
theorem dX10_loopSays_34 : decode cX10_loopSays 34 = .ok (.iaload, 1) := by decide +kernel
theorem dX10_loopSays_35 : decode cX10_loopSays 35 = .ok (.iconst 3, 1) := by decide +kernel
theorem dX10_loopSays_36 : decode cX10_loopSays 36 = .ok (.if_icmp .eq 5, 3) := by decide +kernel
theorem dX10_loopSays_39 : decode cX10_loopSays 39 = .ok (.iconst (-1), 1) := by decide +kernel
theorem dX10_loopSays_40 : decode cX10_loopSays 40 = .ok (.ireturn, 1) := by decide +kernel
theorem dX10_loopSays_41 : decode cX10_loopSays 41 = .ok (.aload_n 0, 1) := by decide +kernel
theorem dX10_loopSays_42 : decode cX10_loopSays 42 = .ok (.getfield 70, 3) := by decide +kernel
theorem dX10_loopSays_45 : decode cX10_loopSays 45 = .ok (.iload_n 1, 1) := by decide +kernel
theorem dX10_loopSays_46 : decode cX10_loopSays 46 = .ok (.iaload, 1) := by decide +kernel
theorem dX10_loopSays_47 : decode cX10_loopSays 47 = .ok (.aload_n 0, 1) := by decide +kernel
theorem dX10_loopSays_48 : decode cX10_loopSays 48 = .ok (.getfield 67, 3) := by decide +kernel
theorem dX10_loopSays_51 : decode cX10_loopSays 51 = .ok (.iload_n 1, 1) := by decide +kernel
theorem dX10_loopSays_52 : decode cX10_loopSays 52 = .ok (.iaload, 1) := by decide +kernel
theorem dX10_loopSays_53 : decode cX10_loopSays 53 = .ok (.if_icmp .ge 7, 3) := by decide +kernel
theorem dX10_loopSays_56 : decode cX10_loopSays 56 = .ok (.iconst 1, 1) := by decide +kernel
theorem dX10_loopSays_57 : decode cX10_loopSays 57 = .ok (.goto 4, 3) := by decide +kernel
theorem dX10_loopSays_60 : decode cX10_loopSays 60 = .ok (.iconst 0, 1) := by decide +kernel
theorem dX10_loopSays_61 : decode cX10_loopSays 61 = .ok (.ireturn, 1) := by decide +kernel
theorem dX10_askCorrector_0 : decode cX10_askCorrector 0 = .ok (.aload_n 0, 1) := by decide +kernel
theorem dX10_askCorrector_1 : decode cX10_askCorrector 1 = .ok (.getfield 88, 3) := by decide +kernel
theorem dX10_askCorrector_4 : decode cX10_askCorrector 4 = .ok (.iconst 0, 1) := by decide +kernel
theorem dX10_askCorrector_5 : decode cX10_askCorrector 5 = .ok (.iconst 2, 1) := by decide +kernel
theorem dX10_askCorrector_6 : decode cX10_askCorrector 6 = .ok (.aload_n 0, 1) := by decide +kernel
theorem dX10_askCorrector_7 : decode cX10_askCorrector 7 = .ok (.getfield 363, 3) := by decide +kernel
theorem dX10_askCorrector_10 : decode cX10_askCorrector 10 = .ok (.bipush 8, 2) := by decide +kernel
theorem dX10_askCorrector_12 : decode cX10_askCorrector 12 = .ok (.irem, 1) := by decide +kernel
theorem dX10_askCorrector_13 : decode cX10_askCorrector 13 = .ok (.imul, 1) := by decide +kernel
theorem dX10_askCorrector_14 : decode cX10_askCorrector 14 = .ok (.aload_n 0, 1) := by decide +kernel
theorem dX10_askCorrector_15 : decode cX10_askCorrector 15 = .ok (.getfield 402, 3) := by decide +kernel
theorem dX10_askCorrector_18 : decode cX10_askCorrector 18 = .ok (.iadd, 1) := by decide +kernel
theorem dX10_askCorrector_19 : decode cX10_askCorrector 19 = .ok (.iastore, 1) := by decide +kernel
theorem dX10_askCorrector_20 : decode cX10_askCorrector 20 = .ok (.aload_n 0, 1) := by decide +kernel
theorem dX10_askCorrector_21 : decode cX10_askCorrector 21 = .ok (.getfield 88, 3) := by decide +kernel
theorem dX10_askCorrector_24 : decode cX10_askCorrector 24 = .ok (.iconst 1, 1) := by decide +kernel
theorem dX10_askCorrector_25 : decode cX10_askCorrector 25 = .ok (.bipush 16, 2) := by decide +kernel
theorem dX10_askCorrector_27 : decode cX10_askCorrector 27 = .ok (.aload_n 0, 1) := by decide +kernel
theorem dX10_askCorrector_28 : decode cX10_askCorrector 28 = .ok (.getfield 363, 3) := by decide +kernel
theorem dX10_askCorrector_31 : decode cX10_askCorrector 31 = .ok (.aload_n 0, 1) := by decide +kernel
theorem dX10_askCorrector_32 : decode cX10_askCorrector 32 = .ok (.getfield 353, 3) := by decide +kernel
theorem dX10_askCorrector_35 : decode cX10_askCorrector 35 = .ok (.ldc2_w 405, 3) := by decide +kernel
theorem dX10_askCorrector_38 : decode cX10_askCorrector 38 = .ok (.land, 1) := by decide +kernel
theorem dX10_askCorrector_39 : decode cX10_askCorrector 39 = .ok (.l2i, 1) := by decide +kernel
theorem dX10_askCorrector_40 : decode cX10_askCorrector 40 = .ok (.ixor, 1) := by decide +kernel
theorem dX10_askCorrector_41 : decode cX10_askCorrector 41 = .ok (.bipush 16, 2) := by decide +kernel
theorem dX10_askCorrector_43 : decode cX10_askCorrector 43 = .ok (.irem, 1) := by decide +kernel
theorem dX10_askCorrector_44 : decode cX10_askCorrector 44 = .ok (.iadd, 1) := by decide +kernel
theorem dX10_askCorrector_45 : decode cX10_askCorrector 45 = .ok (.iastore, 1) := by decide +kernel
theorem dX10_askCorrector_46 : decode cX10_askCorrector 46 = .ok (.aload_n 0, 1) := by decide +kernel
theorem dX10_askCorrector_47 : decode cX10_askCorrector 47 = .ok (.getfield 88, 3) := by decide +kernel
theorem dX10_askCorrector_50 : decode cX10_askCorrector 50 = .ok (.iconst 2, 1) := by decide +kernel
theorem dX10_askCorrector_51 : decode cX10_askCorrector 51 = .ok (.bipush 32, 2) := by decide +kernel
theorem dX10_askCorrector_53 : decode cX10_askCorrector 53 = .ok (.aload_n 0, 1) := by decide +kernel
theorem dX10_askCorrector_54 : decode cX10_askCorrector 54 = .ok (.getfield 363, 3) := by decide +kernel
theorem dX10_askCorrector_57 : decode cX10_askCorrector 57 = .ok (.aload_n 0, 1) := by decide +kernel
theorem dX10_askCorrector_58 : decode cX10_askCorrector 58 = .ok (.bipush 12, 2) := by decide +kernel
theorem dX10_askCorrector_60 : decode cX10_askCorrector 60 = .ok (.iconst 4, 1) := by decide +kernel
theorem dX10_askCorrector_61 : decode cX10_askCorrector 61 = .ok (.invokevirtual 357, 3) := by decide +kernel
theorem dX10_askCorrector_64 : decode cX10_askCorrector 64 = .ok (.ixor, 1) := by decide +kernel
theorem dX10_askCorrector_65 : decode cX10_askCorrector 65 = .ok (.bipush 16, 2) := by decide +kernel
theorem dX10_askCorrector_67 : decode cX10_askCorrector 67 = .ok (.irem, 1) := by decide +kernel
theorem dX10_askCorrector_68 : decode cX10_askCorrector 68 = .ok (.iadd, 1) := by decide +kernel
theorem dX10_askCorrector_69 : decode cX10_askCorrector 69 = .ok (.iastore, 1) := by decide +kernel
theorem dX10_askCorrector_70 : decode cX10_askCorrector 70 = .ok (.aload_n 0, 1) := by decide +kernel
theorem dX10_askCorrector_71 : decode cX10_askCorrector 71 = .ok (.aload_n 0, 1) := by decide +kernel
theorem dX10_askCorrector_72 : decode cX10_askCorrector 72 = .ok (.getfield 402, 3) := by decide +kernel
theorem dX10_askCorrector_75 : decode cX10_askCorrector 75 = .ok (.iconst 1, 1) := by decide +kernel
theorem dX10_askCorrector_76 : decode cX10_askCorrector 76 = .ok (.if_icmp .ne 8, 3) := by decide +kernel
theorem dX10_askCorrector_79 : decode cX10_askCorrector 79 = .ok (.bipush 6, 2) := by decide +kernel
theorem dX10_askCorrector_81 : decode cX10_askCorrector 81 = .ok (.goto 5, 3) := by decide +kernel
theorem dX10_askCorrector_84 : decode cX10_askCorrector 84 = .ok (.bipush (-6), 2) := by decide +kernel
theorem dX10_askCorrector_86 : decode cX10_askCorrector 86 = .ok (.putfield 407, 3) := by decide +kernel
theorem dX10_askCorrector_89 : decode cX10_askCorrector 89 = .ok (.iconst 0, 1) := by decide +kernel
theorem dX10_askCorrector_90 : decode cX10_askCorrector 90 = .ok (.istore_n 1, 1) := by decide +kernel
theorem dX10_askCorrector_91 : decode cX10_askCorrector 91 = .ok (.iload_n 1, 1) := by decide +kernel
theorem dX10_askCorrector_92 : decode cX10_askCorrector 92 = .ok (.iconst 3, 1) := by decide +kernel
theorem dX10_askCorrector_93 : decode cX10_askCorrector 93 = .ok (.if_icmp .ge 33, 3) := by decide +kernel
theorem dX10_askCorrector_96 : decode cX10_askCorrector 96 = .ok (.aload_n 0, 1) := by decide +kernel
theorem dX10_askCorrector_97 : decode cX10_askCorrector 97 = .ok (.dup, 1) := by decide +kernel
theorem dX10_askCorrector_98 : decode cX10_askCorrector 98 = .ok (.getfield 407, 3) := by decide +kernel
theorem dX10_askCorrector_101 : decode cX10_askCorrector 101 = .ok (.iconst 2, 1) := by decide +kernel
theorem dX10_askCorrector_102 : decode cX10_askCorrector 102 = .ok (.aload_n 0, 1) := by decide +kernel
theorem dX10_askCorrector_103 : decode cX10_askCorrector 103 = .ok (.getfield 79, 3) := by decide +kernel
theorem dX10_askCorrector_106 : decode cX10_askCorrector 106 = .ok (.aload_n 0, 1) := by decide +kernel
theorem dX10_askCorrector_107 : decode cX10_askCorrector 107 = .ok (.getfield 88, 3) := by decide +kernel
theorem dX10_askCorrector_110 : decode cX10_askCorrector 110 = .ok (.iload_n 1, 1) := by decide +kernel
theorem dX10_askCorrector_111 : decode cX10_askCorrector 111 = .ok (.iaload, 1) := by decide +kernel
theorem dX10_askCorrector_112 : decode cX10_askCorrector 112 = .ok (.iaload, 1) := by decide +kernel
theorem dX10_askCorrector_113 : decode cX10_askCorrector 113 = .ok (.imul, 1) := by decide +kernel
theorem dX10_askCorrector_114 : decode cX10_askCorrector 114 = .ok (.iconst 1, 1) := by decide +kernel
theorem dX10_askCorrector_115 : decode cX10_askCorrector 115 = .ok (.iadd, 1) := by decide +kernel
theorem dX10_askCorrector_116 : decode cX10_askCorrector 116 = .ok (.iadd, 1) := by decide +kernel
theorem dX10_askCorrector_117 : decode cX10_askCorrector 117 = .ok (.putfield 407, 3) := by decide +kernel
theorem dX10_askCorrector_120 : decode cX10_askCorrector 120 = .ok (.iinc 1 1, 3) := by decide +kernel
theorem dX10_askCorrector_123 : decode cX10_askCorrector 123 = .ok (.goto (-32), 3) := by decide +kernel
theorem dX10_askCorrector_126 : decode cX10_askCorrector 126 = .ok (.aload_n 0, 1) := by decide +kernel
theorem dX10_askCorrector_127 : decode cX10_askCorrector 127 = .ok (.aload_n 0, 1) := by decide +kernel
theorem dX10_askCorrector_128 : decode cX10_askCorrector 128 = .ok (.getfield 407, 3) := by decide +kernel
theorem dX10_askCorrector_131 : decode cX10_askCorrector 131 = .ok (.ifCond .le 7, 3) := by decide +kernel
theorem dX10_askCorrector_134 : decode cX10_askCorrector 134 = .ok (.iconst 1, 1) := by decide +kernel
theorem dX10_askCorrector_135 : decode cX10_askCorrector 135 = .ok (.goto 4, 3) := by decide +kernel
theorem dX10_askCorrector_138 : decode cX10_askCorrector 138 = .ok (.iconst 0, 1) := by decide +kernel
theorem dX10_askCorrector_139 : decode cX10_askCorrector 139 = .ok (.putfield 410, 3) := by decide +kernel
theorem dX10_askCorrector_142 : decode cX10_askCorrector 142 = .ok (.return_, 1) := by decide +kernel
theorem dX10_ask_0 : decode cX10_ask 0 = .ok (.aload_n 0, 1) := by decide +kernel
theorem dX10_ask_1 : decode cX10_ask 1 = .ok (.iload_n 1, 1) := by decide +kernel
theorem dX10_ask_2 : decode cX10_ask 2 = .ok (.putfield 363, 3) := by decide +kernel
theorem dX10_ask_5 : decode cX10_ask 5 = .ok (.aload_n 0, 1) := by decide +kernel
theorem dX10_ask_6 : decode cX10_ask 6 = .ok (.invokevirtual 413, 3) := by decide +kernel
theorem dX10_ask_9 : decode cX10_ask 9 = .ok (.aload_n 0, 1) := by decide +kernel
theorem dX10_ask_10 : decode cX10_ask 10 = .ok (.invokevirtual 416, 3) := by decide +kernel
theorem dX10_ask_13 : decode cX10_ask 13 = .ok (.aload_n 0, 1) := by decide +kernel
theorem dX10_ask_14 : decode cX10_ask 14 = .ok (.iconst 0, 1) := by decide +kernel
theorem dX10_ask_15 : decode cX10_ask 15 = .ok (.putfield 419, 3) := by decide +kernel
theorem dX10_ask_18 : decode cX10_ask 18 = .ok (.aload_n 0, 1) := by decide +kernel
theorem dX10_ask_19 : decode cX10_ask 19 = .ok (.aload_n 0, 1) := by decide +kernel
theorem dX10_ask_20 : decode cX10_ask 20 = .ok (.getfield 402, 3) := by decide +kernel
theorem dX10_ask_23 : decode cX10_ask 23 = .ok (.putfield 422, 3) := by decide +kernel
theorem dX10_ask_26 : decode cX10_ask 26 = .ok (.aload_n 0, 1) := by decide +kernel
theorem dX10_ask_27 : decode cX10_ask 27 = .ok (.iconst 2, 1) := by decide +kernel
theorem dX10_ask_28 : decode cX10_ask 28 = .ok (.invokevirtual 399, 3) := by decide +kernel
theorem dX10_ask_31 : decode cX10_ask 31 = .ok (.ifCond .eq 41, 3) := by decide +kernel
theorem dX10_ask_34 : decode cX10_ask 34 = .ok (.aload_n 0, 1) := by decide +kernel
theorem dX10_ask_35 : decode cX10_ask 35 = .ok (.getfield 410, 3) := by decide +kernel
theorem dX10_ask_38 : decode cX10_ask 38 = .ok (.aload_n 0, 1) := by decide +kernel
theorem dX10_ask_39 : decode cX10_ask 39 = .ok (.getfield 402, 3) := by decide +kernel
theorem dX10_ask_42 : decode cX10_ask 42 = .ok (.if_icmp .eq 30, 3) := by decide +kernel
theorem dX10_ask_45 : decode cX10_ask 45 = .ok (.aload_n 0, 1) := by decide +kernel
theorem dX10_ask_46 : decode cX10_ask 46 = .ok (.getfield 407, 3) := by decide +kernel
theorem dX10_ask_49 : decode cX10_ask 49 = .ok (.invokestatic 425, 3) := by decide +kernel
theorem dX10_ask_52 : decode cX10_ask 52 = .ok (.aload_n 0, 1) := by decide +kernel
theorem dX10_ask_53 : decode cX10_ask 53 = .ok (.getfield 347, 3) := by decide +kernel
theorem dX10_ask_56 : decode cX10_ask 56 = .ok (.if_icmp .lt 16, 3) := by decide +kernel
theorem dX10_ask_59 : decode cX10_ask 59 = .ok (.aload_n 0, 1) := by decide +kernel
theorem dX10_ask_60 : decode cX10_ask 60 = .ok (.iconst 2, 1) := by decide +kernel
theorem dX10_ask_61 : decode cX10_ask 61 = .ok (.putfield 419, 3) := by decide +kernel
theorem dX10_ask_64 : decode cX10_ask 64 = .ok (.aload_n 0, 1) := by decide +kernel
theorem dX10_ask_65 : decode cX10_ask 65 = .ok (.aload_n 0, 1) := by decide +kernel
theorem dX10_ask_66 : decode cX10_ask 66 = .ok (.getfield 410, 3) := by decide +kernel
theorem dX10_ask_69 : decode cX10_ask 69 = .ok (.putfield 422, 3) := by decide +kernel
theorem dX10_ask_72 : decode cX10_ask 72 = .ok (.aload_n 0, 1) := by decide +kernel
theorem dX10_ask_73 : decode cX10_ask 73 = .ok (.invokevirtual 428, 3) := by decide +kernel
theorem dX10_ask_76 : decode cX10_ask 76 = .ok (.istore_n 2, 1) := by decide +kernel
theorem dX10_ask_77 : decode cX10_ask 77 = .ok (.iload_n 2, 1) := by decide +kernel
theorem dX10_ask_78 : decode cX10_ask 78 = .ok (.iconst (-1), 1) := by decide +kernel
theorem dX10_ask_79 : decode cX10_ask 79 = .ok (.if_icmp .ne 4, 3) := by decide +kernel
theorem dX10_ask_82 : decode cX10_ask 82 = .ok (.return_, 1) := by decide +kernel
theorem dX10_ask_83 : decode cX10_ask 83 = .ok (.aload_n 0, 1) := by decide +kernel
theorem dX10_ask_84 : decode cX10_ask 84 = .ok (.iconst 1, 1) := by decide +kernel
theorem dX10_ask_85 : decode cX10_ask 85 = .ok (.putfield 419, 3) := by decide +kernel
theorem dX10_ask_88 : decode cX10_ask 88 = .ok (.aload_n 0, 1) := by decide +kernel
theorem dX10_ask_89 : decode cX10_ask 89 = .ok (.iload_n 2, 1) := by decide +kernel
theorem dX10_ask_90 : decode cX10_ask 90 = .ok (.putfield 422, 3) := by decide +kernel
theorem dX10_ask_93 : decode cX10_ask 93 = .ok (.return_, 1) := by decide +kernel
theorem dX10_learnLoop_0 : decode cX10_learnLoop 0 = .ok (.aload_n 0, 1) := by decide +kernel
theorem dX10_learnLoop_1 : decode cX10_learnLoop 1 = .ok (.getfield 363, 3) := by decide +kernel
theorem dX10_learnLoop_4 : decode cX10_learnLoop 4 = .ok (.bipush 8, 2) := by decide +kernel
theorem dX10_learnLoop_6 : decode cX10_learnLoop 6 = .ok (.irem, 1) := by decide +kernel
theorem dX10_learnLoop_7 : decode cX10_learnLoop 7 = .ok (.istore_n 2, 1) := by decide +kernel
theorem dX10_learnLoop_8 : decode cX10_learnLoop 8 = .ok (.aload_n 0, 1) := by decide +kernel
theorem dX10_learnLoop_9 : decode cX10_learnLoop 9 = .ok (.getfield 64, 3) := by decide +kernel
theorem dX10_learnLoop_12 : decode cX10_learnLoop 12 = .ok (.iload_n 2, 1) := by decide +kernel
theorem dX10_learnLoop_13 : decode cX10_learnLoop 13 = .ok (.iaload, 1) := by decide +kernel
theorem dX10_learnLoop_14 : decode cX10_learnLoop 14 = .ok (.aload_n 0, 1) := by decide +kernel
theorem dX10_learnLoop_15 : decode cX10_learnLoop 15 = .ok (.getfield 363, 3) := by decide +kernel
theorem dX10_learnLoop_18 : decode cX10_learnLoop 18 = .ok (.if_icmp .eq 57, 3) := by decide +kernel
theorem dX10_learnLoop_21 : decode cX10_learnLoop 21 = .ok (.aload_n 0, 1) := by decide +kernel
theorem dX10_learnLoop_22 : decode cX10_learnLoop 22 = .ok (.getfield 422, 3) := by decide +kernel
theorem dX10_learnLoop_25 : decode cX10_learnLoop 25 = .ok (.iload_n 1, 1) := by decide +kernel
theorem dX10_learnLoop_26 : decode cX10_learnLoop 26 = .ok (.if_icmp .ne 4, 3) := by decide +kernel
theorem dX10_learnLoop_29 : decode cX10_learnLoop 29 = .ok (.return_, 1) := by decide +kernel
theorem dX10_learnLoop_30 : decode cX10_learnLoop 30 = .ok (.aload_n 0, 1) := by decide +kernel
theorem dX10_learnLoop_31 : decode cX10_learnLoop 31 = .ok (.getfield 76, 3) := by decide +kernel
theorem dX10_learnLoop_34 : decode cX10_learnLoop 34 = .ok (.iload_n 2, 1) := by decide +kernel
theorem dX10_learnLoop_35 : decode cX10_learnLoop 35 = .ok (.iaload, 1) := by decide +kernel
theorem dX10_learnLoop_36 : decode cX10_learnLoop 36 = .ok (.ifCond .le 14, 3) := by decide +kernel
theorem dX10_learnLoop_39 : decode cX10_learnLoop 39 = .ok (.aload_n 0, 1) := by decide +kernel
theorem dX10_learnLoop_40 : decode cX10_learnLoop 40 = .ok (.getfield 76, 3) := by decide +kernel
theorem dX10_learnLoop_43 : decode cX10_learnLoop 43 = .ok (.iload_n 2, 1) := by decide +kernel
theorem dX10_learnLoop_44 : decode cX10_learnLoop 44 = .ok (.dup2, 1) := by decide +kernel
theorem dX10_learnLoop_45 : decode cX10_learnLoop 45 = .ok (.iaload, 1) := by decide +kernel
theorem dX10_learnLoop_46 : decode cX10_learnLoop 46 = .ok (.iconst 1, 1) := by decide +kernel
theorem dX10_learnLoop_47 : decode cX10_learnLoop 47 = .ok (.isub, 1) := by decide +kernel
theorem dX10_learnLoop_48 : decode cX10_learnLoop 48 = .ok (.iastore, 1) := by decide +kernel
theorem dX10_learnLoop_49 : decode cX10_learnLoop 49 = .ok (.return_, 1) := by decide +kernel
theorem dX10_learnLoop_50 : decode cX10_learnLoop 50 = .ok (.aload_n 0, 1) := by decide +kernel
theorem dX10_learnLoop_51 : decode cX10_learnLoop 51 = .ok (.iload_n 2, 1) := by decide +kernel
theorem dX10_learnLoop_52 : decode cX10_learnLoop 52 = .ok (.invokevirtual 338, 3) := by decide +kernel
theorem dX10_learnLoop_55 : decode cX10_learnLoop 55 = .ok (.aload_n 0, 1) := by decide +kernel
theorem dX10_learnLoop_56 : decode cX10_learnLoop 56 = .ok (.getfield 64, 3) := by decide +kernel
theorem dX10_learnLoop_59 : decode cX10_learnLoop 59 = .ok (.iload_n 2, 1) := by decide +kernel
theorem dX10_learnLoop_60 : decode cX10_learnLoop 60 = .ok (.aload_n 0, 1) := by decide +kernel
theorem dX10_learnLoop_61 : decode cX10_learnLoop 61 = .ok (.getfield 363, 3) := by decide +kernel
theorem dX10_learnLoop_64 : decode cX10_learnLoop 64 = .ok (.iastore, 1) := by decide +kernel
theorem dX10_learnLoop_65 : decode cX10_learnLoop 65 = .ok (.aload_n 0, 1) := by decide +kernel
theorem dX10_learnLoop_66 : decode cX10_learnLoop 66 = .ok (.getfield 76, 3) := by decide +kernel
theorem dX10_learnLoop_69 : decode cX10_learnLoop 69 = .ok (.iload_n 2, 1) := by decide +kernel
theorem dX10_learnLoop_70 : decode cX10_learnLoop 70 = .ok (.iconst 3, 1) := by decide +kernel
theorem dX10_learnLoop_71 : decode cX10_learnLoop 71 = .ok (.iastore, 1) := by decide +kernel
theorem dX10_learnLoop_72 : decode cX10_learnLoop 72 = .ok (.goto 150, 3) := by decide +kernel
theorem dX10_learnLoop_75 : decode cX10_learnLoop 75 = .ok (.iload_n 1, 1) := by decide +kernel
theorem dX10_learnLoop_76 : decode cX10_learnLoop 76 = .ok (.iconst 1, 1) := by decide +kernel
theorem dX10_learnLoop_77 : decode cX10_learnLoop 77 = .ok (.if_icmp .ne 79, 3) := by decide +kernel
theorem dX10_learnLoop_80 : decode cX10_learnLoop 80 = .ok (.aload_n 0, 1) := by decide +kernel
theorem dX10_learnLoop_81 : decode cX10_learnLoop 81 = .ok (.getfield 70, 3) := by decide +kernel
theorem dX10_learnLoop_84 : decode cX10_learnLoop 84 = .ok (.iload_n 2, 1) := by decide +kernel
theorem dX10_learnLoop_85 : decode cX10_learnLoop 85 = .ok (.dup2, 1) := by decide +kernel
theorem dX10_learnLoop_86 : decode cX10_learnLoop 86 = .ok (.iaload, 1) := by decide +kernel
theorem dX10_learnLoop_87 : decode cX10_learnLoop 87 = .ok (.iconst 1, 1) := by decide +kernel
theorem dX10_learnLoop_88 : decode cX10_learnLoop 88 = .ok (.iadd, 1) := by decide +kernel
theorem dX10_learnLoop_89 : decode cX10_learnLoop 89 = .ok (.iastore, 1) := by decide +kernel
theorem dX10_learnLoop_90 : decode cX10_learnLoop 90 = .ok (.aload_n 0, 1) := by decide +kernel
theorem dX10_learnLoop_91 : decode cX10_learnLoop 91 = .ok (.getfield 67, 3) := by decide +kernel
theorem dX10_learnLoop_94 : decode cX10_learnLoop 94 = .ok (.iload_n 2, 1) := by decide +kernel
theorem dX10_learnLoop_95 : decode cX10_learnLoop 95 = .ok (.iaload, 1) := by decide +kernel
theorem dX10_learnLoop_96 : decode cX10_learnLoop 96 = .ok (.iconst (-1), 1) := by decide +kernel
theorem dX10_learnLoop_97 : decode cX10_learnLoop 97 = .ok (.if_icmp .eq 32, 3) := by decide +kernel
theorem dX10_learnLoop_100 : decode cX10_learnLoop 100 = .ok (.aload_n 0, 1) := by decide +kernel
theorem dX10_learnLoop_101 : decode cX10_learnLoop 101 = .ok (.getfield 70, 3) := by decide +kernel
theorem dX10_learnLoop_104 : decode cX10_learnLoop 104 = .ok (.iload_n 2, 1) := by decide +kernel
theorem dX10_learnLoop_105 : decode cX10_learnLoop 105 = .ok (.iaload, 1) := by decide +kernel
theorem dX10_learnLoop_106 : decode cX10_learnLoop 106 = .ok (.aload_n 0, 1) := by decide +kernel
theorem dX10_learnLoop_107 : decode cX10_learnLoop 107 = .ok (.getfield 67, 3) := by decide +kernel
theorem dX10_learnLoop_110 : decode cX10_learnLoop 110 = .ok (.iload_n 2, 1) := by decide +kernel
theorem dX10_learnLoop_111 : decode cX10_learnLoop 111 = .ok (.iaload, 1) := by decide +kernel
theorem dX10_learnLoop_112 : decode cX10_learnLoop 112 = .ok (.if_icmp .le 17, 3) := by decide +kernel
theorem dX10_learnLoop_115 : decode cX10_learnLoop 115 = .ok (.aload_n 0, 1) := by decide +kernel
theorem dX10_learnLoop_116 : decode cX10_learnLoop 116 = .ok (.getfield 67, 3) := by decide +kernel
theorem dX10_learnLoop_119 : decode cX10_learnLoop 119 = .ok (.iload_n 2, 1) := by decide +kernel
theorem dX10_learnLoop_120 : decode cX10_learnLoop 120 = .ok (.iconst (-1), 1) := by decide +kernel
theorem dX10_learnLoop_121 : decode cX10_learnLoop 121 = .ok (.iastore, 1) := by decide +kernel
theorem dX10_learnLoop_122 : decode cX10_learnLoop 122 = .ok (.aload_n 0, 1) := by decide +kernel
theorem dX10_learnLoop_123 : decode cX10_learnLoop 123 = .ok (.getfield 73, 3) := by decide +kernel
theorem dX10_learnLoop_126 : decode cX10_learnLoop 126 = .ok (.iload_n 2, 1) := by decide +kernel
theorem dX10_learnLoop_127 : decode cX10_learnLoop 127 = .ok (.iconst 0, 1) := by decide +kernel
theorem dX10_learnLoop_128 : decode cX10_learnLoop 128 = .ok (.iastore, 1) := by decide +kernel
theorem dX10_learnLoop_129 : decode cX10_learnLoop 129 = .ok (.aload_n 0, 1) := by decide +kernel
theorem dX10_learnLoop_130 : decode cX10_learnLoop 130 = .ok (.getfield 70, 3) := by decide +kernel
theorem dX10_learnLoop_133 : decode cX10_learnLoop 133 = .ok (.iload_n 2, 1) := by decide +kernel
theorem dX10_learnLoop_134 : decode cX10_learnLoop 134 = .ok (.iaload, 1) := by decide +kernel
theorem dX10_learnLoop_135 : decode cX10_learnLoop 135 = .ok (.bipush 60, 2) := by decide +kernel
theorem dX10_learnLoop_137 : decode cX10_learnLoop 137 = .ok (.if_icmp .ge 4, 3) := by decide +kernel
theorem dX10_learnLoop_140 : decode cX10_learnLoop 140 = .ok (.return_, 1) := by decide +kernel
theorem dX10_learnLoop_141 : decode cX10_learnLoop 141 = .ok (.aload_n 0, 1) := by decide +kernel
theorem dX10_learnLoop_142 : decode cX10_learnLoop 142 = .ok (.iload_n 2, 1) := by decide +kernel
theorem dX10_learnLoop_143 : decode cX10_learnLoop 143 = .ok (.invokevirtual 338, 3) := by decide +kernel
theorem dX10_learnLoop_146 : decode cX10_learnLoop 146 = .ok (.aload_n 0, 1) := by decide +kernel
theorem dX10_learnLoop_147 : decode cX10_learnLoop 147 = .ok (.getfield 76, 3) := by decide +kernel
theorem dX10_learnLoop_150 : decode cX10_learnLoop 150 = .ok (.iload_n 2, 1) := by decide +kernel
theorem dX10_learnLoop_151 : decode cX10_learnLoop 151 = .ok (.iconst 0, 1) := by decide +kernel
theorem dX10_learnLoop_152 : decode cX10_learnLoop 152 = .ok (.iastore, 1) := by decide +kernel
theorem dX10_learnLoop_153 : decode cX10_learnLoop 153 = .ok (.goto 69, 3) := by decide +kernel
theorem dX10_learnLoop_156 : decode cX10_learnLoop 156 = .ok (.aload_n 0, 1) := by decide +kernel
theorem dX10_learnLoop_157 : decode cX10_learnLoop 157 = .ok (.getfield 70, 3) := by decide +kernel
theorem dX10_learnLoop_160 : decode cX10_learnLoop 160 = .ok (.iload_n 2, 1) := by decide +kernel
theorem dX10_learnLoop_161 : decode cX10_learnLoop 161 = .ok (.iaload, 1) := by decide +kernel
theorem dX10_learnLoop_162 : decode cX10_learnLoop 162 = .ok (.aload_n 0, 1) := by decide +kernel
theorem dX10_learnLoop_163 : decode cX10_learnLoop 163 = .ok (.getfield 67, 3) := by decide +kernel
theorem dX10_learnLoop_166 : decode cX10_learnLoop 166 = .ok (.iload_n 2, 1) := by decide +kernel
theorem dX10_learnLoop_167 : decode cX10_learnLoop 167 = .ok (.iaload, 1) := by decide +kernel
theorem dX10_learnLoop_168 : decode cX10_learnLoop 168 = .ok (.if_icmp .ne 7, 3) := by decide +kernel
theorem dX10_learnLoop_171 : decode cX10_learnLoop 171 = .ok (.iconst 1, 1) := by decide +kernel
theorem dX10_learnLoop_172 : decode cX10_learnLoop 172 = .ok (.goto 4, 3) := by decide +kernel
theorem dX10_learnLoop_175 : decode cX10_learnLoop 175 = .ok (.iconst 0, 1) := by decide +kernel
theorem dX10_learnLoop_176 : decode cX10_learnLoop 176 = .ok (.istore_n 3, 1) := by decide +kernel
theorem dX10_learnLoop_177 : decode cX10_learnLoop 177 = .ok (.aload_n 0, 1) := by decide +kernel
theorem dX10_learnLoop_178 : decode cX10_learnLoop 178 = .ok (.getfield 73, 3) := by decide +kernel
theorem dX10_learnLoop_181 : decode cX10_learnLoop 181 = .ok (.iload_n 2, 1) := by decide +kernel
theorem dX10_learnLoop_182 : decode cX10_learnLoop 182 = .ok (.iload_n 3, 1) := by decide +kernel
theorem dX10_learnLoop_183 : decode cX10_learnLoop 183 = .ok (.ifCond .eq 18, 3) := by decide +kernel
theorem dX10_learnLoop_186 : decode cX10_learnLoop 186 = .ok (.iconst 3, 1) := by decide +kernel
theorem dX10_learnLoop_187 : decode cX10_learnLoop 187 = .ok (.aload_n 0, 1) := by decide +kernel
theorem dX10_learnLoop_188 : decode cX10_learnLoop 188 = .ok (.getfield 73, 3) := by decide +kernel
theorem dX10_learnLoop_191 : decode cX10_learnLoop 191 = .ok (.iload_n 2, 1) := by decide +kernel
theorem dX10_learnLoop_192 : decode cX10_learnLoop 192 = .ok (.iaload, 1) := by decide +kernel
theorem dX10_learnLoop_193 : decode cX10_learnLoop 193 = .ok (.iconst 1, 1) := by decide +kernel
theorem dX10_learnLoop_194 : decode cX10_learnLoop 194 = .ok (.iadd, 1) := by decide +kernel
theorem dX10_learnLoop_195 : decode cX10_learnLoop 195 = .ok (.invokestatic 128, 3) := by decide +kernel
theorem dX10_learnLoop_198 : decode cX10_learnLoop 198 = .ok (.goto 4, 3) := by decide +kernel
theorem dX10_learnLoop_201 : decode cX10_learnLoop 201 = .ok (.iconst 0, 1) := by decide +kernel
theorem dX10_learnLoop_202 : decode cX10_learnLoop 202 = .ok (.iastore, 1) := by decide +kernel
theorem dX10_learnLoop_203 : decode cX10_learnLoop 203 = .ok (.aload_n 0, 1) := by decide +kernel
theorem dX10_learnLoop_204 : decode cX10_learnLoop 204 = .ok (.getfield 67, 3) := by decide +kernel
theorem dX10_learnLoop_207 : decode cX10_learnLoop 207 = .ok (.iload_n 2, 1) := by decide +kernel
theorem dX10_learnLoop_208 : decode cX10_learnLoop 208 = .ok (.aload_n 0, 1) := by decide +kernel
theorem dX10_learnLoop_209 : decode cX10_learnLoop 209 = .ok (.getfield 70, 3) := by decide +kernel
theorem dX10_learnLoop_212 : decode cX10_learnLoop 212 = .ok (.iload_n 2, 1) := by decide +kernel
theorem dX10_learnLoop_213 : decode cX10_learnLoop 213 = .ok (.iaload, 1) := by decide +kernel
theorem dX10_learnLoop_214 : decode cX10_learnLoop 214 = .ok (.iastore, 1) := by decide +kernel
theorem dX10_learnLoop_215 : decode cX10_learnLoop 215 = .ok (.aload_n 0, 1) := by decide +kernel
theorem dX10_learnLoop_216 : decode cX10_learnLoop 216 = .ok (.getfield 70, 3) := by decide +kernel
theorem dX10_learnLoop_219 : decode cX10_learnLoop 219 = .ok (.iload_n 2, 1) := by decide +kernel
theorem dX10_learnLoop_220 : decode cX10_learnLoop 220 = .ok (.iconst 0, 1) := by decide +kernel
theorem dX10_learnLoop_221 : decode cX10_learnLoop 221 = .ok (.iastore, 1) := by decide +kernel
theorem dX10_learnLoop_222 : decode cX10_learnLoop 222 = .ok (.return_, 1) := by decide +kernel
theorem dX10_learnCorrector_0 : decode cX10_learnCorrector 0 = .ok (.aload_n 0, 1) := by decide +kernel
theorem dX10_learnCorrector_1 : decode cX10_learnCorrector 1 = .ok (.getfield 410, 3) := by decide +kernel
theorem dX10_learnCorrector_4 : decode cX10_learnCorrector 4 = .ok (.aload_n 0, 1) := by decide +kernel
theorem dX10_learnCorrector_5 : decode cX10_learnCorrector 5 = .ok (.getfield 402, 3) := by decide +kernel
theorem dX10_learnCorrector_8 : decode cX10_learnCorrector 8 = .ok (.if_icmp .eq 36, 3) := by decide +kernel
theorem dX10_learnCorrector_11 : decode cX10_learnCorrector 11 = .ok (.aload_n 0, 1) := by decide +kernel
theorem dX10_learnCorrector_12 : decode cX10_learnCorrector 12 = .ok (.aload_n 0, 1) := by decide +kernel
theorem dX10_learnCorrector_13 : decode cX10_learnCorrector 13 = .ok (.getfield 410, 3) := by decide +kernel
theorem dX10_learnCorrector_16 : decode cX10_learnCorrector 16 = .ok (.iload_n 1, 1) := by decide +kernel
theorem dX10_learnCorrector_17 : decode cX10_learnCorrector 17 = .ok (.if_icmp .ne 12, 3) := by decide +kernel
theorem dX10_learnCorrector_20 : decode cX10_learnCorrector 20 = .ok (.aload_n 0, 1) := by decide +kernel
theorem dX10_learnCorrector_21 : decode cX10_learnCorrector 21 = .ok (.getfield 347, 3) := by decide +kernel
theorem dX10_learnCorrector_24 : decode cX10_learnCorrector 24 = .ok (.iconst 1, 1) := by decide +kernel
theorem dX10_learnCorrector_25 : decode cX10_learnCorrector 25 = .ok (.isub, 1) := by decide +kernel
theorem dX10_learnCorrector_26 : decode cX10_learnCorrector 26 = .ok (.goto 9, 3) := by decide +kernel
theorem dX10_learnCorrector_29 : decode cX10_learnCorrector 29 = .ok (.aload_n 0, 1) := by decide +kernel
theorem dX10_learnCorrector_30 : decode cX10_learnCorrector 30 = .ok (.getfield 347, 3) := by decide +kernel
theorem dX10_learnCorrector_33 : decode cX10_learnCorrector 33 = .ok (.iconst 1, 1) := by decide +kernel
theorem dX10_learnCorrector_34 : decode cX10_learnCorrector 34 = .ok (.iadd, 1) := by decide +kernel
theorem dX10_learnCorrector_35 : decode cX10_learnCorrector 35 = .ok (.iconst 1, 1) := by decide +kernel
theorem dX10_learnCorrector_36 : decode cX10_learnCorrector 36 = .ok (.bipush 15, 2) := by decide +kernel
theorem dX10_learnCorrector_38 : decode cX10_learnCorrector 38 = .ok (.invokestatic 431, 3) := by decide +kernel
theorem dX10_learnCorrector_41 : decode cX10_learnCorrector 41 = .ok (.putfield 347, 3) := by decide +kernel
theorem dX10_learnCorrector_44 : decode cX10_learnCorrector 44 = .ok (.aload_n 0, 1) := by decide +kernel
theorem dX10_learnCorrector_45 : decode cX10_learnCorrector 45 = .ok (.getfield 410, 3) := by decide +kernel
theorem dX10_learnCorrector_48 : decode cX10_learnCorrector 48 = .ok (.iload_n 1, 1) := by decide +kernel
theorem dX10_learnCorrector_49 : decode cX10_learnCorrector 49 = .ok (.if_icmp .ne 16, 3) := by decide +kernel
theorem dX10_learnCorrector_52 : decode cX10_learnCorrector 52 = .ok (.aload_n 0, 1) := by decide +kernel
theorem dX10_learnCorrector_53 : decode cX10_learnCorrector 53 = .ok (.getfield 407, 3) := by decide +kernel
theorem dX10_learnCorrector_56 : decode cX10_learnCorrector 56 = .ok (.invokestatic 425, 3) := by decide +kernel
theorem dX10_learnCorrector_59 : decode cX10_learnCorrector 59 = .ok (.bipush 12, 2) := by decide +kernel
theorem dX10_learnCorrector_61 : decode cX10_learnCorrector 61 = .ok (.if_icmp .lt 4, 3) := by decide +kernel
theorem dX10_learnCorrector_64 : decode cX10_learnCorrector 64 = .ok (.return_, 1) := by decide +kernel
theorem dX10_learnCorrector_65 : decode cX10_learnCorrector 65 = .ok (.iconst 0, 1) := by decide +kernel
theorem dX10_learnCorrector_66 : decode cX10_learnCorrector 66 = .ok (.istore_n 2, 1) := by decide +kernel
theorem dX10_learnCorrector_67 : decode cX10_learnCorrector 67 = .ok (.iload_n 2, 1) := by decide +kernel
theorem dX10_learnCorrector_68 : decode cX10_learnCorrector 68 = .ok (.iconst 3, 1) := by decide +kernel
theorem dX10_learnCorrector_69 : decode cX10_learnCorrector 69 = .ok (.if_icmp .ge 44, 3) := by decide +kernel
theorem dX10_learnCorrector_72 : decode cX10_learnCorrector 72 = .ok (.aload_n 0, 1) := by decide +kernel
theorem dX10_learnCorrector_73 : decode cX10_learnCorrector 73 = .ok (.getfield 79, 3) := by decide +kernel
theorem dX10_learnCorrector_76 : decode cX10_learnCorrector 76 = .ok (.aload_n 0, 1) := by decide +kernel
theorem dX10_learnCorrector_77 : decode cX10_learnCorrector 77 = .ok (.getfield 88, 3) := by decide +kernel
theorem dX10_learnCorrector_80 : decode cX10_learnCorrector 80 = .ok (.iload_n 2, 1) := by decide +kernel
theorem dX10_learnCorrector_81 : decode cX10_learnCorrector 81 = .ok (.iaload, 1) := by decide +kernel
theorem dX10_learnCorrector_82 : decode cX10_learnCorrector 82 = .ok (.aload_n 0, 1) := by decide +kernel
theorem dX10_learnCorrector_83 : decode cX10_learnCorrector 83 = .ok (.getfield 79, 3) := by decide +kernel
theorem dX10_learnCorrector_86 : decode cX10_learnCorrector 86 = .ok (.aload_n 0, 1) := by decide +kernel
theorem dX10_learnCorrector_87 : decode cX10_learnCorrector 87 = .ok (.getfield 88, 3) := by decide +kernel
theorem dX10_learnCorrector_90 : decode cX10_learnCorrector 90 = .ok (.iload_n 2, 1) := by decide +kernel
theorem dX10_learnCorrector_91 : decode cX10_learnCorrector 91 = .ok (.iaload, 1) := by decide +kernel
theorem dX10_learnCorrector_92 : decode cX10_learnCorrector 92 = .ok (.iaload, 1) := by decide +kernel
theorem dX10_learnCorrector_93 : decode cX10_learnCorrector 93 = .ok (.iconst 2, 1) := by decide +kernel
theorem dX10_learnCorrector_94 : decode cX10_learnCorrector 94 = .ok (.iload_n 1, 1) := by decide +kernel
theorem dX10_learnCorrector_95 : decode cX10_learnCorrector 95 = .ok (.imul, 1) := by decide +kernel
theorem dX10_learnCorrector_96 : decode cX10_learnCorrector 96 = .ok (.iadd, 1) := by decide +kernel
theorem dX10_learnCorrector_97 : decode cX10_learnCorrector 97 = .ok (.iconst 1, 1) := by decide +kernel
theorem dX10_learnCorrector_98 : decode cX10_learnCorrector 98 = .ok (.isub, 1) := by decide +kernel
theorem dX10_learnCorrector_99 : decode cX10_learnCorrector 99 = .ok (.bipush (-8), 2) := by decide +kernel
theorem dX10_learnCorrector_101 : decode cX10_learnCorrector 101 = .ok (.bipush 7, 2) := by decide +kernel
theorem dX10_learnCorrector_103 : decode cX10_learnCorrector 103 = .ok (.invokestatic 431, 3) := by decide +kernel
theorem dX10_learnCorrector_106 : decode cX10_learnCorrector 106 = .ok (.iastore, 1) := by decide +kernel
theorem dX10_learnCorrector_107 : decode cX10_learnCorrector 107 = .ok (.iinc 2 1, 3) := by decide +kernel
theorem dX10_learnCorrector_110 : decode cX10_learnCorrector 110 = .ok (.goto (-43), 3) := by decide +kernel
theorem dX10_learnCorrector_113 : decode cX10_learnCorrector 113 = .ok (.return_, 1) := by decide +kernel
theorem dX10_learnCount_0 : decode cX10_learnCount 0 = .ok (.iconst 2, 1) := by decide +kernel
theorem dX10_learnCount_1 : decode cX10_learnCount 1 = .ok (.iload_n 2, 1) := by decide +kernel
theorem dX10_learnCount_2 : decode cX10_learnCount 2 = .ok (.imul, 1) := by decide +kernel
theorem dX10_learnCount_3 : decode cX10_learnCount 3 = .ok (.iconst 1, 1) := by decide +kernel
theorem dX10_learnCount_4 : decode cX10_learnCount 4 = .ok (.isub, 1) := by decide +kernel
theorem dX10_learnCount_5 : decode cX10_learnCount 5 = .ok (.istore_n 3, 1) := by decide +kernel
theorem dX10_learnCount_6 : decode cX10_learnCount 6 = .ok (.iload_n 1, 1) := by decide +kernel
theorem dX10_learnCount_7 : decode cX10_learnCount 7 = .ok (.ifCond .ne 37, 3) := by decide +kernel
theorem dX10_learnCount_10 : decode cX10_learnCount 10 = .ok (.aload_n 0, 1) := by decide +kernel
theorem dX10_learnCount_11 : decode cX10_learnCount 11 = .ok (.getfield 61, 3) := by decide +kernel
theorem dX10_learnCount_14 : decode cX10_learnCount 14 = .ok (.aload_n 0, 1) := by decide +kernel
theorem dX10_learnCount_15 : decode cX10_learnCount 15 = .ok (.getfield 363, 3) := by decide +kernel
theorem dX10_learnCount_18 : decode cX10_learnCount 18 = .ok (.bipush 16, 2) := by decide +kernel
theorem dX10_learnCount_20 : decode cX10_learnCount 20 = .ok (.irem, 1) := by decide +kernel
theorem dX10_learnCount_21 : decode cX10_learnCount 21 = .ok (.aload_n 0, 1) := by decide +kernel
theorem dX10_learnCount_22 : decode cX10_learnCount 22 = .ok (.getfield 61, 3) := by decide +kernel
theorem dX10_learnCount_25 : decode cX10_learnCount 25 = .ok (.aload_n 0, 1) := by decide +kernel
theorem dX10_learnCount_26 : decode cX10_learnCount 26 = .ok (.getfield 363, 3) := by decide +kernel
theorem dX10_learnCount_29 : decode cX10_learnCount 29 = .ok (.bipush 16, 2) := by decide +kernel
theorem dX10_learnCount_31 : decode cX10_learnCount 31 = .ok (.irem, 1) := by decide +kernel
theorem dX10_learnCount_32 : decode cX10_learnCount 32 = .ok (.iaload, 1) := by decide +kernel
theorem dX10_learnCount_33 : decode cX10_learnCount 33 = .ok (.iload_n 3, 1) := by decide +kernel
theorem dX10_learnCount_34 : decode cX10_learnCount 34 = .ok (.iadd, 1) := by decide +kernel
theorem dX10_learnCount_35 : decode cX10_learnCount 35 = .ok (.iconst 0, 1) := by decide +kernel
theorem dX10_learnCount_36 : decode cX10_learnCount 36 = .ok (.iconst 3, 1) := by decide +kernel
theorem dX10_learnCount_37 : decode cX10_learnCount 37 = .ok (.invokestatic 431, 3) := by decide +kernel
theorem dX10_learnCount_40 : decode cX10_learnCount 40 = .ok (.iastore, 1) := by decide +kernel
theorem dX10_learnCount_41 : decode cX10_learnCount 41 = .ok (.goto 33, 3) := by decide +kernel
theorem dX10_learnCount_44 : decode cX10_learnCount 44 = .ok (.aload_n 0, 1) := by decide +kernel
theorem dX10_learnCount_45 : decode cX10_learnCount 45 = .ok (.getfield 55, 3) := by decide +kernel
theorem dX10_learnCount_48 : decode cX10_learnCount 48 = .ok (.aload_n 0, 1) := by decide +kernel
theorem dX10_learnCount_49 : decode cX10_learnCount 49 = .ok (.getfield 82, 3) := by decide +kernel
theorem dX10_learnCount_52 : decode cX10_learnCount 52 = .ok (.iload_n 1, 1) := by decide +kernel
theorem dX10_learnCount_53 : decode cX10_learnCount 53 = .ok (.iaload, 1) := by decide +kernel
theorem dX10_learnCount_54 : decode cX10_learnCount 54 = .ok (.aload_n 0, 1) := by decide +kernel
theorem dX10_learnCount_55 : decode cX10_learnCount 55 = .ok (.getfield 55, 3) := by decide +kernel
theorem dX10_learnCount_58 : decode cX10_learnCount 58 = .ok (.aload_n 0, 1) := by decide +kernel
theorem dX10_learnCount_59 : decode cX10_learnCount 59 = .ok (.getfield 82, 3) := by decide +kernel
theorem dX10_learnCount_62 : decode cX10_learnCount 62 = .ok (.iload_n 1, 1) := by decide +kernel
theorem dX10_learnCount_63 : decode cX10_learnCount 63 = .ok (.iaload, 1) := by decide +kernel
theorem dX10_learnCount_64 : decode cX10_learnCount 64 = .ok (.iaload, 1) := by decide +kernel
theorem dX10_learnCount_65 : decode cX10_learnCount 65 = .ok (.iload_n 3, 1) := by decide +kernel
theorem dX10_learnCount_66 : decode cX10_learnCount 66 = .ok (.iadd, 1) := by decide +kernel
theorem dX10_learnCount_67 : decode cX10_learnCount 67 = .ok (.bipush (-4), 2) := by decide +kernel
theorem dX10_learnCount_69 : decode cX10_learnCount 69 = .ok (.iconst 3, 1) := by decide +kernel
theorem dX10_learnCount_70 : decode cX10_learnCount 70 = .ok (.invokestatic 431, 3) := by decide +kernel
theorem dX10_learnCount_73 : decode cX10_learnCount 73 = .ok (.iastore, 1) := by decide +kernel
theorem dX10_learnCount_74 : decode cX10_learnCount 74 = .ok (.return_, 1) := by decide +kernel
theorem dX10_halve_0 : decode cX10_halve 0 = .ok (.iconst 0, 1) := by decide +kernel
theorem dX10_halve_1 : decode cX10_halve 1 = .ok (.istore_n 1, 1) := by decide +kernel
theorem dX10_halve_2 : decode cX10_halve 2 = .ok (.iload_n 1, 1) := by decide +kernel
theorem dX10_halve_3 : decode cX10_halve 3 = .ok (.bipush 80, 2) := by decide +kernel
theorem dX10_halve_5 : decode cX10_halve 5 = .ok (.if_icmp .ge 19, 3) := by decide +kernel
theorem dX10_halve_8 : decode cX10_halve 8 = .ok (.aload_n 0, 1) := by decide +kernel
theorem dX10_halve_9 : decode cX10_halve 9 = .ok (.getfield 58, 3) := by decide +kernel
theorem dX10_halve_12 : decode cX10_halve 12 = .ok (.iload_n 1, 1) := by decide +kernel
theorem dX10_halve_13 : decode cX10_halve 13 = .ok (.dup2, 1) := by decide +kernel
theorem dX10_halve_14 : decode cX10_halve 14 = .ok (.iaload, 1) := by decide +kernel
theorem dX10_halve_15 : decode cX10_halve 15 = .ok (.iconst 2, 1) := by decide +kernel
theorem dX10_halve_16 : decode cX10_halve 16 = .ok (.idiv, 1) := by decide +kernel
theorem dX10_halve_17 : decode cX10_halve 17 = .ok (.iastore, 1) := by decide +kernel
theorem dX10_halve_18 : decode cX10_halve 18 = .ok (.iinc 1 1, 3) := by decide +kernel
theorem dX10_halve_21 : decode cX10_halve 21 = .ok (.goto (-19), 3) := by decide +kernel
theorem dX10_halve_24 : decode cX10_halve 24 = .ok (.aload_n 0, 1) := by decide +kernel
theorem dX10_halve_25 : decode cX10_halve 25 = .ok (.iconst 0, 1) := by decide +kernel
theorem dX10_halve_26 : decode cX10_halve 26 = .ok (.putfield 344, 3) := by decide +kernel
theorem dX10_halve_29 : decode cX10_halve 29 = .ok (.aload_n 0, 1) := by decide +kernel
theorem dX10_halve_30 : decode cX10_halve 30 = .ok (.dup, 1) := by decide +kernel
theorem dX10_halve_31 : decode cX10_halve 31 = .ok (.getfield 350, 3) := by decide +kernel
theorem dX10_halve_34 : decode cX10_halve 34 = .ok (.iconst 1, 1) := by decide +kernel
theorem dX10_halve_35 : decode cX10_halve 35 = .ok (.iadd, 1) := by decide +kernel
theorem dX10_halve_36 : decode cX10_halve 36 = .ok (.putfield 350, 3) := by decide +kernel
theorem dX10_halve_39 : decode cX10_halve 39 = .ok (.return_, 1) := by decide +kernel
theorem dX10_takeRow_0 : decode cX10_takeRow 0 = .ok (.iconst 0, 1) := by decide +kernel
theorem dX10_takeRow_1 : decode cX10_takeRow 1 = .ok (.istore_n 2, 1) := by decide +kernel
theorem dX10_takeRow_2 : decode cX10_takeRow 2 = .ok (.aload_n 0, 1) := by decide +kernel
theorem dX10_takeRow_3 : decode cX10_takeRow 3 = .ok (.getfield 378, 3) := by decide +kernel
theorem dX10_takeRow_6 : decode cX10_takeRow 6 = .ok (.iconst 1, 1) := by decide +kernel
theorem dX10_takeRow_7 : decode cX10_takeRow 7 = .ok (.iadd, 1) := by decide +kernel
theorem dX10_takeRow_8 : decode cX10_takeRow 8 = .ok (.istore_n 3, 1) := by decide +kernel
theorem dX10_takeRow_9 : decode cX10_takeRow 9 = .ok (.iload_n 3, 1) := by decide +kernel
theorem dX10_takeRow_10 : decode cX10_takeRow 10 = .ok (.aload_n 0, 1) := by decide +kernel
theorem dX10_takeRow_11 : decode cX10_takeRow 11 = .ok (.invokevirtual 335, 3) := by decide +kernel
theorem dX10_takeRow_14 : decode cX10_takeRow 14 = .ok (.if_icmp .gt 87, 3) := by decide +kernel
theorem dX10_takeRow_17 : decode cX10_takeRow 17 = .ok (.iload_n 3, 1) := by decide +kernel
theorem dX10_takeRow_18 : decode cX10_takeRow 18 = .ok (.aload_n 0, 1) := by decide +kernel
theorem dX10_takeRow_19 : decode cX10_takeRow 19 = .ok (.getfield 332, 3) := by decide +kernel
theorem dX10_takeRow_22 : decode cX10_takeRow 22 = .ok (.if_icmp .ne 6, 3) := by decide +kernel
theorem dX10_takeRow_25 : decode cX10_takeRow 25 = .ok (.goto 70, 3) := by decide +kernel
theorem dX10_takeRow_28 : decode cX10_takeRow 28 = .ok (.iinc 2 1, 3) := by decide +kernel
theorem dX10_takeRow_31 : decode cX10_takeRow 31 = .ok (.aload_n 0, 1) := by decide +kernel
theorem dX10_takeRow_32 : decode cX10_takeRow 32 = .ok (.getfield 82, 3) := by decide +kernel
theorem dX10_takeRow_35 : decode cX10_takeRow 35 = .ok (.iload_n 3, 1) := by decide +kernel
theorem dX10_takeRow_36 : decode cX10_takeRow 36 = .ok (.iaload, 1) := by decide +kernel
theorem dX10_takeRow_37 : decode cX10_takeRow 37 = .ok (.istore 4, 2) := by decide +kernel
theorem dX10_takeRow_39 : decode cX10_takeRow 39 = .ok (.aload_n 0, 1) := by decide +kernel
theorem dX10_takeRow_40 : decode cX10_takeRow 40 = .ok (.getfield 52, 3) := by decide +kernel
theorem dX10_takeRow_43 : decode cX10_takeRow 43 = .ok (.iload 4, 2) := by decide +kernel
theorem dX10_takeRow_45 : decode cX10_takeRow 45 = .ok (.iaload, 1) := by decide +kernel
theorem dX10_takeRow_46 : decode cX10_takeRow 46 = .ok (.iconst (-1), 1) := by decide +kernel
theorem dX10_takeRow_47 : decode cX10_takeRow 47 = .ok (.if_icmp .eq 16, 3) := by decide +kernel
theorem dX10_takeRow_50 : decode cX10_takeRow 50 = .ok (.aload_n 0, 1) := by decide +kernel
theorem dX10_takeRow_51 : decode cX10_takeRow 51 = .ok (.getfield 58, 3) := by decide +kernel
theorem dX10_takeRow_54 : decode cX10_takeRow 54 = .ok (.iload 4, 2) := by decide +kernel
theorem dX10_takeRow_56 : decode cX10_takeRow 56 = .ok (.iaload, 1) := by decide +kernel
theorem dX10_takeRow_57 : decode cX10_takeRow 57 = .ok (.ifCond .le 6, 3) := by decide +kernel
theorem dX10_takeRow_60 : decode cX10_takeRow 60 = .ok (.goto 35, 3) := by decide +kernel
theorem dX10_takeRow_63 : decode cX10_takeRow 63 = .ok (.aload_n 0, 1) := by decide +kernel
theorem dX10_takeRow_64 : decode cX10_takeRow 64 = .ok (.getfield 52, 3) := by decide +kernel
theorem dX10_takeRow_67 : decode cX10_takeRow 67 = .ok (.iload 4, 2) := by decide +kernel
theorem dX10_takeRow_69 : decode cX10_takeRow 69 = .ok (.aload_n 0, 1) := by decide +kernel
theorem dX10_takeRow_70 : decode cX10_takeRow 70 = .ok (.getfield 85, 3) := by decide +kernel
theorem dX10_takeRow_73 : decode cX10_takeRow 73 = .ok (.iload_n 3, 1) := by decide +kernel
theorem dX10_takeRow_74 : decode cX10_takeRow 74 = .ok (.iaload, 1) := by decide +kernel
theorem dX10_takeRow_75 : decode cX10_takeRow 75 = .ok (.iastore, 1) := by decide +kernel
theorem dX10_takeRow_76 : decode cX10_takeRow 76 = .ok (.aload_n 0, 1) := by decide +kernel
theorem dX10_takeRow_77 : decode cX10_takeRow 77 = .ok (.getfield 55, 3) := by decide +kernel
theorem dX10_takeRow_80 : decode cX10_takeRow 80 = .ok (.iload 4, 2) := by decide +kernel
theorem dX10_takeRow_82 : decode cX10_takeRow 82 = .ok (.iload_n 1, 1) := by decide +kernel
theorem dX10_takeRow_83 : decode cX10_takeRow 83 = .ok (.iconst 1, 1) := by decide +kernel
theorem dX10_takeRow_84 : decode cX10_takeRow 84 = .ok (.isub, 1) := by decide +kernel
theorem dX10_takeRow_85 : decode cX10_takeRow 85 = .ok (.iastore, 1) := by decide +kernel
theorem dX10_takeRow_86 : decode cX10_takeRow 86 = .ok (.aload_n 0, 1) := by decide +kernel
theorem dX10_takeRow_87 : decode cX10_takeRow 87 = .ok (.getfield 58, 3) := by decide +kernel
theorem dX10_takeRow_90 : decode cX10_takeRow 90 = .ok (.iload 4, 2) := by decide +kernel
theorem dX10_takeRow_92 : decode cX10_takeRow 92 = .ok (.iconst 0, 1) := by decide +kernel
theorem dX10_takeRow_93 : decode cX10_takeRow 93 = .ok (.iastore, 1) := by decide +kernel
theorem dX10_takeRow_94 : decode cX10_takeRow 94 = .ok (.return_, 1) := by decide +kernel
theorem dX10_takeRow_95 : decode cX10_takeRow 95 = .ok (.iinc 3 1, 3) := by decide +kernel
theorem dX10_takeRow_98 : decode cX10_takeRow 98 = .ok (.goto (-89), 3) := by decide +kernel
theorem dX10_takeRow_101 : decode cX10_takeRow 101 = .ok (.iload_n 2, 1) := by decide +kernel
theorem dX10_takeRow_102 : decode cX10_takeRow 102 = .ok (.ifCond .ne 4, 3) := by decide +kernel
theorem dX10_takeRow_105 : decode cX10_takeRow 105 = .ok (.return_, 1) := by decide +kernel
theorem dX10_takeRow_106 : decode cX10_takeRow 106 = .ok (.aload_n 0, 1) := by decide +kernel
theorem dX10_takeRow_107 : decode cX10_takeRow 107 = .ok (.getfield 378, 3) := by decide +kernel
theorem dX10_takeRow_110 : decode cX10_takeRow 110 = .ok (.iconst 1, 1) := by decide +kernel
theorem dX10_takeRow_111 : decode cX10_takeRow 111 = .ok (.iadd, 1) := by decide +kernel
theorem dX10_takeRow_112 : decode cX10_takeRow 112 = .ok (.istore_n 3, 1) := by decide +kernel
theorem dX10_takeRow_113 : decode cX10_takeRow 113 = .ok (.iload_n 3, 1) := by decide +kernel
theorem dX10_takeRow_114 : decode cX10_takeRow 114 = .ok (.aload_n 0, 1) := by decide +kernel
theorem dX10_takeRow_115 : decode cX10_takeRow 115 = .ok (.invokevirtual 335, 3) := by decide +kernel
theorem dX10_takeRow_118 : decode cX10_takeRow 118 = .ok (.if_icmp .gt 32, 3) := by decide +kernel
theorem dX10_takeRow_121 : decode cX10_takeRow 121 = .ok (.iload_n 3, 1) := by decide +kernel
theorem dX10_takeRow_122 : decode cX10_takeRow 122 = .ok (.aload_n 0, 1) := by decide +kernel
theorem dX10_takeRow_123 : decode cX10_takeRow 123 = .ok (.getfield 332, 3) := by decide +kernel
theorem dX10_takeRow_126 : decode cX10_takeRow 126 = .ok (.if_icmp .eq 18, 3) := by decide +kernel
theorem dX10_takeRow_129 : decode cX10_takeRow 129 = .ok (.aload_n 0, 1) := by decide +kernel
theorem dX10_takeRow_130 : decode cX10_takeRow 130 = .ok (.getfield 58, 3) := by decide +kernel
theorem dX10_takeRow_133 : decode cX10_takeRow 133 = .ok (.aload_n 0, 1) := by decide +kernel
theorem dX10_takeRow_134 : decode cX10_takeRow 134 = .ok (.getfield 82, 3) := by decide +kernel
theorem dX10_takeRow_137 : decode cX10_takeRow 137 = .ok (.iload_n 3, 1) := by decide +kernel
theorem dX10_takeRow_138 : decode cX10_takeRow 138 = .ok (.iaload, 1) := by decide +kernel
theorem dX10_takeRow_139 : decode cX10_takeRow 139 = .ok (.dup2, 1) := by decide +kernel
theorem dX10_takeRow_140 : decode cX10_takeRow 140 = .ok (.iaload, 1) := by decide +kernel
theorem dX10_takeRow_141 : decode cX10_takeRow 141 = .ok (.iconst 1, 1) := by decide +kernel
theorem dX10_takeRow_142 : decode cX10_takeRow 142 = .ok (.isub, 1) := by decide +kernel
theorem dX10_takeRow_143 : decode cX10_takeRow 143 = .ok (.iastore, 1) := by decide +kernel
theorem dX10_takeRow_144 : decode cX10_takeRow 144 = .ok (.iinc 3 1, 3) := by decide +kernel
theorem dX10_takeRow_147 : decode cX10_takeRow 147 = .ok (.goto (-34), 3) := by decide +kernel
theorem dX10_takeRow_150 : decode cX10_takeRow 150 = .ok (.aload_n 0, 1) := by decide +kernel
theorem dX10_takeRow_151 : decode cX10_takeRow 151 = .ok (.dup, 1) := by decide +kernel
theorem dX10_takeRow_152 : decode cX10_takeRow 152 = .ok (.getfield 344, 3) := by decide +kernel
theorem dX10_takeRow_155 : decode cX10_takeRow 155 = .ok (.iconst 1, 1) := by decide +kernel
theorem dX10_takeRow_156 : decode cX10_takeRow 156 = .ok (.iadd, 1) := by decide +kernel
theorem dX10_takeRow_157 : decode cX10_takeRow 157 = .ok (.putfield 344, 3) := by decide +kernel
theorem dX10_takeRow_160 : decode cX10_takeRow 160 = .ok (.aload_n 0, 1) := by decide +kernel
theorem dX10_takeRow_161 : decode cX10_takeRow 161 = .ok (.getfield 344, 3) := by decide +kernel
theorem dX10_takeRow_164 : decode cX10_takeRow 164 = .ok (.aload_n 0, 1) := by decide +kernel
theorem dX10_takeRow_165 : decode cX10_takeRow 165 = .ok (.getfield 9, 3) := by decide +kernel
theorem dX10_takeRow_168 : decode cX10_takeRow 168 = .ok (.iconst 2, 1) := by decide +kernel
theorem dX10_takeRow_169 : decode cX10_takeRow 169 = .ok (.iaload, 1) := by decide +kernel
theorem dX10_takeRow_170 : decode cX10_takeRow 170 = .ok (.if_icmp .ne 7, 3) := by decide +kernel
theorem dX10_takeRow_173 : decode cX10_takeRow 173 = .ok (.aload_n 0, 1) := by decide +kernel
theorem dX10_takeRow_174 : decode cX10_takeRow 174 = .ok (.invokevirtual 435, 3) := by decide +kernel
theorem dX10_takeRow_177 : decode cX10_takeRow 177 = .ok (.return_, 1) := by decide +kernel
theorem dX10_learn_0 : decode cX10_learn 0 = .ok (.aload_n 0, 1) := by decide +kernel
theorem dX10_learn_1 : decode cX10_learn 1 = .ok (.iconst 1, 1) := by decide +kernel
theorem dX10_learn_2 : decode cX10_learn 2 = .ok (.invokevirtual 399, 3) := by decide +kernel
theorem dX10_learn_5 : decode cX10_learn 5 = .ok (.ifCond .eq 8, 3) := by decide +kernel
theorem dX10_learn_8 : decode cX10_learn 8 = .ok (.aload_n 0, 1) := by decide +kernel
theorem dX10_learn_9 : decode cX10_learn 9 = .ok (.iload_n 1, 1) := by decide +kernel
theorem dX10_learn_10 : decode cX10_learn 10 = .ok (.invokevirtual 438, 3) := by decide +kernel
theorem dX10_learn_13 : decode cX10_learn 13 = .ok (.aload_n 0, 1) := by decide +kernel
theorem dX10_learn_14 : decode cX10_learn 14 = .ok (.iconst 2, 1) := by decide +kernel
theorem dX10_learn_15 : decode cX10_learn 15 = .ok (.invokevirtual 399, 3) := by decide +kernel
theorem dX10_learn_18 : decode cX10_learn 18 = .ok (.ifCond .eq 8, 3) := by decide +kernel
theorem dX10_learn_21 : decode cX10_learn 21 = .ok (.aload_n 0, 1) := by decide +kernel
theorem dX10_learn_22 : decode cX10_learn 22 = .ok (.iload_n 1, 1) := by decide +kernel
theorem dX10_learn_23 : decode cX10_learn 23 = .ok (.invokevirtual 441, 3) := by decide +kernel
theorem dX10_learn_26 : decode cX10_learn 26 = .ok (.aload_n 0, 1) := by decide +kernel
theorem dX10_learn_27 : decode cX10_learn 27 = .ok (.getfield 387, 3) := by decide +kernel
theorem dX10_learn_30 : decode cX10_learn 30 = .ok (.aload_n 0, 1) := by decide +kernel
theorem dX10_learn_31 : decode cX10_learn 31 = .ok (.getfield 390, 3) := by decide +kernel
theorem dX10_learn_34 : decode cX10_learn 34 = .ok (.if_icmp .eq 7, 3) := by decide +kernel
theorem dX10_learn_37 : decode cX10_learn 37 = .ok (.iconst 1, 1) := by decide +kernel
theorem dX10_learn_38 : decode cX10_learn 38 = .ok (.goto 4, 3) := by decide +kernel
theorem dX10_learn_41 : decode cX10_learn 41 = .ok (.iconst 0, 1) := by decide +kernel
theorem dX10_learn_42 : decode cX10_learn 42 = .ok (.istore_n 2, 1) := by decide +kernel
theorem dX10_learn_43 : decode cX10_learn 43 = .ok (.aload_n 0, 1) := by decide +kernel
theorem dX10_learn_44 : decode cX10_learn 44 = .ok (.iconst 4, 1) := by decide +kernel
theorem dX10_learn_45 : decode cX10_learn 45 = .ok (.invokevirtual 399, 3) := by decide +kernel
theorem dX10_learn_48 : decode cX10_learn 48 = .ok (.ifCond .eq 47, 3) := by decide +kernel
theorem dX10_learn_51 : decode cX10_learn 51 = .ok (.aload_n 0, 1) := by decide +kernel
theorem dX10_learn_52 : decode cX10_learn 52 = .ok (.getfield 395, 3) := by decide +kernel
theorem dX10_learn_55 : decode cX10_learn 55 = .ok (.ifCond .eq 40, 3) := by decide +kernel
theorem dX10_learn_58 : decode cX10_learn 58 = .ok (.iload_n 2, 1) := by decide +kernel
theorem dX10_learn_59 : decode cX10_learn 59 = .ok (.ifCond .eq 36, 3) := by decide +kernel
theorem dX10_learn_62 : decode cX10_learn 62 = .ok (.aload_n 0, 1) := by decide +kernel
theorem dX10_learn_63 : decode cX10_learn 63 = .ok (.aload_n 0, 1) := by decide +kernel
theorem dX10_learn_64 : decode cX10_learn 64 = .ok (.getfield 390, 3) := by decide +kernel
theorem dX10_learn_67 : decode cX10_learn 67 = .ok (.iload_n 1, 1) := by decide +kernel
theorem dX10_learn_68 : decode cX10_learn 68 = .ok (.if_icmp .ne 12, 3) := by decide +kernel
theorem dX10_learn_71 : decode cX10_learn 71 = .ok (.aload_n 0, 1) := by decide +kernel
theorem dX10_learn_72 : decode cX10_learn 72 = .ok (.getfield 341, 3) := by decide +kernel
theorem dX10_learn_75 : decode cX10_learn 75 = .ok (.iconst 1, 1) := by decide +kernel
theorem dX10_learn_76 : decode cX10_learn 76 = .ok (.iadd, 1) := by decide +kernel
theorem dX10_learn_77 : decode cX10_learn 77 = .ok (.goto 9, 3) := by decide +kernel
theorem dX10_learn_80 : decode cX10_learn 80 = .ok (.aload_n 0, 1) := by decide +kernel
theorem dX10_learn_81 : decode cX10_learn 81 = .ok (.getfield 341, 3) := by decide +kernel
theorem dX10_learn_84 : decode cX10_learn 84 = .ok (.iconst 1, 1) := by decide +kernel
theorem dX10_learn_85 : decode cX10_learn 85 = .ok (.isub, 1) := by decide +kernel
theorem dX10_learn_86 : decode cX10_learn 86 = .ok (.iconst 0, 1) := by decide +kernel
theorem dX10_learn_87 : decode cX10_learn 87 = .ok (.bipush 15, 2) := by decide +kernel
theorem dX10_learn_89 : decode cX10_learn 89 = .ok (.invokestatic 431, 3) := by decide +kernel
theorem dX10_learn_92 : decode cX10_learn 92 = .ok (.putfield 341, 3) := by decide +kernel
theorem dX10_learn_95 : decode cX10_learn 95 = .ok (.aload_n 0, 1) := by decide +kernel
theorem dX10_learn_96 : decode cX10_learn 96 = .ok (.getfield 82, 3) := by decide +kernel
theorem dX10_learn_99 : decode cX10_learn 99 = .ok (.aload_n 0, 1) := by decide +kernel
theorem dX10_learn_100 : decode cX10_learn 100 = .ok (.getfield 378, 3) := by decide +kernel
theorem dX10_learn_103 : decode cX10_learn 103 = .ok (.iaload, 1) := by decide +kernel
theorem dX10_learn_104 : decode cX10_learn 104 = .ok (.istore_n 3, 1) := by decide +kernel
theorem dX10_learn_105 : decode cX10_learn 105 = .ok (.aload_n 0, 1) := by decide +kernel
theorem dX10_learn_106 : decode cX10_learn 106 = .ok (.getfield 378, 3) := by decide +kernel
theorem dX10_learn_109 : decode cX10_learn 109 = .ok (.ifCond .le 45, 3) := by decide +kernel
theorem dX10_learn_112 : decode cX10_learn 112 = .ok (.iload_n 2, 1) := by decide +kernel
theorem dX10_learn_113 : decode cX10_learn 113 = .ok (.ifCond .eq 41, 3) := by decide +kernel
theorem dX10_learn_116 : decode cX10_learn 116 = .ok (.aload_n 0, 1) := by decide +kernel
theorem dX10_learn_117 : decode cX10_learn 117 = .ok (.getfield 58, 3) := by decide +kernel
theorem dX10_learn_120 : decode cX10_learn 120 = .ok (.iload_n 3, 1) := by decide +kernel
theorem dX10_learn_121 : decode cX10_learn 121 = .ok (.aload_n 0, 1) := by decide +kernel
theorem dX10_learn_122 : decode cX10_learn 122 = .ok (.getfield 387, 3) := by decide +kernel
theorem dX10_learn_125 : decode cX10_learn 125 = .ok (.iload_n 1, 1) := by decide +kernel
theorem dX10_learn_126 : decode cX10_learn 126 = .ok (.if_icmp .ne 14, 3) := by decide +kernel
theorem dX10_learn_129 : decode cX10_learn 129 = .ok (.aload_n 0, 1) := by decide +kernel
theorem dX10_learn_130 : decode cX10_learn 130 = .ok (.getfield 58, 3) := by decide +kernel
theorem dX10_learn_133 : decode cX10_learn 133 = .ok (.iload_n 3, 1) := by decide +kernel
theorem dX10_learn_134 : decode cX10_learn 134 = .ok (.iaload, 1) := by decide +kernel
theorem dX10_learn_135 : decode cX10_learn 135 = .ok (.iconst 1, 1) := by decide +kernel
theorem dX10_learn_136 : decode cX10_learn 136 = .ok (.iadd, 1) := by decide +kernel
theorem dX10_learn_137 : decode cX10_learn 137 = .ok (.goto 11, 3) := by decide +kernel
theorem dX10_learn_140 : decode cX10_learn 140 = .ok (.aload_n 0, 1) := by decide +kernel
theorem dX10_learn_141 : decode cX10_learn 141 = .ok (.getfield 58, 3) := by decide +kernel
theorem dX10_learn_144 : decode cX10_learn 144 = .ok (.iload_n 3, 1) := by decide +kernel
theorem dX10_learn_145 : decode cX10_learn 145 = .ok (.iaload, 1) := by decide +kernel
theorem dX10_learn_146 : decode cX10_learn 146 = .ok (.iconst 1, 1) := by decide +kernel
theorem dX10_learn_147 : decode cX10_learn 147 = .ok (.isub, 1) := by decide +kernel
theorem dX10_learn_148 : decode cX10_learn 148 = .ok (.iconst 0, 1) := by decide +kernel
theorem dX10_learn_149 : decode cX10_learn 149 = .ok (.iconst 3, 1) := by decide +kernel
theorem dX10_learn_150 : decode cX10_learn 150 = .ok (.invokestatic 431, 3) := by decide +kernel
theorem dX10_learn_153 : decode cX10_learn 153 = .ok (.iastore, 1) := by decide +kernel
theorem dX10_learn_154 : decode cX10_learn 154 = .ok (.aload_n 0, 1) := by decide +kernel
theorem dX10_learn_155 : decode cX10_learn 155 = .ok (.aload_n 0, 1) := by decide +kernel
theorem dX10_learn_156 : decode cX10_learn 156 = .ok (.getfield 378, 3) := by decide +kernel
theorem dX10_learn_159 : decode cX10_learn 159 = .ok (.iload_n 1, 1) := by decide +kernel
theorem dX10_learn_160 : decode cX10_learn 160 = .ok (.invokevirtual 444, 3) := by decide +kernel
theorem dX10_learn_163 : decode cX10_learn 163 = .ok (.aload_n 0, 1) := by decide +kernel
theorem dX10_learn_164 : decode cX10_learn 164 = .ok (.getfield 395, 3) := by decide +kernel
theorem dX10_learn_167 : decode cX10_learn 167 = .ok (.ifCond .eq 12, 3) := by decide +kernel
theorem dX10_learn_170 : decode cX10_learn 170 = .ok (.aload_n 0, 1) := by decide +kernel
theorem dX10_learn_171 : decode cX10_learn 171 = .ok (.aload_n 0, 1) := by decide +kernel
theorem dX10_learn_172 : decode cX10_learn 172 = .ok (.getfield 381, 3) := by decide +kernel
theorem dX10_learn_175 : decode cX10_learn 175 = .ok (.iload_n 1, 1) := by decide +kernel
theorem dX10_learn_176 : decode cX10_learn 176 = .ok (.invokevirtual 444, 3) := by decide +kernel
theorem dX10_learn_179 : decode cX10_learn 179 = .ok (.aload_n 0, 1) := by decide +kernel
theorem dX10_learn_180 : decode cX10_learn 180 = .ok (.getfield 402, 3) := by decide +kernel
theorem dX10_learn_183 : decode cX10_learn 183 = .ok (.iload_n 1, 1) := by decide +kernel
theorem dX10_learn_184 : decode cX10_learn 184 = .ok (.if_icmp .eq 8, 3) := by decide +kernel
theorem dX10_learn_187 : decode cX10_learn 187 = .ok (.aload_n 0, 1) := by decide +kernel
theorem dX10_learn_188 : decode cX10_learn 188 = .ok (.iload_n 1, 1) := by decide +kernel
theorem dX10_learn_189 : decode cX10_learn 189 = .ok (.invokevirtual 448, 3) := by decide +kernel
theorem dX10_learn_192 : decode cX10_learn 192 = .ok (.aload_n 0, 1) := by decide +kernel
theorem dX10_learn_193 : decode cX10_learn 193 = .ok (.aload_n 0, 1) := by decide +kernel
theorem dX10_learn_194 : decode cX10_learn 194 = .ok (.getfield 353, 3) := by decide +kernel
theorem dX10_learn_197 : decode cX10_learn 197 = .ok (.iconst 1, 1) := by decide +kernel
theorem dX10_learn_198 : decode cX10_learn 198 = .ok (.lshl, 1) := by decide +kernel
theorem dX10_learn_199 : decode cX10_learn 199 = .ok (.iload_n 1, 1) := by decide +kernel
theorem dX10_learn_200 : decode cX10_learn 200 = .ok (.i2l, 1) := by decide +kernel
theorem dX10_learn_201 : decode cX10_learn 201 = .ok (.lor, 1) := by decide +kernel
theorem dX10_learn_202 : decode cX10_learn 202 = .ok (.ldc2_w 451, 3) := by decide +kernel
theorem dX10_learn_205 : decode cX10_learn 205 = .ok (.land, 1) := by decide +kernel
theorem dX10_learn_206 : decode cX10_learn 206 = .ok (.putfield 353, 3) := by decide +kernel
theorem dX10_learn_209 : decode cX10_learn 209 = .ok (.return_, 1) := by decide +kernel
theorem dX10_play_0 : decode cX10_play 0 = .ok (.aload_n 0, 1) := by decide +kernel
theorem dX10_play_1 : decode cX10_play 1 = .ok (.invokevirtual 453, 3) := by decide +kernel
theorem dX10_play_4 : decode cX10_play 4 = .ok (.iconst 0, 1) := by decide +kernel
theorem dX10_play_5 : decode cX10_play 5 = .ok (.istore_n 2, 1) := by decide +kernel
theorem dX10_play_6 : decode cX10_play 6 = .ok (.iload_n 2, 1) := by decide +kernel
theorem dX10_play_7 : decode cX10_play 7 = .ok (.iload_n 1, 1) := by decide +kernel
theorem dX10_play_8 : decode cX10_play 8 = .ok (.if_icmp .ge 97, 3) := by decide +kernel
theorem dX10_play_11 : decode cX10_play 11 = .ok (.aload_n 0, 1) := by decide +kernel
theorem dX10_play_12 : decode cX10_play 12 = .ok (.aload_n 0, 1) := by decide +kernel
theorem dX10_play_13 : decode cX10_play 13 = .ok (.getfield 40, 3) := by decide +kernel
theorem dX10_play_16 : decode cX10_play 16 = .ok (.iload_n 2, 1) := by decide +kernel
theorem dX10_play_17 : decode cX10_play 17 = .ok (.iaload, 1) := by decide +kernel
theorem dX10_play_18 : decode cX10_play 18 = .ok (.invokevirtual 456, 3) := by decide +kernel
theorem dX10_play_21 : decode cX10_play 21 = .ok (.aload_n 0, 1) := by decide +kernel
theorem dX10_play_22 : decode cX10_play 22 = .ok (.getfield 91, 3) := by decide +kernel
theorem dX10_play_25 : decode cX10_play 25 = .ok (.iload_n 2, 1) := by decide +kernel
theorem dX10_play_26 : decode cX10_play 26 = .ok (.aload_n 0, 1) := by decide +kernel
theorem dX10_play_27 : decode cX10_play 27 = .ok (.getfield 422, 3) := by decide +kernel
theorem dX10_play_30 : decode cX10_play 30 = .ok (.iastore, 1) := by decide +kernel
theorem dX10_play_31 : decode cX10_play 31 = .ok (.aload_n 0, 1) := by decide +kernel
theorem dX10_play_32 : decode cX10_play 32 = .ok (.getfield 94, 3) := by decide +kernel
theorem dX10_play_35 : decode cX10_play 35 = .ok (.iload_n 2, 1) := by decide +kernel
theorem dX10_play_36 : decode cX10_play 36 = .ok (.aload_n 0, 1) := by decide +kernel
theorem dX10_play_37 : decode cX10_play 37 = .ok (.getfield 378, 3) := by decide +kernel
theorem dX10_play_40 : decode cX10_play 40 = .ok (.iastore, 1) := by decide +kernel
theorem dX10_play_41 : decode cX10_play 41 = .ok (.aload_n 0, 1) := by decide +kernel
theorem dX10_play_42 : decode cX10_play 42 = .ok (.getfield 97, 3) := by decide +kernel
theorem dX10_play_45 : decode cX10_play 45 = .ok (.iload_n 2, 1) := by decide +kernel
theorem dX10_play_46 : decode cX10_play 46 = .ok (.aload_n 0, 1) := by decide +kernel
theorem dX10_play_47 : decode cX10_play 47 = .ok (.getfield 381, 3) := by decide +kernel
theorem dX10_play_50 : decode cX10_play 50 = .ok (.iastore, 1) := by decide +kernel
theorem dX10_play_51 : decode cX10_play 51 = .ok (.aload_n 0, 1) := by decide +kernel
theorem dX10_play_52 : decode cX10_play 52 = .ok (.getfield 100, 3) := by decide +kernel
theorem dX10_play_55 : decode cX10_play 55 = .ok (.iload_n 2, 1) := by decide +kernel
theorem dX10_play_56 : decode cX10_play 56 = .ok (.aload_n 0, 1) := by decide +kernel
theorem dX10_play_57 : decode cX10_play 57 = .ok (.getfield 395, 3) := by decide +kernel
theorem dX10_play_60 : decode cX10_play 60 = .ok (.ifCond .eq 7, 3) := by decide +kernel
theorem dX10_play_63 : decode cX10_play 63 = .ok (.iconst 1, 1) := by decide +kernel
theorem dX10_play_64 : decode cX10_play 64 = .ok (.goto 4, 3) := by decide +kernel
theorem dX10_play_67 : decode cX10_play 67 = .ok (.iconst 0, 1) := by decide +kernel
theorem dX10_play_68 : decode cX10_play 68 = .ok (.iastore, 1) := by decide +kernel
theorem dX10_play_69 : decode cX10_play 69 = .ok (.aload_n 0, 1) := by decide +kernel
theorem dX10_play_70 : decode cX10_play 70 = .ok (.getfield 103, 3) := by decide +kernel
theorem dX10_play_73 : decode cX10_play 73 = .ok (.iload_n 2, 1) := by decide +kernel
theorem dX10_play_74 : decode cX10_play 74 = .ok (.aload_n 0, 1) := by decide +kernel
theorem dX10_play_75 : decode cX10_play 75 = .ok (.getfield 402, 3) := by decide +kernel
theorem dX10_play_78 : decode cX10_play 78 = .ok (.iastore, 1) := by decide +kernel
theorem dX10_play_79 : decode cX10_play 79 = .ok (.aload_n 0, 1) := by decide +kernel
theorem dX10_play_80 : decode cX10_play 80 = .ok (.getfield 106, 3) := by decide +kernel
theorem dX10_play_83 : decode cX10_play 83 = .ok (.iload_n 2, 1) := by decide +kernel
theorem dX10_play_84 : decode cX10_play 84 = .ok (.aload_n 0, 1) := by decide +kernel
theorem dX10_play_85 : decode cX10_play 85 = .ok (.getfield 419, 3) := by decide +kernel
theorem dX10_play_88 : decode cX10_play 88 = .ok (.iastore, 1) := by decide +kernel
theorem dX10_play_89 : decode cX10_play 89 = .ok (.aload_n 0, 1) := by decide +kernel
theorem dX10_play_90 : decode cX10_play 90 = .ok (.aload_n 0, 1) := by decide +kernel
theorem dX10_play_91 : decode cX10_play 91 = .ok (.getfield 43, 3) := by decide +kernel
theorem dX10_play_94 : decode cX10_play 94 = .ok (.iload_n 2, 1) := by decide +kernel
theorem dX10_play_95 : decode cX10_play 95 = .ok (.iaload, 1) := by decide +kernel
theorem dX10_play_96 : decode cX10_play 96 = .ok (.invokevirtual 459, 3) := by decide +kernel
theorem dX10_play_99 : decode cX10_play 99 = .ok (.iinc 2 1, 3) := by decide +kernel
theorem dX10_play_102 : decode cX10_play 102 = .ok (.goto (-96), 3) := by decide +kernel
theorem dX10_play_105 : decode cX10_play 105 = .ok (.return_, 1) := by decide +kernel
theorem dX10_lays_0 : decode cX10_lays 0 = .ok (.aload_n 0, 1) := by decide +kernel
theorem dX10_lays_1 : decode cX10_lays 1 = .ok (.invokevirtual 462, 3) := by decide +kernel
theorem dX10_lays_4 : decode cX10_lays 4 = .ok (.aload_n 0, 1) := by decide +kernel
theorem dX10_lays_5 : decode cX10_lays 5 = .ok (.invokevirtual 465, 3) := by decide +kernel
theorem dX10_lays_8 : decode cX10_lays 8 = .ok (.aload_n 0, 1) := by decide +kernel
theorem dX10_lays_9 : decode cX10_lays 9 = .ok (.invokevirtual 468, 3) := by decide +kernel
theorem dX10_lays_12 : decode cX10_lays 12 = .ok (.ireturn, 1) := by decide +kernel
theorem dX10_asks_0 : decode cX10_asks 0 = .ok (.aload_n 0, 1) := by decide +kernel
theorem dX10_asks_1 : decode cX10_asks 1 = .ok (.invokevirtual 471, 3) := by decide +kernel
theorem dX10_asks_4 : decode cX10_asks 4 = .ok (.istore_n 1, 1) := by decide +kernel
theorem dX10_asks_5 : decode cX10_asks 5 = .ok (.iload_n 1, 1) := by decide +kernel
theorem dX10_asks_6 : decode cX10_asks 6 = .ok (.ifCond .eq 11, 3) := by decide +kernel
theorem dX10_asks_9 : decode cX10_asks 9 = .ok (.aload_n 0, 1) := by decide +kernel
theorem dX10_asks_10 : decode cX10_asks 10 = .ok (.aload_n 0, 1) := by decide +kernel
theorem dX10_asks_11 : decode cX10_asks 11 = .ok (.getfield 289, 3) := by decide +kernel
theorem dX10_asks_14 : decode cX10_asks 14 = .ok (.invokevirtual 474, 3) := by decide +kernel
theorem dX10_asks_17 : decode cX10_asks 17 = .ok (.iload_n 1, 1) := by decide +kernel
theorem dX10_asks_18 : decode cX10_asks 18 = .ok (.ireturn, 1) := by decide +kernel
theorem dX10_asksAt_0 : decode cX10_asksAt 0 = .ok (.aload_n 0, 1) := by decide +kernel
theorem dX10_asksAt_1 : decode cX10_asksAt 1 = .ok (.invokevirtual 471, 3) := by decide +kernel
theorem dX10_asksAt_4 : decode cX10_asksAt 4 = .ok (.ifCond .eq 17, 3) := by decide +kernel
theorem dX10_asksAt_7 : decode cX10_asksAt 7 = .ok (.iload_n 1, 1) := by decide +kernel
theorem dX10_asksAt_8 : decode cX10_asksAt 8 = .ok (.i2l, 1) := by decide +kernel
theorem dX10_asksAt_9 : decode cX10_asksAt 9 = .ok (.lconst 0, 1) := by decide +kernel
theorem dX10_asksAt_10 : decode cX10_asksAt 10 = .ok (.aload_n 0, 1) := by decide +kernel
theorem dX10_asksAt_11 : decode cX10_asksAt 11 = .ok (.getfield 289, 3) := by decide +kernel
theorem dX10_asksAt_14 : decode cX10_asksAt 14 = .ok (.i2l, 1) := by decide +kernel
theorem dX10_asksAt_15 : decode cX10_asksAt 15 = .ok (.invokestatic 139, 3) := by decide +kernel
theorem dX10_asksAt_18 : decode cX10_asksAt 18 = .ok (.ifCond .ne 5, 3) := by decide +kernel
theorem dX10_asksAt_21 : decode cX10_asksAt 21 = .ok (.iconst 0, 1) := by decide +kernel
theorem dX10_asksAt_22 : decode cX10_asksAt 22 = .ok (.ireturn, 1) := by decide +kernel
theorem dX10_asksAt_23 : decode cX10_asksAt 23 = .ok (.aload_n 0, 1) := by decide +kernel
theorem dX10_asksAt_24 : decode cX10_asksAt 24 = .ok (.iload_n 1, 1) := by decide +kernel
theorem dX10_asksAt_25 : decode cX10_asksAt 25 = .ok (.invokevirtual 474, 3) := by decide +kernel
theorem dX10_asksAt_28 : decode cX10_asksAt 28 = .ok (.iconst 1, 1) := by decide +kernel
theorem dX10_asksAt_29 : decode cX10_asksAt 29 = .ok (.ireturn, 1) := by decide +kernel
theorem dX10_isWrong_0 : decode cX10_isWrong 0 = .ok (.aload_n 0, 1) := by decide +kernel
theorem dX10_isWrong_1 : decode cX10_isWrong 1 = .ok (.getfield 91, 3) := by decide +kernel
theorem dX10_isWrong_4 : decode cX10_isWrong 4 = .ok (.iload_n 1, 1) := by decide +kernel
theorem dX10_isWrong_5 : decode cX10_isWrong 5 = .ok (.iaload, 1) := by decide +kernel
theorem dX10_isWrong_6 : decode cX10_isWrong 6 = .ok (.aload_n 0, 1) := by decide +kernel
theorem dX10_isWrong_7 : decode cX10_isWrong 7 = .ok (.getfield 43, 3) := by decide +kernel
theorem dX10_isWrong_10 : decode cX10_isWrong 10 = .ok (.iload_n 1, 1) := by decide +kernel
theorem dX10_isWrong_11 : decode cX10_isWrong 11 = .ok (.iaload, 1) := by decide +kernel
theorem dX10_isWrong_12 : decode cX10_isWrong 12 = .ok (.if_icmp .eq 7, 3) := by decide +kernel
theorem dX10_isWrong_15 : decode cX10_isWrong 15 = .ok (.iconst 1, 1) := by decide +kernel
theorem dX10_isWrong_16 : decode cX10_isWrong 16 = .ok (.goto 4, 3) := by decide +kernel
theorem dX10_isWrong_19 : decode cX10_isWrong 19 = .ok (.iconst 0, 1) := by decide +kernel
theorem dX10_isWrong_20 : decode cX10_isWrong 20 = .ok (.ireturn, 1) := by decide +kernel
theorem dX10_wrongBy_0 : decode cX10_wrongBy 0 = .ok (.iconst 0, 1) := by decide +kernel
theorem dX10_wrongBy_1 : decode cX10_wrongBy 1 = .ok (.istore_n 2, 1) := by decide +kernel
theorem dX10_wrongBy_2 : decode cX10_wrongBy 2 = .ok (.iconst 0, 1) := by decide +kernel
theorem dX10_wrongBy_3 : decode cX10_wrongBy 3 = .ok (.istore_n 3, 1) := by decide +kernel
theorem dX10_wrongBy_4 : decode cX10_wrongBy 4 = .ok (.iload_n 3, 1) := by decide +kernel
theorem dX10_wrongBy_5 : decode cX10_wrongBy 5 = .ok (.iload_n 1, 1) := by decide +kernel
theorem dX10_wrongBy_6 : decode cX10_wrongBy 6 = .ok (.if_icmp .ge 25, 3) := by decide +kernel
theorem dX10_wrongBy_9 : decode cX10_wrongBy 9 = .ok (.iload_n 2, 1) := by decide +kernel
theorem dX10_wrongBy_10 : decode cX10_wrongBy 10 = .ok (.aload_n 0, 1) := by decide +kernel
theorem dX10_wrongBy_11 : decode cX10_wrongBy 11 = .ok (.iload_n 3, 1) := by decide +kernel
theorem dX10_wrongBy_12 : decode cX10_wrongBy 12 = .ok (.invokevirtual 477, 3) := by decide +kernel
theorem dX10_wrongBy_15 : decode cX10_wrongBy 15 = .ok (.ifCond .eq 7, 3) := by decide +kernel
theorem dX10_wrongBy_18 : decode cX10_wrongBy 18 = .ok (.iconst 1, 1) := by decide +kernel
theorem dX10_wrongBy_19 : decode cX10_wrongBy 19 = .ok (.goto 4, 3) := by decide +kernel
theorem dX10_wrongBy_22 : decode cX10_wrongBy 22 = .ok (.iconst 0, 1) := by decide +kernel
theorem dX10_wrongBy_23 : decode cX10_wrongBy 23 = .ok (.iadd, 1) := by decide +kernel
theorem dX10_wrongBy_24 : decode cX10_wrongBy 24 = .ok (.istore_n 2, 1) := by decide +kernel
theorem dX10_wrongBy_25 : decode cX10_wrongBy 25 = .ok (.iinc 3 1, 3) := by decide +kernel
theorem dX10_wrongBy_28 : decode cX10_wrongBy 28 = .ok (.goto (-24), 3) := by decide +kernel
theorem dX10_wrongBy_31 : decode cX10_wrongBy 31 = .ok (.iload_n 2, 1) := by decide +kernel
theorem dX10_wrongBy_32 : decode cX10_wrongBy 32 = .ok (.ireturn, 1) := by decide +kernel
theorem dX10_op_0 : decode cX10_op 0 = .ok (.aload_n 0, 1) := by decide +kernel
theorem dX10_op_1 : decode cX10_op 1 = .ok (.iload_n 1, 1) := by decide +kernel
theorem dX10_op_2 : decode cX10_op 2 = .ok (.invokevirtual 314, 3) := by decide +kernel
theorem dX10_op_5 : decode cX10_op 5 = .ok (.ifCond .eq 15, 3) := by decide +kernel
theorem dX10_op_8 : decode cX10_op 8 = .ok (.iload_n 2, 1) := by decide +kernel
theorem dX10_op_9 : decode cX10_op 9 = .ok (.i2l, 1) := by decide +kernel
theorem dX10_op_10 : decode cX10_op 10 = .ok (.lconst 0, 1) := by decide +kernel
theorem dX10_op_11 : decode cX10_op 11 = .ok (.ldc2_w 480, 3) := by decide +kernel
theorem dX10_op_14 : decode cX10_op 14 = .ok (.invokestatic 139, 3) := by decide +kernel
theorem dX10_op_17 : decode cX10_op 17 = .ok (.ifCond .ne 6, 3) := by decide +kernel
theorem dX10_op_20 : decode cX10_op 20 = .ok (.bipush (-2), 2) := by decide +kernel
theorem dX10_op_22 : decode cX10_op 22 = .ok (.ireturn, 1) := by decide +kernel
theorem dX10_op_23 : decode cX10_op 23 = .ok (.iload_n 2, 1) := by decide +kernel
theorem dX10_op_24 : decode cX10_op 24 = .ok (.ifCond .ne 11, 3) := by decide +kernel
theorem dX10_op_27 : decode cX10_op 27 = .ok (.aload_n 0, 1) := by decide +kernel
theorem dX10_op_28 : decode cX10_op 28 = .ok (.iload_n 1, 1) := by decide +kernel
theorem dX10_op_29 : decode cX10_op 29 = .ok (.invokevirtual 283, 3) := by decide +kernel
theorem dX10_op_32 : decode cX10_op 32 = .ok (.goto 11, 3) := by decide +kernel
theorem dX10_op_35 : decode cX10_op 35 = .ok (.aload_n 0, 1) := by decide +kernel
theorem dX10_op_36 : decode cX10_op 36 = .ok (.iload_n 1, 1) := by decide +kernel
theorem dX10_op_37 : decode cX10_op 37 = .ok (.iload_n 2, 1) := by decide +kernel
theorem dX10_op_38 : decode cX10_op 38 = .ok (.iconst 1, 1) := by decide +kernel
theorem dX10_op_39 : decode cX10_op 39 = .ok (.isub, 1) := by decide +kernel
theorem dX10_op_40 : decode cX10_op 40 = .ok (.invokevirtual 286, 3) := by decide +kernel
theorem dX10_op_43 : decode cX10_op 43 = .ok (.ireturn, 1) := by decide +kernel
theorem dX10_steps_0 : decode cX10_steps 0 = .ok (.aload_n 0, 1) := by decide +kernel
theorem dX10_steps_1 : decode cX10_steps 1 = .ok (.invokevirtual 471, 3) := by decide +kernel
theorem dX10_steps_4 : decode cX10_steps 4 = .ok (.ifCond .eq 10, 3) := by decide +kernel
theorem dX10_steps_7 : decode cX10_steps 7 = .ok (.aload_n 0, 1) := by decide +kernel
theorem dX10_steps_8 : decode cX10_steps 8 = .ok (.getfield 292, 3) := by decide +kernel
theorem dX10_steps_11 : decode cX10_steps 11 = .ok (.goto 5, 3) := by decide +kernel
theorem dX10_steps_14 : decode cX10_steps 14 = .ok (.bipush (-2), 2) := by decide +kernel
theorem dX10_steps_16 : decode cX10_steps 16 = .ok (.ireturn, 1) := by decide +kernel
theorem dX10_why_0 : decode cX10_why 0 = .ok (.aload_n 0, 1) := by decide +kernel
theorem dX10_why_1 : decode cX10_why 1 = .ok (.invokevirtual 471, 3) := by decide +kernel
theorem dX10_why_4 : decode cX10_why 4 = .ok (.ifCond .eq 10, 3) := by decide +kernel
theorem dX10_why_7 : decode cX10_why 7 = .ok (.aload_n 0, 1) := by decide +kernel
theorem dX10_why_8 : decode cX10_why 8 = .ok (.getfield 320, 3) := by decide +kernel
theorem dX10_why_11 : decode cX10_why 11 = .ok (.goto 5, 3) := by decide +kernel
theorem dX10_why_14 : decode cX10_why 14 = .ok (.bipush (-2), 2) := by decide +kernel
theorem dX10_why_16 : decode cX10_why 16 = .ok (.ireturn, 1) := by decide +kernel
theorem dX10_next_0 : decode cX10_next 0 = .ok (.aload_n 0, 1) := by decide +kernel
theorem dX10_next_1 : decode cX10_next 1 = .ok (.invokevirtual 471, 3) := by decide +kernel
theorem dX10_next_4 : decode cX10_next 4 = .ok (.ifCond .eq 26, 3) := by decide +kernel
theorem dX10_next_7 : decode cX10_next 7 = .ok (.iload_n 1, 1) := by decide +kernel
theorem dX10_next_8 : decode cX10_next 8 = .ok (.i2l, 1) := by decide +kernel
theorem dX10_next_9 : decode cX10_next 9 = .ok (.lconst 0, 1) := by decide +kernel
theorem dX10_next_10 : decode cX10_next 10 = .ok (.aload_n 0, 1) := by decide +kernel
theorem dX10_next_11 : decode cX10_next 11 = .ok (.getfield 292, 3) := by decide +kernel
theorem dX10_next_14 : decode cX10_next 14 = .ok (.i2l, 1) := by decide +kernel
theorem dX10_next_15 : decode cX10_next 15 = .ok (.invokestatic 139, 3) := by decide +kernel
theorem dX10_next_18 : decode cX10_next 18 = .ok (.ifCond .eq 12, 3) := by decide +kernel
theorem dX10_next_21 : decode cX10_next 21 = .ok (.aload_n 0, 1) := by decide +kernel
theorem dX10_next_22 : decode cX10_next 22 = .ok (.getfield 37, 3) := by decide +kernel
theorem dX10_next_25 : decode cX10_next 25 = .ok (.iload_n 1, 1) := by decide +kernel
theorem dX10_next_26 : decode cX10_next 26 = .ok (.iaload, 1) := by decide +kernel
theorem dX10_next_27 : decode cX10_next 27 = .ok (.goto 5, 3) := by decide +kernel
theorem dX10_next_30 : decode cX10_next 30 = .ok (.bipush (-2), 2) := by decide +kernel
theorem dX10_next_32 : decode cX10_next 32 = .ok (.ireturn, 1) := by decide +kernel
theorem dX10_register_0 : decode cX10_register 0 = .ok (.aload_n 0, 1) := by decide +kernel
theorem dX10_register_1 : decode cX10_register 1 = .ok (.invokevirtual 471, 3) := by decide +kernel
theorem dX10_register_4 : decode cX10_register 4 = .ok (.ifCond .eq 43, 3) := by decide +kernel
theorem dX10_register_7 : decode cX10_register 7 = .ok (.iload_n 2, 1) := by decide +kernel
theorem dX10_register_8 : decode cX10_register 8 = .ok (.i2l, 1) := by decide +kernel
theorem dX10_register_9 : decode cX10_register 9 = .ok (.lconst 0, 1) := by decide +kernel
theorem dX10_register_10 : decode cX10_register 10 = .ok (.aload_n 0, 1) := by decide +kernel
theorem dX10_register_11 : decode cX10_register 11 = .ok (.getfield 292, 3) := by decide +kernel
theorem dX10_register_14 : decode cX10_register 14 = .ok (.i2l, 1) := by decide +kernel
theorem dX10_register_15 : decode cX10_register 15 = .ok (.invokestatic 139, 3) := by decide +kernel
theorem dX10_register_18 : decode cX10_register 18 = .ok (.ifCond .eq 29, 3) := by decide +kernel
theorem dX10_register_21 : decode cX10_register 21 = .ok (.iload_n 1, 1) := by decide +kernel
theorem dX10_register_22 : decode cX10_register 22 = .ok (.i2l, 1) := by decide +kernel
theorem dX10_register_23 : decode cX10_register 23 = .ok (.lconst 0, 1) := by decide +kernel
theorem dX10_register_24 : decode cX10_register 24 = .ok (.ldc2_w 482, 3) := by decide +kernel
theorem dX10_register_27 : decode cX10_register 27 = .ok (.invokestatic 139, 3) := by decide +kernel
theorem dX10_register_30 : decode cX10_register 30 = .ok (.ifCond .eq 17, 3) := by decide +kernel
theorem dX10_register_33 : decode cX10_register 33 = .ok (.aload_n 0, 1) := by decide +kernel
theorem dX10_register_34 : decode cX10_register 34 = .ok (.getfield 34, 3) := by decide +kernel
theorem dX10_register_37 : decode cX10_register 37 = .ok (.bipush 8, 2) := by decide +kernel
theorem dX10_register_39 : decode cX10_register 39 = .ok (.iload_n 2, 1) := by decide +kernel
