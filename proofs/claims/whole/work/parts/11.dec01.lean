theorem dX6_setAs_25 : decode cX6_setAs 25 = .ok (.iconst 2, 1) := by decide +kernel
theorem dX6_setAs_26 : decode cX6_setAs 26 = .ok (.iaload, 1) := by decide +kernel
theorem dX6_setAs_27 : decode cX6_setAs 27 = .ok (.putfield 42, 3) := by decide +kernel
theorem dX6_setAs_30 : decode cX6_setAs 30 = .ok (.aload_n 0, 1) := by decide +kernel
theorem dX6_setAs_31 : decode cX6_setAs 31 = .ok (.aload_n 1, 1) := by decide +kernel
theorem dX6_setAs_32 : decode cX6_setAs 32 = .ok (.getfield 45, 3) := by decide +kernel
theorem dX6_setAs_35 : decode cX6_setAs 35 = .ok (.putfield 48, 3) := by decide +kernel
theorem dX6_setAs_38 : decode cX6_setAs 38 = .ok (.aload_n 0, 1) := by decide +kernel
theorem dX6_setAs_39 : decode cX6_setAs 39 = .ok (.iconst (-1), 1) := by decide +kernel
theorem dX6_setAs_40 : decode cX6_setAs 40 = .ok (.putfield 51, 3) := by decide +kernel
theorem dX6_setAs_43 : decode cX6_setAs 43 = .ok (.aload_n 1, 1) := by decide +kernel
theorem dX6_setAs_44 : decode cX6_setAs 44 = .ok (.getfield 54, 3) := by decide +kernel
theorem dX6_setAs_47 : decode cX6_setAs 47 = .ok (.iconst 0, 1) := by decide +kernel
theorem dX6_setAs_48 : decode cX6_setAs 48 = .ok (.aload_n 0, 1) := by decide +kernel
theorem dX6_setAs_49 : decode cX6_setAs 49 = .ok (.getfield 9, 3) := by decide +kernel
theorem dX6_setAs_52 : decode cX6_setAs 52 = .ok (.iconst 0, 1) := by decide +kernel
theorem dX6_setAs_53 : decode cX6_setAs 53 = .ok (.aload_n 0, 1) := by decide +kernel
theorem dX6_setAs_54 : decode cX6_setAs 54 = .ok (.getfield 9, 3) := by decide +kernel
theorem dX6_setAs_57 : decode cX6_setAs 57 = .ok (.arraylength, 1) := by decide +kernel
theorem dX6_setAs_58 : decode cX6_setAs 58 = .ok (.invokestatic 55, 3) := by decide +kernel
theorem dX6_setAs_61 : decode cX6_setAs 61 = .ok (.return_, 1) := by decide +kernel
theorem dX6_clear_0 : decode cX6_clear 0 = .ok (.aload_n 0, 1) := by decide +kernel
theorem dX6_clear_1 : decode cX6_clear 1 = .ok (.getfield 15, 3) := by decide +kernel
theorem dX6_clear_4 : decode cX6_clear 4 = .ok (.iconst (-1), 1) := by decide +kernel
theorem dX6_clear_5 : decode cX6_clear 5 = .ok (.invokestatic 61, 3) := by decide +kernel
theorem dX6_clear_8 : decode cX6_clear 8 = .ok (.aload_n 0, 1) := by decide +kernel
theorem dX6_clear_9 : decode cX6_clear 9 = .ok (.getfield 18, 3) := by decide +kernel
theorem dX6_clear_12 : decode cX6_clear 12 = .ok (.iconst 0, 1) := by decide +kernel
theorem dX6_clear_13 : decode cX6_clear 13 = .ok (.invokestatic 61, 3) := by decide +kernel
theorem dX6_clear_16 : decode cX6_clear 16 = .ok (.aload_n 0, 1) := by decide +kernel
theorem dX6_clear_17 : decode cX6_clear 17 = .ok (.getfield 21, 3) := by decide +kernel
theorem dX6_clear_20 : decode cX6_clear 20 = .ok (.iconst 0, 1) := by decide +kernel
theorem dX6_clear_21 : decode cX6_clear 21 = .ok (.invokestatic 61, 3) := by decide +kernel
theorem dX6_clear_24 : decode cX6_clear 24 = .ok (.aload_n 0, 1) := by decide +kernel
theorem dX6_clear_25 : decode cX6_clear 25 = .ok (.getfield 24, 3) := by decide +kernel
theorem dX6_clear_28 : decode cX6_clear 28 = .ok (.iconst 1, 1) := by decide +kernel
theorem dX6_clear_29 : decode cX6_clear 29 = .ok (.invokestatic 61, 3) := by decide +kernel
theorem dX6_clear_32 : decode cX6_clear 32 = .ok (.aload_n 0, 1) := by decide +kernel
theorem dX6_clear_33 : decode cX6_clear 33 = .ok (.bipush 8, 2) := by decide +kernel
theorem dX6_clear_35 : decode cX6_clear 35 = .ok (.putfield 67, 3) := by decide +kernel
theorem dX6_clear_38 : decode cX6_clear 38 = .ok (.aload_n 0, 1) := by decide +kernel
theorem dX6_clear_39 : decode cX6_clear 39 = .ok (.iconst 0, 1) := by decide +kernel
theorem dX6_clear_40 : decode cX6_clear 40 = .ok (.putfield 70, 3) := by decide +kernel
theorem dX6_clear_43 : decode cX6_clear 43 = .ok (.aload_n 0, 1) := by decide +kernel
theorem dX6_clear_44 : decode cX6_clear 44 = .ok (.iconst 0, 1) := by decide +kernel
theorem dX6_clear_45 : decode cX6_clear 45 = .ok (.putfield 73, 3) := by decide +kernel
theorem dX6_clear_48 : decode cX6_clear 48 = .ok (.return_, 1) := by decide +kernel
theorem dX6_indexOf_0 : decode cX6_indexOf 0 = .ok (.iload_n 2, 1) := by decide +kernel
theorem dX6_indexOf_1 : decode cX6_indexOf 1 = .ok (.iload_n 2, 1) := by decide +kernel
theorem dX6_indexOf_2 : decode cX6_indexOf 2 = .ok (.aload_n 0, 1) := by decide +kernel
theorem dX6_indexOf_3 : decode cX6_indexOf 3 = .ok (.getfield 35, 3) := by decide +kernel
theorem dX6_indexOf_6 : decode cX6_indexOf 6 = .ok (.ishr, 1) := by decide +kernel
theorem dX6_indexOf_7 : decode cX6_indexOf 7 = .ok (.ixor, 1) := by decide +kernel
theorem dX6_indexOf_8 : decode cX6_indexOf 8 = .ok (.lload_n 3, 1) := by decide +kernel
theorem dX6_indexOf_9 : decode cX6_indexOf 9 = .ok (.aload_n 0, 1) := by decide +kernel
theorem dX6_indexOf_10 : decode cX6_indexOf 10 = .ok (.getfield 9, 3) := by decide +kernel
theorem dX6_indexOf_13 : decode cX6_indexOf 13 = .ok (.iload_n 1, 1) := by decide +kernel
theorem dX6_indexOf_14 : decode cX6_indexOf 14 = .ok (.iaload, 1) := by decide +kernel
theorem dX6_indexOf_15 : decode cX6_indexOf 15 = .ok (.aload_n 0, 1) := by decide +kernel
theorem dX6_indexOf_16 : decode cX6_indexOf 16 = .ok (.getfield 35, 3) := by decide +kernel
theorem dX6_indexOf_19 : decode cX6_indexOf 19 = .ok (.invokestatic 76, 3) := by decide +kernel
theorem dX6_indexOf_22 : decode cX6_indexOf 22 = .ok (.ixor, 1) := by decide +kernel
theorem dX6_indexOf_23 : decode cX6_indexOf 23 = .ok (.iload_n 1, 1) := by decide +kernel
theorem dX6_indexOf_24 : decode cX6_indexOf 24 = .ok (.ixor, 1) := by decide +kernel
theorem dX6_indexOf_25 : decode cX6_indexOf 25 = .ok (.istore 5, 2) := by decide +kernel
theorem dX6_indexOf_27 : decode cX6_indexOf 27 = .ok (.iload 5, 2) := by decide +kernel
theorem dX6_indexOf_29 : decode cX6_indexOf 29 = .ok (.aload_n 0, 1) := by decide +kernel
theorem dX6_indexOf_30 : decode cX6_indexOf 30 = .ok (.getfield 35, 3) := by decide +kernel
theorem dX6_indexOf_33 : decode cX6_indexOf 33 = .ok (.invokestatic 80, 3) := by decide +kernel
theorem dX6_indexOf_36 : decode cX6_indexOf 36 = .ok (.iand, 1) := by decide +kernel
theorem dX6_indexOf_37 : decode cX6_indexOf 37 = .ok (.ireturn, 1) := by decide +kernel
theorem dX6_tagOf_0 : decode cX6_tagOf 0 = .ok (.iload_n 2, 1) := by decide +kernel
theorem dX6_tagOf_1 : decode cX6_tagOf 1 = .ok (.lload_n 3, 1) := by decide +kernel
theorem dX6_tagOf_2 : decode cX6_tagOf 2 = .ok (.aload_n 0, 1) := by decide +kernel
theorem dX6_tagOf_3 : decode cX6_tagOf 3 = .ok (.getfield 9, 3) := by decide +kernel
theorem dX6_tagOf_6 : decode cX6_tagOf 6 = .ok (.iload_n 1, 1) := by decide +kernel
theorem dX6_tagOf_7 : decode cX6_tagOf 7 = .ok (.iaload, 1) := by decide +kernel
theorem dX6_tagOf_8 : decode cX6_tagOf 8 = .ok (.aload_n 0, 1) := by decide +kernel
theorem dX6_tagOf_9 : decode cX6_tagOf 9 = .ok (.getfield 39, 3) := by decide +kernel
theorem dX6_tagOf_12 : decode cX6_tagOf 12 = .ok (.invokestatic 76, 3) := by decide +kernel
theorem dX6_tagOf_15 : decode cX6_tagOf 15 = .ok (.ixor, 1) := by decide +kernel
theorem dX6_tagOf_16 : decode cX6_tagOf 16 = .ok (.iconst 2, 1) := by decide +kernel
theorem dX6_tagOf_17 : decode cX6_tagOf 17 = .ok (.lload_n 3, 1) := by decide +kernel
theorem dX6_tagOf_18 : decode cX6_tagOf 18 = .ok (.aload_n 0, 1) := by decide +kernel
theorem dX6_tagOf_19 : decode cX6_tagOf 19 = .ok (.getfield 9, 3) := by decide +kernel
theorem dX6_tagOf_22 : decode cX6_tagOf 22 = .ok (.iload_n 1, 1) := by decide +kernel
theorem dX6_tagOf_23 : decode cX6_tagOf 23 = .ok (.iaload, 1) := by decide +kernel
theorem dX6_tagOf_24 : decode cX6_tagOf 24 = .ok (.aload_n 0, 1) := by decide +kernel
theorem dX6_tagOf_25 : decode cX6_tagOf 25 = .ok (.getfield 39, 3) := by decide +kernel
theorem dX6_tagOf_28 : decode cX6_tagOf 28 = .ok (.iconst 1, 1) := by decide +kernel
theorem dX6_tagOf_29 : decode cX6_tagOf 29 = .ok (.isub, 1) := by decide +kernel
theorem dX6_tagOf_30 : decode cX6_tagOf 30 = .ok (.invokestatic 76, 3) := by decide +kernel
theorem dX6_tagOf_33 : decode cX6_tagOf 33 = .ok (.imul, 1) := by decide +kernel
theorem dX6_tagOf_34 : decode cX6_tagOf 34 = .ok (.ixor, 1) := by decide +kernel
theorem dX6_tagOf_35 : decode cX6_tagOf 35 = .ok (.istore 5, 2) := by decide +kernel
theorem dX6_tagOf_37 : decode cX6_tagOf 37 = .ok (.iload 5, 2) := by decide +kernel
theorem dX6_tagOf_39 : decode cX6_tagOf 39 = .ok (.aload_n 0, 1) := by decide +kernel
theorem dX6_tagOf_40 : decode cX6_tagOf 40 = .ok (.getfield 39, 3) := by decide +kernel
theorem dX6_tagOf_43 : decode cX6_tagOf 43 = .ok (.invokestatic 80, 3) := by decide +kernel
theorem dX6_tagOf_46 : decode cX6_tagOf 46 = .ok (.iand, 1) := by decide +kernel
theorem dX6_tagOf_47 : decode cX6_tagOf 47 = .ok (.ireturn, 1) := by decide +kernel
theorem dX6_look_0 : decode cX6_look 0 = .ok (.aload_n 0, 1) := by decide +kernel
theorem dX6_look_1 : decode cX6_look 1 = .ok (.iload_n 1, 1) := by decide +kernel
theorem dX6_look_2 : decode cX6_look 2 = .ok (.bipush 16, 2) := by decide +kernel
theorem dX6_look_4 : decode cX6_look 4 = .ok (.irem, 1) := by decide +kernel
theorem dX6_look_5 : decode cX6_look 5 = .ok (.putfield 84, 3) := by decide +kernel
theorem dX6_look_8 : decode cX6_look 8 = .ok (.aload_n 0, 1) := by decide +kernel
theorem dX6_look_9 : decode cX6_look 9 = .ok (.iconst 0, 1) := by decide +kernel
theorem dX6_look_10 : decode cX6_look 10 = .ok (.putfield 87, 3) := by decide +kernel
theorem dX6_look_13 : decode cX6_look 13 = .ok (.aload_n 0, 1) := by decide +kernel
theorem dX6_look_14 : decode cX6_look 14 = .ok (.iconst 0, 1) := by decide +kernel
theorem dX6_look_15 : decode cX6_look 15 = .ok (.putfield 90, 3) := by decide +kernel
theorem dX6_look_18 : decode cX6_look 18 = .ok (.iconst 1, 1) := by decide +kernel
theorem dX6_look_19 : decode cX6_look 19 = .ok (.istore 5, 2) := by decide +kernel
theorem dX6_look_21 : decode cX6_look 21 = .ok (.iload 5, 2) := by decide +kernel
theorem dX6_look_23 : decode cX6_look 23 = .ok (.aload_n 0, 1) := by decide +kernel
theorem dX6_look_24 : decode cX6_look 24 = .ok (.getfield 48, 3) := by decide +kernel
theorem dX6_look_27 : decode cX6_look 27 = .ok (.if_icmp .gt 91, 3) := by decide +kernel
theorem dX6_look_30 : decode cX6_look 30 = .ok (.iload 5, 2) := by decide +kernel
theorem dX6_look_32 : decode cX6_look 32 = .ok (.aload_n 0, 1) := by decide +kernel
theorem dX6_look_33 : decode cX6_look 33 = .ok (.getfield 51, 3) := by decide +kernel
theorem dX6_look_36 : decode cX6_look 36 = .ok (.if_icmp .ne 6, 3) := by decide +kernel
theorem dX6_look_39 : decode cX6_look 39 = .ok (.goto 73, 3) := by decide +kernel
theorem dX6_look_42 : decode cX6_look 42 = .ok (.aload_n 0, 1) := by decide +kernel
theorem dX6_look_43 : decode cX6_look 43 = .ok (.getfield 27, 3) := by decide +kernel
theorem dX6_look_46 : decode cX6_look 46 = .ok (.iload 5, 2) := by decide +kernel
theorem dX6_look_48 : decode cX6_look 48 = .ok (.bipush 16, 2) := by decide +kernel
theorem dX6_look_50 : decode cX6_look 50 = .ok (.iload 5, 2) := by decide +kernel
theorem dX6_look_52 : decode cX6_look 52 = .ok (.iconst 1, 1) := by decide +kernel
theorem dX6_look_53 : decode cX6_look 53 = .ok (.isub, 1) := by decide +kernel
theorem dX6_look_54 : decode cX6_look 54 = .ok (.imul, 1) := by decide +kernel
theorem dX6_look_55 : decode cX6_look 55 = .ok (.aload_n 0, 1) := by decide +kernel
theorem dX6_look_56 : decode cX6_look 56 = .ok (.iload 5, 2) := by decide +kernel
theorem dX6_look_58 : decode cX6_look 58 = .ok (.iload_n 1, 1) := by decide +kernel
theorem dX6_look_59 : decode cX6_look 59 = .ok (.lload_n 2, 1) := by decide +kernel
theorem dX6_look_60 : decode cX6_look 60 = .ok (.invokevirtual 93, 3) := by decide +kernel
theorem dX6_look_63 : decode cX6_look 63 = .ok (.iadd, 1) := by decide +kernel
theorem dX6_look_64 : decode cX6_look 64 = .ok (.iastore, 1) := by decide +kernel
theorem dX6_look_65 : decode cX6_look 65 = .ok (.aload_n 0, 1) := by decide +kernel
theorem dX6_look_66 : decode cX6_look 66 = .ok (.getfield 15, 3) := by decide +kernel
theorem dX6_look_69 : decode cX6_look 69 = .ok (.aload_n 0, 1) := by decide +kernel
theorem dX6_look_70 : decode cX6_look 70 = .ok (.getfield 27, 3) := by decide +kernel
theorem dX6_look_73 : decode cX6_look 73 = .ok (.iload 5, 2) := by decide +kernel
theorem dX6_look_75 : decode cX6_look 75 = .ok (.iaload, 1) := by decide +kernel
theorem dX6_look_76 : decode cX6_look 76 = .ok (.iaload, 1) := by decide +kernel
theorem dX6_look_77 : decode cX6_look 77 = .ok (.istore 6, 2) := by decide +kernel
theorem dX6_look_79 : decode cX6_look 79 = .ok (.iload 6, 2) := by decide +kernel
theorem dX6_look_81 : decode cX6_look 81 = .ok (.iconst (-1), 1) := by decide +kernel
theorem dX6_look_82 : decode cX6_look 82 = .ok (.if_icmp .eq 30, 3) := by decide +kernel
theorem dX6_look_85 : decode cX6_look 85 = .ok (.iload 6, 2) := by decide +kernel
theorem dX6_look_87 : decode cX6_look 87 = .ok (.aload_n 0, 1) := by decide +kernel
theorem dX6_look_88 : decode cX6_look 88 = .ok (.iload 5, 2) := by decide +kernel
theorem dX6_look_90 : decode cX6_look 90 = .ok (.iload_n 1, 1) := by decide +kernel
theorem dX6_look_91 : decode cX6_look 91 = .ok (.lload_n 2, 1) := by decide +kernel
theorem dX6_look_92 : decode cX6_look 92 = .ok (.invokevirtual 97, 3) := by decide +kernel
theorem dX6_look_95 : decode cX6_look 95 = .ok (.if_icmp .ne 17, 3) := by decide +kernel
theorem dX6_look_98 : decode cX6_look 98 = .ok (.aload_n 0, 1) := by decide +kernel
theorem dX6_look_99 : decode cX6_look 99 = .ok (.aload_n 0, 1) := by decide +kernel
theorem dX6_look_100 : decode cX6_look 100 = .ok (.getfield 87, 3) := by decide +kernel
theorem dX6_look_103 : decode cX6_look 103 = .ok (.putfield 90, 3) := by decide +kernel
theorem dX6_look_106 : decode cX6_look 106 = .ok (.aload_n 0, 1) := by decide +kernel
theorem dX6_look_107 : decode cX6_look 107 = .ok (.iload 5, 2) := by decide +kernel
theorem dX6_look_109 : decode cX6_look 109 = .ok (.putfield 87, 3) := by decide +kernel
theorem dX6_look_112 : decode cX6_look 112 = .ok (.iinc 5 1, 3) := by decide +kernel
theorem dX6_look_115 : decode cX6_look 115 = .ok (.goto (-94), 3) := by decide +kernel
theorem dX6_look_118 : decode cX6_look 118 = .ok (.aload_n 0, 1) := by decide +kernel
theorem dX6_look_119 : decode cX6_look 119 = .ok (.aload_n 0, 1) := by decide +kernel
theorem dX6_look_120 : decode cX6_look 120 = .ok (.getfield 87, 3) := by decide +kernel
theorem dX6_look_123 : decode cX6_look 123 = .ok (.ifCond .le 49, 3) := by decide +kernel
theorem dX6_look_126 : decode cX6_look 126 = .ok (.aload_n 0, 1) := by decide +kernel
theorem dX6_look_127 : decode cX6_look 127 = .ok (.getfield 21, 3) := by decide +kernel
theorem dX6_look_130 : decode cX6_look 130 = .ok (.aload_n 0, 1) := by decide +kernel
theorem dX6_look_131 : decode cX6_look 131 = .ok (.getfield 27, 3) := by decide +kernel
theorem dX6_look_134 : decode cX6_look 134 = .ok (.aload_n 0, 1) := by decide +kernel
theorem dX6_look_135 : decode cX6_look 135 = .ok (.getfield 87, 3) := by decide +kernel
theorem dX6_look_138 : decode cX6_look 138 = .ok (.iaload, 1) := by decide +kernel
theorem dX6_look_139 : decode cX6_look 139 = .ok (.iaload, 1) := by decide +kernel
theorem dX6_look_140 : decode cX6_look 140 = .ok (.ifCond .ne 32, 3) := by decide +kernel
theorem dX6_look_143 : decode cX6_look 143 = .ok (.aload_n 0, 1) := by decide +kernel
theorem dX6_look_144 : decode cX6_look 144 = .ok (.getfield 18, 3) := by decide +kernel
theorem dX6_look_147 : decode cX6_look 147 = .ok (.aload_n 0, 1) := by decide +kernel
theorem dX6_look_148 : decode cX6_look 148 = .ok (.getfield 27, 3) := by decide +kernel
theorem dX6_look_151 : decode cX6_look 151 = .ok (.aload_n 0, 1) := by decide +kernel
theorem dX6_look_152 : decode cX6_look 152 = .ok (.getfield 87, 3) := by decide +kernel
theorem dX6_look_155 : decode cX6_look 155 = .ok (.iaload, 1) := by decide +kernel
theorem dX6_look_156 : decode cX6_look 156 = .ok (.iaload, 1) := by decide +kernel
theorem dX6_look_157 : decode cX6_look 157 = .ok (.i2l, 1) := by decide +kernel
theorem dX6_look_158 : decode cX6_look 158 = .ok (.ldc2_w 100, 3) := by decide +kernel
theorem dX6_look_161 : decode cX6_look 161 = .ok (.lconst 0, 1) := by decide +kernel
theorem dX6_look_162 : decode cX6_look 162 = .ok (.invokestatic 102, 3) := by decide +kernel
theorem dX6_look_165 : decode cX6_look 165 = .ok (.ifCond .eq 7, 3) := by decide +kernel
theorem dX6_look_168 : decode cX6_look 168 = .ok (.iconst 1, 1) := by decide +kernel
theorem dX6_look_169 : decode cX6_look 169 = .ok (.goto 4, 3) := by decide +kernel
theorem dX6_look_172 : decode cX6_look 172 = .ok (.iconst 0, 1) := by decide +kernel
theorem dX6_look_173 : decode cX6_look 173 = .ok (.putfield 106, 3) := by decide +kernel
theorem dX6_look_176 : decode cX6_look 176 = .ok (.aload_n 0, 1) := by decide +kernel
theorem dX6_look_177 : decode cX6_look 177 = .ok (.aload_n 0, 1) := by decide +kernel
theorem dX6_look_178 : decode cX6_look 178 = .ok (.aload_n 0, 1) := by decide +kernel
theorem dX6_look_179 : decode cX6_look 179 = .ok (.getfield 106, 3) := by decide +kernel
theorem dX6_look_182 : decode cX6_look 182 = .ok (.ifCond .eq 24, 3) := by decide +kernel
theorem dX6_look_185 : decode cX6_look 185 = .ok (.iload 4, 2) := by decide +kernel
theorem dX6_look_187 : decode cX6_look 187 = .ok (.ifCond .eq 19, 3) := by decide +kernel
theorem dX6_look_190 : decode cX6_look 190 = .ok (.aload_n 0, 1) := by decide +kernel
theorem dX6_look_191 : decode cX6_look 191 = .ok (.getfield 67, 3) := by decide +kernel
theorem dX6_look_194 : decode cX6_look 194 = .ok (.bipush 7, 2) := by decide +kernel
theorem dX6_look_196 : decode cX6_look 196 = .ok (.if_icmp .le 10, 3) := by decide +kernel
theorem dX6_look_199 : decode cX6_look 199 = .ok (.aload_n 0, 1) := by decide +kernel
theorem dX6_look_200 : decode cX6_look 200 = .ok (.getfield 90, 3) := by decide +kernel
theorem dX6_look_203 : decode cX6_look 203 = .ok (.goto 7, 3) := by decide +kernel
theorem dX6_look_206 : decode cX6_look 206 = .ok (.aload_n 0, 1) := by decide +kernel
theorem dX6_look_207 : decode cX6_look 207 = .ok (.getfield 87, 3) := by decide +kernel
theorem dX6_look_210 : decode cX6_look 210 = .ok (.invokevirtual 110, 3) := by decide +kernel
theorem dX6_look_213 : decode cX6_look 213 = .ok (.putfield 113, 3) := by decide +kernel
theorem dX6_look_216 : decode cX6_look 216 = .ok (.return_, 1) := by decide +kernel
theorem dX6_says_0 : decode cX6_says 0 = .ok (.iload_n 1, 1) := by decide +kernel
theorem dX6_says_1 : decode cX6_says 1 = .ok (.ifCond .ne 24, 3) := by decide +kernel
theorem dX6_says_4 : decode cX6_says 4 = .ok (.aload_n 0, 1) := by decide +kernel
theorem dX6_says_5 : decode cX6_says 5 = .ok (.getfield 24, 3) := by decide +kernel
theorem dX6_says_8 : decode cX6_says 8 = .ok (.aload_n 0, 1) := by decide +kernel
theorem dX6_says_9 : decode cX6_says 9 = .ok (.getfield 84, 3) := by decide +kernel
theorem dX6_says_12 : decode cX6_says 12 = .ok (.iaload, 1) := by decide +kernel
theorem dX6_says_13 : decode cX6_says 13 = .ok (.iconst 2, 1) := by decide +kernel
theorem dX6_says_14 : decode cX6_says 14 = .ok (.if_icmp .lt 7, 3) := by decide +kernel
theorem dX6_says_17 : decode cX6_says 17 = .ok (.iconst 1, 1) := by decide +kernel
theorem dX6_says_18 : decode cX6_says 18 = .ok (.goto 26, 3) := by decide +kernel
theorem dX6_says_21 : decode cX6_says 21 = .ok (.iconst 0, 1) := by decide +kernel
theorem dX6_says_22 : decode cX6_says 22 = .ok (.goto 22, 3) := by decide +kernel
theorem dX6_says_25 : decode cX6_says 25 = .ok (.aload_n 0, 1) := by decide +kernel
theorem dX6_says_26 : decode cX6_says 26 = .ok (.getfield 18, 3) := by decide +kernel
theorem dX6_says_29 : decode cX6_says 29 = .ok (.aload_n 0, 1) := by decide +kernel
theorem dX6_says_30 : decode cX6_says 30 = .ok (.getfield 27, 3) := by decide +kernel
theorem dX6_says_33 : decode cX6_says 33 = .ok (.iload_n 1, 1) := by decide +kernel
theorem dX6_says_34 : decode cX6_says 34 = .ok (.iaload, 1) := by decide +kernel
theorem dX6_says_35 : decode cX6_says 35 = .ok (.iaload, 1) := by decide +kernel
theorem dX6_says_36 : decode cX6_says 36 = .ok (.ifCond .lt 7, 3) := by decide +kernel
theorem dX6_says_39 : decode cX6_says 39 = .ok (.iconst 1, 1) := by decide +kernel
theorem dX6_says_40 : decode cX6_says 40 = .ok (.goto 4, 3) := by decide +kernel
theorem dX6_says_43 : decode cX6_says 43 = .ok (.iconst 0, 1) := by decide +kernel
theorem dX6_says_44 : decode cX6_says 44 = .ok (.istore_n 2, 1) := by decide +kernel
theorem dX6_says_45 : decode cX6_says 45 = .ok (.iload_n 2, 1) := by decide +kernel
theorem dX6_says_46 : decode cX6_says 46 = .ok (.ifCond .eq 7, 3) := by decide +kernel
theorem dX6_says_49 : decode cX6_says 49 = .ok (.iconst 1, 1) := by decide +kernel
theorem dX6_says_50 : decode cX6_says 50 = .ok (.goto 4, 3) := by decide +kernel
theorem dX6_says_53 : decode cX6_says 53 = .ok (.iconst 0, 1) := by decide +kernel
theorem dX6_says_54 : decode cX6_says 54 = .ok (.ireturn, 1) := by decide +kernel
theorem dX6_learn_0 : decode cX6_learn 0 = .ok (.aload_n 0, 1) := by decide +kernel
theorem dX6_learn_1 : decode cX6_learn 1 = .ok (.aload_n 0, 1) := by decide +kernel
theorem dX6_learn_2 : decode cX6_learn 2 = .ok (.getfield 87, 3) := by decide +kernel
theorem dX6_learn_5 : decode cX6_learn 5 = .ok (.invokevirtual 110, 3) := by decide +kernel
theorem dX6_learn_8 : decode cX6_learn 8 = .ok (.istore_n 3, 1) := by decide +kernel
theorem dX6_learn_9 : decode cX6_learn 9 = .ok (.aload_n 0, 1) := by decide +kernel
theorem dX6_learn_10 : decode cX6_learn 10 = .ok (.aload_n 0, 1) := by decide +kernel
theorem dX6_learn_11 : decode cX6_learn 11 = .ok (.getfield 90, 3) := by decide +kernel
theorem dX6_learn_14 : decode cX6_learn 14 = .ok (.invokevirtual 110, 3) := by decide +kernel
theorem dX6_learn_17 : decode cX6_learn 17 = .ok (.istore 4, 2) := by decide +kernel
theorem dX6_learn_19 : decode cX6_learn 19 = .ok (.iload_n 2, 1) := by decide +kernel
theorem dX6_learn_20 : decode cX6_learn 20 = .ok (.ifCond .eq 42, 3) := by decide +kernel
theorem dX6_learn_23 : decode cX6_learn 23 = .ok (.aload_n 0, 1) := by decide +kernel
theorem dX6_learn_24 : decode cX6_learn 24 = .ok (.getfield 106, 3) := by decide +kernel
theorem dX6_learn_27 : decode cX6_learn 27 = .ok (.ifCond .eq 35, 3) := by decide +kernel
theorem dX6_learn_30 : decode cX6_learn 30 = .ok (.iload_n 3, 1) := by decide +kernel
theorem dX6_learn_31 : decode cX6_learn 31 = .ok (.iload 4, 2) := by decide +kernel
theorem dX6_learn_33 : decode cX6_learn 33 = .ok (.if_icmp .eq 29, 3) := by decide +kernel
theorem dX6_learn_36 : decode cX6_learn 36 = .ok (.aload_n 0, 1) := by decide +kernel
theorem dX6_learn_37 : decode cX6_learn 37 = .ok (.aload_n 0, 1) := by decide +kernel
theorem dX6_learn_38 : decode cX6_learn 38 = .ok (.getfield 67, 3) := by decide +kernel
theorem dX6_learn_41 : decode cX6_learn 41 = .ok (.iload 4, 2) := by decide +kernel
theorem dX6_learn_43 : decode cX6_learn 43 = .ok (.iload_n 1, 1) := by decide +kernel
theorem dX6_learn_44 : decode cX6_learn 44 = .ok (.if_icmp .ne 7, 3) := by decide +kernel
theorem dX6_learn_47 : decode cX6_learn 47 = .ok (.iconst 1, 1) := by decide +kernel
theorem dX6_learn_48 : decode cX6_learn 48 = .ok (.goto 4, 3) := by decide +kernel
theorem dX6_learn_51 : decode cX6_learn 51 = .ok (.iconst (-1), 1) := by decide +kernel
theorem dX6_learn_52 : decode cX6_learn 52 = .ok (.iadd, 1) := by decide +kernel
theorem dX6_learn_53 : decode cX6_learn 53 = .ok (.iconst 0, 1) := by decide +kernel
theorem dX6_learn_54 : decode cX6_learn 54 = .ok (.bipush 15, 2) := by decide +kernel
theorem dX6_learn_56 : decode cX6_learn 56 = .ok (.invokestatic 116, 3) := by decide +kernel
theorem dX6_learn_59 : decode cX6_learn 59 = .ok (.putfield 67, 3) := by decide +kernel
theorem dX6_learn_62 : decode cX6_learn 62 = .ok (.aload_n 0, 1) := by decide +kernel
theorem dX6_learn_63 : decode cX6_learn 63 = .ok (.getfield 87, 3) := by decide +kernel
theorem dX6_learn_66 : decode cX6_learn 66 = .ok (.ifCond .le 57, 3) := by decide +kernel
theorem dX6_learn_69 : decode cX6_learn 69 = .ok (.iload_n 3, 1) := by decide +kernel
theorem dX6_learn_70 : decode cX6_learn 70 = .ok (.iload 4, 2) := by decide +kernel
theorem dX6_learn_72 : decode cX6_learn 72 = .ok (.if_icmp .eq 51, 3) := by decide +kernel
theorem dX6_learn_75 : decode cX6_learn 75 = .ok (.aload_n 0, 1) := by decide +kernel
theorem dX6_learn_76 : decode cX6_learn 76 = .ok (.getfield 21, 3) := by decide +kernel
theorem dX6_learn_79 : decode cX6_learn 79 = .ok (.aload_n 0, 1) := by decide +kernel
theorem dX6_learn_80 : decode cX6_learn 80 = .ok (.getfield 27, 3) := by decide +kernel
theorem dX6_learn_83 : decode cX6_learn 83 = .ok (.aload_n 0, 1) := by decide +kernel
theorem dX6_learn_84 : decode cX6_learn 84 = .ok (.getfield 87, 3) := by decide +kernel
theorem dX6_learn_87 : decode cX6_learn 87 = .ok (.iaload, 1) := by decide +kernel
theorem dX6_learn_88 : decode cX6_learn 88 = .ok (.iaload, 1) := by decide +kernel
theorem dX6_learn_89 : decode cX6_learn 89 = .ok (.iload_n 3, 1) := by decide +kernel
theorem dX6_learn_90 : decode cX6_learn 90 = .ok (.iload_n 1, 1) := by decide +kernel
theorem dX6_learn_91 : decode cX6_learn 91 = .ok (.if_icmp .ne 7, 3) := by decide +kernel
theorem dX6_learn_94 : decode cX6_learn 94 = .ok (.iconst 1, 1) := by decide +kernel
theorem dX6_learn_95 : decode cX6_learn 95 = .ok (.goto 4, 3) := by decide +kernel
theorem dX6_learn_98 : decode cX6_learn 98 = .ok (.iconst (-1), 1) := by decide +kernel
theorem dX6_learn_99 : decode cX6_learn 99 = .ok (.iadd, 1) := by decide +kernel
theorem dX6_learn_100 : decode cX6_learn 100 = .ok (.istore 5, 2) := by decide +kernel
theorem dX6_learn_102 : decode cX6_learn 102 = .ok (.aload_n 0, 1) := by decide +kernel
theorem dX6_learn_103 : decode cX6_learn 103 = .ok (.getfield 21, 3) := by decide +kernel
theorem dX6_learn_106 : decode cX6_learn 106 = .ok (.aload_n 0, 1) := by decide +kernel
theorem dX6_learn_107 : decode cX6_learn 107 = .ok (.getfield 27, 3) := by decide +kernel
theorem dX6_learn_110 : decode cX6_learn 110 = .ok (.aload_n 0, 1) := by decide +kernel
theorem dX6_learn_111 : decode cX6_learn 111 = .ok (.getfield 87, 3) := by decide +kernel
theorem dX6_learn_114 : decode cX6_learn 114 = .ok (.iaload, 1) := by decide +kernel
theorem dX6_learn_115 : decode cX6_learn 115 = .ok (.iload 5, 2) := by decide +kernel
theorem dX6_learn_117 : decode cX6_learn 117 = .ok (.iconst 0, 1) := by decide +kernel
theorem dX6_learn_118 : decode cX6_learn 118 = .ok (.iconst 3, 1) := by decide +kernel
theorem dX6_learn_119 : decode cX6_learn 119 = .ok (.invokestatic 116, 3) := by decide +kernel
theorem dX6_learn_122 : decode cX6_learn 122 = .ok (.iastore, 1) := by decide +kernel
theorem dX6_learn_123 : decode cX6_learn 123 = .ok (.aload_n 0, 1) := by decide +kernel
theorem dX6_learn_124 : decode cX6_learn 124 = .ok (.aload_n 0, 1) := by decide +kernel
theorem dX6_learn_125 : decode cX6_learn 125 = .ok (.getfield 87, 3) := by decide +kernel
theorem dX6_learn_128 : decode cX6_learn 128 = .ok (.iload_n 1, 1) := by decide +kernel
theorem dX6_learn_129 : decode cX6_learn 129 = .ok (.invokevirtual 120, 3) := by decide +kernel
theorem dX6_learn_132 : decode cX6_learn 132 = .ok (.aload_n 0, 1) := by decide +kernel
theorem dX6_learn_133 : decode cX6_learn 133 = .ok (.getfield 106, 3) := by decide +kernel
theorem dX6_learn_136 : decode cX6_learn 136 = .ok (.ifCond .eq 12, 3) := by decide +kernel
theorem dX6_learn_139 : decode cX6_learn 139 = .ok (.aload_n 0, 1) := by decide +kernel
theorem dX6_learn_140 : decode cX6_learn 140 = .ok (.aload_n 0, 1) := by decide +kernel
theorem dX6_learn_141 : decode cX6_learn 141 = .ok (.getfield 90, 3) := by decide +kernel
theorem dX6_learn_144 : decode cX6_learn 144 = .ok (.iload_n 1, 1) := by decide +kernel
theorem dX6_learn_145 : decode cX6_learn 145 = .ok (.invokevirtual 120, 3) := by decide +kernel
theorem dX6_learn_148 : decode cX6_learn 148 = .ok (.return_, 1) := by decide +kernel
theorem dX6_move_0 : decode cX6_move 0 = .ok (.iload_n 2, 1) := by decide +kernel
theorem dX6_move_1 : decode cX6_move 1 = .ok (.iconst 1, 1) := by decide +kernel
theorem dX6_move_2 : decode cX6_move 2 = .ok (.if_icmp .ne 7, 3) := by decide +kernel
theorem dX6_move_5 : decode cX6_move 5 = .ok (.iconst 1, 1) := by decide +kernel
theorem dX6_move_6 : decode cX6_move 6 = .ok (.goto 4, 3) := by decide +kernel
theorem dX6_move_9 : decode cX6_move 9 = .ok (.iconst (-1), 1) := by decide +kernel
theorem dX6_move_10 : decode cX6_move 10 = .ok (.istore_n 3, 1) := by decide +kernel
theorem dX6_move_11 : decode cX6_move 11 = .ok (.iload_n 1, 1) := by decide +kernel
theorem dX6_move_12 : decode cX6_move 12 = .ok (.ifCond .ne 31, 3) := by decide +kernel
theorem dX6_move_15 : decode cX6_move 15 = .ok (.aload_n 0, 1) := by decide +kernel
theorem dX6_move_16 : decode cX6_move 16 = .ok (.getfield 24, 3) := by decide +kernel
theorem dX6_move_19 : decode cX6_move 19 = .ok (.aload_n 0, 1) := by decide +kernel
theorem dX6_move_20 : decode cX6_move 20 = .ok (.getfield 84, 3) := by decide +kernel
theorem dX6_move_23 : decode cX6_move 23 = .ok (.aload_n 0, 1) := by decide +kernel
theorem dX6_move_24 : decode cX6_move 24 = .ok (.getfield 24, 3) := by decide +kernel
theorem dX6_move_27 : decode cX6_move 27 = .ok (.aload_n 0, 1) := by decide +kernel
theorem dX6_move_28 : decode cX6_move 28 = .ok (.getfield 84, 3) := by decide +kernel
theorem dX6_move_31 : decode cX6_move 31 = .ok (.iaload, 1) := by decide +kernel
theorem dX6_move_32 : decode cX6_move 32 = .ok (.iload_n 3, 1) := by decide +kernel
theorem dX6_move_33 : decode cX6_move 33 = .ok (.iadd, 1) := by decide +kernel
theorem dX6_move_34 : decode cX6_move 34 = .ok (.iconst 0, 1) := by decide +kernel
theorem dX6_move_35 : decode cX6_move 35 = .ok (.iconst 3, 1) := by decide +kernel
theorem dX6_move_36 : decode cX6_move 36 = .ok (.invokestatic 116, 3) := by decide +kernel
theorem dX6_move_39 : decode cX6_move 39 = .ok (.iastore, 1) := by decide +kernel
theorem dX6_move_40 : decode cX6_move 40 = .ok (.goto 33, 3) := by decide +kernel
theorem dX6_move_43 : decode cX6_move 43 = .ok (.aload_n 0, 1) := by decide +kernel
theorem dX6_move_44 : decode cX6_move 44 = .ok (.getfield 18, 3) := by decide +kernel
theorem dX6_move_47 : decode cX6_move 47 = .ok (.aload_n 0, 1) := by decide +kernel
theorem dX6_move_48 : decode cX6_move 48 = .ok (.getfield 27, 3) := by decide +kernel
theorem dX6_move_51 : decode cX6_move 51 = .ok (.iload_n 1, 1) := by decide +kernel
theorem dX6_move_52 : decode cX6_move 52 = .ok (.iaload, 1) := by decide +kernel
theorem dX6_move_53 : decode cX6_move 53 = .ok (.aload_n 0, 1) := by decide +kernel
theorem dX6_move_54 : decode cX6_move 54 = .ok (.getfield 18, 3) := by decide +kernel
theorem dX6_move_57 : decode cX6_move 57 = .ok (.aload_n 0, 1) := by decide +kernel
theorem dX6_move_58 : decode cX6_move 58 = .ok (.getfield 27, 3) := by decide +kernel
theorem dX6_move_61 : decode cX6_move 61 = .ok (.iload_n 1, 1) := by decide +kernel
theorem dX6_move_62 : decode cX6_move 62 = .ok (.iaload, 1) := by decide +kernel
theorem dX6_move_63 : decode cX6_move 63 = .ok (.iaload, 1) := by decide +kernel
theorem dX6_move_64 : decode cX6_move 64 = .ok (.iload_n 3, 1) := by decide +kernel
theorem dX6_move_65 : decode cX6_move 65 = .ok (.iadd, 1) := by decide +kernel
theorem dX6_move_66 : decode cX6_move 66 = .ok (.bipush (-4), 2) := by decide +kernel
theorem dX6_move_68 : decode cX6_move 68 = .ok (.iconst 3, 1) := by decide +kernel
theorem dX6_move_69 : decode cX6_move 69 = .ok (.invokestatic 116, 3) := by decide +kernel
theorem dX6_move_72 : decode cX6_move 72 = .ok (.iastore, 1) := by decide +kernel
theorem dX6_move_73 : decode cX6_move 73 = .ok (.return_, 1) := by decide +kernel
theorem dX6_takeRow_0 : decode cX6_takeRow 0 = .ok (.iconst 0, 1) := by decide +kernel
theorem dX6_takeRow_1 : decode cX6_takeRow 1 = .ok (.istore 5, 2) := by decide +kernel
theorem dX6_takeRow_3 : decode cX6_takeRow 3 = .ok (.aload_n 0, 1) := by decide +kernel
theorem dX6_takeRow_4 : decode cX6_takeRow 4 = .ok (.getfield 87, 3) := by decide +kernel
theorem dX6_takeRow_7 : decode cX6_takeRow 7 = .ok (.iconst 1, 1) := by decide +kernel
theorem dX6_takeRow_8 : decode cX6_takeRow 8 = .ok (.iadd, 1) := by decide +kernel
theorem dX6_takeRow_9 : decode cX6_takeRow 9 = .ok (.istore 6, 2) := by decide +kernel
theorem dX6_takeRow_11 : decode cX6_takeRow 11 = .ok (.iload 6, 2) := by decide +kernel
theorem dX6_takeRow_13 : decode cX6_takeRow 13 = .ok (.aload_n 0, 1) := by decide +kernel
theorem dX6_takeRow_14 : decode cX6_takeRow 14 = .ok (.getfield 48, 3) := by decide +kernel
theorem dX6_takeRow_17 : decode cX6_takeRow 17 = .ok (.if_icmp .gt 83, 3) := by decide +kernel
theorem dX6_takeRow_20 : decode cX6_takeRow 20 = .ok (.iload 6, 2) := by decide +kernel
theorem dX6_takeRow_22 : decode cX6_takeRow 22 = .ok (.aload_n 0, 1) := by decide +kernel
theorem dX6_takeRow_23 : decode cX6_takeRow 23 = .ok (.getfield 51, 3) := by decide +kernel
theorem dX6_takeRow_26 : decode cX6_takeRow 26 = .ok (.if_icmp .ne 6, 3) := by decide +kernel
theorem dX6_takeRow_29 : decode cX6_takeRow 29 = .ok (.goto 65, 3) := by decide +kernel
theorem dX6_takeRow_32 : decode cX6_takeRow 32 = .ok (.iconst 1, 1) := by decide +kernel
theorem dX6_takeRow_33 : decode cX6_takeRow 33 = .ok (.istore 5, 2) := by decide +kernel
theorem dX6_takeRow_35 : decode cX6_takeRow 35 = .ok (.aload_n 0, 1) := by decide +kernel
theorem dX6_takeRow_36 : decode cX6_takeRow 36 = .ok (.getfield 21, 3) := by decide +kernel
theorem dX6_takeRow_39 : decode cX6_takeRow 39 = .ok (.aload_n 0, 1) := by decide +kernel
theorem dX6_takeRow_40 : decode cX6_takeRow 40 = .ok (.getfield 27, 3) := by decide +kernel
theorem dX6_takeRow_43 : decode cX6_takeRow 43 = .ok (.iload 6, 2) := by decide +kernel
theorem dX6_takeRow_45 : decode cX6_takeRow 45 = .ok (.iaload, 1) := by decide +kernel
theorem dX6_takeRow_46 : decode cX6_takeRow 46 = .ok (.iaload, 1) := by decide +kernel
theorem dX6_takeRow_47 : decode cX6_takeRow 47 = .ok (.ifCond .ne 47, 3) := by decide +kernel
theorem dX6_takeRow_50 : decode cX6_takeRow 50 = .ok (.aload_n 0, 1) := by decide +kernel
theorem dX6_takeRow_51 : decode cX6_takeRow 51 = .ok (.getfield 15, 3) := by decide +kernel
theorem dX6_takeRow_54 : decode cX6_takeRow 54 = .ok (.aload_n 0, 1) := by decide +kernel
theorem dX6_takeRow_55 : decode cX6_takeRow 55 = .ok (.getfield 27, 3) := by decide +kernel
theorem dX6_takeRow_58 : decode cX6_takeRow 58 = .ok (.iload 6, 2) := by decide +kernel
theorem dX6_takeRow_60 : decode cX6_takeRow 60 = .ok (.iaload, 1) := by decide +kernel
theorem dX6_takeRow_61 : decode cX6_takeRow 61 = .ok (.aload_n 0, 1) := by decide +kernel
theorem dX6_takeRow_62 : decode cX6_takeRow 62 = .ok (.iload 6, 2) := by decide +kernel
theorem dX6_takeRow_64 : decode cX6_takeRow 64 = .ok (.iload_n 1, 1) := by decide +kernel
theorem dX6_takeRow_65 : decode cX6_takeRow 65 = .ok (.lload_n 2, 1) := by decide +kernel
theorem dX6_takeRow_66 : decode cX6_takeRow 66 = .ok (.invokevirtual 97, 3) := by decide +kernel
theorem dX6_takeRow_69 : decode cX6_takeRow 69 = .ok (.iastore, 1) := by decide +kernel
theorem dX6_takeRow_70 : decode cX6_takeRow 70 = .ok (.aload_n 0, 1) := by decide +kernel
theorem dX6_takeRow_71 : decode cX6_takeRow 71 = .ok (.getfield 18, 3) := by decide +kernel
theorem dX6_takeRow_74 : decode cX6_takeRow 74 = .ok (.aload_n 0, 1) := by decide +kernel
theorem dX6_takeRow_75 : decode cX6_takeRow 75 = .ok (.getfield 27, 3) := by decide +kernel
theorem dX6_takeRow_78 : decode cX6_takeRow 78 = .ok (.iload 6, 2) := by decide +kernel
theorem dX6_takeRow_80 : decode cX6_takeRow 80 = .ok (.iaload, 1) := by decide +kernel
theorem dX6_takeRow_81 : decode cX6_takeRow 81 = .ok (.iload 4, 2) := by decide +kernel
theorem dX6_takeRow_83 : decode cX6_takeRow 83 = .ok (.iconst 1, 1) := by decide +kernel
theorem dX6_takeRow_84 : decode cX6_takeRow 84 = .ok (.if_icmp .ne 7, 3) := by decide +kernel
theorem dX6_takeRow_87 : decode cX6_takeRow 87 = .ok (.iconst 0, 1) := by decide +kernel
theorem dX6_takeRow_88 : decode cX6_takeRow 88 = .ok (.goto 4, 3) := by decide +kernel
theorem dX6_takeRow_91 : decode cX6_takeRow 91 = .ok (.iconst (-1), 1) := by decide +kernel
theorem dX6_takeRow_92 : decode cX6_takeRow 92 = .ok (.iastore, 1) := by decide +kernel
theorem dX6_takeRow_93 : decode cX6_takeRow 93 = .ok (.return_, 1) := by decide +kernel
theorem dX6_takeRow_94 : decode cX6_takeRow 94 = .ok (.iinc 6 1, 3) := by decide +kernel
theorem dX6_takeRow_97 : decode cX6_takeRow 97 = .ok (.goto (-86), 3) := by decide +kernel
theorem dX6_takeRow_100 : decode cX6_takeRow 100 = .ok (.iload 5, 2) := by decide +kernel
theorem dX6_takeRow_102 : decode cX6_takeRow 102 = .ok (.ifCond .eq 7, 3) := by decide +kernel
theorem dX6_takeRow_105 : decode cX6_takeRow 105 = .ok (.aload_n 0, 1) := by decide +kernel
theorem dX6_takeRow_106 : decode cX6_takeRow 106 = .ok (.invokevirtual 124, 3) := by decide +kernel
theorem dX6_takeRow_109 : decode cX6_takeRow 109 = .ok (.return_, 1) := by decide +kernel
theorem dX6_strainRows_0 : decode cX6_strainRows 0 = .ok (.aload_n 0, 1) := by decide +kernel
theorem dX6_strainRows_1 : decode cX6_strainRows 1 = .ok (.getfield 87, 3) := by decide +kernel
theorem dX6_strainRows_4 : decode cX6_strainRows 4 = .ok (.iconst 1, 1) := by decide +kernel
theorem dX6_strainRows_5 : decode cX6_strainRows 5 = .ok (.iadd, 1) := by decide +kernel
theorem dX6_strainRows_6 : decode cX6_strainRows 6 = .ok (.istore_n 1, 1) := by decide +kernel
theorem dX6_strainRows_7 : decode cX6_strainRows 7 = .ok (.iload_n 1, 1) := by decide +kernel
theorem dX6_strainRows_8 : decode cX6_strainRows 8 = .ok (.aload_n 0, 1) := by decide +kernel
theorem dX6_strainRows_9 : decode cX6_strainRows 9 = .ok (.getfield 48, 3) := by decide +kernel
theorem dX6_strainRows_12 : decode cX6_strainRows 12 = .ok (.if_icmp .gt 32, 3) := by decide +kernel
theorem dX6_strainRows_15 : decode cX6_strainRows 15 = .ok (.iload_n 1, 1) := by decide +kernel
theorem dX6_strainRows_16 : decode cX6_strainRows 16 = .ok (.aload_n 0, 1) := by decide +kernel
theorem dX6_strainRows_17 : decode cX6_strainRows 17 = .ok (.getfield 51, 3) := by decide +kernel
theorem dX6_strainRows_20 : decode cX6_strainRows 20 = .ok (.if_icmp .eq 18, 3) := by decide +kernel
theorem dX6_strainRows_23 : decode cX6_strainRows 23 = .ok (.aload_n 0, 1) := by decide +kernel
theorem dX6_strainRows_24 : decode cX6_strainRows 24 = .ok (.getfield 21, 3) := by decide +kernel
theorem dX6_strainRows_27 : decode cX6_strainRows 27 = .ok (.aload_n 0, 1) := by decide +kernel
theorem dX6_strainRows_28 : decode cX6_strainRows 28 = .ok (.getfield 27, 3) := by decide +kernel
theorem dX6_strainRows_31 : decode cX6_strainRows 31 = .ok (.iload_n 1, 1) := by decide +kernel
theorem dX6_strainRows_32 : decode cX6_strainRows 32 = .ok (.iaload, 1) := by decide +kernel
theorem dX6_strainRows_33 : decode cX6_strainRows 33 = .ok (.dup2, 1) := by decide +kernel
theorem dX6_strainRows_34 : decode cX6_strainRows 34 = .ok (.iaload, 1) := by decide +kernel
theorem dX6_strainRows_35 : decode cX6_strainRows 35 = .ok (.iconst 1, 1) := by decide +kernel
theorem dX6_strainRows_36 : decode cX6_strainRows 36 = .ok (.isub, 1) := by decide +kernel
theorem dX6_strainRows_37 : decode cX6_strainRows 37 = .ok (.iastore, 1) := by decide +kernel
theorem dX6_strainRows_38 : decode cX6_strainRows 38 = .ok (.iinc 1 1, 3) := by decide +kernel
theorem dX6_strainRows_41 : decode cX6_strainRows 41 = .ok (.goto (-34), 3) := by decide +kernel
theorem dX6_strainRows_44 : decode cX6_strainRows 44 = .ok (.aload_n 0, 1) := by decide +kernel
theorem dX6_strainRows_45 : decode cX6_strainRows 45 = .ok (.dup, 1) := by decide +kernel
theorem dX6_strainRows_46 : decode cX6_strainRows 46 = .ok (.getfield 70, 3) := by decide +kernel
theorem dX6_strainRows_49 : decode cX6_strainRows 49 = .ok (.iconst 1, 1) := by decide +kernel
theorem dX6_strainRows_50 : decode cX6_strainRows 50 = .ok (.iadd, 1) := by decide +kernel
theorem dX6_strainRows_51 : decode cX6_strainRows 51 = .ok (.putfield 70, 3) := by decide +kernel
theorem dX6_strainRows_54 : decode cX6_strainRows 54 = .ok (.aload_n 0, 1) := by decide +kernel
theorem dX6_strainRows_55 : decode cX6_strainRows 55 = .ok (.getfield 70, 3) := by decide +kernel
theorem dX6_strainRows_58 : decode cX6_strainRows 58 = .ok (.aload_n 0, 1) := by decide +kernel
theorem dX6_strainRows_59 : decode cX6_strainRows 59 = .ok (.getfield 42, 3) := by decide +kernel
theorem dX6_strainRows_62 : decode cX6_strainRows 62 = .ok (.if_icmp .ne 45, 3) := by decide +kernel
theorem dX6_strainRows_65 : decode cX6_strainRows 65 = .ok (.iconst 0, 1) := by decide +kernel
theorem dX6_strainRows_66 : decode cX6_strainRows 66 = .ok (.istore_n 1, 1) := by decide +kernel
theorem dX6_strainRows_67 : decode cX6_strainRows 67 = .ok (.iload_n 1, 1) := by decide +kernel
theorem dX6_strainRows_68 : decode cX6_strainRows 68 = .ok (.aload_n 0, 1) := by decide +kernel
theorem dX6_strainRows_69 : decode cX6_strainRows 69 = .ok (.getfield 21, 3) := by decide +kernel
theorem dX6_strainRows_72 : decode cX6_strainRows 72 = .ok (.arraylength, 1) := by decide +kernel
theorem dX6_strainRows_73 : decode cX6_strainRows 73 = .ok (.if_icmp .ge 19, 3) := by decide +kernel
theorem dX6_strainRows_76 : decode cX6_strainRows 76 = .ok (.aload_n 0, 1) := by decide +kernel
theorem dX6_strainRows_77 : decode cX6_strainRows 77 = .ok (.getfield 21, 3) := by decide +kernel
theorem dX6_strainRows_80 : decode cX6_strainRows 80 = .ok (.iload_n 1, 1) := by decide +kernel
theorem dX6_strainRows_81 : decode cX6_strainRows 81 = .ok (.dup2, 1) := by decide +kernel
theorem dX6_strainRows_82 : decode cX6_strainRows 82 = .ok (.iaload, 1) := by decide +kernel
theorem dX6_strainRows_83 : decode cX6_strainRows 83 = .ok (.iconst 2, 1) := by decide +kernel
theorem dX6_strainRows_84 : decode cX6_strainRows 84 = .ok (.idiv, 1) := by decide +kernel
theorem dX6_strainRows_85 : decode cX6_strainRows 85 = .ok (.iastore, 1) := by decide +kernel
theorem dX6_strainRows_86 : decode cX6_strainRows 86 = .ok (.iinc 1 1, 3) := by decide +kernel
theorem dX6_strainRows_89 : decode cX6_strainRows 89 = .ok (.goto (-22), 3) := by decide +kernel
theorem dX6_strainRows_92 : decode cX6_strainRows 92 = .ok (.aload_n 0, 1) := by decide +kernel
theorem dX6_strainRows_93 : decode cX6_strainRows 93 = .ok (.iconst 0, 1) := by decide +kernel
theorem dX6_strainRows_94 : decode cX6_strainRows 94 = .ok (.putfield 70, 3) := by decide +kernel
theorem dX6_strainRows_97 : decode cX6_strainRows 97 = .ok (.aload_n 0, 1) := by decide +kernel
theorem dX6_strainRows_98 : decode cX6_strainRows 98 = .ok (.dup, 1) := by decide +kernel
theorem dX6_strainRows_99 : decode cX6_strainRows 99 = .ok (.getfield 73, 3) := by decide +kernel
theorem dX6_strainRows_102 : decode cX6_strainRows 102 = .ok (.iconst 1, 1) := by decide +kernel
theorem dX6_strainRows_103 : decode cX6_strainRows 103 = .ok (.iadd, 1) := by decide +kernel
theorem dX6_strainRows_104 : decode cX6_strainRows 104 = .ok (.putfield 73, 3) := by decide +kernel
theorem dX6_strainRows_107 : decode cX6_strainRows 107 = .ok (.return_, 1) := by decide +kernel
theorem dX6_heldWithin_0 : decode cX6_heldWithin 0 = .ok (.iconst 0, 1) := by decide +kernel
theorem dX6_heldWithin_1 : decode cX6_heldWithin 1 = .ok (.istore_n 3, 1) := by decide +kernel
theorem dX6_heldWithin_2 : decode cX6_heldWithin 2 = .ok (.iload_n 1, 1) := by decide +kernel
theorem dX6_heldWithin_3 : decode cX6_heldWithin 3 = .ok (.istore 4, 2) := by decide +kernel
theorem dX6_heldWithin_5 : decode cX6_heldWithin 5 = .ok (.iload 4, 2) := by decide +kernel
theorem dX6_heldWithin_7 : decode cX6_heldWithin 7 = .ok (.iload_n 2, 1) := by decide +kernel
theorem dX6_heldWithin_8 : decode cX6_heldWithin 8 = .ok (.if_icmp .ge 23, 3) := by decide +kernel
theorem dX6_heldWithin_11 : decode cX6_heldWithin 11 = .ok (.aload_n 0, 1) := by decide +kernel
theorem dX6_heldWithin_12 : decode cX6_heldWithin 12 = .ok (.getfield 15, 3) := by decide +kernel
theorem dX6_heldWithin_15 : decode cX6_heldWithin 15 = .ok (.iload 4, 2) := by decide +kernel
theorem dX6_heldWithin_17 : decode cX6_heldWithin 17 = .ok (.iaload, 1) := by decide +kernel
theorem dX6_heldWithin_18 : decode cX6_heldWithin 18 = .ok (.iconst (-1), 1) := by decide +kernel
theorem dX6_heldWithin_19 : decode cX6_heldWithin 19 = .ok (.if_icmp .eq 6, 3) := by decide +kernel
theorem dX6_heldWithin_22 : decode cX6_heldWithin 22 = .ok (.iinc 3 1, 3) := by decide +kernel
theorem dX6_heldWithin_25 : decode cX6_heldWithin 25 = .ok (.iinc 4 1, 3) := by decide +kernel
theorem dX6_heldWithin_28 : decode cX6_heldWithin 28 = .ok (.goto (-23), 3) := by decide +kernel
theorem dX6_heldWithin_31 : decode cX6_heldWithin 31 = .ok (.iload_n 3, 1) := by decide +kernel
theorem dX6_heldWithin_32 : decode cX6_heldWithin 32 = .ok (.ireturn, 1) := by decide +kernel
theorem dX7_init_0 : decode cX7_init 0 = .ok (.aload_n 0, 1) := by decide +kernel
theorem dX7_init_1 : decode cX7_init 1 = .ok (.invokespecial 3, 3) := by decide +kernel
theorem dX7_init_4 : decode cX7_init 4 = .ok (.aload_n 0, 1) := by decide +kernel
theorem dX7_init_5 : decode cX7_init 5 = .ok (.bipush 6, 2) := by decide +kernel
theorem dX7_init_7 : decode cX7_init 7 = .ok (.newarray .int, 2) := by decide +kernel
theorem dX7_init_9 : decode cX7_init 9 = .ok (.putfield 9, 3) := by decide +kernel
theorem dX7_init_12 : decode cX7_init 12 = .ok (.aload_n 0, 1) := by decide +kernel
theorem dX7_init_13 : decode cX7_init 13 = .ok (.bipush 6, 2) := by decide +kernel
theorem dX7_init_15 : decode cX7_init 15 = .ok (.newarray .int, 2) := by decide +kernel
theorem dX7_init_17 : decode cX7_init 17 = .ok (.putfield 15, 3) := by decide +kernel
theorem dX7_init_20 : decode cX7_init 20 = .ok (.aload_n 0, 1) := by decide +kernel
theorem dX7_init_21 : decode cX7_init 21 = .ok (.bipush 40, 2) := by decide +kernel
theorem dX7_init_23 : decode cX7_init 23 = .ok (.newarray .int, 2) := by decide +kernel
theorem dX7_init_25 : decode cX7_init 25 = .ok (.putfield 18, 3) := by decide +kernel
theorem dX7_init_28 : decode cX7_init 28 = .ok (.aload_n 0, 1) := by decide +kernel
theorem dX7_init_29 : decode cX7_init 29 = .ok (.bipush 120, 2) := by decide +kernel
theorem dX7_init_31 : decode cX7_init 31 = .ok (.newarray .int, 2) := by decide +kernel
theorem dX7_init_33 : decode cX7_init 33 = .ok (.putfield 21, 3) := by decide +kernel
theorem dX7_init_36 : decode cX7_init 36 = .ok (.aload_n 0, 1) := by decide +kernel
theorem dX7_init_37 : decode cX7_init 37 = .ok (.bipush 40, 2) := by decide +kernel
theorem dX7_init_39 : decode cX7_init 39 = .ok (.newarray .int, 2) := by decide +kernel
theorem dX7_init_41 : decode cX7_init 41 = .ok (.putfield 24, 3) := by decide +kernel
theorem dX7_init_44 : decode cX7_init 44 = .ok (.return_, 1) := by decide +kernel
theorem dX7_clear_0 : decode cX7_clear 0 = .ok (.aload_n 0, 1) := by decide +kernel
theorem dX7_clear_1 : decode cX7_clear 1 = .ok (.getfield 9, 3) := by decide +kernel
theorem dX7_clear_4 : decode cX7_clear 4 = .ok (.iconst 0, 1) := by decide +kernel
theorem dX7_clear_5 : decode cX7_clear 5 = .ok (.invokestatic 27, 3) := by decide +kernel
theorem dX7_clear_8 : decode cX7_clear 8 = .ok (.aload_n 0, 1) := by decide +kernel
theorem dX7_clear_9 : decode cX7_clear 9 = .ok (.getfield 21, 3) := by decide +kernel
theorem dX7_clear_12 : decode cX7_clear 12 = .ok (.iconst (-1), 1) := by decide +kernel
theorem dX7_clear_13 : decode cX7_clear 13 = .ok (.invokestatic 27, 3) := by decide +kernel
theorem dX7_clear_16 : decode cX7_clear 16 = .ok (.aload_n 0, 1) := by decide +kernel
theorem dX7_clear_17 : decode cX7_clear 17 = .ok (.iconst 0, 1) := by decide +kernel
theorem dX7_clear_18 : decode cX7_clear 18 = .ok (.putfield 33, 3) := by decide +kernel
theorem dX7_clear_21 : decode cX7_clear 21 = .ok (.aload_n 0, 1) := by decide +kernel
theorem dX7_clear_22 : decode cX7_clear 22 = .ok (.iconst 0, 1) := by decide +kernel
theorem dX7_clear_23 : decode cX7_clear 23 = .ok (.putfield 37, 3) := by decide +kernel
theorem dX7_clear_26 : decode cX7_clear 26 = .ok (.aload_n 0, 1) := by decide +kernel
theorem dX7_clear_27 : decode cX7_clear 27 = .ok (.iconst 0, 1) := by decide +kernel
theorem dX7_clear_28 : decode cX7_clear 28 = .ok (.putfield 40, 3) := by decide +kernel
theorem dX7_clear_31 : decode cX7_clear 31 = .ok (.aload_n 0, 1) := by decide +kernel
theorem dX7_clear_32 : decode cX7_clear 32 = .ok (.iconst 0, 1) := by decide +kernel
theorem dX7_clear_33 : decode cX7_clear 33 = .ok (.putfield 43, 3) := by decide +kernel
theorem dX7_clear_36 : decode cX7_clear 36 = .ok (.return_, 1) := by decide +kernel
theorem dX7_copyFrom_0 : decode cX7_copyFrom 0 = .ok (.aload_n 1, 1) := by decide +kernel
theorem dX7_copyFrom_1 : decode cX7_copyFrom 1 = .ok (.getfield 9, 3) := by decide +kernel
theorem dX7_copyFrom_4 : decode cX7_copyFrom 4 = .ok (.iconst 0, 1) := by decide +kernel
theorem dX7_copyFrom_5 : decode cX7_copyFrom 5 = .ok (.aload_n 0, 1) := by decide +kernel
theorem dX7_copyFrom_6 : decode cX7_copyFrom 6 = .ok (.getfield 9, 3) := by decide +kernel
theorem dX7_copyFrom_9 : decode cX7_copyFrom 9 = .ok (.iconst 0, 1) := by decide +kernel
theorem dX7_copyFrom_10 : decode cX7_copyFrom 10 = .ok (.aload_n 0, 1) := by decide +kernel
theorem dX7_copyFrom_11 : decode cX7_copyFrom 11 = .ok (.getfield 9, 3) := by decide +kernel
theorem dX7_copyFrom_14 : decode cX7_copyFrom 14 = .ok (.arraylength, 1) := by decide +kernel
theorem dX7_copyFrom_15 : decode cX7_copyFrom 15 = .ok (.invokestatic 46, 3) := by decide +kernel
theorem dX7_copyFrom_18 : decode cX7_copyFrom 18 = .ok (.aload_n 1, 1) := by decide +kernel
theorem dX7_copyFrom_19 : decode cX7_copyFrom 19 = .ok (.getfield 15, 3) := by decide +kernel
theorem dX7_copyFrom_22 : decode cX7_copyFrom 22 = .ok (.iconst 0, 1) := by decide +kernel
theorem dX7_copyFrom_23 : decode cX7_copyFrom 23 = .ok (.aload_n 0, 1) := by decide +kernel
theorem dX7_copyFrom_24 : decode cX7_copyFrom 24 = .ok (.getfield 15, 3) := by decide +kernel
theorem dX7_copyFrom_27 : decode cX7_copyFrom 27 = .ok (.iconst 0, 1) := by decide +kernel
theorem dX7_copyFrom_28 : decode cX7_copyFrom 28 = .ok (.aload_n 0, 1) := by decide +kernel
theorem dX7_copyFrom_29 : decode cX7_copyFrom 29 = .ok (.getfield 15, 3) := by decide +kernel
theorem dX7_copyFrom_32 : decode cX7_copyFrom 32 = .ok (.arraylength, 1) := by decide +kernel
theorem dX7_copyFrom_33 : decode cX7_copyFrom 33 = .ok (.invokestatic 46, 3) := by decide +kernel
theorem dX7_copyFrom_36 : decode cX7_copyFrom 36 = .ok (.aload_n 1, 1) := by decide +kernel
theorem dX7_copyFrom_37 : decode cX7_copyFrom 37 = .ok (.getfield 18, 3) := by decide +kernel
theorem dX7_copyFrom_40 : decode cX7_copyFrom 40 = .ok (.iconst 0, 1) := by decide +kernel
theorem dX7_copyFrom_41 : decode cX7_copyFrom 41 = .ok (.aload_n 0, 1) := by decide +kernel
theorem dX7_copyFrom_42 : decode cX7_copyFrom 42 = .ok (.getfield 18, 3) := by decide +kernel
theorem dX7_copyFrom_45 : decode cX7_copyFrom 45 = .ok (.iconst 0, 1) := by decide +kernel
theorem dX7_copyFrom_46 : decode cX7_copyFrom 46 = .ok (.aload_n 0, 1) := by decide +kernel
theorem dX7_copyFrom_47 : decode cX7_copyFrom 47 = .ok (.getfield 18, 3) := by decide +kernel
theorem dX7_copyFrom_50 : decode cX7_copyFrom 50 = .ok (.arraylength, 1) := by decide +kernel
theorem dX7_copyFrom_51 : decode cX7_copyFrom 51 = .ok (.invokestatic 46, 3) := by decide +kernel
theorem dX7_copyFrom_54 : decode cX7_copyFrom 54 = .ok (.aload_n 1, 1) := by decide +kernel
theorem dX7_copyFrom_55 : decode cX7_copyFrom 55 = .ok (.getfield 21, 3) := by decide +kernel
theorem dX7_copyFrom_58 : decode cX7_copyFrom 58 = .ok (.iconst 0, 1) := by decide +kernel
theorem dX7_copyFrom_59 : decode cX7_copyFrom 59 = .ok (.aload_n 0, 1) := by decide +kernel
theorem dX7_copyFrom_60 : decode cX7_copyFrom 60 = .ok (.getfield 21, 3) := by decide +kernel
theorem dX7_copyFrom_63 : decode cX7_copyFrom 63 = .ok (.iconst 0, 1) := by decide +kernel
theorem dX7_copyFrom_64 : decode cX7_copyFrom 64 = .ok (.aload_n 0, 1) := by decide +kernel
theorem dX7_copyFrom_65 : decode cX7_copyFrom 65 = .ok (.getfield 21, 3) := by decide +kernel
theorem dX7_copyFrom_68 : decode cX7_copyFrom 68 = .ok (.arraylength, 1) := by decide +kernel
theorem dX7_copyFrom_69 : decode cX7_copyFrom 69 = .ok (.invokestatic 46, 3) := by decide +kernel
theorem dX7_copyFrom_72 : decode cX7_copyFrom 72 = .ok (.aload_n 1, 1) := by decide +kernel
theorem dX7_copyFrom_73 : decode cX7_copyFrom 73 = .ok (.getfield 24, 3) := by decide +kernel
theorem dX7_copyFrom_76 : decode cX7_copyFrom 76 = .ok (.iconst 0, 1) := by decide +kernel
theorem dX7_copyFrom_77 : decode cX7_copyFrom 77 = .ok (.aload_n 0, 1) := by decide +kernel
theorem dX7_copyFrom_78 : decode cX7_copyFrom 78 = .ok (.getfield 24, 3) := by decide +kernel
theorem dX7_copyFrom_81 : decode cX7_copyFrom 81 = .ok (.iconst 0, 1) := by decide +kernel
theorem dX7_copyFrom_82 : decode cX7_copyFrom 82 = .ok (.aload_n 0, 1) := by decide +kernel
theorem dX7_copyFrom_83 : decode cX7_copyFrom 83 = .ok (.getfield 24, 3) := by decide +kernel
theorem dX7_copyFrom_86 : decode cX7_copyFrom 86 = .ok (.arraylength, 1) := by decide +kernel
theorem dX7_copyFrom_87 : decode cX7_copyFrom 87 = .ok (.invokestatic 46, 3) := by decide +kernel
theorem dX7_copyFrom_90 : decode cX7_copyFrom 90 = .ok (.aload_n 0, 1) := by decide +kernel
theorem dX7_copyFrom_91 : decode cX7_copyFrom 91 = .ok (.aload_n 1, 1) := by decide +kernel
theorem dX7_copyFrom_92 : decode cX7_copyFrom 92 = .ok (.getfield 33, 3) := by decide +kernel
theorem dX7_copyFrom_95 : decode cX7_copyFrom 95 = .ok (.putfield 33, 3) := by decide +kernel
theorem dX7_copyFrom_98 : decode cX7_copyFrom 98 = .ok (.aload_n 0, 1) := by decide +kernel
theorem dX7_copyFrom_99 : decode cX7_copyFrom 99 = .ok (.aload_n 1, 1) := by decide +kernel
theorem dX7_copyFrom_100 : decode cX7_copyFrom 100 = .ok (.getfield 37, 3) := by decide +kernel
theorem dX7_copyFrom_103 : decode cX7_copyFrom 103 = .ok (.putfield 37, 3) := by decide +kernel
theorem dX7_copyFrom_106 : decode cX7_copyFrom 106 = .ok (.aload_n 0, 1) := by decide +kernel
theorem dX7_copyFrom_107 : decode cX7_copyFrom 107 = .ok (.aload_n 1, 1) := by decide +kernel
theorem dX7_copyFrom_108 : decode cX7_copyFrom 108 = .ok (.getfield 40, 3) := by decide +kernel
theorem dX7_copyFrom_111 : decode cX7_copyFrom 111 = .ok (.putfield 40, 3) := by decide +kernel
theorem dX7_copyFrom_114 : decode cX7_copyFrom 114 = .ok (.aload_n 0, 1) := by decide +kernel
theorem dX7_copyFrom_115 : decode cX7_copyFrom 115 = .ok (.aload_n 1, 1) := by decide +kernel
theorem dX7_copyFrom_116 : decode cX7_copyFrom 116 = .ok (.getfield 43, 3) := by decide +kernel
theorem dX7_copyFrom_119 : decode cX7_copyFrom 119 = .ok (.putfield 43, 3) := by decide +kernel
theorem dX7_copyFrom_122 : decode cX7_copyFrom 122 = .ok (.return_, 1) := by decide +kernel
theorem dX7_hasOp_0 : decode cX7_hasOp 0 = .ok (.iload_n 1, 1) := by decide +kernel
theorem dX7_hasOp_1 : decode cX7_hasOp 1 = .ok (.i2l, 1) := by decide +kernel
theorem dX7_hasOp_2 : decode cX7_hasOp 2 = .ok (.lconst 0, 1) := by decide +kernel
theorem dX7_hasOp_3 : decode cX7_hasOp 3 = .ok (.aload_n 0, 1) := by decide +kernel
theorem dX7_hasOp_4 : decode cX7_hasOp 4 = .ok (.getfield 40, 3) := by decide +kernel
theorem dX7_hasOp_7 : decode cX7_hasOp 7 = .ok (.iconst 1, 1) := by decide +kernel
theorem dX7_hasOp_8 : decode cX7_hasOp 8 = .ok (.isub, 1) := by decide +kernel
theorem dX7_hasOp_9 : decode cX7_hasOp 9 = .ok (.i2l, 1) := by decide +kernel
theorem dX7_hasOp_10 : decode cX7_hasOp 10 = .ok (.invokestatic 52, 3) := by decide +kernel
theorem dX7_hasOp_13 : decode cX7_hasOp 13 = .ok (.ireturn, 1) := by decide +kernel
theorem dX7_canDo_0 : decode cX7_canDo 0 = .ok (.aload_n 0, 1) := by decide +kernel
theorem dX7_canDo_1 : decode cX7_canDo 1 = .ok (.iload_n 1, 1) := by decide +kernel
theorem dX7_canDo_2 : decode cX7_canDo 2 = .ok (.invokevirtual 56, 3) := by decide +kernel
theorem dX7_canDo_5 : decode cX7_canDo 5 = .ok (.ifCond .eq 18, 3) := by decide +kernel
theorem dX7_canDo_8 : decode cX7_canDo 8 = .ok (.aload_n 0, 1) := by decide +kernel
theorem dX7_canDo_9 : decode cX7_canDo 9 = .ok (.getfield 18, 3) := by decide +kernel
theorem dX7_canDo_12 : decode cX7_canDo 12 = .ok (.iload_n 1, 1) := by decide +kernel
theorem dX7_canDo_13 : decode cX7_canDo 13 = .ok (.iaload, 1) := by decide +kernel
theorem dX7_canDo_14 : decode cX7_canDo 14 = .ok (.bipush 10, 2) := by decide +kernel
theorem dX7_canDo_16 : decode cX7_canDo 16 = .ok (.if_icmp .eq 7, 3) := by decide +kernel
theorem dX7_canDo_19 : decode cX7_canDo 19 = .ok (.iconst 1, 1) := by decide +kernel
theorem dX7_canDo_20 : decode cX7_canDo 20 = .ok (.goto 4, 3) := by decide +kernel
theorem dX7_canDo_23 : decode cX7_canDo 23 = .ok (.iconst 0, 1) := by decide +kernel
theorem dX7_canDo_24 : decode cX7_canDo 24 = .ok (.ireturn, 1) := by decide +kernel
theorem dX7_branches_0 : decode cX7_branches 0 = .ok (.aload_n 0, 1) := by decide +kernel
theorem dX7_branches_1 : decode cX7_branches 1 = .ok (.getfield 18, 3) := by decide +kernel
theorem dX7_branches_4 : decode cX7_branches 4 = .ok (.iload_n 1, 1) := by decide +kernel
theorem dX7_branches_5 : decode cX7_branches 5 = .ok (.iaload, 1) := by decide +kernel
theorem dX7_branches_6 : decode cX7_branches 6 = .ok (.bipush 6, 2) := by decide +kernel
theorem dX7_branches_8 : decode cX7_branches 8 = .ok (.if_icmp .eq 25, 3) := by decide +kernel
theorem dX7_branches_11 : decode cX7_branches 11 = .ok (.aload_n 0, 1) := by decide +kernel
theorem dX7_branches_12 : decode cX7_branches 12 = .ok (.getfield 18, 3) := by decide +kernel
theorem dX7_branches_15 : decode cX7_branches 15 = .ok (.iload_n 1, 1) := by decide +kernel
theorem dX7_branches_16 : decode cX7_branches 16 = .ok (.iaload, 1) := by decide +kernel
theorem dX7_branches_17 : decode cX7_branches 17 = .ok (.bipush 7, 2) := by decide +kernel
theorem dX7_branches_19 : decode cX7_branches 19 = .ok (.if_icmp .eq 14, 3) := by decide +kernel
theorem dX7_branches_22 : decode cX7_branches 22 = .ok (.aload_n 0, 1) := by decide +kernel
theorem dX7_branches_23 : decode cX7_branches 23 = .ok (.getfield 18, 3) := by decide +kernel
theorem dX7_branches_26 : decode cX7_branches 26 = .ok (.iload_n 1, 1) := by decide +kernel
theorem dX7_branches_27 : decode cX7_branches 27 = .ok (.iaload, 1) := by decide +kernel
theorem dX7_branches_28 : decode cX7_branches 28 = .ok (.bipush 8, 2) := by decide +kernel
theorem dX7_branches_30 : decode cX7_branches 30 = .ok (.if_icmp .ne 7, 3) := by decide +kernel
theorem dX7_branches_33 : decode cX7_branches 33 = .ok (.iconst 1, 1) := by decide +kernel
theorem dX7_branches_34 : decode cX7_branches 34 = .ok (.goto 4, 3) := by decide +kernel
theorem dX7_branches_37 : decode cX7_branches 37 = .ok (.iconst 0, 1) := by decide +kernel
theorem dX7_branches_38 : decode cX7_branches 38 = .ok (.ireturn, 1) := by decide +kernel
theorem dX7_target_0 : decode cX7_target 0 = .ok (.aload_n 0, 1) := by decide +kernel
theorem dX7_target_1 : decode cX7_target 1 = .ok (.getfield 18, 3) := by decide +kernel
theorem dX7_target_4 : decode cX7_target 4 = .ok (.iload_n 1, 1) := by decide +kernel
theorem dX7_target_5 : decode cX7_target 5 = .ok (.iaload, 1) := by decide +kernel
theorem dX7_target_6 : decode cX7_target 6 = .ok (.bipush 9, 2) := by decide +kernel
theorem dX7_target_8 : decode cX7_target 8 = .ok (.if_icmp .ne 12, 3) := by decide +kernel
theorem dX7_target_11 : decode cX7_target 11 = .ok (.aload_n 0, 1) := by decide +kernel
theorem dX7_target_12 : decode cX7_target 12 = .ok (.getfield 21, 3) := by decide +kernel
theorem dX7_target_15 : decode cX7_target 15 = .ok (.iconst 3, 1) := by decide +kernel
theorem dX7_target_16 : decode cX7_target 16 = .ok (.iload_n 1, 1) := by decide +kernel
theorem dX7_target_17 : decode cX7_target 17 = .ok (.imul, 1) := by decide +kernel
theorem dX7_target_18 : decode cX7_target 18 = .ok (.iaload, 1) := by decide +kernel
theorem dX7_target_19 : decode cX7_target 19 = .ok (.ireturn, 1) := by decide +kernel
theorem dX7_target_20 : decode cX7_target 20 = .ok (.aload_n 0, 1) := by decide +kernel
theorem dX7_target_21 : decode cX7_target 21 = .ok (.getfield 21, 3) := by decide +kernel
theorem dX7_target_24 : decode cX7_target 24 = .ok (.iconst 3, 1) := by decide +kernel
theorem dX7_target_25 : decode cX7_target 25 = .ok (.iload_n 1, 1) := by decide +kernel
theorem dX7_target_26 : decode cX7_target 26 = .ok (.imul, 1) := by decide +kernel
theorem dX7_target_27 : decode cX7_target 27 = .ok (.aload_n 0, 1) := by decide +kernel
theorem dX7_target_28 : decode cX7_target 28 = .ok (.getfield 18, 3) := by decide +kernel
theorem dX7_target_31 : decode cX7_target 31 = .ok (.iload_n 1, 1) := by decide +kernel
theorem dX7_target_32 : decode cX7_target 32 = .ok (.iaload, 1) := by decide +kernel
theorem dX7_target_33 : decode cX7_target 33 = .ok (.bipush 8, 2) := by decide +kernel
theorem dX7_target_35 : decode cX7_target 35 = .ok (.if_icmp .ne 7, 3) := by decide +kernel
theorem dX7_target_38 : decode cX7_target 38 = .ok (.iconst 1, 1) := by decide +kernel
theorem dX7_target_39 : decode cX7_target 39 = .ok (.goto 4, 3) := by decide +kernel
theorem dX7_target_42 : decode cX7_target 42 = .ok (.iconst 2, 1) := by decide +kernel
theorem dX7_target_43 : decode cX7_target 43 = .ok (.iadd, 1) := by decide +kernel
theorem dX7_target_44 : decode cX7_target 44 = .ok (.iaload, 1) := by decide +kernel
theorem dX7_target_45 : decode cX7_target 45 = .ok (.ireturn, 1) := by decide +kernel
theorem dX7_takes_0 : decode cX7_takes 0 = .ok (.aload_n 2, 1) := by decide +kernel
theorem dX7_takes_1 : decode cX7_takes 1 = .ok (.iload_n 3, 1) := by decide +kernel
theorem dX7_takes_2 : decode cX7_takes 2 = .ok (.aload_n 0, 1) := by decide +kernel
theorem dX7_takes_3 : decode cX7_takes 3 = .ok (.getfield 21, 3) := by decide +kernel
theorem dX7_takes_6 : decode cX7_takes 6 = .ok (.iconst 3, 1) := by decide +kernel
theorem dX7_takes_7 : decode cX7_takes 7 = .ok (.iload_n 1, 1) := by decide +kernel
theorem dX7_takes_8 : decode cX7_takes 8 = .ok (.imul, 1) := by decide +kernel
theorem dX7_takes_9 : decode cX7_takes 9 = .ok (.iaload, 1) := by decide +kernel
theorem dX7_takes_10 : decode cX7_takes 10 = .ok (.iadd, 1) := by decide +kernel
theorem dX7_takes_11 : decode cX7_takes 11 = .ok (.iaload, 1) := by decide +kernel
theorem dX7_takes_12 : decode cX7_takes 12 = .ok (.istore 4, 2) := by decide +kernel
theorem dX7_takes_14 : decode cX7_takes 14 = .ok (.aload_n 0, 1) := by decide +kernel
theorem dX7_takes_15 : decode cX7_takes 15 = .ok (.getfield 18, 3) := by decide +kernel
theorem dX7_takes_18 : decode cX7_takes 18 = .ok (.iload_n 1, 1) := by decide +kernel
theorem dX7_takes_19 : decode cX7_takes 19 = .ok (.iaload, 1) := by decide +kernel
theorem dX7_takes_20 : decode cX7_takes 20 = .ok (.bipush 8, 2) := by decide +kernel
theorem dX7_takes_22 : decode cX7_takes 22 = .ok (.if_icmp .ne 17, 3) := by decide +kernel
theorem dX7_takes_25 : decode cX7_takes 25 = .ok (.iload 4, 2) := by decide +kernel
theorem dX7_takes_27 : decode cX7_takes 27 = .ok (.iconst 2, 1) := by decide +kernel
theorem dX7_takes_28 : decode cX7_takes 28 = .ok (.irem, 1) := by decide +kernel
theorem dX7_takes_29 : decode cX7_takes 29 = .ok (.iconst 1, 1) := by decide +kernel
theorem dX7_takes_30 : decode cX7_takes 30 = .ok (.if_icmp .ne 7, 3) := by decide +kernel
theorem dX7_takes_33 : decode cX7_takes 33 = .ok (.iconst 1, 1) := by decide +kernel
theorem dX7_takes_34 : decode cX7_takes 34 = .ok (.goto 4, 3) := by decide +kernel
theorem dX7_takes_37 : decode cX7_takes 37 = .ok (.iconst 0, 1) := by decide +kernel
theorem dX7_takes_38 : decode cX7_takes 38 = .ok (.ireturn, 1) := by decide +kernel
theorem dX7_takes_39 : decode cX7_takes 39 = .ok (.aload_n 2, 1) := by decide +kernel
theorem dX7_takes_40 : decode cX7_takes 40 = .ok (.iload_n 3, 1) := by decide +kernel
theorem dX7_takes_41 : decode cX7_takes 41 = .ok (.aload_n 0, 1) := by decide +kernel
theorem dX7_takes_42 : decode cX7_takes 42 = .ok (.getfield 21, 3) := by decide +kernel
theorem dX7_takes_45 : decode cX7_takes 45 = .ok (.iconst 3, 1) := by decide +kernel
theorem dX7_takes_46 : decode cX7_takes 46 = .ok (.iload_n 1, 1) := by decide +kernel
theorem dX7_takes_47 : decode cX7_takes 47 = .ok (.imul, 1) := by decide +kernel
theorem dX7_takes_48 : decode cX7_takes 48 = .ok (.iconst 1, 1) := by decide +kernel
theorem dX7_takes_49 : decode cX7_takes 49 = .ok (.iadd, 1) := by decide +kernel
theorem dX7_takes_50 : decode cX7_takes 50 = .ok (.iaload, 1) := by decide +kernel
theorem dX7_takes_51 : decode cX7_takes 51 = .ok (.iadd, 1) := by decide +kernel
theorem dX7_takes_52 : decode cX7_takes 52 = .ok (.iaload, 1) := by decide +kernel
theorem dX7_takes_53 : decode cX7_takes 53 = .ok (.istore 5, 2) := by decide +kernel
theorem dX7_takes_55 : decode cX7_takes 55 = .ok (.aload_n 0, 1) := by decide +kernel
theorem dX7_takes_56 : decode cX7_takes 56 = .ok (.getfield 18, 3) := by decide +kernel
theorem dX7_takes_59 : decode cX7_takes 59 = .ok (.iload_n 1, 1) := by decide +kernel
theorem dX7_takes_60 : decode cX7_takes 60 = .ok (.iaload, 1) := by decide +kernel
theorem dX7_takes_61 : decode cX7_takes 61 = .ok (.bipush 6, 2) := by decide +kernel
theorem dX7_takes_63 : decode cX7_takes 63 = .ok (.if_icmp .ne 18, 3) := by decide +kernel
theorem dX7_takes_66 : decode cX7_takes 66 = .ok (.iload 4, 2) := by decide +kernel
theorem dX7_takes_68 : decode cX7_takes 68 = .ok (.iload 5, 2) := by decide +kernel
theorem dX7_takes_70 : decode cX7_takes 70 = .ok (.if_icmp .ge 7, 3) := by decide +kernel
theorem dX7_takes_73 : decode cX7_takes 73 = .ok (.iconst 1, 1) := by decide +kernel
theorem dX7_takes_74 : decode cX7_takes 74 = .ok (.goto 19, 3) := by decide +kernel
theorem dX7_takes_77 : decode cX7_takes 77 = .ok (.iconst 0, 1) := by decide +kernel
theorem dX7_takes_78 : decode cX7_takes 78 = .ok (.goto 15, 3) := by decide +kernel
theorem dX7_takes_81 : decode cX7_takes 81 = .ok (.iload 4, 2) := by decide +kernel
theorem dX7_takes_83 : decode cX7_takes 83 = .ok (.iload 5, 2) := by decide +kernel
theorem dX7_takes_85 : decode cX7_takes 85 = .ok (.if_icmp .ne 7, 3) := by decide +kernel
theorem dX7_takes_88 : decode cX7_takes 88 = .ok (.iconst 1, 1) := by decide +kernel
theorem dX7_takes_89 : decode cX7_takes 89 = .ok (.goto 4, 3) := by decide +kernel
theorem dX7_takes_92 : decode cX7_takes 92 = .ok (.iconst 0, 1) := by decide +kernel
theorem dX7_takes_93 : decode cX7_takes 93 = .ok (.ireturn, 1) := by decide +kernel
theorem dX7_perform_0 : decode cX7_perform 0 = .ok (.aload_n 0, 1) := by decide +kernel
theorem dX7_perform_1 : decode cX7_perform 1 = .ok (.getfield 18, 3) := by decide +kernel
theorem dX7_perform_4 : decode cX7_perform 4 = .ok (.iload_n 1, 1) := by decide +kernel
theorem dX7_perform_5 : decode cX7_perform 5 = .ok (.iaload, 1) := by decide +kernel
theorem dX7_perform_6 : decode cX7_perform 6 = .ok (.bipush 9, 2) := by decide +kernel
theorem dX7_perform_8 : decode cX7_perform 8 = .ok (.if_icmp .ne 9, 3) := by decide +kernel
theorem dX7_perform_11 : decode cX7_perform 11 = .ok (.aload_n 0, 1) := by decide +kernel
theorem dX7_perform_12 : decode cX7_perform 12 = .ok (.iload_n 1, 1) := by decide +kernel
theorem dX7_perform_13 : decode cX7_perform 13 = .ok (.invokevirtual 60, 3) := by decide +kernel
theorem dX7_perform_16 : decode cX7_perform 16 = .ok (.ireturn, 1) := by decide +kernel
theorem dX7_perform_17 : decode cX7_perform 17 = .ok (.aload_n 0, 1) := by decide +kernel
theorem dX7_perform_18 : decode cX7_perform 18 = .ok (.iload_n 1, 1) := by decide +kernel
theorem dX7_perform_19 : decode cX7_perform 19 = .ok (.invokevirtual 64, 3) := by decide +kernel
theorem dX7_perform_22 : decode cX7_perform 22 = .ok (.ifCond .eq 25, 3) := by decide +kernel
theorem dX7_perform_25 : decode cX7_perform 25 = .ok (.aload_n 0, 1) := by decide +kernel
theorem dX7_perform_26 : decode cX7_perform 26 = .ok (.iload_n 1, 1) := by decide +kernel
theorem dX7_perform_27 : decode cX7_perform 27 = .ok (.aload_n 2, 1) := by decide +kernel
theorem dX7_perform_28 : decode cX7_perform 28 = .ok (.iload_n 3, 1) := by decide +kernel
theorem dX7_perform_29 : decode cX7_perform 29 = .ok (.invokevirtual 67, 3) := by decide +kernel
theorem dX7_perform_32 : decode cX7_perform 32 = .ok (.ifCond .eq 11, 3) := by decide +kernel
theorem dX7_perform_35 : decode cX7_perform 35 = .ok (.aload_n 0, 1) := by decide +kernel
theorem dX7_perform_36 : decode cX7_perform 36 = .ok (.iload_n 1, 1) := by decide +kernel
theorem dX7_perform_37 : decode cX7_perform 37 = .ok (.invokevirtual 60, 3) := by decide +kernel
theorem dX7_perform_40 : decode cX7_perform 40 = .ok (.goto 6, 3) := by decide +kernel
theorem dX7_perform_43 : decode cX7_perform 43 = .ok (.iload_n 1, 1) := by decide +kernel
theorem dX7_perform_44 : decode cX7_perform 44 = .ok (.iconst 1, 1) := by decide +kernel
theorem dX7_perform_45 : decode cX7_perform 45 = .ok (.iadd, 1) := by decide +kernel
theorem dX7_perform_46 : decode cX7_perform 46 = .ok (.ireturn, 1) := by decide +kernel
theorem dX7_perform_47 : decode cX7_perform 47 = .ok (.iload_n 3, 1) := by decide +kernel
theorem dX7_perform_48 : decode cX7_perform 48 = .ok (.aload_n 0, 1) := by decide +kernel
theorem dX7_perform_49 : decode cX7_perform 49 = .ok (.getfield 21, 3) := by decide +kernel
theorem dX7_perform_52 : decode cX7_perform 52 = .ok (.iconst 3, 1) := by decide +kernel
theorem dX7_perform_53 : decode cX7_perform 53 = .ok (.iload_n 1, 1) := by decide +kernel
theorem dX7_perform_54 : decode cX7_perform 54 = .ok (.imul, 1) := by decide +kernel
theorem dX7_perform_55 : decode cX7_perform 55 = .ok (.iaload, 1) := by decide +kernel
theorem dX7_perform_56 : decode cX7_perform 56 = .ok (.iadd, 1) := by decide +kernel
theorem dX7_perform_57 : decode cX7_perform 57 = .ok (.istore 4, 2) := by decide +kernel
theorem dX7_perform_59 : decode cX7_perform 59 = .ok (.aload_n 0, 1) := by decide +kernel
theorem dX7_perform_60 : decode cX7_perform 60 = .ok (.getfield 21, 3) := by decide +kernel
theorem dX7_perform_63 : decode cX7_perform 63 = .ok (.iconst 3, 1) := by decide +kernel
theorem dX7_perform_64 : decode cX7_perform 64 = .ok (.iload_n 1, 1) := by decide +kernel
theorem dX7_perform_65 : decode cX7_perform 65 = .ok (.imul, 1) := by decide +kernel
theorem dX7_perform_66 : decode cX7_perform 66 = .ok (.iconst 1, 1) := by decide +kernel
theorem dX7_perform_67 : decode cX7_perform 67 = .ok (.iadd, 1) := by decide +kernel
theorem dX7_perform_68 : decode cX7_perform 68 = .ok (.iaload, 1) := by decide +kernel
theorem dX7_perform_69 : decode cX7_perform 69 = .ok (.istore 5, 2) := by decide +kernel
theorem dX7_perform_71 : decode cX7_perform 71 = .ok (.aload_n 0, 1) := by decide +kernel
theorem dX7_perform_72 : decode cX7_perform 72 = .ok (.getfield 18, 3) := by decide +kernel
theorem dX7_perform_75 : decode cX7_perform 75 = .ok (.iload_n 1, 1) := by decide +kernel
theorem dX7_perform_76 : decode cX7_perform 76 = .ok (.iaload, 1) := by decide +kernel
theorem dX7_perform_77 : decode cX7_perform 77 = .ok (.tableswitch 149 0 5 #[39, 48, 66, 88, 101, 123], 39) := by decide +kernel
theorem dX7_perform_116 : decode cX7_perform 116 = .ok (.aload_n 2, 1) := by decide +kernel
theorem dX7_perform_117 : decode cX7_perform 117 = .ok (.iload 4, 2) := by decide +kernel
theorem dX7_perform_119 : decode cX7_perform 119 = .ok (.iload 5, 2) := by decide +kernel
theorem dX7_perform_121 : decode cX7_perform 121 = .ok (.iastore, 1) := by decide +kernel
theorem dX7_perform_122 : decode cX7_perform 122 = .ok (.goto 104, 3) := by decide +kernel
theorem dX7_perform_125 : decode cX7_perform 125 = .ok (.aload_n 2, 1) := by decide +kernel
theorem dX7_perform_126 : decode cX7_perform 126 = .ok (.iload 4, 2) := by decide +kernel
theorem dX7_perform_128 : decode cX7_perform 128 = .ok (.aload_n 2, 1) := by decide +kernel
theorem dX7_perform_129 : decode cX7_perform 129 = .ok (.iload 4, 2) := by decide +kernel
theorem dX7_perform_131 : decode cX7_perform 131 = .ok (.iaload, 1) := by decide +kernel
theorem dX7_perform_132 : decode cX7_perform 132 = .ok (.iload 5, 2) := by decide +kernel
theorem dX7_perform_134 : decode cX7_perform 134 = .ok (.iadd, 1) := by decide +kernel
theorem dX7_perform_135 : decode cX7_perform 135 = .ok (.sipush 1000, 3) := by decide +kernel
theorem dX7_perform_138 : decode cX7_perform 138 = .ok (.irem, 1) := by decide +kernel
theorem dX7_perform_139 : decode cX7_perform 139 = .ok (.iastore, 1) := by decide +kernel
theorem dX7_perform_140 : decode cX7_perform 140 = .ok (.goto 86, 3) := by decide +kernel
theorem dX7_perform_143 : decode cX7_perform 143 = .ok (.aload_n 2, 1) := by decide +kernel
theorem dX7_perform_144 : decode cX7_perform 144 = .ok (.iload 4, 2) := by decide +kernel
theorem dX7_perform_146 : decode cX7_perform 146 = .ok (.aload_n 2, 1) := by decide +kernel
theorem dX7_perform_147 : decode cX7_perform 147 = .ok (.iload 4, 2) := by decide +kernel
theorem dX7_perform_149 : decode cX7_perform 149 = .ok (.iaload, 1) := by decide +kernel
theorem dX7_perform_150 : decode cX7_perform 150 = .ok (.iload 5, 2) := by decide +kernel
theorem dX7_perform_152 : decode cX7_perform 152 = .ok (.isub, 1) := by decide +kernel
theorem dX7_perform_153 : decode cX7_perform 153 = .ok (.sipush 1000, 3) := by decide +kernel
theorem dX7_perform_156 : decode cX7_perform 156 = .ok (.iadd, 1) := by decide +kernel
theorem dX7_perform_157 : decode cX7_perform 157 = .ok (.sipush 1000, 3) := by decide +kernel
theorem dX7_perform_160 : decode cX7_perform 160 = .ok (.irem, 1) := by decide +kernel
theorem dX7_perform_161 : decode cX7_perform 161 = .ok (.iastore, 1) := by decide +kernel
theorem dX7_perform_162 : decode cX7_perform 162 = .ok (.goto 64, 3) := by decide +kernel
theorem dX7_perform_165 : decode cX7_perform 165 = .ok (.aload_n 2, 1) := by decide +kernel
theorem dX7_perform_166 : decode cX7_perform 166 = .ok (.iload 4, 2) := by decide +kernel
theorem dX7_perform_168 : decode cX7_perform 168 = .ok (.aload_n 2, 1) := by decide +kernel
theorem dX7_perform_169 : decode cX7_perform 169 = .ok (.iload_n 3, 1) := by decide +kernel
theorem dX7_perform_170 : decode cX7_perform 170 = .ok (.iload 5, 2) := by decide +kernel
theorem dX7_perform_172 : decode cX7_perform 172 = .ok (.iadd, 1) := by decide +kernel
theorem dX7_perform_173 : decode cX7_perform 173 = .ok (.iaload, 1) := by decide +kernel
theorem dX7_perform_174 : decode cX7_perform 174 = .ok (.iastore, 1) := by decide +kernel
theorem dX7_perform_175 : decode cX7_perform 175 = .ok (.goto 51, 3) := by decide +kernel
theorem dX7_perform_178 : decode cX7_perform 178 = .ok (.aload_n 2, 1) := by decide +kernel
theorem dX7_perform_179 : decode cX7_perform 179 = .ok (.iload 4, 2) := by decide +kernel
theorem dX7_perform_181 : decode cX7_perform 181 = .ok (.aload_n 2, 1) := by decide +kernel
theorem dX7_perform_182 : decode cX7_perform 182 = .ok (.iload 4, 2) := by decide +kernel
theorem dX7_perform_184 : decode cX7_perform 184 = .ok (.iaload, 1) := by decide +kernel
theorem dX7_perform_185 : decode cX7_perform 185 = .ok (.aload_n 2, 1) := by decide +kernel
theorem dX7_perform_186 : decode cX7_perform 186 = .ok (.iload_n 3, 1) := by decide +kernel
theorem dX7_perform_187 : decode cX7_perform 187 = .ok (.iload 5, 2) := by decide +kernel
theorem dX7_perform_189 : decode cX7_perform 189 = .ok (.iadd, 1) := by decide +kernel
theorem dX7_perform_190 : decode cX7_perform 190 = .ok (.iaload, 1) := by decide +kernel
theorem dX7_perform_191 : decode cX7_perform 191 = .ok (.iadd, 1) := by decide +kernel
theorem dX7_perform_192 : decode cX7_perform 192 = .ok (.sipush 1000, 3) := by decide +kernel
theorem dX7_perform_195 : decode cX7_perform 195 = .ok (.irem, 1) := by decide +kernel
theorem dX7_perform_196 : decode cX7_perform 196 = .ok (.iastore, 1) := by decide +kernel
theorem dX7_perform_197 : decode cX7_perform 197 = .ok (.goto 29, 3) := by decide +kernel
theorem dX7_perform_200 : decode cX7_perform 200 = .ok (.aload_n 2, 1) := by decide +kernel
theorem dX7_perform_201 : decode cX7_perform 201 = .ok (.iload 4, 2) := by decide +kernel
theorem dX7_perform_203 : decode cX7_perform 203 = .ok (.aload_n 2, 1) := by decide +kernel
theorem dX7_perform_204 : decode cX7_perform 204 = .ok (.iload 4, 2) := by decide +kernel
theorem dX7_perform_206 : decode cX7_perform 206 = .ok (.iaload, 1) := by decide +kernel
theorem dX7_perform_207 : decode cX7_perform 207 = .ok (.aload_n 2, 1) := by decide +kernel
theorem dX7_perform_208 : decode cX7_perform 208 = .ok (.iload_n 3, 1) := by decide +kernel
theorem dX7_perform_209 : decode cX7_perform 209 = .ok (.iload 5, 2) := by decide +kernel
theorem dX7_perform_211 : decode cX7_perform 211 = .ok (.iadd, 1) := by decide +kernel
theorem dX7_perform_212 : decode cX7_perform 212 = .ok (.iaload, 1) := by decide +kernel
theorem dX7_perform_213 : decode cX7_perform 213 = .ok (.isub, 1) := by decide +kernel
theorem dX7_perform_214 : decode cX7_perform 214 = .ok (.sipush 1000, 3) := by decide +kernel
theorem dX7_perform_217 : decode cX7_perform 217 = .ok (.iadd, 1) := by decide +kernel
theorem dX7_perform_218 : decode cX7_perform 218 = .ok (.sipush 1000, 3) := by decide +kernel
theorem dX7_perform_221 : decode cX7_perform 221 = .ok (.irem, 1) := by decide +kernel
theorem dX7_perform_222 : decode cX7_perform 222 = .ok (.iastore, 1) := by decide +kernel
theorem dX7_perform_223 : decode cX7_perform 223 = .ok (.goto 3, 3) := by decide +kernel
theorem dX7_perform_226 : decode cX7_perform 226 = .ok (.iload_n 1, 1) := by decide +kernel
theorem dX7_perform_227 : decode cX7_perform 227 = .ok (.iconst 1, 1) := by decide +kernel
theorem dX7_perform_228 : decode cX7_perform 228 = .ok (.iadd, 1) := by decide +kernel
theorem dX7_perform_229 : decode cX7_perform 229 = .ok (.ireturn, 1) := by decide +kernel
theorem dX8_init_0 : decode cX8_init 0 = .ok (.aload_n 0, 1) := by decide +kernel
theorem dX8_init_1 : decode cX8_init 1 = .ok (.invokespecial 3, 3) := by decide +kernel
theorem dX8_init_4 : decode cX8_init 4 = .ok (.aload_n 0, 1) := by decide +kernel
theorem dX8_init_5 : decode cX8_init 5 = .ok (.sipush 2160, 3) := by decide +kernel
theorem dX8_init_8 : decode cX8_init 8 = .ok (.newarray .int, 2) := by decide +kernel
theorem dX8_init_10 : decode cX8_init 10 = .ok (.putfield 9, 3) := by decide +kernel
theorem dX8_init_13 : decode cX8_init 13 = .ok (.return_, 1) := by decide +kernel
theorem dX8_clear_0 : decode cX8_clear 0 = .ok (.aload_n 0, 1) := by decide +kernel
theorem dX8_clear_1 : decode cX8_clear 1 = .ok (.iconst 0, 1) := by decide +kernel
theorem dX8_clear_2 : decode cX8_clear 2 = .ok (.putfield 15, 3) := by decide +kernel
theorem dX8_clear_5 : decode cX8_clear 5 = .ok (.aload_n 0, 1) := by decide +kernel
theorem dX8_clear_6 : decode cX8_clear 6 = .ok (.iconst 0, 1) := by decide +kernel
theorem dX8_clear_7 : decode cX8_clear 7 = .ok (.putfield 19, 3) := by decide +kernel
theorem dX8_clear_10 : decode cX8_clear 10 = .ok (.return_, 1) := by decide +kernel
theorem dX8_add_0 : decode cX8_add 0 = .ok (.aload_n 0, 1) := by decide +kernel
theorem dX8_add_1 : decode cX8_add 1 = .ok (.getfield 15, 3) := by decide +kernel
theorem dX8_add_4 : decode cX8_add 4 = .ok (.sipush 240, 3) := by decide +kernel
theorem dX8_add_7 : decode cX8_add 7 = .ok (.if_icmp .lt 4, 3) := by decide +kernel
theorem dX8_add_10 : decode cX8_add 10 = .ok (.return_, 1) := by decide +kernel
theorem dX8_add_11 : decode cX8_add 11 = .ok (.aload_n 0, 1) := by decide +kernel
theorem dX8_add_12 : decode cX8_add 12 = .ok (.aload_n 0, 1) := by decide +kernel
theorem dX8_add_13 : decode cX8_add 13 = .ok (.getfield 15, 3) := by decide +kernel
theorem dX8_add_16 : decode cX8_add 16 = .ok (.iconst 0, 1) := by decide +kernel
theorem dX8_add_17 : decode cX8_add 17 = .ok (.iload_n 1, 1) := by decide +kernel
theorem dX8_add_18 : decode cX8_add 18 = .ok (.invokevirtual 22, 3) := by decide +kernel
theorem dX8_add_21 : decode cX8_add 21 = .ok (.aload_n 0, 1) := by decide +kernel
theorem dX8_add_22 : decode cX8_add 22 = .ok (.aload_n 0, 1) := by decide +kernel
theorem dX8_add_23 : decode cX8_add 23 = .ok (.getfield 15, 3) := by decide +kernel
theorem dX8_add_26 : decode cX8_add 26 = .ok (.iconst 1, 1) := by decide +kernel
theorem dX8_add_27 : decode cX8_add 27 = .ok (.iload_n 2, 1) := by decide +kernel
theorem dX8_add_28 : decode cX8_add 28 = .ok (.invokevirtual 22, 3) := by decide +kernel
theorem dX8_add_31 : decode cX8_add 31 = .ok (.aload_n 0, 1) := by decide +kernel
theorem dX8_add_32 : decode cX8_add 32 = .ok (.aload_n 0, 1) := by decide +kernel
theorem dX8_add_33 : decode cX8_add 33 = .ok (.getfield 15, 3) := by decide +kernel
theorem dX8_add_36 : decode cX8_add 36 = .ok (.bipush 8, 2) := by decide +kernel
theorem dX8_add_38 : decode cX8_add 38 = .ok (.iload_n 3, 1) := by decide +kernel
theorem dX8_add_39 : decode cX8_add 39 = .ok (.invokevirtual 22, 3) := by decide +kernel
theorem dX8_add_42 : decode cX8_add 42 = .ok (.aload_n 0, 1) := by decide +kernel
theorem dX8_add_43 : decode cX8_add 43 = .ok (.dup, 1) := by decide +kernel
theorem dX8_add_44 : decode cX8_add 44 = .ok (.getfield 15, 3) := by decide +kernel
theorem dX8_add_47 : decode cX8_add 47 = .ok (.iconst 1, 1) := by decide +kernel
theorem dX8_add_48 : decode cX8_add 48 = .ok (.iadd, 1) := by decide +kernel
theorem dX8_add_49 : decode cX8_add 49 = .ok (.putfield 15, 3) := by decide +kernel
theorem dX8_add_52 : decode cX8_add 52 = .ok (.return_, 1) := by decide +kernel
theorem dX8_note_0 : decode cX8_note 0 = .ok (.aload_n 0, 1) := by decide +kernel
theorem dX8_note_1 : decode cX8_note 1 = .ok (.iload_n 1, 1) := by decide +kernel
theorem dX8_note_2 : decode cX8_note 2 = .ok (.iconst 2, 1) := by decide +kernel
theorem dX8_note_3 : decode cX8_note 3 = .ok (.aload_n 2, 1) := by decide +kernel
theorem dX8_note_4 : decode cX8_note 4 = .ok (.getfield 26, 3) := by decide +kernel
theorem dX8_note_7 : decode cX8_note 7 = .ok (.invokevirtual 22, 3) := by decide +kernel
theorem dX8_note_10 : decode cX8_note 10 = .ok (.aload_n 0, 1) := by decide +kernel
theorem dX8_note_11 : decode cX8_note 11 = .ok (.iload_n 1, 1) := by decide +kernel
theorem dX8_note_12 : decode cX8_note 12 = .ok (.iconst 3, 1) := by decide +kernel
theorem dX8_note_13 : decode cX8_note 13 = .ok (.aload_n 2, 1) := by decide +kernel
theorem dX8_note_14 : decode cX8_note 14 = .ok (.getfield 31, 3) := by decide +kernel
theorem dX8_note_17 : decode cX8_note 17 = .ok (.getfield 35, 3) := by decide +kernel
theorem dX8_note_20 : decode cX8_note 20 = .ok (.invokevirtual 22, 3) := by decide +kernel
theorem dX8_note_23 : decode cX8_note 23 = .ok (.aload_n 0, 1) := by decide +kernel
theorem dX8_note_24 : decode cX8_note 24 = .ok (.iload_n 1, 1) := by decide +kernel
theorem dX8_note_25 : decode cX8_note 25 = .ok (.iconst 4, 1) := by decide +kernel
theorem dX8_note_26 : decode cX8_note 26 = .ok (.aload_n 2, 1) := by decide +kernel
theorem dX8_note_27 : decode cX8_note 27 = .ok (.getfield 31, 3) := by decide +kernel
theorem dX8_note_30 : decode cX8_note 30 = .ok (.getfield 40, 3) := by decide +kernel
theorem dX8_note_33 : decode cX8_note 33 = .ok (.invokevirtual 22, 3) := by decide +kernel
theorem dX8_note_36 : decode cX8_note 36 = .ok (.aload_n 0, 1) := by decide +kernel
theorem dX8_note_37 : decode cX8_note 37 = .ok (.iload_n 1, 1) := by decide +kernel
theorem dX8_note_38 : decode cX8_note 38 = .ok (.iconst 5, 1) := by decide +kernel
theorem dX8_note_39 : decode cX8_note 39 = .ok (.aload_n 2, 1) := by decide +kernel
theorem dX8_note_40 : decode cX8_note 40 = .ok (.getfield 31, 3) := by decide +kernel
theorem dX8_note_43 : decode cX8_note 43 = .ok (.getfield 43, 3) := by decide +kernel
theorem dX8_note_46 : decode cX8_note 46 = .ok (.ifCond .eq 7, 3) := by decide +kernel
theorem dX8_note_49 : decode cX8_note 49 = .ok (.iconst 1, 1) := by decide +kernel
theorem dX8_note_50 : decode cX8_note 50 = .ok (.goto 4, 3) := by decide +kernel
theorem dX8_note_53 : decode cX8_note 53 = .ok (.iconst 0, 1) := by decide +kernel
theorem dX8_note_54 : decode cX8_note 54 = .ok (.invokevirtual 22, 3) := by decide +kernel
theorem dX8_note_57 : decode cX8_note 57 = .ok (.aload_n 0, 1) := by decide +kernel
theorem dX8_note_58 : decode cX8_note 58 = .ok (.iload_n 1, 1) := by decide +kernel
theorem dX8_note_59 : decode cX8_note 59 = .ok (.bipush 6, 2) := by decide +kernel
theorem dX8_note_61 : decode cX8_note 61 = .ok (.aload_n 2, 1) := by decide +kernel
theorem dX8_note_62 : decode cX8_note 62 = .ok (.getfield 31, 3) := by decide +kernel
theorem dX8_note_65 : decode cX8_note 65 = .ok (.getfield 47, 3) := by decide +kernel
theorem dX8_note_68 : decode cX8_note 68 = .ok (.invokevirtual 22, 3) := by decide +kernel
theorem dX8_note_71 : decode cX8_note 71 = .ok (.aload_n 0, 1) := by decide +kernel
theorem dX8_note_72 : decode cX8_note 72 = .ok (.iload_n 1, 1) := by decide +kernel
theorem dX8_note_73 : decode cX8_note 73 = .ok (.bipush 7, 2) := by decide +kernel
theorem dX8_note_75 : decode cX8_note 75 = .ok (.aload_n 2, 1) := by decide +kernel
theorem dX8_note_76 : decode cX8_note 76 = .ok (.getfield 50, 3) := by decide +kernel
theorem dX8_note_79 : decode cX8_note 79 = .ok (.invokevirtual 22, 3) := by decide +kernel
theorem dX8_note_82 : decode cX8_note 82 = .ok (.return_, 1) := by decide +kernel
theorem dX8_fact_0 : decode cX8_fact 0 = .ok (.aload_n 0, 1) := by decide +kernel
theorem dX8_fact_1 : decode cX8_fact 1 = .ok (.getfield 9, 3) := by decide +kernel
theorem dX8_fact_4 : decode cX8_fact 4 = .ok (.bipush 9, 2) := by decide +kernel
theorem dX8_fact_6 : decode cX8_fact 6 = .ok (.iload_n 1, 1) := by decide +kernel
theorem dX8_fact_7 : decode cX8_fact 7 = .ok (.imul, 1) := by decide +kernel
theorem dX8_fact_8 : decode cX8_fact 8 = .ok (.iload_n 2, 1) := by decide +kernel
theorem dX8_fact_9 : decode cX8_fact 9 = .ok (.iadd, 1) := by decide +kernel
theorem dX8_fact_10 : decode cX8_fact 10 = .ok (.iaload, 1) := by decide +kernel
theorem dX8_fact_11 : decode cX8_fact 11 = .ok (.ireturn, 1) := by decide +kernel
theorem dX8_set_0 : decode cX8_set 0 = .ok (.aload_n 0, 1) := by decide +kernel
theorem dX8_set_1 : decode cX8_set 1 = .ok (.getfield 9, 3) := by decide +kernel
theorem dX8_set_4 : decode cX8_set 4 = .ok (.bipush 9, 2) := by decide +kernel
theorem dX8_set_6 : decode cX8_set 6 = .ok (.iload_n 1, 1) := by decide +kernel
theorem dX8_set_7 : decode cX8_set 7 = .ok (.imul, 1) := by decide +kernel
theorem dX8_set_8 : decode cX8_set 8 = .ok (.iload_n 2, 1) := by decide +kernel
theorem dX8_set_9 : decode cX8_set 9 = .ok (.iadd, 1) := by decide +kernel
theorem dX8_set_10 : decode cX8_set 10 = .ok (.iload_n 3, 1) := by decide +kernel
theorem dX8_set_11 : decode cX8_set 11 = .ok (.iastore, 1) := by decide +kernel
theorem dX8_set_12 : decode cX8_set 12 = .ok (.return_, 1) := by decide +kernel
theorem dX8_isWrong_0 : decode cX8_isWrong 0 = .ok (.aload_n 0, 1) := by decide +kernel
theorem dX8_isWrong_1 : decode cX8_isWrong 1 = .ok (.iload_n 1, 1) := by decide +kernel
theorem dX8_isWrong_2 : decode cX8_isWrong 2 = .ok (.iconst 2, 1) := by decide +kernel
theorem dX8_isWrong_3 : decode cX8_isWrong 3 = .ok (.invokevirtual 53, 3) := by decide +kernel
theorem dX8_isWrong_6 : decode cX8_isWrong 6 = .ok (.aload_n 0, 1) := by decide +kernel
theorem dX8_isWrong_7 : decode cX8_isWrong 7 = .ok (.iload_n 1, 1) := by decide +kernel
theorem dX8_isWrong_8 : decode cX8_isWrong 8 = .ok (.iconst 1, 1) := by decide +kernel
theorem dX8_isWrong_9 : decode cX8_isWrong 9 = .ok (.invokevirtual 53, 3) := by decide +kernel
theorem dX8_isWrong_12 : decode cX8_isWrong 12 = .ok (.if_icmp .eq 7, 3) := by decide +kernel
theorem dX8_isWrong_15 : decode cX8_isWrong 15 = .ok (.iconst 1, 1) := by decide +kernel
theorem dX8_isWrong_16 : decode cX8_isWrong 16 = .ok (.goto 4, 3) := by decide +kernel
theorem dX8_isWrong_19 : decode cX8_isWrong 19 = .ok (.iconst 0, 1) := by decide +kernel
theorem dX8_isWrong_20 : decode cX8_isWrong 20 = .ok (.ireturn, 1) := by decide +kernel
theorem dX8_wrongsAt_0 : decode cX8_wrongsAt 0 = .ok (.iconst 0, 1) := by decide +kernel
theorem dX8_wrongsAt_1 : decode cX8_wrongsAt 1 = .ok (.istore_n 2, 1) := by decide +kernel
theorem dX8_wrongsAt_2 : decode cX8_wrongsAt 2 = .ok (.iconst 0, 1) := by decide +kernel
theorem dX8_wrongsAt_3 : decode cX8_wrongsAt 3 = .ok (.istore_n 3, 1) := by decide +kernel
theorem dX8_wrongsAt_4 : decode cX8_wrongsAt 4 = .ok (.iload_n 3, 1) := by decide +kernel
theorem dX8_wrongsAt_5 : decode cX8_wrongsAt 5 = .ok (.aload_n 0, 1) := by decide +kernel
theorem dX8_wrongsAt_6 : decode cX8_wrongsAt 6 = .ok (.getfield 15, 3) := by decide +kernel
theorem dX8_wrongsAt_9 : decode cX8_wrongsAt 9 = .ok (.if_icmp .ge 30, 3) := by decide +kernel
theorem dX8_wrongsAt_12 : decode cX8_wrongsAt 12 = .ok (.aload_n 0, 1) := by decide +kernel
theorem dX8_wrongsAt_13 : decode cX8_wrongsAt 13 = .ok (.iload_n 3, 1) := by decide +kernel
theorem dX8_wrongsAt_14 : decode cX8_wrongsAt 14 = .ok (.invokevirtual 57, 3) := by decide +kernel
theorem dX8_wrongsAt_17 : decode cX8_wrongsAt 17 = .ok (.ifCond .eq 16, 3) := by decide +kernel
theorem dX8_wrongsAt_20 : decode cX8_wrongsAt 20 = .ok (.aload_n 0, 1) := by decide +kernel
theorem dX8_wrongsAt_21 : decode cX8_wrongsAt 21 = .ok (.iload_n 3, 1) := by decide +kernel
theorem dX8_wrongsAt_22 : decode cX8_wrongsAt 22 = .ok (.iconst 0, 1) := by decide +kernel
theorem dX8_wrongsAt_23 : decode cX8_wrongsAt 23 = .ok (.invokevirtual 53, 3) := by decide +kernel
theorem dX8_wrongsAt_26 : decode cX8_wrongsAt 26 = .ok (.iload_n 1, 1) := by decide +kernel
theorem dX8_wrongsAt_27 : decode cX8_wrongsAt 27 = .ok (.if_icmp .ne 6, 3) := by decide +kernel
theorem dX8_wrongsAt_30 : decode cX8_wrongsAt 30 = .ok (.iinc 2 1, 3) := by decide +kernel
theorem dX8_wrongsAt_33 : decode cX8_wrongsAt 33 = .ok (.iinc 3 1, 3) := by decide +kernel
theorem dX8_wrongsAt_36 : decode cX8_wrongsAt 36 = .ok (.goto (-32), 3) := by decide +kernel
theorem dX8_wrongsAt_39 : decode cX8_wrongsAt 39 = .ok (.iload_n 2, 1) := by decide +kernel
theorem dX8_wrongsAt_40 : decode cX8_wrongsAt 40 = .ok (.ireturn, 1) := by decide +kernel
theorem dX8_countOf_0 : decode cX8_countOf 0 = .ok (.iconst 0, 1) := by decide +kernel
theorem dX8_countOf_1 : decode cX8_countOf 1 = .ok (.istore_n 3, 1) := by decide +kernel
theorem dX8_countOf_2 : decode cX8_countOf 2 = .ok (.iconst 0, 1) := by decide +kernel
theorem dX8_countOf_3 : decode cX8_countOf 3 = .ok (.istore 4, 2) := by decide +kernel
theorem dX8_countOf_5 : decode cX8_countOf 5 = .ok (.iload 4, 2) := by decide +kernel
theorem dX8_countOf_7 : decode cX8_countOf 7 = .ok (.aload_n 0, 1) := by decide +kernel
theorem dX8_countOf_8 : decode cX8_countOf 8 = .ok (.getfield 15, 3) := by decide +kernel
theorem dX8_countOf_11 : decode cX8_countOf 11 = .ok (.if_icmp .ge 23, 3) := by decide +kernel
theorem dX8_countOf_14 : decode cX8_countOf 14 = .ok (.aload_n 0, 1) := by decide +kernel
theorem dX8_countOf_15 : decode cX8_countOf 15 = .ok (.iload 4, 2) := by decide +kernel
theorem dX8_countOf_17 : decode cX8_countOf 17 = .ok (.iload_n 1, 1) := by decide +kernel
theorem dX8_countOf_18 : decode cX8_countOf 18 = .ok (.invokevirtual 53, 3) := by decide +kernel
theorem dX8_countOf_21 : decode cX8_countOf 21 = .ok (.iload_n 2, 1) := by decide +kernel
theorem dX8_countOf_22 : decode cX8_countOf 22 = .ok (.if_icmp .ne 6, 3) := by decide +kernel
theorem dX8_countOf_25 : decode cX8_countOf 25 = .ok (.iinc 3 1, 3) := by decide +kernel
theorem dX8_countOf_28 : decode cX8_countOf 28 = .ok (.iinc 4 1, 3) := by decide +kernel
theorem dX8_countOf_31 : decode cX8_countOf 31 = .ok (.goto (-26), 3) := by decide +kernel
theorem dX8_countOf_34 : decode cX8_countOf 34 = .ok (.iload_n 3, 1) := by decide +kernel
theorem dX8_countOf_35 : decode cX8_countOf 35 = .ok (.ireturn, 1) := by decide +kernel
theorem dX9_init_0 : decode cX9_init 0 = .ok (.aload_n 0, 1) := by decide +kernel
theorem dX9_init_1 : decode cX9_init 1 = .ok (.invokespecial 3, 3) := by decide +kernel
theorem dX9_init_4 : decode cX9_init 4 = .ok (.aload_n 0, 1) := by decide +kernel
theorem dX9_init_5 : decode cX9_init 5 = .ok (.new 9, 3) := by decide +kernel
theorem dX9_init_8 : decode cX9_init 8 = .ok (.dup, 1) := by decide +kernel
theorem dX9_init_9 : decode cX9_init 9 = .ok (.invokespecial 11, 3) := by decide +kernel
theorem dX9_init_12 : decode cX9_init 12 = .ok (.putfield 12, 3) := by decide +kernel
theorem dX9_init_15 : decode cX9_init 15 = .ok (.aload_n 0, 1) := by decide +kernel
theorem dX9_init_16 : decode cX9_init 16 = .ok (.new 16, 3) := by decide +kernel
theorem dX9_init_19 : decode cX9_init 19 = .ok (.dup, 1) := by decide +kernel
theorem dX9_init_20 : decode cX9_init 20 = .ok (.invokespecial 18, 3) := by decide +kernel
theorem dX9_init_23 : decode cX9_init 23 = .ok (.putfield 19, 3) := by decide +kernel
theorem dX9_init_26 : decode cX9_init 26 = .ok (.aload_n 0, 1) := by decide +kernel
theorem dX9_init_27 : decode cX9_init 27 = .ok (.new 16, 3) := by decide +kernel
theorem dX9_init_30 : decode cX9_init 30 = .ok (.dup, 1) := by decide +kernel
theorem dX9_init_31 : decode cX9_init 31 = .ok (.invokespecial 18, 3) := by decide +kernel
theorem dX9_init_34 : decode cX9_init 34 = .ok (.putfield 23, 3) := by decide +kernel
theorem dX9_init_37 : decode cX9_init 37 = .ok (.aload_n 0, 1) := by decide +kernel
theorem dX9_init_38 : decode cX9_init 38 = .ok (.iconst 3, 1) := by decide +kernel
theorem dX9_init_39 : decode cX9_init 39 = .ok (.anewarray 16, 3) := by decide +kernel
theorem dX9_init_42 : decode cX9_init 42 = .ok (.putfield 26, 3) := by decide +kernel
theorem dX9_init_45 : decode cX9_init 45 = .ok (.iconst 0, 1) := by decide +kernel
theorem dX9_init_46 : decode cX9_init 46 = .ok (.istore_n 1, 1) := by decide +kernel
theorem dX9_init_47 : decode cX9_init 47 = .ok (.iload_n 1, 1) := by decide +kernel
theorem dX9_init_48 : decode cX9_init 48 = .ok (.iconst 3, 1) := by decide +kernel
theorem dX9_init_49 : decode cX9_init 49 = .ok (.if_icmp .ge 22, 3) := by decide +kernel
theorem dX9_init_52 : decode cX9_init 52 = .ok (.aload_n 0, 1) := by decide +kernel
theorem dX9_init_53 : decode cX9_init 53 = .ok (.getfield 26, 3) := by decide +kernel
theorem dX9_init_56 : decode cX9_init 56 = .ok (.iload_n 1, 1) := by decide +kernel
theorem dX9_init_57 : decode cX9_init 57 = .ok (.new 16, 3) := by decide +kernel
theorem dX9_init_60 : decode cX9_init 60 = .ok (.dup, 1) := by decide +kernel
theorem dX9_init_61 : decode cX9_init 61 = .ok (.invokespecial 18, 3) := by decide +kernel
theorem dX9_init_64 : decode cX9_init 64 = .ok (.aastore, 1) := by decide +kernel
theorem dX9_init_65 : decode cX9_init 65 = .ok (.iinc 1 1, 3) := by decide +kernel
theorem dX9_init_68 : decode cX9_init 68 = .ok (.goto (-21), 3) := by decide +kernel
theorem dX9_init_71 : decode cX9_init 71 = .ok (.aload_n 0, 1) := by decide +kernel
theorem dX9_init_72 : decode cX9_init 72 = .ok (.iconst 3, 1) := by decide +kernel
theorem dX9_init_73 : decode cX9_init 73 = .ok (.newarray .boolean, 2) := by decide +kernel
theorem dX9_init_75 : decode cX9_init 75 = .ok (.putfield 30, 3) := by decide +kernel
theorem dX9_init_78 : decode cX9_init 78 = .ok (.aload_n 0, 1) := by decide +kernel
theorem dX9_init_79 : decode cX9_init 79 = .ok (.new 34, 3) := by decide +kernel
theorem dX9_init_82 : decode cX9_init 82 = .ok (.dup, 1) := by decide +kernel
theorem dX9_init_83 : decode cX9_init 83 = .ok (.invokespecial 36, 3) := by decide +kernel
theorem dX9_init_86 : decode cX9_init 86 = .ok (.putfield 37, 3) := by decide +kernel
theorem dX9_init_89 : decode cX9_init 89 = .ok (.aload_n 0, 1) := by decide +kernel
theorem dX9_init_90 : decode cX9_init 90 = .ok (.new 41, 3) := by decide +kernel
theorem dX9_init_93 : decode cX9_init 93 = .ok (.dup, 1) := by decide +kernel
theorem dX9_init_94 : decode cX9_init 94 = .ok (.invokespecial 43, 3) := by decide +kernel
theorem dX9_init_97 : decode cX9_init 97 = .ok (.putfield 44, 3) := by decide +kernel
theorem dX9_init_100 : decode cX9_init 100 = .ok (.aload_n 0, 1) := by decide +kernel
theorem dX9_init_101 : decode cX9_init 101 = .ok (.new 48, 3) := by decide +kernel
theorem dX9_init_104 : decode cX9_init 104 = .ok (.dup, 1) := by decide +kernel
theorem dX9_init_105 : decode cX9_init 105 = .ok (.invokespecial 50, 3) := by decide +kernel
theorem dX9_init_108 : decode cX9_init 108 = .ok (.putfield 51, 3) := by decide +kernel
theorem dX9_init_111 : decode cX9_init 111 = .ok (.aload_n 0, 1) := by decide +kernel
theorem dX9_init_112 : decode cX9_init 112 = .ok (.new 48, 3) := by decide +kernel
theorem dX9_init_115 : decode cX9_init 115 = .ok (.dup, 1) := by decide +kernel
theorem dX9_init_116 : decode cX9_init 116 = .ok (.invokespecial 50, 3) := by decide +kernel
theorem dX9_init_119 : decode cX9_init 119 = .ok (.putfield 55, 3) := by decide +kernel
theorem dX9_init_122 : decode cX9_init 122 = .ok (.aload_n 0, 1) := by decide +kernel
theorem dX9_init_123 : decode cX9_init 123 = .ok (.bipush 30, 2) := by decide +kernel
theorem dX9_init_125 : decode cX9_init 125 = .ok (.newarray .int, 2) := by decide +kernel
theorem dX9_init_127 : decode cX9_init 127 = .ok (.putfield 58, 3) := by decide +kernel
theorem dX9_init_130 : decode cX9_init 130 = .ok (.aload_n 0, 1) := by decide +kernel
theorem dX9_init_131 : decode cX9_init 131 = .ok (.new 62, 3) := by decide +kernel
theorem dX9_init_134 : decode cX9_init 134 = .ok (.dup, 1) := by decide +kernel
theorem dX9_init_135 : decode cX9_init 135 = .ok (.invokespecial 64, 3) := by decide +kernel
theorem dX9_init_138 : decode cX9_init 138 = .ok (.putfield 65, 3) := by decide +kernel
theorem dX9_init_141 : decode cX9_init 141 = .ok (.return_, 1) := by decide +kernel
theorem dX9_feed_0 : decode cX9_feed 0 = .ok (.aload_n 0, 1) := by decide +kernel
theorem dX9_feed_1 : decode cX9_feed 1 = .ok (.getfield 12, 3) := by decide +kernel
theorem dX9_feed_4 : decode cX9_feed 4 = .ok (.getfield 69, 3) := by decide +kernel
theorem dX9_feed_7 : decode cX9_feed 7 = .ok (.bipush 20, 2) := by decide +kernel
theorem dX9_feed_9 : decode cX9_feed 9 = .ok (.iadd, 1) := by decide +kernel
theorem dX9_feed_10 : decode cX9_feed 10 = .ok (.sipush 800, 3) := by decide +kernel
theorem dX9_feed_13 : decode cX9_feed 13 = .ok (.if_icmp .le 5, 3) := by decide +kernel
theorem dX9_feed_16 : decode cX9_feed 16 = .ok (.iconst (-1), 1) := by decide +kernel
theorem dX9_feed_17 : decode cX9_feed 17 = .ok (.ireturn, 1) := by decide +kernel
theorem dX9_feed_18 : decode cX9_feed 18 = .ok (.aload_n 0, 1) := by decide +kernel
theorem dX9_feed_19 : decode cX9_feed 19 = .ok (.getfield 12, 3) := by decide +kernel
theorem dX9_feed_22 : decode cX9_feed 22 = .ok (.iload_n 1, 1) := by decide +kernel
theorem dX9_feed_23 : decode cX9_feed 23 = .ok (.invokevirtual 73, 3) := by decide +kernel
theorem dX9_feed_26 : decode cX9_feed 26 = .ok (.aload_n 0, 1) := by decide +kernel
theorem dX9_feed_27 : decode cX9_feed 27 = .ok (.getfield 12, 3) := by decide +kernel
theorem dX9_feed_30 : decode cX9_feed 30 = .ok (.iload_n 2, 1) := by decide +kernel
theorem dX9_feed_31 : decode cX9_feed 31 = .ok (.invokevirtual 73, 3) := by decide +kernel
theorem dX9_feed_34 : decode cX9_feed 34 = .ok (.aload_n 0, 1) := by decide +kernel
theorem dX9_feed_35 : decode cX9_feed 35 = .ok (.getfield 12, 3) := by decide +kernel
theorem dX9_feed_38 : decode cX9_feed 38 = .ok (.iload_n 3, 1) := by decide +kernel
theorem dX9_feed_39 : decode cX9_feed 39 = .ok (.invokevirtual 73, 3) := by decide +kernel
theorem dX9_feed_42 : decode cX9_feed 42 = .ok (.aload_n 0, 1) := by decide +kernel
theorem dX9_feed_43 : decode cX9_feed 43 = .ok (.getfield 12, 3) := by decide +kernel
theorem dX9_feed_46 : decode cX9_feed 46 = .ok (.iload 4, 2) := by decide +kernel
theorem dX9_feed_48 : decode cX9_feed 48 = .ok (.invokevirtual 73, 3) := by decide +kernel
theorem dX9_feed_51 : decode cX9_feed 51 = .ok (.aload_n 0, 1) := by decide +kernel
theorem dX9_feed_52 : decode cX9_feed 52 = .ok (.getfield 12, 3) := by decide +kernel
theorem dX9_feed_55 : decode cX9_feed 55 = .ok (.iload 5, 2) := by decide +kernel
theorem dX9_feed_57 : decode cX9_feed 57 = .ok (.invokevirtual 73, 3) := by decide +kernel
theorem dX9_feed_60 : decode cX9_feed 60 = .ok (.aload_n 0, 1) := by decide +kernel
theorem dX9_feed_61 : decode cX9_feed 61 = .ok (.getfield 12, 3) := by decide +kernel
theorem dX9_feed_64 : decode cX9_feed 64 = .ok (.getfield 69, 3) := by decide +kernel
theorem dX9_feed_67 : decode cX9_feed 67 = .ok (.ireturn, 1) := by decide +kernel
theorem dX9_end_0 : decode cX9_end 0 = .ok (.iload_n 1, 1) := by decide +kernel
theorem dX9_end_1 : decode cX9_end 1 = .ok (.i2l, 1) := by decide +kernel
theorem dX9_end_2 : decode cX9_end 2 = .ok (.lconst 0, 1) := by decide +kernel
theorem dX9_end_3 : decode cX9_end 3 = .ok (.aload_n 0, 1) := by decide +kernel
theorem dX9_end_4 : decode cX9_end 4 = .ok (.getfield 12, 3) := by decide +kernel
theorem dX9_end_7 : decode cX9_end 7 = .ok (.getfield 69, 3) := by decide +kernel
theorem dX9_end_10 : decode cX9_end 10 = .ok (.i2l, 1) := by decide +kernel
theorem dX9_end_11 : decode cX9_end 11 = .ok (.invokestatic 77, 3) := by decide +kernel
theorem dX9_end_14 : decode cX9_end 14 = .ok (.ifCond .ne 5, 3) := by decide +kernel
theorem dX9_end_17 : decode cX9_end 17 = .ok (.iconst (-1), 1) := by decide +kernel
theorem dX9_end_18 : decode cX9_end 18 = .ok (.ireturn, 1) := by decide +kernel
theorem dX9_end_19 : decode cX9_end 19 = .ok (.aload_n 0, 1) := by decide +kernel
theorem dX9_end_20 : decode cX9_end 20 = .ok (.getfield 12, 3) := by decide +kernel
theorem dX9_end_23 : decode cX9_end 23 = .ok (.iload_n 1, 1) := by decide +kernel
theorem dX9_end_24 : decode cX9_end 24 = .ok (.putfield 69, 3) := by decide +kernel
theorem dX9_end_27 : decode cX9_end 27 = .ok (.iload_n 1, 1) := by decide +kernel
theorem dX9_end_28 : decode cX9_end 28 = .ok (.ireturn, 1) := by decide +kernel
theorem dX9_program_0 : decode cX9_program 0 = .ok (.aload_n 0, 1) := by decide +kernel
theorem dX9_program_1 : decode cX9_program 1 = .ok (.getfield 12, 3) := by decide +kernel
theorem dX9_program_4 : decode cX9_program 4 = .ok (.aload_n 0, 1) := by decide +kernel
theorem dX9_program_5 : decode cX9_program 5 = .ok (.getfield 19, 3) := by decide +kernel
theorem dX9_program_8 : decode cX9_program 8 = .ok (.invokevirtual 81, 3) := by decide +kernel
theorem dX9_program_11 : decode cX9_program 11 = .ok (.ifCond .ne 6, 3) := by decide +kernel
theorem dX9_program_14 : decode cX9_program 14 = .ok (.bipush (-4), 2) := by decide +kernel
theorem dX9_program_16 : decode cX9_program 16 = .ok (.ireturn, 1) := by decide +kernel
theorem dX9_program_17 : decode cX9_program 17 = .ok (.aload_n 0, 1) := by decide +kernel
theorem dX9_program_18 : decode cX9_program 18 = .ok (.getfield 23, 3) := by decide +kernel
theorem dX9_program_21 : decode cX9_program 21 = .ok (.aload_n 0, 1) := by decide +kernel
theorem dX9_program_22 : decode cX9_program 22 = .ok (.getfield 19, 3) := by decide +kernel
theorem dX9_program_25 : decode cX9_program 25 = .ok (.invokevirtual 85, 3) := by decide +kernel
theorem dX9_program_28 : decode cX9_program 28 = .ok (.aload_n 0, 1) := by decide +kernel
theorem dX9_program_29 : decode cX9_program 29 = .ok (.invokevirtual 89, 3) := by decide +kernel
theorem dX9_program_32 : decode cX9_program 32 = .ok (.aload_n 0, 1) := by decide +kernel
theorem dX9_program_33 : decode cX9_program 33 = .ok (.getfield 23, 3) := by decide +kernel
theorem dX9_program_36 : decode cX9_program 36 = .ok (.getfield 92, 3) := by decide +kernel
theorem dX9_program_39 : decode cX9_program 39 = .ok (.ireturn, 1) := by decide +kernel
theorem dX9_fault_0 : decode cX9_fault 0 = .ok (.iload_n 1, 1) := by decide +kernel
theorem dX9_fault_1 : decode cX9_fault 1 = .ok (.ifCond .ne 11, 3) := by decide +kernel
theorem dX9_fault_4 : decode cX9_fault 4 = .ok (.aload_n 0, 1) := by decide +kernel
theorem dX9_fault_5 : decode cX9_fault 5 = .ok (.getfield 12, 3) := by decide +kernel
theorem dX9_fault_8 : decode cX9_fault 8 = .ok (.getfield 95, 3) := by decide +kernel
theorem dX9_fault_11 : decode cX9_fault 11 = .ok (.ireturn, 1) := by decide +kernel
theorem dX9_fault_12 : decode cX9_fault 12 = .ok (.iload_n 1, 1) := by decide +kernel
theorem dX9_fault_13 : decode cX9_fault 13 = .ok (.iconst 1, 1) := by decide +kernel
theorem dX9_fault_14 : decode cX9_fault 14 = .ok (.if_icmp .ne 13, 3) := by decide +kernel
theorem dX9_fault_17 : decode cX9_fault 17 = .ok (.aload_n 0, 1) := by decide +kernel
theorem dX9_fault_18 : decode cX9_fault 18 = .ok (.getfield 12, 3) := by decide +kernel
theorem dX9_fault_21 : decode cX9_fault 21 = .ok (.getfield 98, 3) := by decide +kernel
theorem dX9_fault_24 : decode cX9_fault 24 = .ok (.goto 4, 3) := by decide +kernel
theorem dX9_fault_27 : decode cX9_fault 27 = .ok (.iconst (-1), 1) := by decide +kernel
theorem dX9_fault_28 : decode cX9_fault 28 = .ok (.ireturn, 1) := by decide +kernel
theorem dX9_op_0 : decode cX9_op 0 = .ok (.aload_n 0, 1) := by decide +kernel
theorem dX9_op_1 : decode cX9_op 1 = .ok (.getfield 23, 3) := by decide +kernel
theorem dX9_op_4 : decode cX9_op 4 = .ok (.iload_n 1, 1) := by decide +kernel
theorem dX9_op_5 : decode cX9_op 5 = .ok (.invokevirtual 101, 3) := by decide +kernel
theorem dX9_op_8 : decode cX9_op 8 = .ok (.ifCond .eq 15, 3) := by decide +kernel
theorem dX9_op_11 : decode cX9_op 11 = .ok (.iload_n 2, 1) := by decide +kernel
theorem dX9_op_12 : decode cX9_op 12 = .ok (.i2l, 1) := by decide +kernel
theorem dX9_op_13 : decode cX9_op 13 = .ok (.lconst 0, 1) := by decide +kernel
theorem dX9_op_14 : decode cX9_op 14 = .ok (.ldc2_w 105, 3) := by decide +kernel
theorem dX9_op_17 : decode cX9_op 17 = .ok (.invokestatic 77, 3) := by decide +kernel
theorem dX9_op_20 : decode cX9_op 20 = .ok (.ifCond .ne 6, 3) := by decide +kernel
theorem dX9_op_23 : decode cX9_op 23 = .ok (.bipush (-2), 2) := by decide +kernel
theorem dX9_op_25 : decode cX9_op 25 = .ok (.ireturn, 1) := by decide +kernel
theorem dX9_op_26 : decode cX9_op 26 = .ok (.iload_n 2, 1) := by decide +kernel
theorem dX9_op_27 : decode cX9_op 27 = .ok (.ifCond .ne 15, 3) := by decide +kernel
theorem dX9_op_30 : decode cX9_op 30 = .ok (.aload_n 0, 1) := by decide +kernel
theorem dX9_op_31 : decode cX9_op 31 = .ok (.getfield 23, 3) := by decide +kernel
theorem dX9_op_34 : decode cX9_op 34 = .ok (.getfield 107, 3) := by decide +kernel
theorem dX9_op_37 : decode cX9_op 37 = .ok (.iload_n 1, 1) := by decide +kernel
theorem dX9_op_38 : decode cX9_op 38 = .ok (.iaload, 1) := by decide +kernel
theorem dX9_op_39 : decode cX9_op 39 = .ok (.goto 18, 3) := by decide +kernel
theorem dX9_op_42 : decode cX9_op 42 = .ok (.aload_n 0, 1) := by decide +kernel
theorem dX9_op_43 : decode cX9_op 43 = .ok (.getfield 23, 3) := by decide +kernel
theorem dX9_op_46 : decode cX9_op 46 = .ok (.getfield 110, 3) := by decide +kernel
theorem dX9_op_49 : decode cX9_op 49 = .ok (.iconst 3, 1) := by decide +kernel
theorem dX9_op_50 : decode cX9_op 50 = .ok (.iload_n 1, 1) := by decide +kernel
theorem dX9_op_51 : decode cX9_op 51 = .ok (.imul, 1) := by decide +kernel
theorem dX9_op_52 : decode cX9_op 52 = .ok (.iload_n 2, 1) := by decide +kernel
theorem dX9_op_53 : decode cX9_op 53 = .ok (.iadd, 1) := by decide +kernel
theorem dX9_op_54 : decode cX9_op 54 = .ok (.iconst 1, 1) := by decide +kernel
theorem dX9_op_55 : decode cX9_op 55 = .ok (.isub, 1) := by decide +kernel
theorem dX9_op_56 : decode cX9_op 56 = .ok (.iaload, 1) := by decide +kernel
theorem dX9_op_57 : decode cX9_op 57 = .ok (.ireturn, 1) := by decide +kernel
theorem dX9_steps_0 : decode cX9_steps 0 = .ok (.aload_n 0, 1) := by decide +kernel
theorem dX9_steps_1 : decode cX9_steps 1 = .ok (.invokevirtual 113, 3) := by decide +kernel
theorem dX9_steps_4 : decode cX9_steps 4 = .ok (.ifCond .eq 13, 3) := by decide +kernel
theorem dX9_steps_7 : decode cX9_steps 7 = .ok (.aload_n 0, 1) := by decide +kernel
theorem dX9_steps_8 : decode cX9_steps 8 = .ok (.getfield 37, 3) := by decide +kernel
theorem dX9_steps_11 : decode cX9_steps 11 = .ok (.getfield 117, 3) := by decide +kernel
theorem dX9_steps_14 : decode cX9_steps 14 = .ok (.goto 5, 3) := by decide +kernel
theorem dX9_steps_17 : decode cX9_steps 17 = .ok (.bipush (-2), 2) := by decide +kernel
theorem dX9_steps_19 : decode cX9_steps 19 = .ok (.ireturn, 1) := by decide +kernel
theorem dX9_why_0 : decode cX9_why 0 = .ok (.aload_n 0, 1) := by decide +kernel
theorem dX9_why_1 : decode cX9_why 1 = .ok (.invokevirtual 113, 3) := by decide +kernel
theorem dX9_why_4 : decode cX9_why 4 = .ok (.ifCond .eq 13, 3) := by decide +kernel
theorem dX9_why_7 : decode cX9_why 7 = .ok (.aload_n 0, 1) := by decide +kernel
theorem dX9_why_8 : decode cX9_why 8 = .ok (.getfield 37, 3) := by decide +kernel
theorem dX9_why_11 : decode cX9_why 11 = .ok (.getfield 120, 3) := by decide +kernel
theorem dX9_why_14 : decode cX9_why 14 = .ok (.goto 5, 3) := by decide +kernel
theorem dX9_why_17 : decode cX9_why 17 = .ok (.bipush (-2), 2) := by decide +kernel
theorem dX9_why_19 : decode cX9_why 19 = .ok (.ireturn, 1) := by decide +kernel
theorem dX9_next_0 : decode cX9_next 0 = .ok (.aload_n 0, 1) := by decide +kernel
theorem dX9_next_1 : decode cX9_next 1 = .ok (.iload_n 1, 1) := by decide +kernel
theorem dX9_next_2 : decode cX9_next 2 = .ok (.invokevirtual 123, 3) := by decide +kernel
theorem dX9_next_5 : decode cX9_next 5 = .ok (.ifCond .eq 15, 3) := by decide +kernel
theorem dX9_next_8 : decode cX9_next 8 = .ok (.aload_n 0, 1) := by decide +kernel
theorem dX9_next_9 : decode cX9_next 9 = .ok (.getfield 37, 3) := by decide +kernel
theorem dX9_next_12 : decode cX9_next 12 = .ok (.getfield 126, 3) := by decide +kernel
theorem dX9_next_15 : decode cX9_next 15 = .ok (.iload_n 1, 1) := by decide +kernel
theorem dX9_next_16 : decode cX9_next 16 = .ok (.iaload, 1) := by decide +kernel
theorem dX9_next_17 : decode cX9_next 17 = .ok (.goto 5, 3) := by decide +kernel
theorem dX9_next_20 : decode cX9_next 20 = .ok (.bipush (-2), 2) := by decide +kernel
theorem dX9_next_22 : decode cX9_next 22 = .ok (.ireturn, 1) := by decide +kernel
theorem dX9_register_0 : decode cX9_register 0 = .ok (.aload_n 0, 1) := by decide +kernel
theorem dX9_register_1 : decode cX9_register 1 = .ok (.iload_n 2, 1) := by decide +kernel
theorem dX9_register_2 : decode cX9_register 2 = .ok (.invokevirtual 123, 3) := by decide +kernel
theorem dX9_register_5 : decode cX9_register 5 = .ok (.ifCond .eq 10, 3) := by decide +kernel
theorem dX9_register_8 : decode cX9_register 8 = .ok (.iload_n 1, 1) := by decide +kernel
theorem dX9_register_9 : decode cX9_register 9 = .ok (.invokestatic 129, 3) := by decide +kernel
theorem dX9_register_12 : decode cX9_register 12 = .ok (.ifCond .ne 6, 3) := by decide +kernel
theorem dX9_register_15 : decode cX9_register 15 = .ok (.bipush (-2), 2) := by decide +kernel
theorem dX9_register_17 : decode cX9_register 17 = .ok (.ireturn, 1) := by decide +kernel
theorem dX9_register_18 : decode cX9_register 18 = .ok (.aload_n 0, 1) := by decide +kernel
theorem dX9_register_19 : decode cX9_register 19 = .ok (.getfield 37, 3) := by decide +kernel
theorem dX9_register_22 : decode cX9_register 22 = .ok (.getfield 132, 3) := by decide +kernel
theorem dX9_register_25 : decode cX9_register 25 = .ok (.bipush 8, 2) := by decide +kernel
theorem dX9_register_27 : decode cX9_register 27 = .ok (.iload_n 2, 1) := by decide +kernel
theorem dX9_register_28 : decode cX9_register 28 = .ok (.imul, 1) := by decide +kernel
theorem dX9_register_29 : decode cX9_register 29 = .ok (.iload_n 1, 1) := by decide +kernel
theorem dX9_register_30 : decode cX9_register 30 = .ok (.iadd, 1) := by decide +kernel
theorem dX9_register_31 : decode cX9_register 31 = .ok (.iaload, 1) := by decide +kernel
theorem dX9_register_32 : decode cX9_register 32 = .ok (.ireturn, 1) := by decide +kernel
theorem dX9_branch_0 : decode cX9_branch 0 = .ok (.aload_n 0, 1) := by decide +kernel
theorem dX9_branch_1 : decode cX9_branch 1 = .ok (.iload_n 1, 1) := by decide +kernel
theorem dX9_branch_2 : decode cX9_branch 2 = .ok (.invokevirtual 135, 3) := by decide +kernel
theorem dX9_branch_5 : decode cX9_branch 5 = .ok (.ifCond .eq 15, 3) := by decide +kernel
theorem dX9_branch_8 : decode cX9_branch 8 = .ok (.iload_n 2, 1) := by decide +kernel
theorem dX9_branch_9 : decode cX9_branch 9 = .ok (.i2l, 1) := by decide +kernel
theorem dX9_branch_10 : decode cX9_branch 10 = .ok (.lconst 0, 1) := by decide +kernel
theorem dX9_branch_11 : decode cX9_branch 11 = .ok (.ldc2_w 138, 3) := by decide +kernel
theorem dX9_branch_14 : decode cX9_branch 14 = .ok (.invokestatic 77, 3) := by decide +kernel
theorem dX9_branch_17 : decode cX9_branch 17 = .ok (.ifCond .ne 6, 3) := by decide +kernel
theorem dX9_branch_20 : decode cX9_branch 20 = .ok (.bipush (-2), 2) := by decide +kernel
theorem dX9_branch_22 : decode cX9_branch 22 = .ok (.ireturn, 1) := by decide +kernel
theorem dX9_branch_23 : decode cX9_branch 23 = .ok (.aload_n 0, 1) := by decide +kernel
theorem dX9_branch_24 : decode cX9_branch 24 = .ok (.getfield 44, 3) := by decide +kernel
theorem dX9_branch_27 : decode cX9_branch 27 = .ok (.iload_n 1, 1) := by decide +kernel
theorem dX9_branch_28 : decode cX9_branch 28 = .ok (.iload_n 2, 1) := by decide +kernel
theorem dX9_branch_29 : decode cX9_branch 29 = .ok (.invokevirtual 140, 3) := by decide +kernel
theorem dX9_branch_32 : decode cX9_branch 32 = .ok (.ireturn, 1) := by decide +kernel
theorem dX9_wrong_0 : decode cX9_wrong 0 = .ok (.aload_n 0, 1) := by decide +kernel
theorem dX9_wrong_1 : decode cX9_wrong 1 = .ok (.iload_n 1, 1) := by decide +kernel
theorem dX9_wrong_2 : decode cX9_wrong 2 = .ok (.invokevirtual 144, 3) := by decide +kernel
theorem dX9_wrong_5 : decode cX9_wrong 5 = .ok (.ifCond .ne 6, 3) := by decide +kernel
theorem dX9_wrong_8 : decode cX9_wrong 8 = .ok (.bipush (-2), 2) := by decide +kernel
theorem dX9_wrong_10 : decode cX9_wrong 10 = .ok (.ireturn, 1) := by decide +kernel
theorem dX9_wrong_11 : decode cX9_wrong 11 = .ok (.iconst 0, 1) := by decide +kernel
theorem dX9_wrong_12 : decode cX9_wrong 12 = .ok (.istore_n 2, 1) := by decide +kernel
theorem dX9_wrong_13 : decode cX9_wrong 13 = .ok (.iconst 0, 1) := by decide +kernel
theorem dX9_wrong_14 : decode cX9_wrong 14 = .ok (.istore_n 3, 1) := by decide +kernel
theorem dX9_wrong_15 : decode cX9_wrong 15 = .ok (.iload_n 3, 1) := by decide +kernel
theorem dX9_wrong_16 : decode cX9_wrong 16 = .ok (.iload_n 1, 1) := by decide +kernel
theorem dX9_wrong_17 : decode cX9_wrong 17 = .ok (.if_icmp .ge 23, 3) := by decide +kernel
theorem dX9_wrong_20 : decode cX9_wrong 20 = .ok (.aload_n 0, 1) := by decide +kernel
theorem dX9_wrong_21 : decode cX9_wrong 21 = .ok (.getfield 44, 3) := by decide +kernel
theorem dX9_wrong_24 : decode cX9_wrong 24 = .ok (.iload_n 3, 1) := by decide +kernel
theorem dX9_wrong_25 : decode cX9_wrong 25 = .ok (.invokevirtual 147, 3) := by decide +kernel
theorem dX9_wrong_28 : decode cX9_wrong 28 = .ok (.ifCond .eq 6, 3) := by decide +kernel
theorem dX9_wrong_31 : decode cX9_wrong 31 = .ok (.iinc 2 1, 3) := by decide +kernel
theorem dX9_wrong_34 : decode cX9_wrong 34 = .ok (.iinc 3 1, 3) := by decide +kernel
theorem dX9_wrong_37 : decode cX9_wrong 37 = .ok (.goto (-22), 3) := by decide +kernel
theorem dX9_wrong_40 : decode cX9_wrong 40 = .ok (.iload_n 2, 1) := by decide +kernel
theorem dX9_wrong_41 : decode cX9_wrong 41 = .ok (.ireturn, 1) := by decide +kernel
theorem dX9_wrongs_0 : decode cX9_wrongs 0 = .ok (.aload_n 0, 1) := by decide +kernel
theorem dX9_wrongs_1 : decode cX9_wrongs 1 = .ok (.invokevirtual 113, 3) := by decide +kernel
theorem dX9_wrongs_4 : decode cX9_wrongs 4 = .ok (.ifCond .eq 21, 3) := by decide +kernel
theorem dX9_wrongs_7 : decode cX9_wrongs 7 = .ok (.iload_n 1, 1) := by decide +kernel
theorem dX9_wrongs_8 : decode cX9_wrongs 8 = .ok (.invokestatic 150, 3) := by decide +kernel
theorem dX9_wrongs_11 : decode cX9_wrongs 11 = .ok (.ifCond .eq 14, 3) := by decide +kernel
theorem dX9_wrongs_14 : decode cX9_wrongs 14 = .ok (.aload_n 0, 1) := by decide +kernel
theorem dX9_wrongs_15 : decode cX9_wrongs 15 = .ok (.getfield 44, 3) := by decide +kernel
theorem dX9_wrongs_18 : decode cX9_wrongs 18 = .ok (.iload_n 1, 1) := by decide +kernel
theorem dX9_wrongs_19 : decode cX9_wrongs 19 = .ok (.invokevirtual 153, 3) := by decide +kernel
theorem dX9_wrongs_22 : decode cX9_wrongs 22 = .ok (.goto 5, 3) := by decide +kernel
theorem dX9_wrongs_25 : decode cX9_wrongs 25 = .ok (.bipush (-2), 2) := by decide +kernel
theorem dX9_wrongs_27 : decode cX9_wrongs 27 = .ok (.ireturn, 1) := by decide +kernel
theorem dX9_worst_0 : decode cX9_worst 0 = .ok (.aload_n 0, 1) := by decide +kernel
theorem dX9_worst_1 : decode cX9_worst 1 = .ok (.invokevirtual 113, 3) := by decide +kernel
theorem dX9_worst_4 : decode cX9_worst 4 = .ok (.ifCond .ne 6, 3) := by decide +kernel
theorem dX9_worst_7 : decode cX9_worst 7 = .ok (.bipush (-2), 2) := by decide +kernel
theorem dX9_worst_9 : decode cX9_worst 9 = .ok (.ireturn, 1) := by decide +kernel
theorem dX9_worst_10 : decode cX9_worst 10 = .ok (.iconst (-1), 1) := by decide +kernel
theorem dX9_worst_11 : decode cX9_worst 11 = .ok (.istore_n 1, 1) := by decide +kernel
theorem dX9_worst_12 : decode cX9_worst 12 = .ok (.iconst 0, 1) := by decide +kernel
theorem dX9_worst_13 : decode cX9_worst 13 = .ok (.istore_n 2, 1) := by decide +kernel
theorem dX9_worst_14 : decode cX9_worst 14 = .ok (.iconst 0, 1) := by decide +kernel
theorem dX9_worst_15 : decode cX9_worst 15 = .ok (.istore_n 3, 1) := by decide +kernel
theorem dX9_worst_16 : decode cX9_worst 16 = .ok (.iload_n 3, 1) := by decide +kernel
theorem dX9_worst_17 : decode cX9_worst 17 = .ok (.bipush 63, 2) := by decide +kernel
theorem dX9_worst_19 : decode cX9_worst 19 = .ok (.if_icmp .gt 30, 3) := by decide +kernel
theorem dX9_worst_22 : decode cX9_worst 22 = .ok (.aload_n 0, 1) := by decide +kernel
theorem dX9_worst_23 : decode cX9_worst 23 = .ok (.getfield 44, 3) := by decide +kernel
theorem dX9_worst_26 : decode cX9_worst 26 = .ok (.iload_n 3, 1) := by decide +kernel
theorem dX9_worst_27 : decode cX9_worst 27 = .ok (.invokevirtual 153, 3) := by decide +kernel
theorem dX9_worst_30 : decode cX9_worst 30 = .ok (.istore 4, 2) := by decide +kernel
theorem dX9_worst_32 : decode cX9_worst 32 = .ok (.iload 4, 2) := by decide +kernel
theorem dX9_worst_34 : decode cX9_worst 34 = .ok (.iload_n 2, 1) := by decide +kernel
theorem dX9_worst_35 : decode cX9_worst 35 = .ok (.if_icmp .le 8, 3) := by decide +kernel
theorem dX9_worst_38 : decode cX9_worst 38 = .ok (.iload 4, 2) := by decide +kernel
theorem dX9_worst_40 : decode cX9_worst 40 = .ok (.istore_n 2, 1) := by decide +kernel
theorem dX9_worst_41 : decode cX9_worst 41 = .ok (.iload_n 3, 1) := by decide +kernel
theorem dX9_worst_42 : decode cX9_worst 42 = .ok (.istore_n 1, 1) := by decide +kernel
theorem dX9_worst_43 : decode cX9_worst 43 = .ok (.iinc 3 1, 3) := by decide +kernel
theorem dX9_worst_46 : decode cX9_worst 46 = .ok (.goto (-30), 3) := by decide +kernel
theorem dX9_worst_49 : decode cX9_worst 49 = .ok (.iload_n 1, 1) := by decide +kernel
theorem dX9_worst_50 : decode cX9_worst 50 = .ok (.ireturn, 1) := by decide +kernel
theorem dX9_streak_0 : decode cX9_streak 0 = .ok (.aload_n 0, 1) := by decide +kernel
theorem dX9_streak_1 : decode cX9_streak 1 = .ok (.invokevirtual 113, 3) := by decide +kernel
theorem dX9_streak_4 : decode cX9_streak 4 = .ok (.ifCond .ne 6, 3) := by decide +kernel
theorem dX9_streak_7 : decode cX9_streak 7 = .ok (.bipush (-2), 2) := by decide +kernel
theorem dX9_streak_9 : decode cX9_streak 9 = .ok (.ireturn, 1) := by decide +kernel
theorem dX9_streak_10 : decode cX9_streak 10 = .ok (.iconst 0, 1) := by decide +kernel
theorem dX9_streak_11 : decode cX9_streak 11 = .ok (.istore_n 1, 1) := by decide +kernel
theorem dX9_streak_12 : decode cX9_streak 12 = .ok (.iconst 0, 1) := by decide +kernel
theorem dX9_streak_13 : decode cX9_streak 13 = .ok (.istore_n 2, 1) := by decide +kernel
theorem dX9_streak_14 : decode cX9_streak 14 = .ok (.iconst 0, 1) := by decide +kernel
theorem dX9_streak_15 : decode cX9_streak 15 = .ok (.istore_n 3, 1) := by decide +kernel
theorem dX9_streak_16 : decode cX9_streak 16 = .ok (.iload_n 3, 1) := by decide +kernel
theorem dX9_streak_17 : decode cX9_streak 17 = .ok (.aload_n 0, 1) := by decide +kernel
theorem dX9_streak_18 : decode cX9_streak 18 = .ok (.getfield 44, 3) := by decide +kernel
theorem dX9_streak_21 : decode cX9_streak 21 = .ok (.getfield 157, 3) := by decide +kernel
theorem dX9_streak_24 : decode cX9_streak 24 = .ok (.if_icmp .ge 34, 3) := by decide +kernel
theorem dX9_streak_27 : decode cX9_streak 27 = .ok (.aload_n 0, 1) := by decide +kernel
theorem dX9_streak_28 : decode cX9_streak 28 = .ok (.getfield 44, 3) := by decide +kernel
theorem dX9_streak_31 : decode cX9_streak 31 = .ok (.iload_n 3, 1) := by decide +kernel
theorem dX9_streak_32 : decode cX9_streak 32 = .ok (.invokevirtual 147, 3) := by decide +kernel
theorem dX9_streak_35 : decode cX9_streak 35 = .ok (.ifCond .eq 7, 3) := by decide +kernel
theorem dX9_streak_38 : decode cX9_streak 38 = .ok (.iconst 0, 1) := by decide +kernel
theorem dX9_streak_39 : decode cX9_streak 39 = .ok (.goto 6, 3) := by decide +kernel
theorem dX9_streak_42 : decode cX9_streak 42 = .ok (.iload_n 2, 1) := by decide +kernel
theorem dX9_streak_43 : decode cX9_streak 43 = .ok (.iconst 1, 1) := by decide +kernel
theorem dX9_streak_44 : decode cX9_streak 44 = .ok (.iadd, 1) := by decide +kernel
theorem dX9_streak_45 : decode cX9_streak 45 = .ok (.istore_n 2, 1) := by decide +kernel
theorem dX9_streak_46 : decode cX9_streak 46 = .ok (.iload_n 1, 1) := by decide +kernel
theorem dX9_streak_47 : decode cX9_streak 47 = .ok (.iload_n 2, 1) := by decide +kernel
theorem dX9_streak_48 : decode cX9_streak 48 = .ok (.invokestatic 160, 3) := by decide +kernel
theorem dX9_streak_51 : decode cX9_streak 51 = .ok (.istore_n 1, 1) := by decide +kernel
theorem dX9_streak_52 : decode cX9_streak 52 = .ok (.iinc 3 1, 3) := by decide +kernel
theorem dX9_streak_55 : decode cX9_streak 55 = .ok (.goto (-39), 3) := by decide +kernel
theorem dX9_streak_58 : decode cX9_streak 58 = .ok (.iload_n 1, 1) := by decide +kernel
theorem dX9_streak_59 : decode cX9_streak 59 = .ok (.ireturn, 1) := by decide +kernel
theorem dX9_said_0 : decode cX9_said 0 = .ok (.aload_n 0, 1) := by decide +kernel
theorem dX9_said_1 : decode cX9_said 1 = .ok (.invokevirtual 113, 3) := by decide +kernel
theorem dX9_said_4 : decode cX9_said 4 = .ok (.ifCond .eq 10, 3) := by decide +kernel
theorem dX9_said_7 : decode cX9_said 7 = .ok (.iload_n 1, 1) := by decide +kernel
theorem dX9_said_8 : decode cX9_said 8 = .ok (.invokestatic 165, 3) := by decide +kernel
theorem dX9_said_11 : decode cX9_said 11 = .ok (.ifCond .ne 6, 3) := by decide +kernel
theorem dX9_said_14 : decode cX9_said 14 = .ok (.bipush (-2), 2) := by decide +kernel
theorem dX9_said_16 : decode cX9_said 16 = .ok (.ireturn, 1) := by decide +kernel
theorem dX9_said_17 : decode cX9_said 17 = .ok (.aload_n 0, 1) := by decide +kernel
theorem dX9_said_18 : decode cX9_said 18 = .ok (.getfield 44, 3) := by decide +kernel
theorem dX9_said_21 : decode cX9_said 21 = .ok (.bipush 7, 2) := by decide +kernel
theorem dX9_said_23 : decode cX9_said 23 = .ok (.iload_n 1, 1) := by decide +kernel
theorem dX9_said_24 : decode cX9_said 24 = .ok (.invokevirtual 168, 3) := by decide +kernel
theorem dX9_said_27 : decode cX9_said 27 = .ok (.ireturn, 1) := by decide +kernel
theorem dX9_gained_0 : decode cX9_gained 0 = .ok (.aload_n 0, 1) := by decide +kernel
theorem dX9_gained_1 : decode cX9_gained 1 = .ok (.invokevirtual 113, 3) := by decide +kernel
theorem dX9_gained_4 : decode cX9_gained 4 = .ok (.ifCond .eq 10, 3) := by decide +kernel
theorem dX9_gained_7 : decode cX9_gained 7 = .ok (.iload_n 1, 1) := by decide +kernel
theorem dX9_gained_8 : decode cX9_gained 8 = .ok (.invokestatic 165, 3) := by decide +kernel
theorem dX9_gained_11 : decode cX9_gained 11 = .ok (.ifCond .ne 7, 3) := by decide +kernel
theorem dX9_gained_14 : decode cX9_gained 14 = .ok (.sipush (-1000), 3) := by decide +kernel
theorem dX9_gained_17 : decode cX9_gained 17 = .ok (.ireturn, 1) := by decide +kernel
theorem dX9_gained_18 : decode cX9_gained 18 = .ok (.iconst 0, 1) := by decide +kernel
theorem dX9_gained_19 : decode cX9_gained 19 = .ok (.istore_n 2, 1) := by decide +kernel
theorem dX9_gained_20 : decode cX9_gained 20 = .ok (.iconst 0, 1) := by decide +kernel
theorem dX9_gained_21 : decode cX9_gained 21 = .ok (.istore_n 3, 1) := by decide +kernel
theorem dX9_gained_22 : decode cX9_gained 22 = .ok (.iload_n 3, 1) := by decide +kernel
theorem dX9_gained_23 : decode cX9_gained 23 = .ok (.aload_n 0, 1) := by decide +kernel
theorem dX9_gained_24 : decode cX9_gained 24 = .ok (.getfield 44, 3) := by decide +kernel
theorem dX9_gained_27 : decode cX9_gained 27 = .ok (.getfield 157, 3) := by decide +kernel
theorem dX9_gained_30 : decode cX9_gained 30 = .ok (.if_icmp .ge 64, 3) := by decide +kernel
theorem dX9_gained_33 : decode cX9_gained 33 = .ok (.aload_n 0, 1) := by decide +kernel
theorem dX9_gained_34 : decode cX9_gained 34 = .ok (.getfield 44, 3) := by decide +kernel
theorem dX9_gained_37 : decode cX9_gained 37 = .ok (.iload_n 3, 1) := by decide +kernel
theorem dX9_gained_38 : decode cX9_gained 38 = .ok (.bipush 7, 2) := by decide +kernel
theorem dX9_gained_40 : decode cX9_gained 40 = .ok (.invokevirtual 140, 3) := by decide +kernel
theorem dX9_gained_43 : decode cX9_gained 43 = .ok (.iload_n 1, 1) := by decide +kernel
theorem dX9_gained_44 : decode cX9_gained 44 = .ok (.if_icmp .ne 44, 3) := by decide +kernel
theorem dX9_gained_47 : decode cX9_gained 47 = .ok (.aload_n 0, 1) := by decide +kernel
theorem dX9_gained_48 : decode cX9_gained 48 = .ok (.getfield 44, 3) := by decide +kernel
theorem dX9_gained_51 : decode cX9_gained 51 = .ok (.iload_n 3, 1) := by decide +kernel
theorem dX9_gained_52 : decode cX9_gained 52 = .ok (.iconst 2, 1) := by decide +kernel
theorem dX9_gained_53 : decode cX9_gained 53 = .ok (.invokevirtual 140, 3) := by decide +kernel
theorem dX9_gained_56 : decode cX9_gained 56 = .ok (.aload_n 0, 1) := by decide +kernel
theorem dX9_gained_57 : decode cX9_gained 57 = .ok (.getfield 44, 3) := by decide +kernel
theorem dX9_gained_60 : decode cX9_gained 60 = .ok (.iload_n 3, 1) := by decide +kernel
theorem dX9_gained_61 : decode cX9_gained 61 = .ok (.bipush 6, 2) := by decide +kernel
theorem dX9_gained_63 : decode cX9_gained 63 = .ok (.invokevirtual 140, 3) := by decide +kernel
theorem dX9_gained_66 : decode cX9_gained 66 = .ok (.if_icmp .eq 22, 3) := by decide +kernel
theorem dX9_gained_69 : decode cX9_gained 69 = .ok (.iload_n 2, 1) := by decide +kernel
theorem dX9_gained_70 : decode cX9_gained 70 = .ok (.aload_n 0, 1) := by decide +kernel
theorem dX9_gained_71 : decode cX9_gained 71 = .ok (.getfield 44, 3) := by decide +kernel
theorem dX9_gained_74 : decode cX9_gained 74 = .ok (.iload_n 3, 1) := by decide +kernel
theorem dX9_gained_75 : decode cX9_gained 75 = .ok (.invokevirtual 147, 3) := by decide +kernel
theorem dX9_gained_78 : decode cX9_gained 78 = .ok (.ifCond .eq 7, 3) := by decide +kernel
theorem dX9_gained_81 : decode cX9_gained 81 = .ok (.iconst (-1), 1) := by decide +kernel
theorem dX9_gained_82 : decode cX9_gained 82 = .ok (.goto 4, 3) := by decide +kernel
theorem dX9_gained_85 : decode cX9_gained 85 = .ok (.iconst 1, 1) := by decide +kernel
theorem dX9_gained_86 : decode cX9_gained 86 = .ok (.iadd, 1) := by decide +kernel
theorem dX9_gained_87 : decode cX9_gained 87 = .ok (.istore_n 2, 1) := by decide +kernel
theorem dX9_gained_88 : decode cX9_gained 88 = .ok (.iinc 3 1, 3) := by decide +kernel
theorem dX9_gained_91 : decode cX9_gained 91 = .ok (.goto (-69), 3) := by decide +kernel
theorem dX9_gained_94 : decode cX9_gained 94 = .ok (.iload_n 2, 1) := by decide +kernel
theorem dX9_gained_95 : decode cX9_gained 95 = .ok (.ireturn, 1) := by decide +kernel
theorem dX9_provided_0 : decode cX9_provided 0 = .ok (.aload_n 0, 1) := by decide +kernel
theorem dX9_provided_1 : decode cX9_provided 1 = .ok (.invokevirtual 113, 3) := by decide +kernel
theorem dX9_provided_4 : decode cX9_provided 4 = .ok (.ifCond .eq 20, 3) := by decide +kernel
theorem dX9_provided_7 : decode cX9_provided 7 = .ok (.iload_n 1, 1) := by decide +kernel
theorem dX9_provided_8 : decode cX9_provided 8 = .ok (.i2l, 1) := by decide +kernel
theorem dX9_provided_9 : decode cX9_provided 9 = .ok (.lconst 0, 1) := by decide +kernel
theorem dX9_provided_10 : decode cX9_provided 10 = .ok (.aload_n 0, 1) := by decide +kernel
theorem dX9_provided_11 : decode cX9_provided 11 = .ok (.getfield 23, 3) := by decide +kernel
theorem dX9_provided_14 : decode cX9_provided 14 = .ok (.getfield 171, 3) := by decide +kernel
theorem dX9_provided_17 : decode cX9_provided 17 = .ok (.i2l, 1) := by decide +kernel
theorem dX9_provided_18 : decode cX9_provided 18 = .ok (.invokestatic 77, 3) := by decide +kernel
theorem dX9_provided_21 : decode cX9_provided 21 = .ok (.ifCond .ne 6, 3) := by decide +kernel
theorem dX9_provided_24 : decode cX9_provided 24 = .ok (.bipush (-2), 2) := by decide +kernel
theorem dX9_provided_26 : decode cX9_provided 26 = .ok (.ireturn, 1) := by decide +kernel
theorem dX9_provided_27 : decode cX9_provided 27 = .ok (.aload_n 0, 1) := by decide +kernel
theorem dX9_provided_28 : decode cX9_provided 28 = .ok (.getfield 44, 3) := by decide +kernel
theorem dX9_provided_31 : decode cX9_provided 31 = .ok (.iconst 3, 1) := by decide +kernel
theorem dX9_provided_32 : decode cX9_provided 32 = .ok (.iload_n 1, 1) := by decide +kernel
theorem dX9_provided_33 : decode cX9_provided 33 = .ok (.invokevirtual 168, 3) := by decide +kernel
theorem dX9_provided_36 : decode cX9_provided 36 = .ok (.ireturn, 1) := by decide +kernel
theorem dX9_history_0 : decode cX9_history 0 = .ok (.aload_n 0, 1) := by decide +kernel
theorem dX9_history_1 : decode cX9_history 1 = .ok (.iload_n 1, 1) := by decide +kernel
theorem dX9_history_2 : decode cX9_history 2 = .ok (.invokevirtual 144, 3) := by decide +kernel
theorem dX9_history_5 : decode cX9_history 5 = .ok (.ifCond .eq 15, 3) := by decide +kernel
theorem dX9_history_8 : decode cX9_history 8 = .ok (.iload_n 2, 1) := by decide +kernel
theorem dX9_history_9 : decode cX9_history 9 = .ok (.i2l, 1) := by decide +kernel
theorem dX9_history_10 : decode cX9_history 10 = .ok (.lconst 0, 1) := by decide +kernel
theorem dX9_history_11 : decode cX9_history 11 = .ok (.ldc2_w 174, 3) := by decide +kernel
theorem dX9_history_14 : decode cX9_history 14 = .ok (.invokestatic 77, 3) := by decide +kernel
theorem dX9_history_17 : decode cX9_history 17 = .ok (.ifCond .ne 6, 3) := by decide +kernel
theorem dX9_history_20 : decode cX9_history 20 = .ok (.bipush (-2), 2) := by decide +kernel
theorem dX9_history_22 : decode cX9_history 22 = .ok (.ireturn, 1) := by decide +kernel
theorem dX9_history_23 : decode cX9_history 23 = .ok (.aload_n 0, 1) := by decide +kernel
theorem dX9_history_24 : decode cX9_history 24 = .ok (.iload_n 1, 1) := by decide +kernel
theorem dX9_history_25 : decode cX9_history 25 = .ok (.invokevirtual 176, 3) := by decide +kernel
theorem dX9_history_28 : decode cX9_history 28 = .ok (.aload_n 0, 1) := by decide +kernel
theorem dX9_history_29 : decode cX9_history 29 = .ok (.getfield 51, 3) := by decide +kernel
