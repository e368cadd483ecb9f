theorem dX0_init_0 : decode cX0_init 0 = .ok (.aload_n 0, 1) := by decide +kernel
theorem dX0_init_1 : decode cX0_init 1 = .ok (.invokespecial 3, 3) := by decide +kernel
theorem dX0_init_4 : decode cX0_init 4 = .ok (.aload_n 0, 1) := by decide +kernel
theorem dX0_init_5 : decode cX0_init 5 = .ok (.bipush 48, 2) := by decide +kernel
theorem dX0_init_7 : decode cX0_init 7 = .ok (.newarray .int, 2) := by decide +kernel
theorem dX0_init_9 : decode cX0_init 9 = .ok (.putfield 11, 3) := by decide +kernel
theorem dX0_init_12 : decode cX0_init 12 = .ok (.aload_n 0, 1) := by decide +kernel
theorem dX0_init_13 : decode cX0_init 13 = .ok (.iconst 3, 1) := by decide +kernel
theorem dX0_init_14 : decode cX0_init 14 = .ok (.newarray .int, 2) := by decide +kernel
theorem dX0_init_16 : decode cX0_init 16 = .ok (.putfield 15, 3) := by decide +kernel
theorem dX0_init_19 : decode cX0_init 19 = .ok (.return_, 1) := by decide +kernel
theorem dX0_clear_0 : decode cX0_clear 0 = .ok (.aload_n 0, 1) := by decide +kernel
theorem dX0_clear_1 : decode cX0_clear 1 = .ok (.getfield 11, 3) := by decide +kernel
theorem dX0_clear_4 : decode cX0_clear 4 = .ok (.iconst 0, 1) := by decide +kernel
theorem dX0_clear_5 : decode cX0_clear 5 = .ok (.invokestatic 18, 3) := by decide +kernel
theorem dX0_clear_8 : decode cX0_clear 8 = .ok (.aload_n 0, 1) := by decide +kernel
theorem dX0_clear_9 : decode cX0_clear 9 = .ok (.iconst 4, 1) := by decide +kernel
theorem dX0_clear_10 : decode cX0_clear 10 = .ok (.putfield 24, 3) := by decide +kernel
theorem dX0_clear_13 : decode cX0_clear 13 = .ok (.return_, 1) := by decide +kernel
theorem dX0_weigh_0 : decode cX0_weigh 0 = .ok (.aload_n 0, 1) := by decide +kernel
theorem dX0_weigh_1 : decode cX0_weigh 1 = .ok (.iload 4, 2) := by decide +kernel
theorem dX0_weigh_3 : decode cX0_weigh 3 = .ok (.putfield 28, 3) := by decide +kernel
theorem dX0_weigh_6 : decode cX0_weigh 6 = .ok (.aload_n 0, 1) := by decide +kernel
theorem dX0_weigh_7 : decode cX0_weigh 7 = .ok (.getfield 15, 3) := by decide +kernel
theorem dX0_weigh_10 : decode cX0_weigh 10 = .ok (.iconst 0, 1) := by decide +kernel
theorem dX0_weigh_11 : decode cX0_weigh 11 = .ok (.iconst 2, 1) := by decide +kernel
theorem dX0_weigh_12 : decode cX0_weigh 12 = .ok (.iload_n 1, 1) := by decide +kernel
theorem dX0_weigh_13 : decode cX0_weigh 13 = .ok (.bipush 8, 2) := by decide +kernel
theorem dX0_weigh_15 : decode cX0_weigh 15 = .ok (.irem, 1) := by decide +kernel
theorem dX0_weigh_16 : decode cX0_weigh 16 = .ok (.imul, 1) := by decide +kernel
theorem dX0_weigh_17 : decode cX0_weigh 17 = .ok (.aload_n 0, 1) := by decide +kernel
theorem dX0_weigh_18 : decode cX0_weigh 18 = .ok (.getfield 28, 3) := by decide +kernel
theorem dX0_weigh_21 : decode cX0_weigh 21 = .ok (.iadd, 1) := by decide +kernel
theorem dX0_weigh_22 : decode cX0_weigh 22 = .ok (.iastore, 1) := by decide +kernel
theorem dX0_weigh_23 : decode cX0_weigh 23 = .ok (.aload_n 0, 1) := by decide +kernel
theorem dX0_weigh_24 : decode cX0_weigh 24 = .ok (.getfield 15, 3) := by decide +kernel
theorem dX0_weigh_27 : decode cX0_weigh 27 = .ok (.iconst 1, 1) := by decide +kernel
theorem dX0_weigh_28 : decode cX0_weigh 28 = .ok (.bipush 16, 2) := by decide +kernel
theorem dX0_weigh_30 : decode cX0_weigh 30 = .ok (.iload_n 1, 1) := by decide +kernel
theorem dX0_weigh_31 : decode cX0_weigh 31 = .ok (.lload_n 2, 1) := by decide +kernel
theorem dX0_weigh_32 : decode cX0_weigh 32 = .ok (.l2i, 1) := by decide +kernel
theorem dX0_weigh_33 : decode cX0_weigh 33 = .ok (.ixor, 1) := by decide +kernel
theorem dX0_weigh_34 : decode cX0_weigh 34 = .ok (.bipush 15, 2) := by decide +kernel
theorem dX0_weigh_36 : decode cX0_weigh 36 = .ok (.iand, 1) := by decide +kernel
theorem dX0_weigh_37 : decode cX0_weigh 37 = .ok (.iadd, 1) := by decide +kernel
theorem dX0_weigh_38 : decode cX0_weigh 38 = .ok (.iastore, 1) := by decide +kernel
theorem dX0_weigh_39 : decode cX0_weigh 39 = .ok (.aload_n 0, 1) := by decide +kernel
theorem dX0_weigh_40 : decode cX0_weigh 40 = .ok (.getfield 15, 3) := by decide +kernel
theorem dX0_weigh_43 : decode cX0_weigh 43 = .ok (.iconst 2, 1) := by decide +kernel
theorem dX0_weigh_44 : decode cX0_weigh 44 = .ok (.bipush 32, 2) := by decide +kernel
theorem dX0_weigh_46 : decode cX0_weigh 46 = .ok (.iload_n 1, 1) := by decide +kernel
theorem dX0_weigh_47 : decode cX0_weigh 47 = .ok (.lload_n 2, 1) := by decide +kernel
theorem dX0_weigh_48 : decode cX0_weigh 48 = .ok (.bipush 12, 2) := by decide +kernel
theorem dX0_weigh_50 : decode cX0_weigh 50 = .ok (.iconst 4, 1) := by decide +kernel
theorem dX0_weigh_51 : decode cX0_weigh 51 = .ok (.invokestatic 31, 3) := by decide +kernel
theorem dX0_weigh_54 : decode cX0_weigh 54 = .ok (.ixor, 1) := by decide +kernel
theorem dX0_weigh_55 : decode cX0_weigh 55 = .ok (.bipush 15, 2) := by decide +kernel
theorem dX0_weigh_57 : decode cX0_weigh 57 = .ok (.iand, 1) := by decide +kernel
theorem dX0_weigh_58 : decode cX0_weigh 58 = .ok (.iadd, 1) := by decide +kernel
theorem dX0_weigh_59 : decode cX0_weigh 59 = .ok (.iastore, 1) := by decide +kernel
theorem dX0_weigh_60 : decode cX0_weigh 60 = .ok (.aload_n 0, 1) := by decide +kernel
theorem dX0_weigh_61 : decode cX0_weigh 61 = .ok (.aload_n 0, 1) := by decide +kernel
theorem dX0_weigh_62 : decode cX0_weigh 62 = .ok (.getfield 28, 3) := by decide +kernel
theorem dX0_weigh_65 : decode cX0_weigh 65 = .ok (.iconst 1, 1) := by decide +kernel
theorem dX0_weigh_66 : decode cX0_weigh 66 = .ok (.if_icmp .ne 8, 3) := by decide +kernel
theorem dX0_weigh_69 : decode cX0_weigh 69 = .ok (.bipush 6, 2) := by decide +kernel
theorem dX0_weigh_71 : decode cX0_weigh 71 = .ok (.goto 5, 3) := by decide +kernel
theorem dX0_weigh_74 : decode cX0_weigh 74 = .ok (.bipush (-6), 2) := by decide +kernel
theorem dX0_weigh_76 : decode cX0_weigh 76 = .ok (.putfield 35, 3) := by decide +kernel
theorem dX0_weigh_79 : decode cX0_weigh 79 = .ok (.iconst 0, 1) := by decide +kernel
theorem dX0_weigh_80 : decode cX0_weigh 80 = .ok (.istore 5, 2) := by decide +kernel
theorem dX0_weigh_82 : decode cX0_weigh 82 = .ok (.iload 5, 2) := by decide +kernel
theorem dX0_weigh_84 : decode cX0_weigh 84 = .ok (.iconst 3, 1) := by decide +kernel
theorem dX0_weigh_85 : decode cX0_weigh 85 = .ok (.if_icmp .ge 34, 3) := by decide +kernel
theorem dX0_weigh_88 : decode cX0_weigh 88 = .ok (.aload_n 0, 1) := by decide +kernel
theorem dX0_weigh_89 : decode cX0_weigh 89 = .ok (.dup, 1) := by decide +kernel
theorem dX0_weigh_90 : decode cX0_weigh 90 = .ok (.getfield 35, 3) := by decide +kernel
theorem dX0_weigh_93 : decode cX0_weigh 93 = .ok (.iconst 2, 1) := by decide +kernel
theorem dX0_weigh_94 : decode cX0_weigh 94 = .ok (.aload_n 0, 1) := by decide +kernel
theorem dX0_weigh_95 : decode cX0_weigh 95 = .ok (.getfield 11, 3) := by decide +kernel
theorem dX0_weigh_98 : decode cX0_weigh 98 = .ok (.aload_n 0, 1) := by decide +kernel
theorem dX0_weigh_99 : decode cX0_weigh 99 = .ok (.getfield 15, 3) := by decide +kernel
theorem dX0_weigh_102 : decode cX0_weigh 102 = .ok (.iload 5, 2) := by decide +kernel
theorem dX0_weigh_104 : decode cX0_weigh 104 = .ok (.iaload, 1) := by decide +kernel
theorem dX0_weigh_105 : decode cX0_weigh 105 = .ok (.iaload, 1) := by decide +kernel
theorem dX0_weigh_106 : decode cX0_weigh 106 = .ok (.imul, 1) := by decide +kernel
theorem dX0_weigh_107 : decode cX0_weigh 107 = .ok (.iconst 1, 1) := by decide +kernel
theorem dX0_weigh_108 : decode cX0_weigh 108 = .ok (.iadd, 1) := by decide +kernel
theorem dX0_weigh_109 : decode cX0_weigh 109 = .ok (.iadd, 1) := by decide +kernel
theorem dX0_weigh_110 : decode cX0_weigh 110 = .ok (.putfield 35, 3) := by decide +kernel
theorem dX0_weigh_113 : decode cX0_weigh 113 = .ok (.iinc 5 1, 3) := by decide +kernel
theorem dX0_weigh_116 : decode cX0_weigh 116 = .ok (.goto (-34), 3) := by decide +kernel
theorem dX0_weigh_119 : decode cX0_weigh 119 = .ok (.return_, 1) := by decide +kernel
theorem dX0_side_0 : decode cX0_side 0 = .ok (.aload_n 0, 1) := by decide +kernel
theorem dX0_side_1 : decode cX0_side 1 = .ok (.getfield 35, 3) := by decide +kernel
theorem dX0_side_4 : decode cX0_side 4 = .ok (.ifCond .le 7, 3) := by decide +kernel
theorem dX0_side_7 : decode cX0_side 7 = .ok (.iconst 1, 1) := by decide +kernel
theorem dX0_side_8 : decode cX0_side 8 = .ok (.goto 4, 3) := by decide +kernel
theorem dX0_side_11 : decode cX0_side 11 = .ok (.iconst 0, 1) := by decide +kernel
theorem dX0_side_12 : decode cX0_side 12 = .ok (.ireturn, 1) := by decide +kernel
theorem dX0_say_0 : decode cX0_say 0 = .ok (.aload_n 0, 1) := by decide +kernel
theorem dX0_say_1 : decode cX0_say 1 = .ok (.invokevirtual 38, 3) := by decide +kernel
theorem dX0_say_4 : decode cX0_say 4 = .ok (.aload_n 0, 1) := by decide +kernel
theorem dX0_say_5 : decode cX0_say 5 = .ok (.getfield 28, 3) := by decide +kernel
theorem dX0_say_8 : decode cX0_say 8 = .ok (.if_icmp .eq 24, 3) := by decide +kernel
theorem dX0_say_11 : decode cX0_say 11 = .ok (.aload_n 0, 1) := by decide +kernel
theorem dX0_say_12 : decode cX0_say 12 = .ok (.getfield 35, 3) := by decide +kernel
theorem dX0_say_15 : decode cX0_say 15 = .ok (.invokestatic 42, 3) := by decide +kernel
theorem dX0_say_18 : decode cX0_say 18 = .ok (.aload_n 0, 1) := by decide +kernel
theorem dX0_say_19 : decode cX0_say 19 = .ok (.getfield 24, 3) := by decide +kernel
theorem dX0_say_22 : decode cX0_say 22 = .ok (.if_icmp .lt 10, 3) := by decide +kernel
theorem dX0_say_25 : decode cX0_say 25 = .ok (.aload_n 0, 1) := by decide +kernel
theorem dX0_say_26 : decode cX0_say 26 = .ok (.invokevirtual 38, 3) := by decide +kernel
theorem dX0_say_29 : decode cX0_say 29 = .ok (.goto 4, 3) := by decide +kernel
theorem dX0_say_32 : decode cX0_say 32 = .ok (.iconst (-1), 1) := by decide +kernel
theorem dX0_say_33 : decode cX0_say 33 = .ok (.ireturn, 1) := by decide +kernel
theorem dX0_learn_0 : decode cX0_learn 0 = .ok (.aload_n 0, 1) := by decide +kernel
theorem dX0_learn_1 : decode cX0_learn 1 = .ok (.invokevirtual 38, 3) := by decide +kernel
theorem dX0_learn_4 : decode cX0_learn 4 = .ok (.iload_n 1, 1) := by decide +kernel
theorem dX0_learn_5 : decode cX0_learn 5 = .ok (.if_icmp .ne 7, 3) := by decide +kernel
theorem dX0_learn_8 : decode cX0_learn 8 = .ok (.iconst 1, 1) := by decide +kernel
theorem dX0_learn_9 : decode cX0_learn 9 = .ok (.goto 4, 3) := by decide +kernel
theorem dX0_learn_12 : decode cX0_learn 12 = .ok (.iconst 0, 1) := by decide +kernel
theorem dX0_learn_13 : decode cX0_learn 13 = .ok (.istore_n 2, 1) := by decide +kernel
theorem dX0_learn_14 : decode cX0_learn 14 = .ok (.aload_n 0, 1) := by decide +kernel
theorem dX0_learn_15 : decode cX0_learn 15 = .ok (.invokevirtual 38, 3) := by decide +kernel
theorem dX0_learn_18 : decode cX0_learn 18 = .ok (.aload_n 0, 1) := by decide +kernel
theorem dX0_learn_19 : decode cX0_learn 19 = .ok (.getfield 28, 3) := by decide +kernel
theorem dX0_learn_22 : decode cX0_learn 22 = .ok (.if_icmp .eq 27, 3) := by decide +kernel
theorem dX0_learn_25 : decode cX0_learn 25 = .ok (.aload_n 0, 1) := by decide +kernel
theorem dX0_learn_26 : decode cX0_learn 26 = .ok (.aload_n 0, 1) := by decide +kernel
theorem dX0_learn_27 : decode cX0_learn 27 = .ok (.getfield 24, 3) := by decide +kernel
theorem dX0_learn_30 : decode cX0_learn 30 = .ok (.iload_n 2, 1) := by decide +kernel
theorem dX0_learn_31 : decode cX0_learn 31 = .ok (.ifCond .eq 7, 3) := by decide +kernel
theorem dX0_learn_34 : decode cX0_learn 34 = .ok (.iconst (-1), 1) := by decide +kernel
theorem dX0_learn_35 : decode cX0_learn 35 = .ok (.goto 4, 3) := by decide +kernel
theorem dX0_learn_38 : decode cX0_learn 38 = .ok (.iconst 1, 1) := by decide +kernel
theorem dX0_learn_39 : decode cX0_learn 39 = .ok (.iadd, 1) := by decide +kernel
theorem dX0_learn_40 : decode cX0_learn 40 = .ok (.iconst 1, 1) := by decide +kernel
theorem dX0_learn_41 : decode cX0_learn 41 = .ok (.bipush 15, 2) := by decide +kernel
theorem dX0_learn_43 : decode cX0_learn 43 = .ok (.invokestatic 48, 3) := by decide +kernel
theorem dX0_learn_46 : decode cX0_learn 46 = .ok (.putfield 24, 3) := by decide +kernel
theorem dX0_learn_49 : decode cX0_learn 49 = .ok (.iload_n 2, 1) := by decide +kernel
theorem dX0_learn_50 : decode cX0_learn 50 = .ok (.ifCond .eq 15, 3) := by decide +kernel
theorem dX0_learn_53 : decode cX0_learn 53 = .ok (.aload_n 0, 1) := by decide +kernel
theorem dX0_learn_54 : decode cX0_learn 54 = .ok (.getfield 35, 3) := by decide +kernel
theorem dX0_learn_57 : decode cX0_learn 57 = .ok (.invokestatic 42, 3) := by decide +kernel
theorem dX0_learn_60 : decode cX0_learn 60 = .ok (.bipush 12, 2) := by decide +kernel
theorem dX0_learn_62 : decode cX0_learn 62 = .ok (.if_icmp .ge 56, 3) := by decide +kernel
theorem dX0_learn_65 : decode cX0_learn 65 = .ok (.iconst 0, 1) := by decide +kernel
theorem dX0_learn_66 : decode cX0_learn 66 = .ok (.istore_n 3, 1) := by decide +kernel
theorem dX0_learn_67 : decode cX0_learn 67 = .ok (.iload_n 3, 1) := by decide +kernel
theorem dX0_learn_68 : decode cX0_learn 68 = .ok (.iconst 3, 1) := by decide +kernel
theorem dX0_learn_69 : decode cX0_learn 69 = .ok (.if_icmp .ge 49, 3) := by decide +kernel
theorem dX0_learn_72 : decode cX0_learn 72 = .ok (.aload_n 0, 1) := by decide +kernel
theorem dX0_learn_73 : decode cX0_learn 73 = .ok (.getfield 11, 3) := by decide +kernel
theorem dX0_learn_76 : decode cX0_learn 76 = .ok (.aload_n 0, 1) := by decide +kernel
theorem dX0_learn_77 : decode cX0_learn 77 = .ok (.getfield 15, 3) := by decide +kernel
theorem dX0_learn_80 : decode cX0_learn 80 = .ok (.iload_n 3, 1) := by decide +kernel
theorem dX0_learn_81 : decode cX0_learn 81 = .ok (.iaload, 1) := by decide +kernel
theorem dX0_learn_82 : decode cX0_learn 82 = .ok (.aload_n 0, 1) := by decide +kernel
theorem dX0_learn_83 : decode cX0_learn 83 = .ok (.getfield 11, 3) := by decide +kernel
theorem dX0_learn_86 : decode cX0_learn 86 = .ok (.aload_n 0, 1) := by decide +kernel
theorem dX0_learn_87 : decode cX0_learn 87 = .ok (.getfield 15, 3) := by decide +kernel
theorem dX0_learn_90 : decode cX0_learn 90 = .ok (.iload_n 3, 1) := by decide +kernel
theorem dX0_learn_91 : decode cX0_learn 91 = .ok (.iaload, 1) := by decide +kernel
theorem dX0_learn_92 : decode cX0_learn 92 = .ok (.iaload, 1) := by decide +kernel
theorem dX0_learn_93 : decode cX0_learn 93 = .ok (.iload_n 1, 1) := by decide +kernel
theorem dX0_learn_94 : decode cX0_learn 94 = .ok (.iconst 1, 1) := by decide +kernel
theorem dX0_learn_95 : decode cX0_learn 95 = .ok (.if_icmp .ne 7, 3) := by decide +kernel
theorem dX0_learn_98 : decode cX0_learn 98 = .ok (.iconst 1, 1) := by decide +kernel
theorem dX0_learn_99 : decode cX0_learn 99 = .ok (.goto 4, 3) := by decide +kernel
theorem dX0_learn_102 : decode cX0_learn 102 = .ok (.iconst (-1), 1) := by decide +kernel
theorem dX0_learn_103 : decode cX0_learn 103 = .ok (.iadd, 1) := by decide +kernel
theorem dX0_learn_104 : decode cX0_learn 104 = .ok (.bipush (-8), 2) := by decide +kernel
theorem dX0_learn_106 : decode cX0_learn 106 = .ok (.bipush 7, 2) := by decide +kernel
theorem dX0_learn_108 : decode cX0_learn 108 = .ok (.invokestatic 48, 3) := by decide +kernel
theorem dX0_learn_111 : decode cX0_learn 111 = .ok (.iastore, 1) := by decide +kernel
theorem dX0_learn_112 : decode cX0_learn 112 = .ok (.iinc 3 1, 3) := by decide +kernel
theorem dX0_learn_115 : decode cX0_learn 115 = .ok (.goto (-48), 3) := by decide +kernel
theorem dX0_learn_118 : decode cX0_learn 118 = .ok (.return_, 1) := by decide +kernel
theorem dX1_init_0 : decode cX1_init 0 = .ok (.aload_n 0, 1) := by decide +kernel
theorem dX1_init_1 : decode cX1_init 1 = .ok (.invokespecial 3, 3) := by decide +kernel
theorem dX1_init_4 : decode cX1_init 4 = .ok (.aload_n 0, 1) := by decide +kernel
theorem dX1_init_5 : decode cX1_init 5 = .ok (.new 9, 3) := by decide +kernel
theorem dX1_init_8 : decode cX1_init 8 = .ok (.dup, 1) := by decide +kernel
theorem dX1_init_9 : decode cX1_init 9 = .ok (.invokespecial 11, 3) := by decide +kernel
theorem dX1_init_12 : decode cX1_init 12 = .ok (.putfield 12, 3) := by decide +kernel
theorem dX1_init_15 : decode cX1_init 15 = .ok (.aload_n 0, 1) := by decide +kernel
theorem dX1_init_16 : decode cX1_init 16 = .ok (.new 18, 3) := by decide +kernel
theorem dX1_init_19 : decode cX1_init 19 = .ok (.dup, 1) := by decide +kernel
theorem dX1_init_20 : decode cX1_init 20 = .ok (.invokespecial 20, 3) := by decide +kernel
theorem dX1_init_23 : decode cX1_init 23 = .ok (.putfield 21, 3) := by decide +kernel
theorem dX1_init_26 : decode cX1_init 26 = .ok (.aload_n 0, 1) := by decide +kernel
theorem dX1_init_27 : decode cX1_init 27 = .ok (.new 25, 3) := by decide +kernel
theorem dX1_init_30 : decode cX1_init 30 = .ok (.dup, 1) := by decide +kernel
theorem dX1_init_31 : decode cX1_init 31 = .ok (.invokespecial 27, 3) := by decide +kernel
theorem dX1_init_34 : decode cX1_init 34 = .ok (.putfield 28, 3) := by decide +kernel
theorem dX1_init_37 : decode cX1_init 37 = .ok (.return_, 1) := by decide +kernel
theorem dX1_setAs_0 : decode cX1_setAs 0 = .ok (.aload_n 0, 1) := by decide +kernel
theorem dX1_setAs_1 : decode cX1_setAs 1 = .ok (.getfield 12, 3) := by decide +kernel
theorem dX1_setAs_4 : decode cX1_setAs 4 = .ok (.aload_n 1, 1) := by decide +kernel
theorem dX1_setAs_5 : decode cX1_setAs 5 = .ok (.invokevirtual 32, 3) := by decide +kernel
theorem dX1_setAs_8 : decode cX1_setAs 8 = .ok (.aload_n 0, 1) := by decide +kernel
theorem dX1_setAs_9 : decode cX1_setAs 9 = .ok (.aload_n 1, 1) := by decide +kernel
theorem dX1_setAs_10 : decode cX1_setAs 10 = .ok (.getfield 36, 3) := by decide +kernel
theorem dX1_setAs_13 : decode cX1_setAs 13 = .ok (.iconst 5, 1) := by decide +kernel
theorem dX1_setAs_14 : decode cX1_setAs 14 = .ok (.iaload, 1) := by decide +kernel
theorem dX1_setAs_15 : decode cX1_setAs 15 = .ok (.putfield 42, 3) := by decide +kernel
theorem dX1_setAs_18 : decode cX1_setAs 18 = .ok (.aload_n 0, 1) := by decide +kernel
theorem dX1_setAs_19 : decode cX1_setAs 19 = .ok (.invokevirtual 46, 3) := by decide +kernel
theorem dX1_setAs_22 : decode cX1_setAs 22 = .ok (.return_, 1) := by decide +kernel
theorem dX1_clear_0 : decode cX1_clear 0 = .ok (.aload_n 0, 1) := by decide +kernel
theorem dX1_clear_1 : decode cX1_clear 1 = .ok (.getfield 12, 3) := by decide +kernel
theorem dX1_clear_4 : decode cX1_clear 4 = .ok (.invokevirtual 49, 3) := by decide +kernel
theorem dX1_clear_7 : decode cX1_clear 7 = .ok (.aload_n 0, 1) := by decide +kernel
theorem dX1_clear_8 : decode cX1_clear 8 = .ok (.getfield 21, 3) := by decide +kernel
theorem dX1_clear_11 : decode cX1_clear 11 = .ok (.invokevirtual 50, 3) := by decide +kernel
theorem dX1_clear_14 : decode cX1_clear 14 = .ok (.aload_n 0, 1) := by decide +kernel
theorem dX1_clear_15 : decode cX1_clear 15 = .ok (.getfield 28, 3) := by decide +kernel
theorem dX1_clear_18 : decode cX1_clear 18 = .ok (.invokevirtual 51, 3) := by decide +kernel
theorem dX1_clear_21 : decode cX1_clear 21 = .ok (.aload_n 0, 1) := by decide +kernel
theorem dX1_clear_22 : decode cX1_clear 22 = .ok (.lconst 0, 1) := by decide +kernel
theorem dX1_clear_23 : decode cX1_clear 23 = .ok (.putfield 52, 3) := by decide +kernel
theorem dX1_clear_26 : decode cX1_clear 26 = .ok (.aload_n 0, 1) := by decide +kernel
theorem dX1_clear_27 : decode cX1_clear 27 = .ok (.iconst 0, 1) := by decide +kernel
theorem dX1_clear_28 : decode cX1_clear 28 = .ok (.putfield 56, 3) := by decide +kernel
theorem dX1_clear_31 : decode cX1_clear 31 = .ok (.return_, 1) := by decide +kernel
theorem dX1_has_0 : decode cX1_has 0 = .ok (.aload_n 0, 1) := by decide +kernel
theorem dX1_has_1 : decode cX1_has 1 = .ok (.getfield 42, 3) := by decide +kernel
theorem dX1_has_4 : decode cX1_has 4 = .ok (.iload_n 1, 1) := by decide +kernel
theorem dX1_has_5 : decode cX1_has 5 = .ok (.iand, 1) := by decide +kernel
theorem dX1_has_6 : decode cX1_has 6 = .ok (.ifCond .eq 7, 3) := by decide +kernel
theorem dX1_has_9 : decode cX1_has 9 = .ok (.iconst 1, 1) := by decide +kernel
theorem dX1_has_10 : decode cX1_has 10 = .ok (.goto 4, 3) := by decide +kernel
theorem dX1_has_13 : decode cX1_has 13 = .ok (.iconst 0, 1) := by decide +kernel
theorem dX1_has_14 : decode cX1_has 14 = .ok (.ireturn, 1) := by decide +kernel
theorem dX1_ask_0 : decode cX1_ask 0 = .ok (.aload_n 0, 1) := by decide +kernel
theorem dX1_ask_1 : decode cX1_ask 1 = .ok (.iload_n 1, 1) := by decide +kernel
theorem dX1_ask_2 : decode cX1_ask 2 = .ok (.putfield 59, 3) := by decide +kernel
theorem dX1_ask_5 : decode cX1_ask 5 = .ok (.aload_n 0, 1) := by decide +kernel
theorem dX1_ask_6 : decode cX1_ask 6 = .ok (.getfield 12, 3) := by decide +kernel
theorem dX1_ask_9 : decode cX1_ask 9 = .ok (.iload_n 1, 1) := by decide +kernel
theorem dX1_ask_10 : decode cX1_ask 10 = .ok (.aload_n 0, 1) := by decide +kernel
theorem dX1_ask_11 : decode cX1_ask 11 = .ok (.getfield 52, 3) := by decide +kernel
theorem dX1_ask_14 : decode cX1_ask 14 = .ok (.aload_n 0, 1) := by decide +kernel
theorem dX1_ask_15 : decode cX1_ask 15 = .ok (.iconst 4, 1) := by decide +kernel
theorem dX1_ask_16 : decode cX1_ask 16 = .ok (.invokevirtual 62, 3) := by decide +kernel
theorem dX1_ask_19 : decode cX1_ask 19 = .ok (.invokevirtual 66, 3) := by decide +kernel
theorem dX1_ask_22 : decode cX1_ask 22 = .ok (.aload_n 0, 1) := by decide +kernel
theorem dX1_ask_23 : decode cX1_ask 23 = .ok (.getfield 28, 3) := by decide +kernel
theorem dX1_ask_26 : decode cX1_ask 26 = .ok (.iload_n 1, 1) := by decide +kernel
theorem dX1_ask_27 : decode cX1_ask 27 = .ok (.aload_n 0, 1) := by decide +kernel
theorem dX1_ask_28 : decode cX1_ask 28 = .ok (.getfield 52, 3) := by decide +kernel
theorem dX1_ask_31 : decode cX1_ask 31 = .ok (.aload_n 0, 1) := by decide +kernel
theorem dX1_ask_32 : decode cX1_ask 32 = .ok (.getfield 12, 3) := by decide +kernel
theorem dX1_ask_35 : decode cX1_ask 35 = .ok (.getfield 70, 3) := by decide +kernel
theorem dX1_ask_38 : decode cX1_ask 38 = .ok (.invokevirtual 73, 3) := by decide +kernel
theorem dX1_ask_41 : decode cX1_ask 41 = .ok (.aload_n 0, 1) := by decide +kernel
theorem dX1_ask_42 : decode cX1_ask 42 = .ok (.aload_n 0, 1) := by decide +kernel
theorem dX1_ask_43 : decode cX1_ask 43 = .ok (.iconst 1, 1) := by decide +kernel
theorem dX1_ask_44 : decode cX1_ask 44 = .ok (.invokevirtual 62, 3) := by decide +kernel
theorem dX1_ask_47 : decode cX1_ask 47 = .ok (.ifCond .eq 14, 3) := by decide +kernel
theorem dX1_ask_50 : decode cX1_ask 50 = .ok (.aload_n 0, 1) := by decide +kernel
theorem dX1_ask_51 : decode cX1_ask 51 = .ok (.getfield 21, 3) := by decide +kernel
theorem dX1_ask_54 : decode cX1_ask 54 = .ok (.iload_n 1, 1) := by decide +kernel
theorem dX1_ask_55 : decode cX1_ask 55 = .ok (.invokevirtual 77, 3) := by decide +kernel
theorem dX1_ask_58 : decode cX1_ask 58 = .ok (.goto 4, 3) := by decide +kernel
theorem dX1_ask_61 : decode cX1_ask 61 = .ok (.iconst (-1), 1) := by decide +kernel
theorem dX1_ask_62 : decode cX1_ask 62 = .ok (.putfield 81, 3) := by decide +kernel
theorem dX1_ask_65 : decode cX1_ask 65 = .ok (.aload_n 0, 1) := by decide +kernel
theorem dX1_ask_66 : decode cX1_ask 66 = .ok (.iconst 1, 1) := by decide +kernel
theorem dX1_ask_67 : decode cX1_ask 67 = .ok (.putfield 84, 3) := by decide +kernel
theorem dX1_ask_70 : decode cX1_ask 70 = .ok (.aload_n 0, 1) := by decide +kernel
theorem dX1_ask_71 : decode cX1_ask 71 = .ok (.getfield 81, 3) := by decide +kernel
theorem dX1_ask_74 : decode cX1_ask 74 = .ok (.iconst (-1), 1) := by decide +kernel
theorem dX1_ask_75 : decode cX1_ask 75 = .ok (.if_icmp .ne 31, 3) := by decide +kernel
theorem dX1_ask_78 : decode cX1_ask 78 = .ok (.aload_n 0, 1) := by decide +kernel
theorem dX1_ask_79 : decode cX1_ask 79 = .ok (.aload_n 0, 1) := by decide +kernel
theorem dX1_ask_80 : decode cX1_ask 80 = .ok (.iconst 2, 1) := by decide +kernel
theorem dX1_ask_81 : decode cX1_ask 81 = .ok (.invokevirtual 62, 3) := by decide +kernel
theorem dX1_ask_84 : decode cX1_ask 84 = .ok (.ifCond .eq 13, 3) := by decide +kernel
theorem dX1_ask_87 : decode cX1_ask 87 = .ok (.aload_n 0, 1) := by decide +kernel
theorem dX1_ask_88 : decode cX1_ask 88 = .ok (.getfield 28, 3) := by decide +kernel
theorem dX1_ask_91 : decode cX1_ask 91 = .ok (.invokevirtual 87, 3) := by decide +kernel
theorem dX1_ask_94 : decode cX1_ask 94 = .ok (.goto 4, 3) := by decide +kernel
theorem dX1_ask_97 : decode cX1_ask 97 = .ok (.iconst (-1), 1) := by decide +kernel
theorem dX1_ask_98 : decode cX1_ask 98 = .ok (.putfield 81, 3) := by decide +kernel
theorem dX1_ask_101 : decode cX1_ask 101 = .ok (.aload_n 0, 1) := by decide +kernel
theorem dX1_ask_102 : decode cX1_ask 102 = .ok (.iconst 2, 1) := by decide +kernel
theorem dX1_ask_103 : decode cX1_ask 103 = .ok (.putfield 84, 3) := by decide +kernel
theorem dX1_ask_106 : decode cX1_ask 106 = .ok (.aload_n 0, 1) := by decide +kernel
theorem dX1_ask_107 : decode cX1_ask 107 = .ok (.getfield 81, 3) := by decide +kernel
theorem dX1_ask_110 : decode cX1_ask 110 = .ok (.iconst (-1), 1) := by decide +kernel
theorem dX1_ask_111 : decode cX1_ask 111 = .ok (.if_icmp .ne 19, 3) := by decide +kernel
theorem dX1_ask_114 : decode cX1_ask 114 = .ok (.aload_n 0, 1) := by decide +kernel
theorem dX1_ask_115 : decode cX1_ask 115 = .ok (.aload_n 0, 1) := by decide +kernel
theorem dX1_ask_116 : decode cX1_ask 116 = .ok (.getfield 12, 3) := by decide +kernel
theorem dX1_ask_119 : decode cX1_ask 119 = .ok (.getfield 70, 3) := by decide +kernel
theorem dX1_ask_122 : decode cX1_ask 122 = .ok (.putfield 81, 3) := by decide +kernel
theorem dX1_ask_125 : decode cX1_ask 125 = .ok (.aload_n 0, 1) := by decide +kernel
theorem dX1_ask_126 : decode cX1_ask 126 = .ok (.iconst 0, 1) := by decide +kernel
theorem dX1_ask_127 : decode cX1_ask 127 = .ok (.putfield 84, 3) := by decide +kernel
theorem dX1_ask_130 : decode cX1_ask 130 = .ok (.aload_n 0, 1) := by decide +kernel
theorem dX1_ask_131 : decode cX1_ask 131 = .ok (.getfield 81, 3) := by decide +kernel
theorem dX1_ask_134 : decode cX1_ask 134 = .ok (.ireturn, 1) := by decide +kernel
theorem dX1_learn_0 : decode cX1_learn 0 = .ok (.aload_n 0, 1) := by decide +kernel
theorem dX1_learn_1 : decode cX1_learn 1 = .ok (.iconst 1, 1) := by decide +kernel
theorem dX1_learn_2 : decode cX1_learn 2 = .ok (.invokevirtual 62, 3) := by decide +kernel
theorem dX1_learn_5 : decode cX1_learn 5 = .ok (.ifCond .eq 28, 3) := by decide +kernel
theorem dX1_learn_8 : decode cX1_learn 8 = .ok (.aload_n 0, 1) := by decide +kernel
theorem dX1_learn_9 : decode cX1_learn 9 = .ok (.getfield 21, 3) := by decide +kernel
theorem dX1_learn_12 : decode cX1_learn 12 = .ok (.aload_n 0, 1) := by decide +kernel
theorem dX1_learn_13 : decode cX1_learn 13 = .ok (.getfield 59, 3) := by decide +kernel
theorem dX1_learn_16 : decode cX1_learn 16 = .ok (.iload_n 1, 1) := by decide +kernel
theorem dX1_learn_17 : decode cX1_learn 17 = .ok (.aload_n 0, 1) := by decide +kernel
theorem dX1_learn_18 : decode cX1_learn 18 = .ok (.getfield 81, 3) := by decide +kernel
theorem dX1_learn_21 : decode cX1_learn 21 = .ok (.iload_n 1, 1) := by decide +kernel
theorem dX1_learn_22 : decode cX1_learn 22 = .ok (.if_icmp .eq 7, 3) := by decide +kernel
theorem dX1_learn_25 : decode cX1_learn 25 = .ok (.iconst 1, 1) := by decide +kernel
theorem dX1_learn_26 : decode cX1_learn 26 = .ok (.goto 4, 3) := by decide +kernel
theorem dX1_learn_29 : decode cX1_learn 29 = .ok (.iconst 0, 1) := by decide +kernel
theorem dX1_learn_30 : decode cX1_learn 30 = .ok (.invokevirtual 90, 3) := by decide +kernel
theorem dX1_learn_33 : decode cX1_learn 33 = .ok (.aload_n 0, 1) := by decide +kernel
theorem dX1_learn_34 : decode cX1_learn 34 = .ok (.iconst 2, 1) := by decide +kernel
theorem dX1_learn_35 : decode cX1_learn 35 = .ok (.invokevirtual 62, 3) := by decide +kernel
theorem dX1_learn_38 : decode cX1_learn 38 = .ok (.ifCond .eq 11, 3) := by decide +kernel
theorem dX1_learn_41 : decode cX1_learn 41 = .ok (.aload_n 0, 1) := by decide +kernel
theorem dX1_learn_42 : decode cX1_learn 42 = .ok (.getfield 28, 3) := by decide +kernel
theorem dX1_learn_45 : decode cX1_learn 45 = .ok (.iload_n 1, 1) := by decide +kernel
theorem dX1_learn_46 : decode cX1_learn 46 = .ok (.invokevirtual 94, 3) := by decide +kernel
theorem dX1_learn_49 : decode cX1_learn 49 = .ok (.aload_n 0, 1) := by decide +kernel
theorem dX1_learn_50 : decode cX1_learn 50 = .ok (.getfield 12, 3) := by decide +kernel
theorem dX1_learn_53 : decode cX1_learn 53 = .ok (.iload_n 1, 1) := by decide +kernel
theorem dX1_learn_54 : decode cX1_learn 54 = .ok (.aload_n 0, 1) := by decide +kernel
theorem dX1_learn_55 : decode cX1_learn 55 = .ok (.iconst 4, 1) := by decide +kernel
theorem dX1_learn_56 : decode cX1_learn 56 = .ok (.invokevirtual 62, 3) := by decide +kernel
theorem dX1_learn_59 : decode cX1_learn 59 = .ok (.invokevirtual 97, 3) := by decide +kernel
theorem dX1_learn_62 : decode cX1_learn 62 = .ok (.aload_n 0, 1) := by decide +kernel
theorem dX1_learn_63 : decode cX1_learn 63 = .ok (.getfield 12, 3) := by decide +kernel
theorem dX1_learn_66 : decode cX1_learn 66 = .ok (.getfield 70, 3) := by decide +kernel
theorem dX1_learn_69 : decode cX1_learn 69 = .ok (.iload_n 1, 1) := by decide +kernel
theorem dX1_learn_70 : decode cX1_learn 70 = .ok (.if_icmp .eq 19, 3) := by decide +kernel
theorem dX1_learn_73 : decode cX1_learn 73 = .ok (.aload_n 0, 1) := by decide +kernel
theorem dX1_learn_74 : decode cX1_learn 74 = .ok (.getfield 12, 3) := by decide +kernel
theorem dX1_learn_77 : decode cX1_learn 77 = .ok (.aload_n 0, 1) := by decide +kernel
theorem dX1_learn_78 : decode cX1_learn 78 = .ok (.getfield 59, 3) := by decide +kernel
theorem dX1_learn_81 : decode cX1_learn 81 = .ok (.aload_n 0, 1) := by decide +kernel
theorem dX1_learn_82 : decode cX1_learn 82 = .ok (.getfield 52, 3) := by decide +kernel
theorem dX1_learn_85 : decode cX1_learn 85 = .ok (.iload_n 1, 1) := by decide +kernel
theorem dX1_learn_86 : decode cX1_learn 86 = .ok (.invokevirtual 100, 3) := by decide +kernel
theorem dX1_learn_89 : decode cX1_learn 89 = .ok (.aload_n 0, 1) := by decide +kernel
theorem dX1_learn_90 : decode cX1_learn 90 = .ok (.aload_n 0, 1) := by decide +kernel
theorem dX1_learn_91 : decode cX1_learn 91 = .ok (.getfield 52, 3) := by decide +kernel
theorem dX1_learn_94 : decode cX1_learn 94 = .ok (.iconst 1, 1) := by decide +kernel
theorem dX1_learn_95 : decode cX1_learn 95 = .ok (.lshl, 1) := by decide +kernel
theorem dX1_learn_96 : decode cX1_learn 96 = .ok (.iload_n 1, 1) := by decide +kernel
theorem dX1_learn_97 : decode cX1_learn 97 = .ok (.i2l, 1) := by decide +kernel
theorem dX1_learn_98 : decode cX1_learn 98 = .ok (.lor, 1) := by decide +kernel
theorem dX1_learn_99 : decode cX1_learn 99 = .ok (.putfield 52, 3) := by decide +kernel
theorem dX1_learn_102 : decode cX1_learn 102 = .ok (.aload_n 0, 1) := by decide +kernel
theorem dX1_learn_103 : decode cX1_learn 103 = .ok (.dup, 1) := by decide +kernel
theorem dX1_learn_104 : decode cX1_learn 104 = .ok (.getfield 56, 3) := by decide +kernel
theorem dX1_learn_107 : decode cX1_learn 107 = .ok (.iconst 1, 1) := by decide +kernel
theorem dX1_learn_108 : decode cX1_learn 108 = .ok (.iadd, 1) := by decide +kernel
theorem dX1_learn_109 : decode cX1_learn 109 = .ok (.putfield 56, 3) := by decide +kernel
theorem dX1_learn_112 : decode cX1_learn 112 = .ok (.return_, 1) := by decide +kernel
theorem dX2_init_0 : decode cX2_init 0 = .ok (.aload_n 0, 1) := by decide +kernel
theorem dX2_init_1 : decode cX2_init 1 = .ok (.invokespecial 3, 3) := by decide +kernel
theorem dX2_init_4 : decode cX2_init 4 = .ok (.aload_n 0, 1) := by decide +kernel
theorem dX2_init_5 : decode cX2_init 5 = .ok (.bipush 8, 2) := by decide +kernel
theorem dX2_init_7 : decode cX2_init 7 = .ok (.newarray .int, 2) := by decide +kernel
theorem dX2_init_9 : decode cX2_init 9 = .ok (.putfield 11, 3) := by decide +kernel
theorem dX2_init_12 : decode cX2_init 12 = .ok (.aload_n 0, 1) := by decide +kernel
theorem dX2_init_13 : decode cX2_init 13 = .ok (.bipush 8, 2) := by decide +kernel
theorem dX2_init_15 : decode cX2_init 15 = .ok (.newarray .int, 2) := by decide +kernel
theorem dX2_init_17 : decode cX2_init 17 = .ok (.putfield 15, 3) := by decide +kernel
theorem dX2_init_20 : decode cX2_init 20 = .ok (.aload_n 0, 1) := by decide +kernel
theorem dX2_init_21 : decode cX2_init 21 = .ok (.bipush 8, 2) := by decide +kernel
theorem dX2_init_23 : decode cX2_init 23 = .ok (.newarray .int, 2) := by decide +kernel
theorem dX2_init_25 : decode cX2_init 25 = .ok (.putfield 18, 3) := by decide +kernel
theorem dX2_init_28 : decode cX2_init 28 = .ok (.aload_n 0, 1) := by decide +kernel
theorem dX2_init_29 : decode cX2_init 29 = .ok (.bipush 8, 2) := by decide +kernel
theorem dX2_init_31 : decode cX2_init 31 = .ok (.newarray .int, 2) := by decide +kernel
theorem dX2_init_33 : decode cX2_init 33 = .ok (.putfield 21, 3) := by decide +kernel
theorem dX2_init_36 : decode cX2_init 36 = .ok (.aload_n 0, 1) := by decide +kernel
theorem dX2_init_37 : decode cX2_init 37 = .ok (.bipush 8, 2) := by decide +kernel
theorem dX2_init_39 : decode cX2_init 39 = .ok (.newarray .int, 2) := by decide +kernel
theorem dX2_init_41 : decode cX2_init 41 = .ok (.putfield 24, 3) := by decide +kernel
theorem dX2_init_44 : decode cX2_init 44 = .ok (.return_, 1) := by decide +kernel
theorem dX2_clear_0 : decode cX2_clear 0 = .ok (.iconst 0, 1) := by decide +kernel
theorem dX2_clear_1 : decode cX2_clear 1 = .ok (.istore_n 1, 1) := by decide +kernel
theorem dX2_clear_2 : decode cX2_clear 2 = .ok (.iload_n 1, 1) := by decide +kernel
theorem dX2_clear_3 : decode cX2_clear 3 = .ok (.bipush 8, 2) := by decide +kernel
theorem dX2_clear_5 : decode cX2_clear 5 = .ok (.if_icmp .ge 16, 3) := by decide +kernel
theorem dX2_clear_8 : decode cX2_clear 8 = .ok (.aload_n 0, 1) := by decide +kernel
theorem dX2_clear_9 : decode cX2_clear 9 = .ok (.iload_n 1, 1) := by decide +kernel
theorem dX2_clear_10 : decode cX2_clear 10 = .ok (.iconst (-1), 1) := by decide +kernel
theorem dX2_clear_11 : decode cX2_clear 11 = .ok (.iconst 0, 1) := by decide +kernel
theorem dX2_clear_12 : decode cX2_clear 12 = .ok (.invokevirtual 27, 3) := by decide +kernel
theorem dX2_clear_15 : decode cX2_clear 15 = .ok (.iinc 1 1, 3) := by decide +kernel
theorem dX2_clear_18 : decode cX2_clear 18 = .ok (.goto (-16), 3) := by decide +kernel
theorem dX2_clear_21 : decode cX2_clear 21 = .ok (.return_, 1) := by decide +kernel
theorem dX2_give_0 : decode cX2_give 0 = .ok (.aload_n 0, 1) := by decide +kernel
theorem dX2_give_1 : decode cX2_give 1 = .ok (.getfield 11, 3) := by decide +kernel
theorem dX2_give_4 : decode cX2_give 4 = .ok (.iload_n 1, 1) := by decide +kernel
theorem dX2_give_5 : decode cX2_give 5 = .ok (.iload_n 2, 1) := by decide +kernel
theorem dX2_give_6 : decode cX2_give 6 = .ok (.iastore, 1) := by decide +kernel
theorem dX2_give_7 : decode cX2_give 7 = .ok (.aload_n 0, 1) := by decide +kernel
theorem dX2_give_8 : decode cX2_give 8 = .ok (.getfield 15, 3) := by decide +kernel
theorem dX2_give_11 : decode cX2_give 11 = .ok (.iload_n 1, 1) := by decide +kernel
theorem dX2_give_12 : decode cX2_give 12 = .ok (.iconst (-1), 1) := by decide +kernel
theorem dX2_give_13 : decode cX2_give 13 = .ok (.iastore, 1) := by decide +kernel
theorem dX2_give_14 : decode cX2_give 14 = .ok (.aload_n 0, 1) := by decide +kernel
theorem dX2_give_15 : decode cX2_give 15 = .ok (.getfield 18, 3) := by decide +kernel
theorem dX2_give_18 : decode cX2_give 18 = .ok (.iload_n 1, 1) := by decide +kernel
theorem dX2_give_19 : decode cX2_give 19 = .ok (.iconst 0, 1) := by decide +kernel
theorem dX2_give_20 : decode cX2_give 20 = .ok (.iastore, 1) := by decide +kernel
theorem dX2_give_21 : decode cX2_give 21 = .ok (.aload_n 0, 1) := by decide +kernel
theorem dX2_give_22 : decode cX2_give 22 = .ok (.getfield 21, 3) := by decide +kernel
theorem dX2_give_25 : decode cX2_give 25 = .ok (.iload_n 1, 1) := by decide +kernel
theorem dX2_give_26 : decode cX2_give 26 = .ok (.iconst 0, 1) := by decide +kernel
theorem dX2_give_27 : decode cX2_give 27 = .ok (.iastore, 1) := by decide +kernel
theorem dX2_give_28 : decode cX2_give 28 = .ok (.aload_n 0, 1) := by decide +kernel
theorem dX2_give_29 : decode cX2_give 29 = .ok (.getfield 24, 3) := by decide +kernel
theorem dX2_give_32 : decode cX2_give 32 = .ok (.iload_n 1, 1) := by decide +kernel
theorem dX2_give_33 : decode cX2_give 33 = .ok (.iload_n 3, 1) := by decide +kernel
theorem dX2_give_34 : decode cX2_give 34 = .ok (.iastore, 1) := by decide +kernel
theorem dX2_give_35 : decode cX2_give 35 = .ok (.return_, 1) := by decide +kernel
theorem dX2_say_0 : decode cX2_say 0 = .ok (.iload_n 1, 1) := by decide +kernel
theorem dX2_say_1 : decode cX2_say 1 = .ok (.bipush 8, 2) := by decide +kernel
theorem dX2_say_3 : decode cX2_say 3 = .ok (.irem, 1) := by decide +kernel
theorem dX2_say_4 : decode cX2_say 4 = .ok (.istore_n 2, 1) := by decide +kernel
theorem dX2_say_5 : decode cX2_say 5 = .ok (.aload_n 0, 1) := by decide +kernel
theorem dX2_say_6 : decode cX2_say 6 = .ok (.getfield 11, 3) := by decide +kernel
theorem dX2_say_9 : decode cX2_say 9 = .ok (.iload_n 2, 1) := by decide +kernel
theorem dX2_say_10 : decode cX2_say 10 = .ok (.iaload, 1) := by decide +kernel
theorem dX2_say_11 : decode cX2_say 11 = .ok (.iload_n 1, 1) := by decide +kernel
theorem dX2_say_12 : decode cX2_say 12 = .ok (.if_icmp .ne 13, 3) := by decide +kernel
theorem dX2_say_15 : decode cX2_say 15 = .ok (.aload_n 0, 1) := by decide +kernel
theorem dX2_say_16 : decode cX2_say 16 = .ok (.getfield 21, 3) := by decide +kernel
theorem dX2_say_19 : decode cX2_say 19 = .ok (.iload_n 2, 1) := by decide +kernel
theorem dX2_say_20 : decode cX2_say 20 = .ok (.iaload, 1) := by decide +kernel
theorem dX2_say_21 : decode cX2_say 21 = .ok (.iconst 3, 1) := by decide +kernel
theorem dX2_say_22 : decode cX2_say 22 = .ok (.if_icmp .ge 5, 3) := by decide +kernel
theorem dX2_say_25 : decode cX2_say 25 = .ok (.iconst (-1), 1) := by decide +kernel
theorem dX2_say_26 : decode cX2_say 26 = .ok (.ireturn, 1) := by decide +kernel
theorem dX2_say_27 : decode cX2_say 27 = .ok (.aload_n 0, 1) := by decide +kernel
theorem dX2_say_28 : decode cX2_say 28 = .ok (.getfield 18, 3) := by decide +kernel
theorem dX2_say_31 : decode cX2_say 31 = .ok (.iload_n 2, 1) := by decide +kernel
theorem dX2_say_32 : decode cX2_say 32 = .ok (.iaload, 1) := by decide +kernel
theorem dX2_say_33 : decode cX2_say 33 = .ok (.aload_n 0, 1) := by decide +kernel
theorem dX2_say_34 : decode cX2_say 34 = .ok (.getfield 15, 3) := by decide +kernel
theorem dX2_say_37 : decode cX2_say 37 = .ok (.iload_n 2, 1) := by decide +kernel
theorem dX2_say_38 : decode cX2_say 38 = .ok (.iaload, 1) := by decide +kernel
theorem dX2_say_39 : decode cX2_say 39 = .ok (.if_icmp .ge 7, 3) := by decide +kernel
theorem dX2_say_42 : decode cX2_say 42 = .ok (.iconst 1, 1) := by decide +kernel
theorem dX2_say_43 : decode cX2_say 43 = .ok (.goto 4, 3) := by decide +kernel
theorem dX2_say_46 : decode cX2_say 46 = .ok (.iconst 0, 1) := by decide +kernel
theorem dX2_say_47 : decode cX2_say 47 = .ok (.ireturn, 1) := by decide +kernel
theorem dX2_learn_0 : decode cX2_learn 0 = .ok (.iload_n 1, 1) := by decide +kernel
theorem dX2_learn_1 : decode cX2_learn 1 = .ok (.bipush 8, 2) := by decide +kernel
theorem dX2_learn_3 : decode cX2_learn 3 = .ok (.irem, 1) := by decide +kernel
theorem dX2_learn_4 : decode cX2_learn 4 = .ok (.istore 4, 2) := by decide +kernel
theorem dX2_learn_6 : decode cX2_learn 6 = .ok (.aload_n 0, 1) := by decide +kernel
theorem dX2_learn_7 : decode cX2_learn 7 = .ok (.getfield 11, 3) := by decide +kernel
theorem dX2_learn_10 : decode cX2_learn 10 = .ok (.iload 4, 2) := by decide +kernel
theorem dX2_learn_12 : decode cX2_learn 12 = .ok (.iaload, 1) := by decide +kernel
theorem dX2_learn_13 : decode cX2_learn 13 = .ok (.iload_n 1, 1) := by decide +kernel
theorem dX2_learn_14 : decode cX2_learn 14 = .ok (.if_icmp .ne 26, 3) := by decide +kernel
theorem dX2_learn_17 : decode cX2_learn 17 = .ok (.iload_n 2, 1) := by decide +kernel
theorem dX2_learn_18 : decode cX2_learn 18 = .ok (.iconst 1, 1) := by decide +kernel
theorem dX2_learn_19 : decode cX2_learn 19 = .ok (.if_icmp .ne 12, 3) := by decide +kernel
theorem dX2_learn_22 : decode cX2_learn 22 = .ok (.aload_n 0, 1) := by decide +kernel
theorem dX2_learn_23 : decode cX2_learn 23 = .ok (.iload 4, 2) := by decide +kernel
theorem dX2_learn_25 : decode cX2_learn 25 = .ok (.invokevirtual 31, 3) := by decide +kernel
theorem dX2_learn_28 : decode cX2_learn 28 = .ok (.goto 48, 3) := by decide +kernel
theorem dX2_learn_31 : decode cX2_learn 31 = .ok (.aload_n 0, 1) := by decide +kernel
theorem dX2_learn_32 : decode cX2_learn 32 = .ok (.iload 4, 2) := by decide +kernel
theorem dX2_learn_34 : decode cX2_learn 34 = .ok (.invokevirtual 35, 3) := by decide +kernel
theorem dX2_learn_37 : decode cX2_learn 37 = .ok (.goto 39, 3) := by decide +kernel
theorem dX2_learn_40 : decode cX2_learn 40 = .ok (.iload_n 3, 1) := by decide +kernel
theorem dX2_learn_41 : decode cX2_learn 41 = .ok (.ifCond .eq 35, 3) := by decide +kernel
theorem dX2_learn_44 : decode cX2_learn 44 = .ok (.aload_n 0, 1) := by decide +kernel
theorem dX2_learn_45 : decode cX2_learn 45 = .ok (.getfield 24, 3) := by decide +kernel
theorem dX2_learn_48 : decode cX2_learn 48 = .ok (.iload 4, 2) := by decide +kernel
theorem dX2_learn_50 : decode cX2_learn 50 = .ok (.iaload, 1) := by decide +kernel
theorem dX2_learn_51 : decode cX2_learn 51 = .ok (.ifCond .le 17, 3) := by decide +kernel
theorem dX2_learn_54 : decode cX2_learn 54 = .ok (.aload_n 0, 1) := by decide +kernel
theorem dX2_learn_55 : decode cX2_learn 55 = .ok (.getfield 24, 3) := by decide +kernel
theorem dX2_learn_58 : decode cX2_learn 58 = .ok (.iload 4, 2) := by decide +kernel
theorem dX2_learn_60 : decode cX2_learn 60 = .ok (.dup2, 1) := by decide +kernel
theorem dX2_learn_61 : decode cX2_learn 61 = .ok (.iaload, 1) := by decide +kernel
theorem dX2_learn_62 : decode cX2_learn 62 = .ok (.iconst 1, 1) := by decide +kernel
theorem dX2_learn_63 : decode cX2_learn 63 = .ok (.isub, 1) := by decide +kernel
theorem dX2_learn_64 : decode cX2_learn 64 = .ok (.iastore, 1) := by decide +kernel
theorem dX2_learn_65 : decode cX2_learn 65 = .ok (.goto 11, 3) := by decide +kernel
theorem dX2_learn_68 : decode cX2_learn 68 = .ok (.aload_n 0, 1) := by decide +kernel
theorem dX2_learn_69 : decode cX2_learn 69 = .ok (.iload 4, 2) := by decide +kernel
theorem dX2_learn_71 : decode cX2_learn 71 = .ok (.iload_n 1, 1) := by decide +kernel
theorem dX2_learn_72 : decode cX2_learn 72 = .ok (.iconst 3, 1) := by decide +kernel
theorem dX2_learn_73 : decode cX2_learn 73 = .ok (.invokevirtual 27, 3) := by decide +kernel
theorem dX2_learn_76 : decode cX2_learn 76 = .ok (.return_, 1) := by decide +kernel
theorem dX2_goOn_0 : decode cX2_goOn 0 = .ok (.aload_n 0, 1) := by decide +kernel
theorem dX2_goOn_1 : decode cX2_goOn 1 = .ok (.getfield 18, 3) := by decide +kernel
theorem dX2_goOn_4 : decode cX2_goOn 4 = .ok (.iload_n 1, 1) := by decide +kernel
theorem dX2_goOn_5 : decode cX2_goOn 5 = .ok (.dup2, 1) := by decide +kernel
theorem dX2_goOn_6 : decode cX2_goOn 6 = .ok (.iaload, 1) := by decide +kernel
theorem dX2_goOn_7 : decode cX2_goOn 7 = .ok (.iconst 1, 1) := by decide +kernel
theorem dX2_goOn_8 : decode cX2_goOn 8 = .ok (.iadd, 1) := by decide +kernel
theorem dX2_goOn_9 : decode cX2_goOn 9 = .ok (.iastore, 1) := by decide +kernel
theorem dX2_goOn_10 : decode cX2_goOn 10 = .ok (.aload_n 0, 1) := by decide +kernel
theorem dX2_goOn_11 : decode cX2_goOn 11 = .ok (.getfield 15, 3) := by decide +kernel
theorem dX2_goOn_14 : decode cX2_goOn 14 = .ok (.iload_n 1, 1) := by decide +kernel
theorem dX2_goOn_15 : decode cX2_goOn 15 = .ok (.iaload, 1) := by decide +kernel
theorem dX2_goOn_16 : decode cX2_goOn 16 = .ok (.iconst (-1), 1) := by decide +kernel
theorem dX2_goOn_17 : decode cX2_goOn 17 = .ok (.if_icmp .eq 32, 3) := by decide +kernel
theorem dX2_goOn_20 : decode cX2_goOn 20 = .ok (.aload_n 0, 1) := by decide +kernel
theorem dX2_goOn_21 : decode cX2_goOn 21 = .ok (.getfield 18, 3) := by decide +kernel
theorem dX2_goOn_24 : decode cX2_goOn 24 = .ok (.iload_n 1, 1) := by decide +kernel
theorem dX2_goOn_25 : decode cX2_goOn 25 = .ok (.iaload, 1) := by decide +kernel
theorem dX2_goOn_26 : decode cX2_goOn 26 = .ok (.aload_n 0, 1) := by decide +kernel
theorem dX2_goOn_27 : decode cX2_goOn 27 = .ok (.getfield 15, 3) := by decide +kernel
theorem dX2_goOn_30 : decode cX2_goOn 30 = .ok (.iload_n 1, 1) := by decide +kernel
theorem dX2_goOn_31 : decode cX2_goOn 31 = .ok (.iaload, 1) := by decide +kernel
theorem dX2_goOn_32 : decode cX2_goOn 32 = .ok (.if_icmp .le 17, 3) := by decide +kernel
theorem dX2_goOn_35 : decode cX2_goOn 35 = .ok (.aload_n 0, 1) := by decide +kernel
theorem dX2_goOn_36 : decode cX2_goOn 36 = .ok (.getfield 15, 3) := by decide +kernel
theorem dX2_goOn_39 : decode cX2_goOn 39 = .ok (.iload_n 1, 1) := by decide +kernel
theorem dX2_goOn_40 : decode cX2_goOn 40 = .ok (.iconst (-1), 1) := by decide +kernel
theorem dX2_goOn_41 : decode cX2_goOn 41 = .ok (.iastore, 1) := by decide +kernel
theorem dX2_goOn_42 : decode cX2_goOn 42 = .ok (.aload_n 0, 1) := by decide +kernel
theorem dX2_goOn_43 : decode cX2_goOn 43 = .ok (.getfield 21, 3) := by decide +kernel
theorem dX2_goOn_46 : decode cX2_goOn 46 = .ok (.iload_n 1, 1) := by decide +kernel
theorem dX2_goOn_47 : decode cX2_goOn 47 = .ok (.iconst 0, 1) := by decide +kernel
theorem dX2_goOn_48 : decode cX2_goOn 48 = .ok (.iastore, 1) := by decide +kernel
theorem dX2_goOn_49 : decode cX2_goOn 49 = .ok (.aload_n 0, 1) := by decide +kernel
theorem dX2_goOn_50 : decode cX2_goOn 50 = .ok (.getfield 18, 3) := by decide +kernel
theorem dX2_goOn_53 : decode cX2_goOn 53 = .ok (.iload_n 1, 1) := by decide +kernel
theorem dX2_goOn_54 : decode cX2_goOn 54 = .ok (.iaload, 1) := by decide +kernel
theorem dX2_goOn_55 : decode cX2_goOn 55 = .ok (.bipush 60, 2) := by decide +kernel
theorem dX2_goOn_57 : decode cX2_goOn 57 = .ok (.if_icmp .ne 10, 3) := by decide +kernel
theorem dX2_goOn_60 : decode cX2_goOn 60 = .ok (.aload_n 0, 1) := by decide +kernel
theorem dX2_goOn_61 : decode cX2_goOn 61 = .ok (.iload_n 1, 1) := by decide +kernel
theorem dX2_goOn_62 : decode cX2_goOn 62 = .ok (.iconst (-1), 1) := by decide +kernel
theorem dX2_goOn_63 : decode cX2_goOn 63 = .ok (.iconst 0, 1) := by decide +kernel
theorem dX2_goOn_64 : decode cX2_goOn 64 = .ok (.invokevirtual 27, 3) := by decide +kernel
theorem dX2_goOn_67 : decode cX2_goOn 67 = .ok (.return_, 1) := by decide +kernel
theorem dX2_leave_0 : decode cX2_leave 0 = .ok (.aload_n 0, 1) := by decide +kernel
theorem dX2_leave_1 : decode cX2_leave 1 = .ok (.getfield 18, 3) := by decide +kernel
theorem dX2_leave_4 : decode cX2_leave 4 = .ok (.iload_n 1, 1) := by decide +kernel
theorem dX2_leave_5 : decode cX2_leave 5 = .ok (.iaload, 1) := by decide +kernel
theorem dX2_leave_6 : decode cX2_leave 6 = .ok (.aload_n 0, 1) := by decide +kernel
theorem dX2_leave_7 : decode cX2_leave 7 = .ok (.getfield 15, 3) := by decide +kernel
theorem dX2_leave_10 : decode cX2_leave 10 = .ok (.iload_n 1, 1) := by decide +kernel
theorem dX2_leave_11 : decode cX2_leave 11 = .ok (.iaload, 1) := by decide +kernel
theorem dX2_leave_12 : decode cX2_leave 12 = .ok (.if_icmp .ne 24, 3) := by decide +kernel
theorem dX2_leave_15 : decode cX2_leave 15 = .ok (.aload_n 0, 1) := by decide +kernel
theorem dX2_leave_16 : decode cX2_leave 16 = .ok (.getfield 21, 3) := by decide +kernel
theorem dX2_leave_19 : decode cX2_leave 19 = .ok (.iload_n 1, 1) := by decide +kernel
theorem dX2_leave_20 : decode cX2_leave 20 = .ok (.iconst 3, 1) := by decide +kernel
theorem dX2_leave_21 : decode cX2_leave 21 = .ok (.aload_n 0, 1) := by decide +kernel
theorem dX2_leave_22 : decode cX2_leave 22 = .ok (.getfield 21, 3) := by decide +kernel
theorem dX2_leave_25 : decode cX2_leave 25 = .ok (.iload_n 1, 1) := by decide +kernel
theorem dX2_leave_26 : decode cX2_leave 26 = .ok (.iaload, 1) := by decide +kernel
theorem dX2_leave_27 : decode cX2_leave 27 = .ok (.iconst 1, 1) := by decide +kernel
theorem dX2_leave_28 : decode cX2_leave 28 = .ok (.iadd, 1) := by decide +kernel
theorem dX2_leave_29 : decode cX2_leave 29 = .ok (.invokestatic 38, 3) := by decide +kernel
theorem dX2_leave_32 : decode cX2_leave 32 = .ok (.iastore, 1) := by decide +kernel
theorem dX2_leave_33 : decode cX2_leave 33 = .ok (.goto 22, 3) := by decide +kernel
theorem dX2_leave_36 : decode cX2_leave 36 = .ok (.aload_n 0, 1) := by decide +kernel
theorem dX2_leave_37 : decode cX2_leave 37 = .ok (.getfield 15, 3) := by decide +kernel
theorem dX2_leave_40 : decode cX2_leave 40 = .ok (.iload_n 1, 1) := by decide +kernel
theorem dX2_leave_41 : decode cX2_leave 41 = .ok (.aload_n 0, 1) := by decide +kernel
theorem dX2_leave_42 : decode cX2_leave 42 = .ok (.getfield 18, 3) := by decide +kernel
theorem dX2_leave_45 : decode cX2_leave 45 = .ok (.iload_n 1, 1) := by decide +kernel
theorem dX2_leave_46 : decode cX2_leave 46 = .ok (.iaload, 1) := by decide +kernel
theorem dX2_leave_47 : decode cX2_leave 47 = .ok (.iastore, 1) := by decide +kernel
theorem dX2_leave_48 : decode cX2_leave 48 = .ok (.aload_n 0, 1) := by decide +kernel
theorem dX2_leave_49 : decode cX2_leave 49 = .ok (.getfield 21, 3) := by decide +kernel
theorem dX2_leave_52 : decode cX2_leave 52 = .ok (.iload_n 1, 1) := by decide +kernel
theorem dX2_leave_53 : decode cX2_leave 53 = .ok (.iconst 0, 1) := by decide +kernel
theorem dX2_leave_54 : decode cX2_leave 54 = .ok (.iastore, 1) := by decide +kernel
theorem dX2_leave_55 : decode cX2_leave 55 = .ok (.aload_n 0, 1) := by decide +kernel
theorem dX2_leave_56 : decode cX2_leave 56 = .ok (.getfield 18, 3) := by decide +kernel
theorem dX2_leave_59 : decode cX2_leave 59 = .ok (.iload_n 1, 1) := by decide +kernel
theorem dX2_leave_60 : decode cX2_leave 60 = .ok (.iconst 0, 1) := by decide +kernel
theorem dX2_leave_61 : decode cX2_leave 61 = .ok (.iastore, 1) := by decide +kernel
theorem dX2_leave_62 : decode cX2_leave 62 = .ok (.return_, 1) := by decide +kernel
theorem dX3_init_0 : decode cX3_init 0 = .ok (.aload_n 0, 1) := by decide +kernel
theorem dX3_init_1 : decode cX3_init 1 = .ok (.invokespecial 3, 3) := by decide +kernel
theorem dX3_init_4 : decode cX3_init 4 = .ok (.aload_n 0, 1) := by decide +kernel
theorem dX3_init_5 : decode cX3_init 5 = .ok (.sipush 800, 3) := by decide +kernel
theorem dX3_init_8 : decode cX3_init 8 = .ok (.newarray .byte, 2) := by decide +kernel
theorem dX3_init_10 : decode cX3_init 10 = .ok (.putfield 9, 3) := by decide +kernel
theorem dX3_init_13 : decode cX3_init 13 = .ok (.aload_n 0, 1) := by decide +kernel
theorem dX3_init_14 : decode cX3_init 14 = .ok (.iconst (-1), 1) := by decide +kernel
theorem dX3_init_15 : decode cX3_init 15 = .ok (.putfield 15, 3) := by decide +kernel
theorem dX3_init_18 : decode cX3_init 18 = .ok (.return_, 1) := by decide +kernel
theorem dX3_append_0 : decode cX3_append 0 = .ok (.bipush 24, 2) := by decide +kernel
theorem dX3_append_2 : decode cX3_append 2 = .ok (.istore_n 2, 1) := by decide +kernel
theorem dX3_append_3 : decode cX3_append 3 = .ok (.iload_n 2, 1) := by decide +kernel
theorem dX3_append_4 : decode cX3_append 4 = .ok (.ifCond .lt 32, 3) := by decide +kernel
theorem dX3_append_7 : decode cX3_append 7 = .ok (.aload_n 0, 1) := by decide +kernel
theorem dX3_append_8 : decode cX3_append 8 = .ok (.getfield 9, 3) := by decide +kernel
theorem dX3_append_11 : decode cX3_append 11 = .ok (.aload_n 0, 1) := by decide +kernel
theorem dX3_append_12 : decode cX3_append 12 = .ok (.getfield 19, 3) := by decide +kernel
theorem dX3_append_15 : decode cX3_append 15 = .ok (.iload_n 1, 1) := by decide +kernel
theorem dX3_append_16 : decode cX3_append 16 = .ok (.iload_n 2, 1) := by decide +kernel
theorem dX3_append_17 : decode cX3_append 17 = .ok (.ishr, 1) := by decide +kernel
theorem dX3_append_18 : decode cX3_append 18 = .ok (.i2b, 1) := by decide +kernel
theorem dX3_append_19 : decode cX3_append 19 = .ok (.bastore, 1) := by decide +kernel
theorem dX3_append_20 : decode cX3_append 20 = .ok (.aload_n 0, 1) := by decide +kernel
theorem dX3_append_21 : decode cX3_append 21 = .ok (.dup, 1) := by decide +kernel
theorem dX3_append_22 : decode cX3_append 22 = .ok (.getfield 19, 3) := by decide +kernel
theorem dX3_append_25 : decode cX3_append 25 = .ok (.iconst 1, 1) := by decide +kernel
theorem dX3_append_26 : decode cX3_append 26 = .ok (.iadd, 1) := by decide +kernel
theorem dX3_append_27 : decode cX3_append 27 = .ok (.putfield 19, 3) := by decide +kernel
theorem dX3_append_30 : decode cX3_append 30 = .ok (.iinc 2 (-8), 3) := by decide +kernel
theorem dX3_append_33 : decode cX3_append 33 = .ok (.goto (-30), 3) := by decide +kernel
theorem dX3_append_36 : decode cX3_append 36 = .ok (.return_, 1) := by decide +kernel
theorem dX3_readInto_0 : decode cX3_readInto 0 = .ok (.aload_n 1, 1) := by decide +kernel
theorem dX3_readInto_1 : decode cX3_readInto 1 = .ok (.invokevirtual 22, 3) := by decide +kernel
theorem dX3_readInto_4 : decode cX3_readInto 4 = .ok (.aload_n 0, 1) := by decide +kernel
theorem dX3_readInto_5 : decode cX3_readInto 5 = .ok (.iconst 0, 1) := by decide +kernel
theorem dX3_readInto_6 : decode cX3_readInto 6 = .ok (.putfield 27, 3) := by decide +kernel
theorem dX3_readInto_9 : decode cX3_readInto 9 = .ok (.aload_n 0, 1) := by decide +kernel
theorem dX3_readInto_10 : decode cX3_readInto 10 = .ok (.iconst (-1), 1) := by decide +kernel
theorem dX3_readInto_11 : decode cX3_readInto 11 = .ok (.putfield 15, 3) := by decide +kernel
theorem dX3_readInto_14 : decode cX3_readInto 14 = .ok (.aload_n 0, 1) := by decide +kernel
theorem dX3_readInto_15 : decode cX3_readInto 15 = .ok (.iconst 0, 1) := by decide +kernel
theorem dX3_readInto_16 : decode cX3_readInto 16 = .ok (.putfield 30, 3) := by decide +kernel
theorem dX3_readInto_19 : decode cX3_readInto 19 = .ok (.aload_n 0, 1) := by decide +kernel
theorem dX3_readInto_20 : decode cX3_readInto 20 = .ok (.invokevirtual 33, 3) := by decide +kernel
theorem dX3_readInto_23 : decode cX3_readInto 23 = .ok (.iconst 0, 1) := by decide +kernel
theorem dX3_readInto_24 : decode cX3_readInto 24 = .ok (.istore_n 2, 1) := by decide +kernel
theorem dX3_readInto_25 : decode cX3_readInto 25 = .ok (.iload_n 2, 1) := by decide +kernel
theorem dX3_readInto_26 : decode cX3_readInto 26 = .ok (.sipush 800, 3) := by decide +kernel
theorem dX3_readInto_29 : decode cX3_readInto 29 = .ok (.if_icmp .ge 28, 3) := by decide +kernel
theorem dX3_readInto_32 : decode cX3_readInto 32 = .ok (.aload_n 0, 1) := by decide +kernel
theorem dX3_readInto_33 : decode cX3_readInto 33 = .ok (.getfield 27, 3) := by decide +kernel
theorem dX3_readInto_36 : decode cX3_readInto 36 = .ok (.ifCond .ne 21, 3) := by decide +kernel
theorem dX3_readInto_39 : decode cX3_readInto 39 = .ok (.aload_n 0, 1) := by decide +kernel
theorem dX3_readInto_40 : decode cX3_readInto 40 = .ok (.getfield 36, 3) := by decide +kernel
theorem dX3_readInto_43 : decode cX3_readInto 43 = .ok (.ifCond .eq 14, 3) := by decide +kernel
theorem dX3_readInto_46 : decode cX3_readInto 46 = .ok (.aload_n 0, 1) := by decide +kernel
theorem dX3_readInto_47 : decode cX3_readInto 47 = .ok (.aload_n 1, 1) := by decide +kernel
theorem dX3_readInto_48 : decode cX3_readInto 48 = .ok (.invokevirtual 39, 3) := by decide +kernel
theorem dX3_readInto_51 : decode cX3_readInto 51 = .ok (.iinc 2 1, 3) := by decide +kernel
theorem dX3_readInto_54 : decode cX3_readInto 54 = .ok (.goto (-29), 3) := by decide +kernel
theorem dX3_readInto_57 : decode cX3_readInto 57 = .ok (.aload_n 0, 1) := by decide +kernel
theorem dX3_readInto_58 : decode cX3_readInto 58 = .ok (.iconst 0, 1) := by decide +kernel
theorem dX3_readInto_59 : decode cX3_readInto 59 = .ok (.putfield 19, 3) := by decide +kernel
theorem dX3_readInto_62 : decode cX3_readInto 62 = .ok (.aload_n 0, 1) := by decide +kernel
theorem dX3_readInto_63 : decode cX3_readInto 63 = .ok (.getfield 27, 3) := by decide +kernel
theorem dX3_readInto_66 : decode cX3_readInto 66 = .ok (.ifCond .ne 7, 3) := by decide +kernel
theorem dX3_readInto_69 : decode cX3_readInto 69 = .ok (.iconst 1, 1) := by decide +kernel
theorem dX3_readInto_70 : decode cX3_readInto 70 = .ok (.goto 4, 3) := by decide +kernel
theorem dX3_readInto_73 : decode cX3_readInto 73 = .ok (.iconst 0, 1) := by decide +kernel
theorem dX3_readInto_74 : decode cX3_readInto 74 = .ok (.ireturn, 1) := by decide +kernel
theorem dX3_readLine_0 : decode cX3_readLine 0 = .ok (.aload_n 1, 1) := by decide +kernel
theorem dX3_readLine_1 : decode cX3_readLine 1 = .ok (.getfield 43, 3) := by decide +kernel
theorem dX3_readLine_4 : decode cX3_readLine 4 = .ok (.ifCond .ne 11, 3) := by decide +kernel
theorem dX3_readLine_7 : decode cX3_readLine 7 = .ok (.aload_n 0, 1) := by decide +kernel
theorem dX3_readLine_8 : decode cX3_readLine 8 = .ok (.aload_n 1, 1) := by decide +kernel
theorem dX3_readLine_9 : decode cX3_readLine 9 = .ok (.invokevirtual 46, 3) := by decide +kernel
theorem dX3_readLine_12 : decode cX3_readLine 12 = .ok (.goto 25, 3) := by decide +kernel
theorem dX3_readLine_15 : decode cX3_readLine 15 = .ok (.aload_n 0, 1) := by decide +kernel
theorem dX3_readLine_16 : decode cX3_readLine 16 = .ok (.ldc 49, 2) := by decide +kernel
theorem dX3_readLine_18 : decode cX3_readLine 18 = .ok (.invokevirtual 51, 3) := by decide +kernel
theorem dX3_readLine_21 : decode cX3_readLine 21 = .ok (.ifCond .eq 11, 3) := by decide +kernel
theorem dX3_readLine_24 : decode cX3_readLine 24 = .ok (.aload_n 0, 1) := by decide +kernel
theorem dX3_readLine_25 : decode cX3_readLine 25 = .ok (.aload_n 1, 1) := by decide +kernel
theorem dX3_readLine_26 : decode cX3_readLine 26 = .ok (.invokevirtual 55, 3) := by decide +kernel
theorem dX3_readLine_29 : decode cX3_readLine 29 = .ok (.goto 8, 3) := by decide +kernel
theorem dX3_readLine_32 : decode cX3_readLine 32 = .ok (.aload_n 0, 1) := by decide +kernel
theorem dX3_readLine_33 : decode cX3_readLine 33 = .ok (.aload_n 1, 1) := by decide +kernel
theorem dX3_readLine_34 : decode cX3_readLine 34 = .ok (.invokevirtual 58, 3) := by decide +kernel
theorem dX3_readLine_37 : decode cX3_readLine 37 = .ok (.aload_n 0, 1) := by decide +kernel
theorem dX3_readLine_38 : decode cX3_readLine 38 = .ok (.getfield 27, 3) := by decide +kernel
theorem dX3_readLine_41 : decode cX3_readLine 41 = .ok (.ifCond .ne 16, 3) := by decide +kernel
theorem dX3_readLine_44 : decode cX3_readLine 44 = .ok (.aload_n 0, 1) := by decide +kernel
theorem dX3_readLine_45 : decode cX3_readLine 45 = .ok (.getfield 36, 3) := by decide +kernel
theorem dX3_readLine_48 : decode cX3_readLine 48 = .ok (.iconst 3, 1) := by decide +kernel
theorem dX3_readLine_49 : decode cX3_readLine 49 = .ok (.if_icmp .eq 8, 3) := by decide +kernel
theorem dX3_readLine_52 : decode cX3_readLine 52 = .ok (.aload_n 0, 1) := by decide +kernel
theorem dX3_readLine_53 : decode cX3_readLine 53 = .ok (.iconst 1, 1) := by decide +kernel
theorem dX3_readLine_54 : decode cX3_readLine 54 = .ok (.invokevirtual 61, 3) := by decide +kernel
theorem dX3_readLine_57 : decode cX3_readLine 57 = .ok (.aload_n 0, 1) := by decide +kernel
theorem dX3_readLine_58 : decode cX3_readLine 58 = .ok (.getfield 27, 3) := by decide +kernel
theorem dX3_readLine_61 : decode cX3_readLine 61 = .ok (.ifCond .ne 17, 3) := by decide +kernel
theorem dX3_readLine_64 : decode cX3_readLine 64 = .ok (.aload_n 1, 1) := by decide +kernel
theorem dX3_readLine_65 : decode cX3_readLine 65 = .ok (.dup, 1) := by decide +kernel
theorem dX3_readLine_66 : decode cX3_readLine 66 = .ok (.getfield 43, 3) := by decide +kernel
theorem dX3_readLine_69 : decode cX3_readLine 69 = .ok (.iconst 1, 1) := by decide +kernel
theorem dX3_readLine_70 : decode cX3_readLine 70 = .ok (.iadd, 1) := by decide +kernel
theorem dX3_readLine_71 : decode cX3_readLine 71 = .ok (.putfield 43, 3) := by decide +kernel
theorem dX3_readLine_74 : decode cX3_readLine 74 = .ok (.aload_n 0, 1) := by decide +kernel
theorem dX3_readLine_75 : decode cX3_readLine 75 = .ok (.invokevirtual 33, 3) := by decide +kernel
theorem dX3_readLine_78 : decode cX3_readLine 78 = .ok (.return_, 1) := by decide +kernel
theorem dX3_readHead_0 : decode cX3_readHead 0 = .ok (.aload_n 0, 1) := by decide +kernel
theorem dX3_readHead_1 : decode cX3_readHead 1 = .ok (.ldc 65, 2) := by decide +kernel
theorem dX3_readHead_3 : decode cX3_readHead 3 = .ok (.invokevirtual 67, 3) := by decide +kernel
theorem dX3_readHead_6 : decode cX3_readHead 6 = .ok (.iconst 0, 1) := by decide +kernel
theorem dX3_readHead_7 : decode cX3_readHead 7 = .ok (.istore_n 2, 1) := by decide +kernel
theorem dX3_readHead_8 : decode cX3_readHead 8 = .ok (.iload_n 2, 1) := by decide +kernel
theorem dX3_readHead_9 : decode cX3_readHead 9 = .ok (.bipush 6, 2) := by decide +kernel
theorem dX3_readHead_11 : decode cX3_readHead 11 = .ok (.if_icmp .ge 37, 3) := by decide +kernel
theorem dX3_readHead_14 : decode cX3_readHead 14 = .ok (.aload_n 0, 1) := by decide +kernel
theorem dX3_readHead_15 : decode cX3_readHead 15 = .ok (.iload_n 2, 1) := by decide +kernel
theorem dX3_readHead_16 : decode cX3_readHead 16 = .ok (.invokestatic 71, 3) := by decide +kernel
theorem dX3_readHead_19 : decode cX3_readHead 19 = .ok (.invokevirtual 67, 3) := by decide +kernel
theorem dX3_readHead_22 : decode cX3_readHead 22 = .ok (.aload_n 1, 1) := by decide +kernel
theorem dX3_readHead_23 : decode cX3_readHead 23 = .ok (.getfield 75, 3) := by decide +kernel
theorem dX3_readHead_26 : decode cX3_readHead 26 = .ok (.iload_n 2, 1) := by decide +kernel
theorem dX3_readHead_27 : decode cX3_readHead 27 = .ok (.aload_n 0, 1) := by decide +kernel
theorem dX3_readHead_28 : decode cX3_readHead 28 = .ok (.getstatic 79, 3) := by decide +kernel
theorem dX3_readHead_31 : decode cX3_readHead 31 = .ok (.iload_n 2, 1) := by decide +kernel
theorem dX3_readHead_32 : decode cX3_readHead 32 = .ok (.iaload, 1) := by decide +kernel
theorem dX3_readHead_33 : decode cX3_readHead 33 = .ok (.getstatic 82, 3) := by decide +kernel
theorem dX3_readHead_36 : decode cX3_readHead 36 = .ok (.iload_n 2, 1) := by decide +kernel
theorem dX3_readHead_37 : decode cX3_readHead 37 = .ok (.iaload, 1) := by decide +kernel
theorem dX3_readHead_38 : decode cX3_readHead 38 = .ok (.invokevirtual 85, 3) := by decide +kernel
theorem dX3_readHead_41 : decode cX3_readHead 41 = .ok (.iastore, 1) := by decide +kernel
theorem dX3_readHead_42 : decode cX3_readHead 42 = .ok (.iinc 2 1, 3) := by decide +kernel
theorem dX3_readHead_45 : decode cX3_readHead 45 = .ok (.goto (-37), 3) := by decide +kernel
theorem dX3_readHead_48 : decode cX3_readHead 48 = .ok (.return_, 1) := by decide +kernel
theorem dX3_readSpan_0 : decode cX3_readSpan 0 = .ok (.aload_n 1, 1) := by decide +kernel
theorem dX3_readSpan_1 : decode cX3_readSpan 1 = .ok (.getfield 89, 3) := by decide +kernel
theorem dX3_readSpan_4 : decode cX3_readSpan 4 = .ok (.ifCond .le 11, 3) := by decide +kernel
theorem dX3_readSpan_7 : decode cX3_readSpan 7 = .ok (.aload_n 0, 1) := by decide +kernel
theorem dX3_readSpan_8 : decode cX3_readSpan 8 = .ok (.iconst 1, 1) := by decide +kernel
theorem dX3_readSpan_9 : decode cX3_readSpan 9 = .ok (.invokevirtual 61, 3) := by decide +kernel
theorem dX3_readSpan_12 : decode cX3_readSpan 12 = .ok (.goto 61, 3) := by decide +kernel
theorem dX3_readSpan_15 : decode cX3_readSpan 15 = .ok (.aload_n 1, 1) := by decide +kernel
theorem dX3_readSpan_16 : decode cX3_readSpan 16 = .ok (.getfield 92, 3) := by decide +kernel
theorem dX3_readSpan_19 : decode cX3_readSpan 19 = .ok (.iconst 5, 1) := by decide +kernel
theorem dX3_readSpan_20 : decode cX3_readSpan 20 = .ok (.if_icmp .ne 11, 3) := by decide +kernel
theorem dX3_readSpan_23 : decode cX3_readSpan 23 = .ok (.aload_n 0, 1) := by decide +kernel
theorem dX3_readSpan_24 : decode cX3_readSpan 24 = .ok (.iconst 3, 1) := by decide +kernel
theorem dX3_readSpan_25 : decode cX3_readSpan 25 = .ok (.invokevirtual 61, 3) := by decide +kernel
theorem dX3_readSpan_28 : decode cX3_readSpan 28 = .ok (.goto 45, 3) := by decide +kernel
theorem dX3_readSpan_31 : decode cX3_readSpan 31 = .ok (.aload_n 0, 1) := by decide +kernel
theorem dX3_readSpan_32 : decode cX3_readSpan 32 = .ok (.invokevirtual 33, 3) := by decide +kernel
theorem dX3_readSpan_35 : decode cX3_readSpan 35 = .ok (.aload_n 0, 1) := by decide +kernel
theorem dX3_readSpan_36 : decode cX3_readSpan 36 = .ok (.aload_n 1, 1) := by decide +kernel
theorem dX3_readSpan_37 : decode cX3_readSpan 37 = .ok (.getfield 95, 3) := by decide +kernel
theorem dX3_readSpan_40 : decode cX3_readSpan 40 = .ok (.aload_n 1, 1) := by decide +kernel
theorem dX3_readSpan_41 : decode cX3_readSpan 41 = .ok (.getfield 92, 3) := by decide +kernel
theorem dX3_readSpan_44 : decode cX3_readSpan 44 = .ok (.iaload, 1) := by decide +kernel
theorem dX3_readSpan_45 : decode cX3_readSpan 45 = .ok (.iconst 1, 1) := by decide +kernel
theorem dX3_readSpan_46 : decode cX3_readSpan 46 = .ok (.iadd, 1) := by decide +kernel
theorem dX3_readSpan_47 : decode cX3_readSpan 47 = .ok (.bipush 40, 2) := by decide +kernel
theorem dX3_readSpan_49 : decode cX3_readSpan 49 = .ok (.invokevirtual 85, 3) := by decide +kernel
theorem dX3_readSpan_52 : decode cX3_readSpan 52 = .ok (.istore_n 2, 1) := by decide +kernel
theorem dX3_readSpan_53 : decode cX3_readSpan 53 = .ok (.aload_n 1, 1) := by decide +kernel
theorem dX3_readSpan_54 : decode cX3_readSpan 54 = .ok (.dup, 1) := by decide +kernel
theorem dX3_readSpan_55 : decode cX3_readSpan 55 = .ok (.getfield 92, 3) := by decide +kernel
theorem dX3_readSpan_58 : decode cX3_readSpan 58 = .ok (.iconst 1, 1) := by decide +kernel
theorem dX3_readSpan_59 : decode cX3_readSpan 59 = .ok (.iadd, 1) := by decide +kernel
theorem dX3_readSpan_60 : decode cX3_readSpan 60 = .ok (.putfield 92, 3) := by decide +kernel
theorem dX3_readSpan_63 : decode cX3_readSpan 63 = .ok (.aload_n 1, 1) := by decide +kernel
theorem dX3_readSpan_64 : decode cX3_readSpan 64 = .ok (.getfield 95, 3) := by decide +kernel
theorem dX3_readSpan_67 : decode cX3_readSpan 67 = .ok (.aload_n 1, 1) := by decide +kernel
theorem dX3_readSpan_68 : decode cX3_readSpan 68 = .ok (.getfield 92, 3) := by decide +kernel
theorem dX3_readSpan_71 : decode cX3_readSpan 71 = .ok (.iload_n 2, 1) := by decide +kernel
theorem dX3_readSpan_72 : decode cX3_readSpan 72 = .ok (.iastore, 1) := by decide +kernel
theorem dX3_readSpan_73 : decode cX3_readSpan 73 = .ok (.return_, 1) := by decide +kernel
theorem dX3_readOp_0 : decode cX3_readOp 0 = .ok (.aload_n 0, 1) := by decide +kernel
theorem dX3_readOp_1 : decode cX3_readOp 1 = .ok (.invokevirtual 98, 3) := by decide +kernel
theorem dX3_readOp_4 : decode cX3_readOp 4 = .ok (.istore_n 2, 1) := by decide +kernel
theorem dX3_readOp_5 : decode cX3_readOp 5 = .ok (.iload_n 2, 1) := by decide +kernel
theorem dX3_readOp_6 : decode cX3_readOp 6 = .ok (.iconst (-1), 1) := by decide +kernel
theorem dX3_readOp_7 : decode cX3_readOp 7 = .ok (.if_icmp .ne 11, 3) := by decide +kernel
theorem dX3_readOp_10 : decode cX3_readOp 10 = .ok (.aload_n 0, 1) := by decide +kernel
theorem dX3_readOp_11 : decode cX3_readOp 11 = .ok (.iconst 1, 1) := by decide +kernel
theorem dX3_readOp_12 : decode cX3_readOp 12 = .ok (.invokevirtual 61, 3) := by decide +kernel
theorem dX3_readOp_15 : decode cX3_readOp 15 = .ok (.goto 95, 3) := by decide +kernel
theorem dX3_readOp_18 : decode cX3_readOp 18 = .ok (.aload_n 1, 1) := by decide +kernel
theorem dX3_readOp_19 : decode cX3_readOp 19 = .ok (.getfield 89, 3) := by decide +kernel
theorem dX3_readOp_22 : decode cX3_readOp 22 = .ok (.bipush 40, 2) := by decide +kernel
theorem dX3_readOp_24 : decode cX3_readOp 24 = .ok (.if_icmp .ne 11, 3) := by decide +kernel
theorem dX3_readOp_27 : decode cX3_readOp 27 = .ok (.aload_n 0, 1) := by decide +kernel
theorem dX3_readOp_28 : decode cX3_readOp 28 = .ok (.iconst 3, 1) := by decide +kernel
theorem dX3_readOp_29 : decode cX3_readOp 29 = .ok (.invokevirtual 61, 3) := by decide +kernel
theorem dX3_readOp_32 : decode cX3_readOp 32 = .ok (.goto 78, 3) := by decide +kernel
theorem dX3_readOp_35 : decode cX3_readOp 35 = .ok (.aload_n 0, 1) := by decide +kernel
theorem dX3_readOp_36 : decode cX3_readOp 36 = .ok (.invokevirtual 33, 3) := by decide +kernel
theorem dX3_readOp_39 : decode cX3_readOp 39 = .ok (.iload_n 2, 1) := by decide +kernel
theorem dX3_readOp_40 : decode cX3_readOp 40 = .ok (.invokestatic 102, 3) := by decide +kernel
theorem dX3_readOp_43 : decode cX3_readOp 43 = .ok (.astore_n 3, 1) := by decide +kernel
theorem dX3_readOp_44 : decode cX3_readOp 44 = .ok (.iconst 0, 1) := by decide +kernel
theorem dX3_readOp_45 : decode cX3_readOp 45 = .ok (.istore 4, 2) := by decide +kernel
theorem dX3_readOp_47 : decode cX3_readOp 47 = .ok (.iload 4, 2) := by decide +kernel
theorem dX3_readOp_49 : decode cX3_readOp 49 = .ok (.aload_n 3, 1) := by decide +kernel
theorem dX3_readOp_50 : decode cX3_readOp 50 = .ok (.invokevirtual 105, 3) := by decide +kernel
theorem dX3_readOp_53 : decode cX3_readOp 53 = .ok (.if_icmp .ge 37, 3) := by decide +kernel
theorem dX3_readOp_56 : decode cX3_readOp 56 = .ok (.aload_n 1, 1) := by decide +kernel
theorem dX3_readOp_57 : decode cX3_readOp 57 = .ok (.getfield 109, 3) := by decide +kernel
theorem dX3_readOp_60 : decode cX3_readOp 60 = .ok (.iconst 3, 1) := by decide +kernel
theorem dX3_readOp_61 : decode cX3_readOp 61 = .ok (.aload_n 1, 1) := by decide +kernel
theorem dX3_readOp_62 : decode cX3_readOp 62 = .ok (.getfield 89, 3) := by decide +kernel
theorem dX3_readOp_65 : decode cX3_readOp 65 = .ok (.imul, 1) := by decide +kernel
theorem dX3_readOp_66 : decode cX3_readOp 66 = .ok (.iload 4, 2) := by decide +kernel
theorem dX3_readOp_68 : decode cX3_readOp 68 = .ok (.iadd, 1) := by decide +kernel
theorem dX3_readOp_69 : decode cX3_readOp 69 = .ok (.aload_n 0, 1) := by decide +kernel
theorem dX3_readOp_70 : decode cX3_readOp 70 = .ok (.iconst 0, 1) := by decide +kernel
theorem dX3_readOp_71 : decode cX3_readOp 71 = .ok (.aload_n 3, 1) := by decide +kernel
theorem dX3_readOp_72 : decode cX3_readOp 72 = .ok (.iload 4, 2) := by decide +kernel
theorem dX3_readOp_74 : decode cX3_readOp 74 = .ok (.invokevirtual 112, 3) := by decide +kernel
theorem dX3_readOp_77 : decode cX3_readOp 77 = .ok (.invokestatic 116, 3) := by decide +kernel
theorem dX3_readOp_80 : decode cX3_readOp 80 = .ok (.invokevirtual 85, 3) := by decide +kernel
theorem dX3_readOp_83 : decode cX3_readOp 83 = .ok (.iastore, 1) := by decide +kernel
theorem dX3_readOp_84 : decode cX3_readOp 84 = .ok (.iinc 4 1, 3) := by decide +kernel
theorem dX3_readOp_87 : decode cX3_readOp 87 = .ok (.goto (-40), 3) := by decide +kernel
theorem dX3_readOp_90 : decode cX3_readOp 90 = .ok (.aload_n 1, 1) := by decide +kernel
theorem dX3_readOp_91 : decode cX3_readOp 91 = .ok (.getfield 120, 3) := by decide +kernel
theorem dX3_readOp_94 : decode cX3_readOp 94 = .ok (.aload_n 1, 1) := by decide +kernel
theorem dX3_readOp_95 : decode cX3_readOp 95 = .ok (.getfield 89, 3) := by decide +kernel
theorem dX3_readOp_98 : decode cX3_readOp 98 = .ok (.iload_n 2, 1) := by decide +kernel
theorem dX3_readOp_99 : decode cX3_readOp 99 = .ok (.iastore, 1) := by decide +kernel
theorem dX3_readOp_100 : decode cX3_readOp 100 = .ok (.aload_n 1, 1) := by decide +kernel
theorem dX3_readOp_101 : decode cX3_readOp 101 = .ok (.dup, 1) := by decide +kernel
theorem dX3_readOp_102 : decode cX3_readOp 102 = .ok (.getfield 89, 3) := by decide +kernel
theorem dX3_readOp_105 : decode cX3_readOp 105 = .ok (.iconst 1, 1) := by decide +kernel
theorem dX3_readOp_106 : decode cX3_readOp 106 = .ok (.iadd, 1) := by decide +kernel
theorem dX3_readOp_107 : decode cX3_readOp 107 = .ok (.putfield 89, 3) := by decide +kernel
theorem dX3_readOp_110 : decode cX3_readOp 110 = .ok (.return_, 1) := by decide +kernel
theorem dX3_takeWord_0 : decode cX3_takeWord 0 = .ok (.aload_n 0, 1) := by decide +kernel
theorem dX3_takeWord_1 : decode cX3_takeWord 1 = .ok (.getfield 27, 3) := by decide +kernel
theorem dX3_takeWord_4 : decode cX3_takeWord 4 = .ok (.ifCond .eq 4, 3) := by decide +kernel
theorem dX3_takeWord_7 : decode cX3_takeWord 7 = .ok (.return_, 1) := by decide +kernel
theorem dX3_takeWord_8 : decode cX3_takeWord 8 = .ok (.aload_n 0, 1) := by decide +kernel
theorem dX3_takeWord_9 : decode cX3_takeWord 9 = .ok (.aload_n 1, 1) := by decide +kernel
theorem dX3_takeWord_10 : decode cX3_takeWord 10 = .ok (.invokevirtual 51, 3) := by decide +kernel
theorem dX3_takeWord_13 : decode cX3_takeWord 13 = .ok (.ifCond .eq 10, 3) := by decide +kernel
theorem dX3_takeWord_16 : decode cX3_takeWord 16 = .ok (.aload_n 0, 1) := by decide +kernel
theorem dX3_takeWord_17 : decode cX3_takeWord 17 = .ok (.invokevirtual 33, 3) := by decide +kernel
theorem dX3_takeWord_20 : decode cX3_takeWord 20 = .ok (.goto 8, 3) := by decide +kernel
theorem dX3_takeWord_23 : decode cX3_takeWord 23 = .ok (.aload_n 0, 1) := by decide +kernel
theorem dX3_takeWord_24 : decode cX3_takeWord 24 = .ok (.iconst 1, 1) := by decide +kernel
theorem dX3_takeWord_25 : decode cX3_takeWord 25 = .ok (.invokevirtual 61, 3) := by decide +kernel
theorem dX3_takeWord_28 : decode cX3_takeWord 28 = .ok (.return_, 1) := by decide +kernel
theorem dX3_takeNumber_0 : decode cX3_takeNumber 0 = .ok (.aload_n 0, 1) := by decide +kernel
theorem dX3_takeNumber_1 : decode cX3_takeNumber 1 = .ok (.getfield 27, 3) := by decide +kernel
theorem dX3_takeNumber_4 : decode cX3_takeNumber 4 = .ok (.ifCond .eq 5, 3) := by decide +kernel
theorem dX3_takeNumber_7 : decode cX3_takeNumber 7 = .ok (.iconst 0, 1) := by decide +kernel
theorem dX3_takeNumber_8 : decode cX3_takeNumber 8 = .ok (.ireturn, 1) := by decide +kernel
theorem dX3_takeNumber_9 : decode cX3_takeNumber 9 = .ok (.aload_n 0, 1) := by decide +kernel
theorem dX3_takeNumber_10 : decode cX3_takeNumber 10 = .ok (.getfield 36, 3) := by decide +kernel
theorem dX3_takeNumber_13 : decode cX3_takeNumber 13 = .ok (.iconst 2, 1) := by decide +kernel
theorem dX3_takeNumber_14 : decode cX3_takeNumber 14 = .ok (.if_icmp .eq 10, 3) := by decide +kernel
theorem dX3_takeNumber_17 : decode cX3_takeNumber 17 = .ok (.aload_n 0, 1) := by decide +kernel
theorem dX3_takeNumber_18 : decode cX3_takeNumber 18 = .ok (.iconst 1, 1) := by decide +kernel
theorem dX3_takeNumber_19 : decode cX3_takeNumber 19 = .ok (.invokevirtual 61, 3) := by decide +kernel
theorem dX3_takeNumber_22 : decode cX3_takeNumber 22 = .ok (.iconst 0, 1) := by decide +kernel
theorem dX3_takeNumber_23 : decode cX3_takeNumber 23 = .ok (.ireturn, 1) := by decide +kernel
theorem dX3_takeNumber_24 : decode cX3_takeNumber 24 = .ok (.aload_n 0, 1) := by decide +kernel
theorem dX3_takeNumber_25 : decode cX3_takeNumber 25 = .ok (.getfield 123, 3) := by decide +kernel
theorem dX3_takeNumber_28 : decode cX3_takeNumber 28 = .ok (.i2l, 1) := by decide +kernel
theorem dX3_takeNumber_29 : decode cX3_takeNumber 29 = .ok (.iload_n 1, 1) := by decide +kernel
theorem dX3_takeNumber_30 : decode cX3_takeNumber 30 = .ok (.i2l, 1) := by decide +kernel
theorem dX3_takeNumber_31 : decode cX3_takeNumber 31 = .ok (.iload_n 2, 1) := by decide +kernel
theorem dX3_takeNumber_32 : decode cX3_takeNumber 32 = .ok (.i2l, 1) := by decide +kernel
theorem dX3_takeNumber_33 : decode cX3_takeNumber 33 = .ok (.invokestatic 126, 3) := by decide +kernel
theorem dX3_takeNumber_36 : decode cX3_takeNumber 36 = .ok (.ifCond .ne 10, 3) := by decide +kernel
theorem dX3_takeNumber_39 : decode cX3_takeNumber 39 = .ok (.aload_n 0, 1) := by decide +kernel
theorem dX3_takeNumber_40 : decode cX3_takeNumber 40 = .ok (.iconst 2, 1) := by decide +kernel
theorem dX3_takeNumber_41 : decode cX3_takeNumber 41 = .ok (.invokevirtual 61, 3) := by decide +kernel
theorem dX3_takeNumber_44 : decode cX3_takeNumber 44 = .ok (.iconst 0, 1) := by decide +kernel
theorem dX3_takeNumber_45 : decode cX3_takeNumber 45 = .ok (.ireturn, 1) := by decide +kernel
theorem dX3_takeNumber_46 : decode cX3_takeNumber 46 = .ok (.aload_n 0, 1) := by decide +kernel
theorem dX3_takeNumber_47 : decode cX3_takeNumber 47 = .ok (.getfield 123, 3) := by decide +kernel
theorem dX3_takeNumber_50 : decode cX3_takeNumber 50 = .ok (.istore_n 3, 1) := by decide +kernel
theorem dX3_takeNumber_51 : decode cX3_takeNumber 51 = .ok (.aload_n 0, 1) := by decide +kernel
theorem dX3_takeNumber_52 : decode cX3_takeNumber 52 = .ok (.invokevirtual 33, 3) := by decide +kernel
theorem dX3_takeNumber_55 : decode cX3_takeNumber 55 = .ok (.iload_n 3, 1) := by decide +kernel
theorem dX3_takeNumber_56 : decode cX3_takeNumber 56 = .ok (.ireturn, 1) := by decide +kernel
theorem dX3_fail_0 : decode cX3_fail 0 = .ok (.aload_n 0, 1) := by decide +kernel
theorem dX3_fail_1 : decode cX3_fail 1 = .ok (.iload_n 1, 1) := by decide +kernel
theorem dX3_fail_2 : decode cX3_fail 2 = .ok (.putfield 27, 3) := by decide +kernel
theorem dX3_fail_5 : decode cX3_fail 5 = .ok (.aload_n 0, 1) := by decide +kernel
theorem dX3_fail_6 : decode cX3_fail 6 = .ok (.aload_n 0, 1) := by decide +kernel
theorem dX3_fail_7 : decode cX3_fail 7 = .ok (.getfield 130, 3) := by decide +kernel
theorem dX3_fail_10 : decode cX3_fail 10 = .ok (.putfield 15, 3) := by decide +kernel
theorem dX3_fail_13 : decode cX3_fail 13 = .ok (.return_, 1) := by decide +kernel
theorem dX3_advance_0 : decode cX3_advance 0 = .ok (.aload_n 0, 1) := by decide +kernel
theorem dX3_advance_1 : decode cX3_advance 1 = .ok (.aload_n 0, 1) := by decide +kernel
theorem dX3_advance_2 : decode cX3_advance 2 = .ok (.getfield 30, 3) := by decide +kernel
theorem dX3_advance_5 : decode cX3_advance 5 = .ok (.putfield 130, 3) := by decide +kernel
theorem dX3_advance_8 : decode cX3_advance 8 = .ok (.aload_n 0, 1) := by decide +kernel
theorem dX3_advance_9 : decode cX3_advance 9 = .ok (.getfield 130, 3) := by decide +kernel
theorem dX3_advance_12 : decode cX3_advance 12 = .ok (.aload_n 0, 1) := by decide +kernel
theorem dX3_advance_13 : decode cX3_advance 13 = .ok (.getfield 19, 3) := by decide +kernel
theorem dX3_advance_16 : decode cX3_advance 16 = .ok (.if_icmp .ge 44, 3) := by decide +kernel
theorem dX3_advance_19 : decode cX3_advance 19 = .ok (.aload_n 0, 1) := by decide +kernel
theorem dX3_advance_20 : decode cX3_advance 20 = .ok (.getfield 9, 3) := by decide +kernel
theorem dX3_advance_23 : decode cX3_advance 23 = .ok (.aload_n 0, 1) := by decide +kernel
theorem dX3_advance_24 : decode cX3_advance 24 = .ok (.getfield 130, 3) := by decide +kernel
theorem dX3_advance_27 : decode cX3_advance 27 = .ok (.baload, 1) := by decide +kernel
theorem dX3_advance_28 : decode cX3_advance 28 = .ok (.bipush 32, 2) := by decide +kernel
theorem dX3_advance_30 : decode cX3_advance 30 = .ok (.if_icmp .eq 17, 3) := by decide +kernel
theorem dX3_advance_33 : decode cX3_advance 33 = .ok (.aload_n 0, 1) := by decide +kernel
theorem dX3_advance_34 : decode cX3_advance 34 = .ok (.getfield 9, 3) := by decide +kernel
theorem dX3_advance_37 : decode cX3_advance 37 = .ok (.aload_n 0, 1) := by decide +kernel
theorem dX3_advance_38 : decode cX3_advance 38 = .ok (.getfield 130, 3) := by decide +kernel
theorem dX3_advance_41 : decode cX3_advance 41 = .ok (.baload, 1) := by decide +kernel
theorem dX3_advance_42 : decode cX3_advance 42 = .ok (.bipush 10, 2) := by decide +kernel
theorem dX3_advance_44 : decode cX3_advance 44 = .ok (.if_icmp .ne 16, 3) := by decide +kernel
theorem dX3_advance_47 : decode cX3_advance 47 = .ok (.aload_n 0, 1) := by decide +kernel
theorem dX3_advance_48 : decode cX3_advance 48 = .ok (.dup, 1) := by decide +kernel
theorem dX3_advance_49 : decode cX3_advance 49 = .ok (.getfield 130, 3) := by decide +kernel
theorem dX3_advance_52 : decode cX3_advance 52 = .ok (.iconst 1, 1) := by decide +kernel
theorem dX3_advance_53 : decode cX3_advance 53 = .ok (.iadd, 1) := by decide +kernel
theorem dX3_advance_54 : decode cX3_advance 54 = .ok (.putfield 130, 3) := by decide +kernel
theorem dX3_advance_57 : decode cX3_advance 57 = .ok (.goto (-49), 3) := by decide +kernel
theorem dX3_advance_60 : decode cX3_advance 60 = .ok (.aload_n 0, 1) := by decide +kernel
theorem dX3_advance_61 : decode cX3_advance 61 = .ok (.aload_n 0, 1) := by decide +kernel
theorem dX3_advance_62 : decode cX3_advance 62 = .ok (.getfield 130, 3) := by decide +kernel
theorem dX3_advance_65 : decode cX3_advance 65 = .ok (.putfield 30, 3) := by decide +kernel
theorem dX3_advance_68 : decode cX3_advance 68 = .ok (.aload_n 0, 1) := by decide +kernel
theorem dX3_advance_69 : decode cX3_advance 69 = .ok (.getfield 130, 3) := by decide +kernel
theorem dX3_advance_72 : decode cX3_advance 72 = .ok (.aload_n 0, 1) := by decide +kernel
theorem dX3_advance_73 : decode cX3_advance 73 = .ok (.getfield 19, 3) := by decide +kernel
theorem dX3_advance_76 : decode cX3_advance 76 = .ok (.if_icmp .ne 11, 3) := by decide +kernel
theorem dX3_advance_79 : decode cX3_advance 79 = .ok (.aload_n 0, 1) := by decide +kernel
theorem dX3_advance_80 : decode cX3_advance 80 = .ok (.iconst 0, 1) := by decide +kernel
theorem dX3_advance_81 : decode cX3_advance 81 = .ok (.putfield 36, 3) := by decide +kernel
theorem dX3_advance_84 : decode cX3_advance 84 = .ok (.goto 188, 3) := by decide +kernel
theorem dX3_advance_87 : decode cX3_advance 87 = .ok (.aload_n 0, 1) := by decide +kernel
theorem dX3_advance_88 : decode cX3_advance 88 = .ok (.getfield 9, 3) := by decide +kernel
theorem dX3_advance_91 : decode cX3_advance 91 = .ok (.aload_n 0, 1) := by decide +kernel
theorem dX3_advance_92 : decode cX3_advance 92 = .ok (.getfield 130, 3) := by decide +kernel
theorem dX3_advance_95 : decode cX3_advance 95 = .ok (.baload, 1) := by decide +kernel
theorem dX3_advance_96 : decode cX3_advance 96 = .ok (.invokestatic 133, 3) := by decide +kernel
theorem dX3_advance_99 : decode cX3_advance 99 = .ok (.ifCond .eq 47, 3) := by decide +kernel
theorem dX3_advance_102 : decode cX3_advance 102 = .ok (.aload_n 0, 1) := by decide +kernel
theorem dX3_advance_103 : decode cX3_advance 103 = .ok (.iconst 1, 1) := by decide +kernel
theorem dX3_advance_104 : decode cX3_advance 104 = .ok (.putfield 36, 3) := by decide +kernel
theorem dX3_advance_107 : decode cX3_advance 107 = .ok (.aload_n 0, 1) := by decide +kernel
theorem dX3_advance_108 : decode cX3_advance 108 = .ok (.getfield 30, 3) := by decide +kernel
theorem dX3_advance_111 : decode cX3_advance 111 = .ok (.aload_n 0, 1) := by decide +kernel
theorem dX3_advance_112 : decode cX3_advance 112 = .ok (.getfield 19, 3) := by decide +kernel
theorem dX3_advance_115 : decode cX3_advance 115 = .ok (.if_icmp .ge 157, 3) := by decide +kernel
theorem dX3_advance_118 : decode cX3_advance 118 = .ok (.aload_n 0, 1) := by decide +kernel
theorem dX3_advance_119 : decode cX3_advance 119 = .ok (.getfield 9, 3) := by decide +kernel
theorem dX3_advance_122 : decode cX3_advance 122 = .ok (.aload_n 0, 1) := by decide +kernel
theorem dX3_advance_123 : decode cX3_advance 123 = .ok (.getfield 30, 3) := by decide +kernel
theorem dX3_advance_126 : decode cX3_advance 126 = .ok (.baload, 1) := by decide +kernel
theorem dX3_advance_127 : decode cX3_advance 127 = .ok (.invokestatic 133, 3) := by decide +kernel
theorem dX3_advance_130 : decode cX3_advance 130 = .ok (.ifCond .eq 142, 3) := by decide +kernel
theorem dX3_advance_133 : decode cX3_advance 133 = .ok (.aload_n 0, 1) := by decide +kernel
theorem dX3_advance_134 : decode cX3_advance 134 = .ok (.dup, 1) := by decide +kernel
theorem dX3_advance_135 : decode cX3_advance 135 = .ok (.getfield 30, 3) := by decide +kernel
theorem dX3_advance_138 : decode cX3_advance 138 = .ok (.iconst 1, 1) := by decide +kernel
theorem dX3_advance_139 : decode cX3_advance 139 = .ok (.iadd, 1) := by decide +kernel
theorem dX3_advance_140 : decode cX3_advance 140 = .ok (.putfield 30, 3) := by decide +kernel
theorem dX3_advance_143 : decode cX3_advance 143 = .ok (.goto (-36), 3) := by decide +kernel
theorem dX3_advance_146 : decode cX3_advance 146 = .ok (.aload_n 0, 1) := by decide +kernel
theorem dX3_advance_147 : decode cX3_advance 147 = .ok (.getfield 9, 3) := by decide +kernel
theorem dX3_advance_150 : decode cX3_advance 150 = .ok (.aload_n 0, 1) := by decide +kernel
theorem dX3_advance_151 : decode cX3_advance 151 = .ok (.getfield 130, 3) := by decide +kernel
theorem dX3_advance_154 : decode cX3_advance 154 = .ok (.baload, 1) := by decide +kernel
theorem dX3_advance_155 : decode cX3_advance 155 = .ok (.invokestatic 137, 3) := by decide +kernel
theorem dX3_advance_158 : decode cX3_advance 158 = .ok (.ifCond .eq 81, 3) := by decide +kernel
theorem dX3_advance_161 : decode cX3_advance 161 = .ok (.aload_n 0, 1) := by decide +kernel
theorem dX3_advance_162 : decode cX3_advance 162 = .ok (.iconst 2, 1) := by decide +kernel
theorem dX3_advance_163 : decode cX3_advance 163 = .ok (.putfield 36, 3) := by decide +kernel
theorem dX3_advance_166 : decode cX3_advance 166 = .ok (.aload_n 0, 1) := by decide +kernel
theorem dX3_advance_167 : decode cX3_advance 167 = .ok (.iconst 0, 1) := by decide +kernel
theorem dX3_advance_168 : decode cX3_advance 168 = .ok (.putfield 123, 3) := by decide +kernel
theorem dX3_advance_171 : decode cX3_advance 171 = .ok (.aload_n 0, 1) := by decide +kernel
theorem dX3_advance_172 : decode cX3_advance 172 = .ok (.getfield 30, 3) := by decide +kernel
theorem dX3_advance_175 : decode cX3_advance 175 = .ok (.aload_n 0, 1) := by decide +kernel
theorem dX3_advance_176 : decode cX3_advance 176 = .ok (.getfield 19, 3) := by decide +kernel
theorem dX3_advance_179 : decode cX3_advance 179 = .ok (.if_icmp .ge 93, 3) := by decide +kernel
theorem dX3_advance_182 : decode cX3_advance 182 = .ok (.aload_n 0, 1) := by decide +kernel
theorem dX3_advance_183 : decode cX3_advance 183 = .ok (.getfield 9, 3) := by decide +kernel
theorem dX3_advance_186 : decode cX3_advance 186 = .ok (.aload_n 0, 1) := by decide +kernel
theorem dX3_advance_187 : decode cX3_advance 187 = .ok (.getfield 30, 3) := by decide +kernel
theorem dX3_advance_190 : decode cX3_advance 190 = .ok (.baload, 1) := by decide +kernel
theorem dX3_advance_191 : decode cX3_advance 191 = .ok (.invokestatic 137, 3) := by decide +kernel
theorem dX3_advance_194 : decode cX3_advance 194 = .ok (.ifCond .eq 78, 3) := by decide +kernel
theorem dX3_advance_197 : decode cX3_advance 197 = .ok (.aload_n 0, 1) := by decide +kernel
theorem dX3_advance_198 : decode cX3_advance 198 = .ok (.ldc 140, 2) := by decide +kernel
theorem dX3_advance_200 : decode cX3_advance 200 = .ok (.bipush 10, 2) := by decide +kernel
theorem dX3_advance_202 : decode cX3_advance 202 = .ok (.aload_n 0, 1) := by decide +kernel
theorem dX3_advance_203 : decode cX3_advance 203 = .ok (.getfield 123, 3) := by decide +kernel
theorem dX3_advance_206 : decode cX3_advance 206 = .ok (.imul, 1) := by decide +kernel
theorem dX3_advance_207 : decode cX3_advance 207 = .ok (.aload_n 0, 1) := by decide +kernel
theorem dX3_advance_208 : decode cX3_advance 208 = .ok (.getfield 9, 3) := by decide +kernel
theorem dX3_advance_211 : decode cX3_advance 211 = .ok (.aload_n 0, 1) := by decide +kernel
theorem dX3_advance_212 : decode cX3_advance 212 = .ok (.getfield 30, 3) := by decide +kernel
theorem dX3_advance_215 : decode cX3_advance 215 = .ok (.baload, 1) := by decide +kernel
theorem dX3_advance_216 : decode cX3_advance 216 = .ok (.iadd, 1) := by decide +kernel
theorem dX3_advance_217 : decode cX3_advance 217 = .ok (.bipush 48, 2) := by decide +kernel
theorem dX3_advance_219 : decode cX3_advance 219 = .ok (.isub, 1) := by decide +kernel
theorem dX3_advance_220 : decode cX3_advance 220 = .ok (.invokestatic 141, 3) := by decide +kernel
theorem dX3_advance_223 : decode cX3_advance 223 = .ok (.putfield 123, 3) := by decide +kernel
theorem dX3_advance_226 : decode cX3_advance 226 = .ok (.aload_n 0, 1) := by decide +kernel
theorem dX3_advance_227 : decode cX3_advance 227 = .ok (.dup, 1) := by decide +kernel
theorem dX3_advance_228 : decode cX3_advance 228 = .ok (.getfield 30, 3) := by decide +kernel
theorem dX3_advance_231 : decode cX3_advance 231 = .ok (.iconst 1, 1) := by decide +kernel
theorem dX3_advance_232 : decode cX3_advance 232 = .ok (.iadd, 1) := by decide +kernel
theorem dX3_advance_233 : decode cX3_advance 233 = .ok (.putfield 30, 3) := by decide +kernel
theorem dX3_advance_236 : decode cX3_advance 236 = .ok (.goto (-65), 3) := by decide +kernel
theorem dX3_advance_239 : decode cX3_advance 239 = .ok (.aload_n 0, 1) := by decide +kernel
theorem dX3_advance_240 : decode cX3_advance 240 = .ok (.aload_n 0, 1) := by decide +kernel
theorem dX3_advance_241 : decode cX3_advance 241 = .ok (.getfield 9, 3) := by decide +kernel
theorem dX3_advance_244 : decode cX3_advance 244 = .ok (.aload_n 0, 1) := by decide +kernel
theorem dX3_advance_245 : decode cX3_advance 245 = .ok (.getfield 130, 3) := by decide +kernel
theorem dX3_advance_248 : decode cX3_advance 248 = .ok (.baload, 1) := by decide +kernel
theorem dX3_advance_249 : decode cX3_advance 249 = .ok (.bipush 59, 2) := by decide +kernel
theorem dX3_advance_251 : decode cX3_advance 251 = .ok (.if_icmp .ne 7, 3) := by decide +kernel
theorem dX3_advance_254 : decode cX3_advance 254 = .ok (.iconst 3, 1) := by decide +kernel
theorem dX3_advance_255 : decode cX3_advance 255 = .ok (.goto 4, 3) := by decide +kernel
theorem dX3_advance_258 : decode cX3_advance 258 = .ok (.iconst 4, 1) := by decide +kernel
theorem dX3_advance_259 : decode cX3_advance 259 = .ok (.putfield 36, 3) := by decide +kernel
theorem dX3_advance_262 : decode cX3_advance 262 = .ok (.aload_n 0, 1) := by decide +kernel
theorem dX3_advance_263 : decode cX3_advance 263 = .ok (.dup, 1) := by decide +kernel
theorem dX3_advance_264 : decode cX3_advance 264 = .ok (.getfield 30, 3) := by decide +kernel
theorem dX3_advance_267 : decode cX3_advance 267 = .ok (.iconst 1, 1) := by decide +kernel
theorem dX3_advance_268 : decode cX3_advance 268 = .ok (.iadd, 1) := by decide +kernel
theorem dX3_advance_269 : decode cX3_advance 269 = .ok (.putfield 30, 3) := by decide +kernel
theorem dX3_advance_272 : decode cX3_advance 272 = .ok (.return_, 1) := by decide +kernel
theorem dX3_isLetter_0 : decode cX3_isLetter 0 = .ok (.iload_n 0, 1) := by decide +kernel
theorem dX3_isLetter_1 : decode cX3_isLetter 1 = .ok (.bipush 97, 2) := by decide +kernel
theorem dX3_isLetter_3 : decode cX3_isLetter 3 = .ok (.if_icmp .lt 13, 3) := by decide +kernel
theorem dX3_isLetter_6 : decode cX3_isLetter 6 = .ok (.iload_n 0, 1) := by decide +kernel
theorem dX3_isLetter_7 : decode cX3_isLetter 7 = .ok (.bipush 122, 2) := by decide +kernel
theorem dX3_isLetter_9 : decode cX3_isLetter 9 = .ok (.if_icmp .gt 7, 3) := by decide +kernel
theorem dX3_isLetter_12 : decode cX3_isLetter 12 = .ok (.iconst 1, 1) := by decide +kernel
theorem dX3_isLetter_13 : decode cX3_isLetter 13 = .ok (.goto 4, 3) := by decide +kernel
theorem dX3_isLetter_16 : decode cX3_isLetter 16 = .ok (.iconst 0, 1) := by decide +kernel
theorem dX3_isLetter_17 : decode cX3_isLetter 17 = .ok (.ireturn, 1) := by decide +kernel
theorem dX3_isDigit_0 : decode cX3_isDigit 0 = .ok (.iload_n 0, 1) := by decide +kernel
theorem dX3_isDigit_1 : decode cX3_isDigit 1 = .ok (.bipush 48, 2) := by decide +kernel
theorem dX3_isDigit_3 : decode cX3_isDigit 3 = .ok (.if_icmp .lt 13, 3) := by decide +kernel
theorem dX3_isDigit_6 : decode cX3_isDigit 6 = .ok (.iload_n 0, 1) := by decide +kernel
theorem dX3_isDigit_7 : decode cX3_isDigit 7 = .ok (.bipush 57, 2) := by decide +kernel
theorem dX3_isDigit_9 : decode cX3_isDigit 9 = .ok (.if_icmp .gt 7, 3) := by decide +kernel
theorem dX3_isDigit_12 : decode cX3_isDigit 12 = .ok (.iconst 1, 1) := by decide +kernel
theorem dX3_isDigit_13 : decode cX3_isDigit 13 = .ok (.goto 4, 3) := by decide +kernel
theorem dX3_isDigit_16 : decode cX3_isDigit 16 = .ok (.iconst 0, 1) := by decide +kernel
theorem dX3_isDigit_17 : decode cX3_isDigit 17 = .ok (.ireturn, 1) := by decide +kernel
theorem dX3_isWord_0 : decode cX3_isWord 0 = .ok (.aload_n 0, 1) := by decide +kernel
theorem dX3_isWord_1 : decode cX3_isWord 1 = .ok (.getfield 36, 3) := by decide +kernel
theorem dX3_isWord_4 : decode cX3_isWord 4 = .ok (.iconst 1, 1) := by decide +kernel
theorem dX3_isWord_5 : decode cX3_isWord 5 = .ok (.if_icmp .ne 19, 3) := by decide +kernel
theorem dX3_isWord_8 : decode cX3_isWord 8 = .ok (.aload_n 0, 1) := by decide +kernel
theorem dX3_isWord_9 : decode cX3_isWord 9 = .ok (.getfield 30, 3) := by decide +kernel
theorem dX3_isWord_12 : decode cX3_isWord 12 = .ok (.aload_n 0, 1) := by decide +kernel
theorem dX3_isWord_13 : decode cX3_isWord 13 = .ok (.getfield 130, 3) := by decide +kernel
theorem dX3_isWord_16 : decode cX3_isWord 16 = .ok (.isub, 1) := by decide +kernel
theorem dX3_isWord_17 : decode cX3_isWord 17 = .ok (.aload_n 1, 1) := by decide +kernel
theorem dX3_isWord_18 : decode cX3_isWord 18 = .ok (.invokevirtual 105, 3) := by decide +kernel
theorem dX3_isWord_21 : decode cX3_isWord 21 = .ok (.if_icmp .eq 5, 3) := by decide +kernel
theorem dX3_isWord_24 : decode cX3_isWord 24 = .ok (.iconst 0, 1) := by decide +kernel
theorem dX3_isWord_25 : decode cX3_isWord 25 = .ok (.ireturn, 1) := by decide +kernel
theorem dX3_isWord_26 : decode cX3_isWord 26 = .ok (.iconst 0, 1) := by decide +kernel
theorem dX3_isWord_27 : decode cX3_isWord 27 = .ok (.istore_n 2, 1) := by decide +kernel
theorem dX3_isWord_28 : decode cX3_isWord 28 = .ok (.iload_n 2, 1) := by decide +kernel
theorem dX3_isWord_29 : decode cX3_isWord 29 = .ok (.aload_n 1, 1) := by decide +kernel
theorem dX3_isWord_30 : decode cX3_isWord 30 = .ok (.invokevirtual 105, 3) := by decide +kernel
theorem dX3_isWord_33 : decode cX3_isWord 33 = .ok (.if_icmp .ge 30, 3) := by decide +kernel
theorem dX3_isWord_36 : decode cX3_isWord 36 = .ok (.aload_n 0, 1) := by decide +kernel
theorem dX3_isWord_37 : decode cX3_isWord 37 = .ok (.getfield 9, 3) := by decide +kernel
theorem dX3_isWord_40 : decode cX3_isWord 40 = .ok (.aload_n 0, 1) := by decide +kernel
theorem dX3_isWord_41 : decode cX3_isWord 41 = .ok (.getfield 130, 3) := by decide +kernel
theorem dX3_isWord_44 : decode cX3_isWord 44 = .ok (.iload_n 2, 1) := by decide +kernel
theorem dX3_isWord_45 : decode cX3_isWord 45 = .ok (.iadd, 1) := by decide +kernel
theorem dX3_isWord_46 : decode cX3_isWord 46 = .ok (.baload, 1) := by decide +kernel
theorem dX3_isWord_47 : decode cX3_isWord 47 = .ok (.aload_n 1, 1) := by decide +kernel
theorem dX3_isWord_48 : decode cX3_isWord 48 = .ok (.iload_n 2, 1) := by decide +kernel
theorem dX3_isWord_49 : decode cX3_isWord 49 = .ok (.invokevirtual 112, 3) := by decide +kernel
theorem dX3_isWord_52 : decode cX3_isWord 52 = .ok (.if_icmp .eq 5, 3) := by decide +kernel
theorem dX3_isWord_55 : decode cX3_isWord 55 = .ok (.iconst 0, 1) := by decide +kernel
theorem dX3_isWord_56 : decode cX3_isWord 56 = .ok (.ireturn, 1) := by decide +kernel
theorem dX3_isWord_57 : decode cX3_isWord 57 = .ok (.iinc 2 1, 3) := by decide +kernel
theorem dX3_isWord_60 : decode cX3_isWord 60 = .ok (.goto (-32), 3) := by decide +kernel
theorem dX3_isWord_63 : decode cX3_isWord 63 = .ok (.iconst 1, 1) := by decide +kernel
theorem dX3_isWord_64 : decode cX3_isWord 64 = .ok (.ireturn, 1) := by decide +kernel
theorem dX3_kindOfWord_0 : decode cX3_kindOfWord 0 = .ok (.iconst 0, 1) := by decide +kernel
theorem dX3_kindOfWord_1 : decode cX3_kindOfWord 1 = .ok (.istore_n 1, 1) := by decide +kernel
theorem dX3_kindOfWord_2 : decode cX3_kindOfWord 2 = .ok (.iload_n 1, 1) := by decide +kernel
theorem dX3_kindOfWord_3 : decode cX3_kindOfWord 3 = .ok (.bipush 10, 2) := by decide +kernel
theorem dX3_kindOfWord_5 : decode cX3_kindOfWord 5 = .ok (.if_icmp .gt 22, 3) := by decide +kernel
theorem dX3_kindOfWord_8 : decode cX3_kindOfWord 8 = .ok (.aload_n 0, 1) := by decide +kernel
theorem dX3_kindOfWord_9 : decode cX3_kindOfWord 9 = .ok (.iload_n 1, 1) := by decide +kernel
theorem dX3_kindOfWord_10 : decode cX3_kindOfWord 10 = .ok (.invokestatic 146, 3) := by decide +kernel
theorem dX3_kindOfWord_13 : decode cX3_kindOfWord 13 = .ok (.invokevirtual 51, 3) := by decide +kernel
theorem dX3_kindOfWord_16 : decode cX3_kindOfWord 16 = .ok (.ifCond .eq 5, 3) := by decide +kernel
theorem dX3_kindOfWord_19 : decode cX3_kindOfWord 19 = .ok (.iload_n 1, 1) := by decide +kernel
theorem dX3_kindOfWord_20 : decode cX3_kindOfWord 20 = .ok (.ireturn, 1) := by decide +kernel
theorem dX3_kindOfWord_21 : decode cX3_kindOfWord 21 = .ok (.iinc 1 1, 3) := by decide +kernel
theorem dX3_kindOfWord_24 : decode cX3_kindOfWord 24 = .ok (.goto (-22), 3) := by decide +kernel
theorem dX3_kindOfWord_27 : decode cX3_kindOfWord 27 = .ok (.iconst (-1), 1) := by decide +kernel
theorem dX3_kindOfWord_28 : decode cX3_kindOfWord 28 = .ok (.ireturn, 1) := by decide +kernel
theorem dX3_headWord_0 : decode cX3_headWord 0 = .ok (.iload_n 0, 1) := by decide +kernel
theorem dX3_headWord_1 : decode cX3_headWord 1 = .ok (.tableswitch 50 0 4 #[35, 38, 41, 44, 47], 35) := by decide +kernel
theorem dX3_headWord_36 : decode cX3_headWord 36 = .ok (.ldc 149, 2) := by decide +kernel
theorem dX3_headWord_38 : decode cX3_headWord 38 = .ok (.areturn, 1) := by decide +kernel
theorem dX3_headWord_39 : decode cX3_headWord 39 = .ok (.ldc 151, 2) := by decide +kernel
theorem dX3_headWord_41 : decode cX3_headWord 41 = .ok (.areturn, 1) := by decide +kernel
theorem dX3_headWord_42 : decode cX3_headWord 42 = .ok (.ldc 153, 2) := by decide +kernel
theorem dX3_headWord_44 : decode cX3_headWord 44 = .ok (.areturn, 1) := by decide +kernel
theorem dX3_headWord_45 : decode cX3_headWord 45 = .ok (.ldc 155, 2) := by decide +kernel
theorem dX3_headWord_47 : decode cX3_headWord 47 = .ok (.areturn, 1) := by decide +kernel
theorem dX3_headWord_48 : decode cX3_headWord 48 = .ok (.ldc 157, 2) := by decide +kernel
theorem dX3_headWord_50 : decode cX3_headWord 50 = .ok (.areturn, 1) := by decide +kernel
theorem dX3_headWord_51 : decode cX3_headWord 51 = .ok (.ldc 159, 2) := by decide +kernel
theorem dX3_headWord_53 : decode cX3_headWord 53 = .ok (.areturn, 1) := by decide +kernel
theorem dX3_opWord_0 : decode cX3_opWord 0 = .ok (.iload_n 0, 1) := by decide +kernel
theorem dX3_opWord_1 : decode cX3_opWord 1 = .ok (.tableswitch 85 0 9 #[55, 58, 61, 64, 67, 70, 73, 76, 79, 82], 55) := by decide +kernel
theorem dX3_opWord_56 : decode cX3_opWord 56 = .ok (.ldc 161, 2) := by decide +kernel
theorem dX3_opWord_58 : decode cX3_opWord 58 = .ok (.areturn, 1) := by decide +kernel
theorem dX3_opWord_59 : decode cX3_opWord 59 = .ok (.ldc 163, 2) := by decide +kernel
theorem dX3_opWord_61 : decode cX3_opWord 61 = .ok (.areturn, 1) := by decide +kernel
theorem dX3_opWord_62 : decode cX3_opWord 62 = .ok (.ldc 165, 2) := by decide +kernel
theorem dX3_opWord_64 : decode cX3_opWord 64 = .ok (.areturn, 1) := by decide +kernel
theorem dX3_opWord_65 : decode cX3_opWord 65 = .ok (.ldc 167, 2) := by decide +kernel
theorem dX3_opWord_67 : decode cX3_opWord 67 = .ok (.areturn, 1) := by decide +kernel
theorem dX3_opWord_68 : decode cX3_opWord 68 = .ok (.ldc 169, 2) := by decide +kernel
theorem dX3_opWord_70 : decode cX3_opWord 70 = .ok (.areturn, 1) := by decide +kernel
theorem dX3_opWord_71 : decode cX3_opWord 71 = .ok (.ldc 171, 2) := by decide +kernel
theorem dX3_opWord_73 : decode cX3_opWord 73 = .ok (.areturn, 1) := by decide +kernel
theorem dX3_opWord_74 : decode cX3_opWord 74 = .ok (.ldc 173, 2) := by decide +kernel
theorem dX3_opWord_76 : decode cX3_opWord 76 = .ok (.areturn, 1) := by decide +kernel
theorem dX3_opWord_77 : decode cX3_opWord 77 = .ok (.ldc 175, 2) := by decide +kernel
theorem dX3_opWord_79 : decode cX3_opWord 79 = .ok (.areturn, 1) := by decide +kernel
theorem dX3_opWord_80 : decode cX3_opWord 80 = .ok (.ldc 177, 2) := by decide +kernel
theorem dX3_opWord_82 : decode cX3_opWord 82 = .ok (.areturn, 1) := by decide +kernel
theorem dX3_opWord_83 : decode cX3_opWord 83 = .ok (.ldc 179, 2) := by decide +kernel
theorem dX3_opWord_85 : decode cX3_opWord 85 = .ok (.areturn, 1) := by decide +kernel
theorem dX3_opWord_86 : decode cX3_opWord 86 = .ok (.ldc 181, 2) := by decide +kernel
theorem dX3_opWord_88 : decode cX3_opWord 88 = .ok (.areturn, 1) := by decide +kernel
theorem dX3_formOf_0 : decode cX3_formOf 0 = .ok (.iload_n 0, 1) := by decide +kernel
theorem dX3_formOf_1 : decode cX3_formOf 1 = .ok (.tableswitch 70 0 9 #[55, 55, 55, 58, 58, 58, 61, 61, 64, 67], 55) := by decide +kernel
theorem dX3_formOf_56 : decode cX3_formOf 56 = .ok (.ldc 183, 2) := by decide +kernel
theorem dX3_formOf_58 : decode cX3_formOf 58 = .ok (.areturn, 1) := by decide +kernel
theorem dX3_formOf_59 : decode cX3_formOf 59 = .ok (.ldc 185, 2) := by decide +kernel
theorem dX3_formOf_61 : decode cX3_formOf 61 = .ok (.areturn, 1) := by decide +kernel
theorem dX3_formOf_62 : decode cX3_formOf 62 = .ok (.ldc 187, 2) := by decide +kernel
theorem dX3_formOf_64 : decode cX3_formOf 64 = .ok (.areturn, 1) := by decide +kernel
theorem dX3_formOf_65 : decode cX3_formOf 65 = .ok (.ldc 189, 2) := by decide +kernel
theorem dX3_formOf_67 : decode cX3_formOf 67 = .ok (.areturn, 1) := by decide +kernel
theorem dX3_formOf_68 : decode cX3_formOf 68 = .ok (.ldc 191, 2) := by decide +kernel
theorem dX3_formOf_70 : decode cX3_formOf 70 = .ok (.areturn, 1) := by decide +kernel
theorem dX3_formOf_71 : decode cX3_formOf 71 = .ok (.ldc 193, 2) := by decide +kernel
theorem dX3_formOf_73 : decode cX3_formOf 73 = .ok (.areturn, 1) := by decide +kernel
theorem dX3_mostOf_0 : decode cX3_mostOf 0 = .ok (.iload_n 0, 1) := by decide +kernel
theorem dX3_mostOf_1 : decode cX3_mostOf 1 = .ok (.bipush 82, 2) := by decide +kernel
theorem dX3_mostOf_3 : decode cX3_mostOf 3 = .ok (.if_icmp .ne 6, 3) := by decide +kernel
theorem dX3_mostOf_6 : decode cX3_mostOf 6 = .ok (.bipush 7, 2) := by decide +kernel
theorem dX3_mostOf_8 : decode cX3_mostOf 8 = .ok (.ireturn, 1) := by decide +kernel
theorem dX3_mostOf_9 : decode cX3_mostOf 9 = .ok (.iload_n 0, 1) := by decide +kernel
theorem dX3_mostOf_10 : decode cX3_mostOf 10 = .ok (.bipush 78, 2) := by decide +kernel
theorem dX3_mostOf_12 : decode cX3_mostOf 12 = .ok (.if_icmp .ne 9, 3) := by decide +kernel
theorem dX3_mostOf_15 : decode cX3_mostOf 15 = .ok (.sipush 999, 3) := by decide +kernel
theorem dX3_mostOf_18 : decode cX3_mostOf 18 = .ok (.goto 5, 3) := by decide +kernel
theorem dX3_mostOf_21 : decode cX3_mostOf 21 = .ok (.bipush 39, 2) := by decide +kernel
theorem dX3_mostOf_23 : decode cX3_mostOf 23 = .ok (.ireturn, 1) := by decide +kernel
theorem dX4_init_0 : decode cX4_init 0 = .ok (.aload_n 0, 1) := by decide +kernel
theorem dX4_init_1 : decode cX4_init 1 = .ok (.invokespecial 3, 3) := by decide +kernel
theorem dX4_init_4 : decode cX4_init 4 = .ok (.aload_n 0, 1) := by decide +kernel
theorem dX4_init_5 : decode cX4_init 5 = .ok (.sipush 201, 3) := by decide +kernel
theorem dX4_init_8 : decode cX4_init 8 = .ok (.newarray .int, 2) := by decide +kernel
theorem dX4_init_10 : decode cX4_init 10 = .ok (.putfield 9, 3) := by decide +kernel
theorem dX4_init_13 : decode cX4_init 13 = .ok (.aload_n 0, 1) := by decide +kernel
theorem dX4_init_14 : decode cX4_init 14 = .ok (.sipush 1608, 3) := by decide +kernel
theorem dX4_init_17 : decode cX4_init 17 = .ok (.newarray .int, 2) := by decide +kernel
theorem dX4_init_19 : decode cX4_init 19 = .ok (.putfield 15, 3) := by decide +kernel
theorem dX4_init_22 : decode cX4_init 22 = .ok (.aload_n 0, 1) := by decide +kernel
theorem dX4_init_23 : decode cX4_init 23 = .ok (.bipush 8, 2) := by decide +kernel
theorem dX4_init_25 : decode cX4_init 25 = .ok (.newarray .int, 2) := by decide +kernel
theorem dX4_init_27 : decode cX4_init 27 = .ok (.putfield 18, 3) := by decide +kernel
theorem dX4_init_30 : decode cX4_init 30 = .ok (.return_, 1) := by decide +kernel
theorem dX4_follow_0 : decode cX4_follow 0 = .ok (.aload_n 0, 1) := by decide +kernel
theorem dX4_follow_1 : decode cX4_follow 1 = .ok (.iconst 0, 1) := by decide +kernel
theorem dX4_follow_2 : decode cX4_follow 2 = .ok (.putfield 21, 3) := by decide +kernel
theorem dX4_follow_5 : decode cX4_follow 5 = .ok (.aload_n 0, 1) := by decide +kernel
theorem dX4_follow_6 : decode cX4_follow 6 = .ok (.getfield 21, 3) := by decide +kernel
theorem dX4_follow_9 : decode cX4_follow 9 = .ok (.sipush 200, 3) := by decide +kernel
theorem dX4_follow_12 : decode cX4_follow 12 = .ok (.if_icmp .ge 38, 3) := by decide +kernel
theorem dX4_follow_15 : decode cX4_follow 15 = .ok (.aload_n 1, 1) := by decide +kernel
theorem dX4_follow_16 : decode cX4_follow 16 = .ok (.aload_n 0, 1) := by decide +kernel
theorem dX4_follow_17 : decode cX4_follow 17 = .ok (.getfield 9, 3) := by decide +kernel
theorem dX4_follow_20 : decode cX4_follow 20 = .ok (.aload_n 0, 1) := by decide +kernel
theorem dX4_follow_21 : decode cX4_follow 21 = .ok (.getfield 21, 3) := by decide +kernel
theorem dX4_follow_24 : decode cX4_follow 24 = .ok (.iaload, 1) := by decide +kernel
theorem dX4_follow_25 : decode cX4_follow 25 = .ok (.invokevirtual 25, 3) := by decide +kernel
theorem dX4_follow_28 : decode cX4_follow 28 = .ok (.ifCond .eq 22, 3) := by decide +kernel
theorem dX4_follow_31 : decode cX4_follow 31 = .ok (.aload_n 0, 1) := by decide +kernel
theorem dX4_follow_32 : decode cX4_follow 32 = .ok (.aload_n 1, 1) := by decide +kernel
theorem dX4_follow_33 : decode cX4_follow 33 = .ok (.aload_n 2, 1) := by decide +kernel
theorem dX4_follow_34 : decode cX4_follow 34 = .ok (.invokevirtual 31, 3) := by decide +kernel
theorem dX4_follow_37 : decode cX4_follow 37 = .ok (.aload_n 0, 1) := by decide +kernel
theorem dX4_follow_38 : decode cX4_follow 38 = .ok (.dup, 1) := by decide +kernel
theorem dX4_follow_39 : decode cX4_follow 39 = .ok (.getfield 21, 3) := by decide +kernel
theorem dX4_follow_42 : decode cX4_follow 42 = .ok (.iconst 1, 1) := by decide +kernel
theorem dX4_follow_43 : decode cX4_follow 43 = .ok (.iadd, 1) := by decide +kernel
theorem dX4_follow_44 : decode cX4_follow 44 = .ok (.putfield 21, 3) := by decide +kernel
theorem dX4_follow_47 : decode cX4_follow 47 = .ok (.goto (-42), 3) := by decide +kernel
theorem dX4_follow_50 : decode cX4_follow 50 = .ok (.aload_n 2, 1) := by decide +kernel
theorem dX4_follow_51 : decode cX4_follow 51 = .ok (.aload_n 2, 1) := by decide +kernel
theorem dX4_follow_52 : decode cX4_follow 52 = .ok (.getfield 35, 3) := by decide +kernel
theorem dX4_follow_55 : decode cX4_follow 55 = .ok (.putfield 40, 3) := by decide +kernel
theorem dX4_follow_58 : decode cX4_follow 58 = .ok (.aload_n 0, 1) := by decide +kernel
theorem dX4_follow_59 : decode cX4_follow 59 = .ok (.getfield 21, 3) := by decide +kernel
theorem dX4_follow_62 : decode cX4_follow 62 = .ok (.sipush 200, 3) := by decide +kernel
theorem dX4_follow_65 : decode cX4_follow 65 = .ok (.if_icmp .ne 11, 3) := by decide +kernel
theorem dX4_follow_68 : decode cX4_follow 68 = .ok (.aload_n 0, 1) := by decide +kernel
theorem dX4_follow_69 : decode cX4_follow 69 = .ok (.iconst 3, 1) := by decide +kernel
theorem dX4_follow_70 : decode cX4_follow 70 = .ok (.putfield 43, 3) := by decide +kernel
theorem dX4_follow_73 : decode cX4_follow 73 = .ok (.goto 28, 3) := by decide +kernel
theorem dX4_follow_76 : decode cX4_follow 76 = .ok (.aload_n 0, 1) := by decide +kernel
theorem dX4_follow_77 : decode cX4_follow 77 = .ok (.aload_n 1, 1) := by decide +kernel
theorem dX4_follow_78 : decode cX4_follow 78 = .ok (.aload_n 0, 1) := by decide +kernel
theorem dX4_follow_79 : decode cX4_follow 79 = .ok (.getfield 9, 3) := by decide +kernel
theorem dX4_follow_82 : decode cX4_follow 82 = .ok (.aload_n 0, 1) := by decide +kernel
theorem dX4_follow_83 : decode cX4_follow 83 = .ok (.getfield 21, 3) := by decide +kernel
theorem dX4_follow_86 : decode cX4_follow 86 = .ok (.iaload, 1) := by decide +kernel
theorem dX4_follow_87 : decode cX4_follow 87 = .ok (.invokevirtual 46, 3) := by decide +kernel
theorem dX4_follow_90 : decode cX4_follow 90 = .ok (.ifCond .eq 7, 3) := by decide +kernel
theorem dX4_follow_93 : decode cX4_follow 93 = .ok (.iconst 1, 1) := by decide +kernel
theorem dX4_follow_94 : decode cX4_follow 94 = .ok (.goto 4, 3) := by decide +kernel
theorem dX4_follow_97 : decode cX4_follow 97 = .ok (.iconst 2, 1) := by decide +kernel
theorem dX4_follow_98 : decode cX4_follow 98 = .ok (.putfield 43, 3) := by decide +kernel
theorem dX4_follow_101 : decode cX4_follow 101 = .ok (.return_, 1) := by decide +kernel
theorem dX4_step_0 : decode cX4_step 0 = .ok (.aload_n 0, 1) := by decide +kernel
theorem dX4_step_1 : decode cX4_step 1 = .ok (.getfield 9, 3) := by decide +kernel
theorem dX4_step_4 : decode cX4_step 4 = .ok (.aload_n 0, 1) := by decide +kernel
theorem dX4_step_5 : decode cX4_step 5 = .ok (.getfield 21, 3) := by decide +kernel
theorem dX4_step_8 : decode cX4_step 8 = .ok (.iaload, 1) := by decide +kernel
theorem dX4_step_9 : decode cX4_step 9 = .ok (.istore_n 3, 1) := by decide +kernel
theorem dX4_step_10 : decode cX4_step 10 = .ok (.bipush 8, 2) := by decide +kernel
theorem dX4_step_12 : decode cX4_step 12 = .ok (.aload_n 0, 1) := by decide +kernel
theorem dX4_step_13 : decode cX4_step 13 = .ok (.getfield 21, 3) := by decide +kernel
theorem dX4_step_16 : decode cX4_step 16 = .ok (.imul, 1) := by decide +kernel
theorem dX4_step_17 : decode cX4_step 17 = .ok (.istore 4, 2) := by decide +kernel
theorem dX4_step_19 : decode cX4_step 19 = .ok (.aload_n 0, 1) := by decide +kernel
theorem dX4_step_20 : decode cX4_step 20 = .ok (.getfield 15, 3) := by decide +kernel
theorem dX4_step_23 : decode cX4_step 23 = .ok (.iload 4, 2) := by decide +kernel
theorem dX4_step_25 : decode cX4_step 25 = .ok (.aload_n 0, 1) := by decide +kernel
theorem dX4_step_26 : decode cX4_step 26 = .ok (.getfield 15, 3) := by decide +kernel
theorem dX4_step_29 : decode cX4_step 29 = .ok (.iload 4, 2) := by decide +kernel
theorem dX4_step_31 : decode cX4_step 31 = .ok (.bipush 8, 2) := by decide +kernel
theorem dX4_step_33 : decode cX4_step 33 = .ok (.iadd, 1) := by decide +kernel
theorem dX4_step_34 : decode cX4_step 34 = .ok (.bipush 8, 2) := by decide +kernel
theorem dX4_step_36 : decode cX4_step 36 = .ok (.invokestatic 49, 3) := by decide +kernel
theorem dX4_step_39 : decode cX4_step 39 = .ok (.aload_n 1, 1) := by decide +kernel
theorem dX4_step_40 : decode cX4_step 40 = .ok (.iload_n 3, 1) := by decide +kernel
theorem dX4_step_41 : decode cX4_step 41 = .ok (.invokevirtual 55, 3) := by decide +kernel
theorem dX4_step_44 : decode cX4_step 44 = .ok (.ifCond .eq 31, 3) := by decide +kernel
theorem dX4_step_47 : decode cX4_step 47 = .ok (.aload_n 2, 1) := by decide +kernel
theorem dX4_step_48 : decode cX4_step 48 = .ok (.iload_n 3, 1) := by decide +kernel
theorem dX4_step_49 : decode cX4_step 49 = .ok (.aload_n 1, 1) := by decide +kernel
theorem dX4_step_50 : decode cX4_step 50 = .ok (.iload_n 3, 1) := by decide +kernel
theorem dX4_step_51 : decode cX4_step 51 = .ok (.aload_n 0, 1) := by decide +kernel
theorem dX4_step_52 : decode cX4_step 52 = .ok (.getfield 15, 3) := by decide +kernel
theorem dX4_step_55 : decode cX4_step 55 = .ok (.iload 4, 2) := by decide +kernel
theorem dX4_step_57 : decode cX4_step 57 = .ok (.invokevirtual 58, 3) := by decide +kernel
theorem dX4_step_60 : decode cX4_step 60 = .ok (.ifCond .eq 7, 3) := by decide +kernel
theorem dX4_step_63 : decode cX4_step 63 = .ok (.iconst 1, 1) := by decide +kernel
theorem dX4_step_64 : decode cX4_step 64 = .ok (.goto 4, 3) := by decide +kernel
theorem dX4_step_67 : decode cX4_step 67 = .ok (.iconst 0, 1) := by decide +kernel
theorem dX4_step_68 : decode cX4_step 68 = .ok (.aload_n 0, 1) := by decide +kernel
theorem dX4_step_69 : decode cX4_step 69 = .ok (.getfield 21, 3) := by decide +kernel
theorem dX4_step_72 : decode cX4_step 72 = .ok (.invokevirtual 62, 3) := by decide +kernel
theorem dX4_step_75 : decode cX4_step 75 = .ok (.aload_n 0, 1) := by decide +kernel
theorem dX4_step_76 : decode cX4_step 76 = .ok (.getfield 9, 3) := by decide +kernel
theorem dX4_step_79 : decode cX4_step 79 = .ok (.aload_n 0, 1) := by decide +kernel
theorem dX4_step_80 : decode cX4_step 80 = .ok (.getfield 21, 3) := by decide +kernel
theorem dX4_step_83 : decode cX4_step 83 = .ok (.iconst 1, 1) := by decide +kernel
theorem dX4_step_84 : decode cX4_step 84 = .ok (.iadd, 1) := by decide +kernel
theorem dX4_step_85 : decode cX4_step 85 = .ok (.aload_n 1, 1) := by decide +kernel
theorem dX4_step_86 : decode cX4_step 86 = .ok (.iload_n 3, 1) := by decide +kernel
theorem dX4_step_87 : decode cX4_step 87 = .ok (.aload_n 0, 1) := by decide +kernel
theorem dX4_step_88 : decode cX4_step 88 = .ok (.getfield 15, 3) := by decide +kernel
theorem dX4_step_91 : decode cX4_step 91 = .ok (.iload 4, 2) := by decide +kernel
theorem dX4_step_93 : decode cX4_step 93 = .ok (.bipush 8, 2) := by decide +kernel
theorem dX4_step_95 : decode cX4_step 95 = .ok (.iadd, 1) := by decide +kernel
theorem dX4_step_96 : decode cX4_step 96 = .ok (.invokevirtual 66, 3) := by decide +kernel
theorem dX4_step_99 : decode cX4_step 99 = .ok (.iastore, 1) := by decide +kernel
theorem dX4_step_100 : decode cX4_step 100 = .ok (.return_, 1) := by decide +kernel
theorem dX4_wander_0 : decode cX4_wander 0 = .ok (.aload_n 0, 1) := by decide +kernel
theorem dX4_wander_1 : decode cX4_wander 1 = .ok (.getfield 15, 3) := by decide +kernel
theorem dX4_wander_4 : decode cX4_wander 4 = .ok (.bipush 8, 2) := by decide +kernel
theorem dX4_wander_6 : decode cX4_wander 6 = .ok (.iload_n 2, 1) := by decide +kernel
theorem dX4_wander_7 : decode cX4_wander 7 = .ok (.imul, 1) := by decide +kernel
theorem dX4_wander_8 : decode cX4_wander 8 = .ok (.aload_n 0, 1) := by decide +kernel
theorem dX4_wander_9 : decode cX4_wander 9 = .ok (.getfield 18, 3) := by decide +kernel
theorem dX4_wander_12 : decode cX4_wander 12 = .ok (.iconst 0, 1) := by decide +kernel
theorem dX4_wander_13 : decode cX4_wander 13 = .ok (.bipush 8, 2) := by decide +kernel
theorem dX4_wander_15 : decode cX4_wander 15 = .ok (.invokestatic 49, 3) := by decide +kernel
theorem dX4_wander_18 : decode cX4_wander 18 = .ok (.iload_n 3, 1) := by decide +kernel
theorem dX4_wander_19 : decode cX4_wander 19 = .ok (.iconst 1, 1) := by decide +kernel
theorem dX4_wander_20 : decode cX4_wander 20 = .ok (.if_icmp .ne 14, 3) := by decide +kernel
theorem dX4_wander_23 : decode cX4_wander 23 = .ok (.aload_n 0, 1) := by decide +kernel
theorem dX4_wander_24 : decode cX4_wander 24 = .ok (.getfield 9, 3) := by decide +kernel
theorem dX4_wander_27 : decode cX4_wander 27 = .ok (.iload_n 2, 1) := by decide +kernel
theorem dX4_wander_28 : decode cX4_wander 28 = .ok (.iaload, 1) := by decide +kernel
theorem dX4_wander_29 : decode cX4_wander 29 = .ok (.iconst 1, 1) := by decide +kernel
theorem dX4_wander_30 : decode cX4_wander 30 = .ok (.iadd, 1) := by decide +kernel
theorem dX4_wander_31 : decode cX4_wander 31 = .ok (.goto 13, 3) := by decide +kernel
theorem dX4_wander_34 : decode cX4_wander 34 = .ok (.aload_n 1, 1) := by decide +kernel
theorem dX4_wander_35 : decode cX4_wander 35 = .ok (.aload_n 0, 1) := by decide +kernel
theorem dX4_wander_36 : decode cX4_wander 36 = .ok (.getfield 9, 3) := by decide +kernel
theorem dX4_wander_39 : decode cX4_wander 39 = .ok (.iload_n 2, 1) := by decide +kernel
theorem dX4_wander_40 : decode cX4_wander 40 = .ok (.iaload, 1) := by decide +kernel
theorem dX4_wander_41 : decode cX4_wander 41 = .ok (.invokevirtual 70, 3) := by decide +kernel
theorem dX4_wander_44 : decode cX4_wander 44 = .ok (.istore 4, 2) := by decide +kernel
theorem dX4_wander_46 : decode cX4_wander 46 = .ok (.iconst 0, 1) := by decide +kernel
theorem dX4_wander_47 : decode cX4_wander 47 = .ok (.istore 5, 2) := by decide +kernel
theorem dX4_wander_49 : decode cX4_wander 49 = .ok (.iload 5, 2) := by decide +kernel
theorem dX4_wander_51 : decode cX4_wander 51 = .ok (.aload_n 1, 1) := by decide +kernel
theorem dX4_wander_52 : decode cX4_wander 52 = .ok (.getfield 74, 3) := by decide +kernel
theorem dX4_wander_55 : decode cX4_wander 55 = .ok (.iconst 4, 1) := by decide +kernel
theorem dX4_wander_56 : decode cX4_wander 56 = .ok (.iaload, 1) := by decide +kernel
theorem dX4_wander_57 : decode cX4_wander 57 = .ok (.if_icmp .ge 40, 3) := by decide +kernel
theorem dX4_wander_60 : decode cX4_wander 60 = .ok (.aload_n 1, 1) := by decide +kernel
theorem dX4_wander_61 : decode cX4_wander 61 = .ok (.iload 4, 2) := by decide +kernel
theorem dX4_wander_63 : decode cX4_wander 63 = .ok (.invokevirtual 25, 3) := by decide +kernel
theorem dX4_wander_66 : decode cX4_wander 66 = .ok (.ifCond .eq 31, 3) := by decide +kernel
theorem dX4_wander_69 : decode cX4_wander 69 = .ok (.aload_n 1, 1) := by decide +kernel
theorem dX4_wander_70 : decode cX4_wander 70 = .ok (.iload 4, 2) := by decide +kernel
theorem dX4_wander_72 : decode cX4_wander 72 = .ok (.invokevirtual 55, 3) := by decide +kernel
theorem dX4_wander_75 : decode cX4_wander 75 = .ok (.ifCond .ne 22, 3) := by decide +kernel
theorem dX4_wander_78 : decode cX4_wander 78 = .ok (.aload_n 1, 1) := by decide +kernel
theorem dX4_wander_79 : decode cX4_wander 79 = .ok (.iload 4, 2) := by decide +kernel
theorem dX4_wander_81 : decode cX4_wander 81 = .ok (.aload_n 0, 1) := by decide +kernel
theorem dX4_wander_82 : decode cX4_wander 82 = .ok (.getfield 18, 3) := by decide +kernel
theorem dX4_wander_85 : decode cX4_wander 85 = .ok (.iconst 0, 1) := by decide +kernel
theorem dX4_wander_86 : decode cX4_wander 86 = .ok (.invokevirtual 66, 3) := by decide +kernel
theorem dX4_wander_89 : decode cX4_wander 89 = .ok (.istore 4, 2) := by decide +kernel
theorem dX4_wander_91 : decode cX4_wander 91 = .ok (.iinc 5 1, 3) := by decide +kernel
theorem dX4_wander_94 : decode cX4_wander 94 = .ok (.goto (-45), 3) := by decide +kernel
theorem dX4_wander_97 : decode cX4_wander 97 = .ok (.iload 5, 2) := by decide +kernel
theorem dX4_wander_99 : decode cX4_wander 99 = .ok (.ireturn, 1) := by decide +kernel
theorem dX5_init_0 : decode cX5_init 0 = .ok (.aload_n 0, 1) := by decide +kernel
theorem dX5_init_1 : decode cX5_init 1 = .ok (.invokespecial 3, 3) := by decide +kernel
theorem dX5_init_4 : decode cX5_init 4 = .ok (.aload_n 0, 1) := by decide +kernel
theorem dX5_init_5 : decode cX5_init 5 = .ok (.iconst 4, 1) := by decide +kernel
theorem dX5_init_6 : decode cX5_init 6 = .ok (.newarray .int, 2) := by decide +kernel
theorem dX5_init_8 : decode cX5_init 8 = .ok (.putfield 9, 3) := by decide +kernel
theorem dX5_init_11 : decode cX5_init 11 = .ok (.aload_n 0, 1) := by decide +kernel
theorem dX5_init_12 : decode cX5_init 12 = .ok (.iconst 4, 1) := by decide +kernel
theorem dX5_init_13 : decode cX5_init 13 = .ok (.newarray .int, 2) := by decide +kernel
theorem dX5_init_15 : decode cX5_init 15 = .ok (.putfield 15, 3) := by decide +kernel
theorem dX5_init_18 : decode cX5_init 18 = .ok (.aload_n 0, 1) := by decide +kernel
theorem dX5_init_19 : decode cX5_init 19 = .ok (.sipush 240, 3) := by decide +kernel
theorem dX5_init_22 : decode cX5_init 22 = .ok (.newarray .long, 2) := by decide +kernel
theorem dX5_init_24 : decode cX5_init 24 = .ok (.putfield 18, 3) := by decide +kernel
theorem dX5_init_27 : decode cX5_init 27 = .ok (.aload_n 0, 1) := by decide +kernel
theorem dX5_init_28 : decode cX5_init 28 = .ok (.getfield 15, 3) := by decide +kernel
theorem dX5_init_31 : decode cX5_init 31 = .ok (.iconst (-1), 1) := by decide +kernel
theorem dX5_init_32 : decode cX5_init 32 = .ok (.invokestatic 22, 3) := by decide +kernel
theorem dX5_init_35 : decode cX5_init 35 = .ok (.return_, 1) := by decide +kernel
theorem dX5_hasRow_0 : decode cX5_hasRow 0 = .ok (.aload_n 0, 1) := by decide +kernel
theorem dX5_hasRow_1 : decode cX5_hasRow 1 = .ok (.getfield 15, 3) := by decide +kernel
theorem dX5_hasRow_4 : decode cX5_hasRow 4 = .ok (.iload_n 1, 1) := by decide +kernel
theorem dX5_hasRow_5 : decode cX5_hasRow 5 = .ok (.iaload, 1) := by decide +kernel
theorem dX5_hasRow_6 : decode cX5_hasRow 6 = .ok (.iconst (-1), 1) := by decide +kernel
theorem dX5_hasRow_7 : decode cX5_hasRow 7 = .ok (.if_icmp .eq 7, 3) := by decide +kernel
theorem dX5_hasRow_10 : decode cX5_hasRow 10 = .ok (.iconst 1, 1) := by decide +kernel
theorem dX5_hasRow_11 : decode cX5_hasRow 11 = .ok (.goto 4, 3) := by decide +kernel
theorem dX5_hasRow_14 : decode cX5_hasRow 14 = .ok (.iconst 0, 1) := by decide +kernel
theorem dX5_hasRow_15 : decode cX5_hasRow 15 = .ok (.ireturn, 1) := by decide +kernel
theorem dX5_used_0 : decode cX5_used 0 = .ok (.iconst 0, 1) := by decide +kernel
theorem dX5_used_1 : decode cX5_used 1 = .ok (.istore_n 1, 1) := by decide +kernel
theorem dX5_used_2 : decode cX5_used 2 = .ok (.iconst 0, 1) := by decide +kernel
theorem dX5_used_3 : decode cX5_used 3 = .ok (.istore_n 2, 1) := by decide +kernel
theorem dX5_used_4 : decode cX5_used 4 = .ok (.iload_n 2, 1) := by decide +kernel
theorem dX5_used_5 : decode cX5_used 5 = .ok (.iconst 4, 1) := by decide +kernel
theorem dX5_used_6 : decode cX5_used 6 = .ok (.if_icmp .ge 20, 3) := by decide +kernel
theorem dX5_used_9 : decode cX5_used 9 = .ok (.aload_n 0, 1) := by decide +kernel
theorem dX5_used_10 : decode cX5_used 10 = .ok (.iload_n 2, 1) := by decide +kernel
theorem dX5_used_11 : decode cX5_used 11 = .ok (.invokevirtual 28, 3) := by decide +kernel
theorem dX5_used_14 : decode cX5_used 14 = .ok (.ifCond .eq 6, 3) := by decide +kernel
theorem dX5_used_17 : decode cX5_used 17 = .ok (.iinc 1 1, 3) := by decide +kernel
theorem dX5_used_20 : decode cX5_used 20 = .ok (.iinc 2 1, 3) := by decide +kernel
theorem dX5_used_23 : decode cX5_used 23 = .ok (.goto (-19), 3) := by decide +kernel
theorem dX5_used_26 : decode cX5_used 26 = .ok (.iload_n 1, 1) := by decide +kernel
theorem dX5_used_27 : decode cX5_used 27 = .ok (.ireturn, 1) := by decide +kernel
theorem dX5_renew_0 : decode cX5_renew 0 = .ok (.aload_n 0, 1) := by decide +kernel
theorem dX5_renew_1 : decode cX5_renew 1 = .ok (.getfield 9, 3) := by decide +kernel
theorem dX5_renew_4 : decode cX5_renew 4 = .ok (.iload_n 1, 1) := by decide +kernel
theorem dX5_renew_5 : decode cX5_renew 5 = .ok (.iload_n 2, 1) := by decide +kernel
theorem dX5_renew_6 : decode cX5_renew 6 = .ok (.iastore, 1) := by decide +kernel
theorem dX5_renew_7 : decode cX5_renew 7 = .ok (.aload_n 0, 1) := by decide +kernel
theorem dX5_renew_8 : decode cX5_renew 8 = .ok (.getfield 15, 3) := by decide +kernel
theorem dX5_renew_11 : decode cX5_renew 11 = .ok (.iload_n 1, 1) := by decide +kernel
theorem dX5_renew_12 : decode cX5_renew 12 = .ok (.iload_n 3, 1) := by decide +kernel
theorem dX5_renew_13 : decode cX5_renew 13 = .ok (.iastore, 1) := by decide +kernel
theorem dX5_renew_14 : decode cX5_renew 14 = .ok (.aload_n 0, 1) := by decide +kernel
theorem dX5_renew_15 : decode cX5_renew 15 = .ok (.getfield 18, 3) := by decide +kernel
theorem dX5_renew_18 : decode cX5_renew 18 = .ok (.bipush 60, 2) := by decide +kernel
theorem dX5_renew_20 : decode cX5_renew 20 = .ok (.iload_n 1, 1) := by decide +kernel
theorem dX5_renew_21 : decode cX5_renew 21 = .ok (.imul, 1) := by decide +kernel
theorem dX5_renew_22 : decode cX5_renew 22 = .ok (.bipush 60, 2) := by decide +kernel
theorem dX5_renew_24 : decode cX5_renew 24 = .ok (.iload_n 1, 1) := by decide +kernel
theorem dX5_renew_25 : decode cX5_renew 25 = .ok (.iconst 1, 1) := by decide +kernel
theorem dX5_renew_26 : decode cX5_renew 26 = .ok (.iadd, 1) := by decide +kernel
theorem dX5_renew_27 : decode cX5_renew 27 = .ok (.imul, 1) := by decide +kernel
theorem dX5_renew_28 : decode cX5_renew 28 = .ok (.lconst 0, 1) := by decide +kernel
theorem dX5_renew_29 : decode cX5_renew 29 = .ok (.invokestatic 32, 3) := by decide +kernel
theorem dX5_renew_32 : decode cX5_renew 32 = .ok (.return_, 1) := by decide +kernel
theorem dX5_set_0 : decode cX5_set 0 = .ok (.aload_n 0, 1) := by decide +kernel
theorem dX5_set_1 : decode cX5_set 1 = .ok (.getfield 18, 3) := by decide +kernel
theorem dX5_set_4 : decode cX5_set 4 = .ok (.bipush 60, 2) := by decide +kernel
theorem dX5_set_6 : decode cX5_set 6 = .ok (.iload_n 1, 1) := by decide +kernel
theorem dX5_set_7 : decode cX5_set 7 = .ok (.imul, 1) := by decide +kernel
theorem dX5_set_8 : decode cX5_set 8 = .ok (.iload_n 2, 1) := by decide +kernel
theorem dX5_set_9 : decode cX5_set 9 = .ok (.iadd, 1) := by decide +kernel
theorem dX5_set_10 : decode cX5_set 10 = .ok (.aload_n 0, 1) := by decide +kernel
theorem dX5_set_11 : decode cX5_set 11 = .ok (.getfield 9, 3) := by decide +kernel
theorem dX5_set_14 : decode cX5_set 14 = .ok (.iload_n 1, 1) := by decide +kernel
theorem dX5_set_15 : decode cX5_set 15 = .ok (.iaload, 1) := by decide +kernel
theorem dX5_set_16 : decode cX5_set 16 = .ok (.ifCond .ne 9, 3) := by decide +kernel
theorem dX5_set_19 : decode cX5_set 19 = .ok (.lload_n 3, 1) := by decide +kernel
theorem dX5_set_20 : decode cX5_set 20 = .ok (.l2i, 1) := by decide +kernel
theorem dX5_set_21 : decode cX5_set 21 = .ok (.i2l, 1) := by decide +kernel
theorem dX5_set_22 : decode cX5_set 22 = .ok (.goto 4, 3) := by decide +kernel
theorem dX5_set_25 : decode cX5_set 25 = .ok (.lload_n 3, 1) := by decide +kernel
theorem dX5_set_26 : decode cX5_set 26 = .ok (.lastore, 1) := by decide +kernel
theorem dX5_set_27 : decode cX5_set 27 = .ok (.return_, 1) := by decide +kernel
theorem dX5_at_0 : decode cX5_at 0 = .ok (.aload_n 0, 1) := by decide +kernel
theorem dX5_at_1 : decode cX5_at 1 = .ok (.getfield 18, 3) := by decide +kernel
theorem dX5_at_4 : decode cX5_at 4 = .ok (.bipush 60, 2) := by decide +kernel
theorem dX5_at_6 : decode cX5_at 6 = .ok (.iload_n 1, 1) := by decide +kernel
theorem dX5_at_7 : decode cX5_at 7 = .ok (.imul, 1) := by decide +kernel
theorem dX5_at_8 : decode cX5_at 8 = .ok (.iload_n 2, 1) := by decide +kernel
theorem dX5_at_9 : decode cX5_at 9 = .ok (.iadd, 1) := by decide +kernel
theorem dX5_at_10 : decode cX5_at 10 = .ok (.laload, 1) := by decide +kernel
theorem dX5_at_11 : decode cX5_at 11 = .ok (.lreturn, 1) := by decide +kernel
theorem dX5_allWithin_0 : decode cX5_allWithin 0 = .ok (.iconst 0, 1) := by decide +kernel
theorem dX5_allWithin_1 : decode cX5_allWithin 1 = .ok (.istore_n 3, 1) := by decide +kernel
theorem dX5_allWithin_2 : decode cX5_allWithin 2 = .ok (.iload_n 3, 1) := by decide +kernel
theorem dX5_allWithin_3 : decode cX5_allWithin 3 = .ok (.aload_n 0, 1) := by decide +kernel
theorem dX5_allWithin_4 : decode cX5_allWithin 4 = .ok (.getfield 15, 3) := by decide +kernel
theorem dX5_allWithin_7 : decode cX5_allWithin 7 = .ok (.iload_n 1, 1) := by decide +kernel
theorem dX5_allWithin_8 : decode cX5_allWithin 8 = .ok (.iaload, 1) := by decide +kernel
theorem dX5_allWithin_9 : decode cX5_allWithin 9 = .ok (.if_icmp .ge 26, 3) := by decide +kernel
theorem dX5_allWithin_12 : decode cX5_allWithin 12 = .ok (.aload_n 0, 1) := by decide +kernel
theorem dX5_allWithin_13 : decode cX5_allWithin 13 = .ok (.iload_n 1, 1) := by decide +kernel
theorem dX5_allWithin_14 : decode cX5_allWithin 14 = .ok (.iload_n 3, 1) := by decide +kernel
theorem dX5_allWithin_15 : decode cX5_allWithin 15 = .ok (.invokevirtual 35, 3) := by decide +kernel
theorem dX5_allWithin_18 : decode cX5_allWithin 18 = .ok (.lconst 0, 1) := by decide +kernel
theorem dX5_allWithin_19 : decode cX5_allWithin 19 = .ok (.iload_n 2, 1) := by decide +kernel
theorem dX5_allWithin_20 : decode cX5_allWithin 20 = .ok (.i2l, 1) := by decide +kernel
theorem dX5_allWithin_21 : decode cX5_allWithin 21 = .ok (.invokestatic 39, 3) := by decide +kernel
theorem dX5_allWithin_24 : decode cX5_allWithin 24 = .ok (.ifCond .ne 5, 3) := by decide +kernel
theorem dX5_allWithin_27 : decode cX5_allWithin 27 = .ok (.iconst 0, 1) := by decide +kernel
theorem dX5_allWithin_28 : decode cX5_allWithin 28 = .ok (.ireturn, 1) := by decide +kernel
theorem dX5_allWithin_29 : decode cX5_allWithin 29 = .ok (.iinc 3 1, 3) := by decide +kernel
theorem dX5_allWithin_32 : decode cX5_allWithin 32 = .ok (.goto (-30), 3) := by decide +kernel
theorem dX5_allWithin_35 : decode cX5_allWithin 35 = .ok (.iconst 1, 1) := by decide +kernel
theorem dX5_allWithin_36 : decode cX5_allWithin 36 = .ok (.ireturn, 1) := by decide +kernel
theorem dX6_init_0 : decode cX6_init 0 = .ok (.aload_n 0, 1) := by decide +kernel
theorem dX6_init_1 : decode cX6_init 1 = .ok (.invokespecial 3, 3) := by decide +kernel
theorem dX6_init_4 : decode cX6_init 4 = .ok (.aload_n 0, 1) := by decide +kernel
theorem dX6_init_5 : decode cX6_init 5 = .ok (.bipush 6, 2) := by decide +kernel
theorem dX6_init_7 : decode cX6_init 7 = .ok (.newarray .int, 2) := by decide +kernel
theorem dX6_init_9 : decode cX6_init 9 = .ok (.putfield 9, 3) := by decide +kernel
theorem dX6_init_12 : decode cX6_init 12 = .ok (.aload_n 0, 1) := by decide +kernel
theorem dX6_init_13 : decode cX6_init 13 = .ok (.bipush 80, 2) := by decide +kernel
theorem dX6_init_15 : decode cX6_init 15 = .ok (.newarray .int, 2) := by decide +kernel
theorem dX6_init_17 : decode cX6_init 17 = .ok (.putfield 15, 3) := by decide +kernel
theorem dX6_init_20 : decode cX6_init 20 = .ok (.aload_n 0, 1) := by decide +kernel
theorem dX6_init_21 : decode cX6_init 21 = .ok (.bipush 80, 2) := by decide +kernel
theorem dX6_init_23 : decode cX6_init 23 = .ok (.newarray .int, 2) := by decide +kernel
theorem dX6_init_25 : decode cX6_init 25 = .ok (.putfield 18, 3) := by decide +kernel
theorem dX6_init_28 : decode cX6_init 28 = .ok (.aload_n 0, 1) := by decide +kernel
theorem dX6_init_29 : decode cX6_init 29 = .ok (.bipush 80, 2) := by decide +kernel
theorem dX6_init_31 : decode cX6_init 31 = .ok (.newarray .int, 2) := by decide +kernel
theorem dX6_init_33 : decode cX6_init 33 = .ok (.putfield 21, 3) := by decide +kernel
theorem dX6_init_36 : decode cX6_init 36 = .ok (.aload_n 0, 1) := by decide +kernel
theorem dX6_init_37 : decode cX6_init 37 = .ok (.bipush 16, 2) := by decide +kernel
theorem dX6_init_39 : decode cX6_init 39 = .ok (.newarray .int, 2) := by decide +kernel
theorem dX6_init_41 : decode cX6_init 41 = .ok (.putfield 24, 3) := by decide +kernel
theorem dX6_init_44 : decode cX6_init 44 = .ok (.aload_n 0, 1) := by decide +kernel
theorem dX6_init_45 : decode cX6_init 45 = .ok (.bipush 6, 2) := by decide +kernel
theorem dX6_init_47 : decode cX6_init 47 = .ok (.newarray .int, 2) := by decide +kernel
theorem dX6_init_49 : decode cX6_init 49 = .ok (.putfield 27, 3) := by decide +kernel
theorem dX6_init_52 : decode cX6_init 52 = .ok (.return_, 1) := by decide +kernel
theorem dX6_setAs_0 : decode cX6_setAs 0 = .ok (.aload_n 0, 1) := by decide +kernel
theorem dX6_setAs_1 : decode cX6_setAs 1 = .ok (.aload_n 1, 1) := by decide +kernel
theorem dX6_setAs_2 : decode cX6_setAs 2 = .ok (.getfield 30, 3) := by decide +kernel
theorem dX6_setAs_5 : decode cX6_setAs 5 = .ok (.iconst 0, 1) := by decide +kernel
theorem dX6_setAs_6 : decode cX6_setAs 6 = .ok (.iaload, 1) := by decide +kernel
theorem dX6_setAs_7 : decode cX6_setAs 7 = .ok (.putfield 35, 3) := by decide +kernel
theorem dX6_setAs_10 : decode cX6_setAs 10 = .ok (.aload_n 0, 1) := by decide +kernel
theorem dX6_setAs_11 : decode cX6_setAs 11 = .ok (.aload_n 1, 1) := by decide +kernel
theorem dX6_setAs_12 : decode cX6_setAs 12 = .ok (.getfield 30, 3) := by decide +kernel
theorem dX6_setAs_15 : decode cX6_setAs 15 = .ok (.iconst 1, 1) := by decide +kernel
theorem dX6_setAs_16 : decode cX6_setAs 16 = .ok (.iaload, 1) := by decide +kernel
theorem dX6_setAs_17 : decode cX6_setAs 17 = .ok (.putfield 39, 3) := by decide +kernel
theorem dX6_setAs_20 : decode cX6_setAs 20 = .ok (.aload_n 0, 1) := by decide +kernel
theorem dX6_setAs_21 : decode cX6_setAs 21 = .ok (.aload_n 1, 1) := by decide +kernel
theorem dX6_setAs_22 : decode cX6_setAs 22 = .ok (.getfield 30, 3) := by decide +kernel
