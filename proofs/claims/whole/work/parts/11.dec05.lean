theorem dX10_register_40 : decode cX10_register 40 = .ok (.imul, 1) := by decide +kernel
theorem dX10_register_41 : decode cX10_register 41 = .ok (.iload_n 1, 1) := by decide +kernel
theorem dX10_register_42 : decode cX10_register 42 = .ok (.iadd, 1) := by decide +kernel
theorem dX10_register_43 : decode cX10_register 43 = .ok (.iaload, 1) := by decide +kernel
theorem dX10_register_44 : decode cX10_register 44 = .ok (.goto 5, 3) := by decide +kernel
theorem dX10_register_47 : decode cX10_register 47 = .ok (.bipush (-2), 2) := by decide +kernel
theorem dX10_register_49 : decode cX10_register 49 = .ok (.ireturn, 1) := by decide +kernel
theorem dX10_branch_0 : decode cX10_branch 0 = .ok (.aload_n 0, 1) := by decide +kernel
theorem dX10_branch_1 : decode cX10_branch 1 = .ok (.invokevirtual 484, 3) := by decide +kernel
theorem dX10_branch_4 : decode cX10_branch 4 = .ok (.ifCond .eq 19, 3) := by decide +kernel
theorem dX10_branch_7 : decode cX10_branch 7 = .ok (.iload_n 1, 1) := by decide +kernel
theorem dX10_branch_8 : decode cX10_branch 8 = .ok (.i2l, 1) := by decide +kernel
theorem dX10_branch_9 : decode cX10_branch 9 = .ok (.lconst 0, 1) := by decide +kernel
theorem dX10_branch_10 : decode cX10_branch 10 = .ok (.aload_n 0, 1) := by decide +kernel
theorem dX10_branch_11 : decode cX10_branch 11 = .ok (.getfield 289, 3) := by decide +kernel
theorem dX10_branch_14 : decode cX10_branch 14 = .ok (.iconst 1, 1) := by decide +kernel
theorem dX10_branch_15 : decode cX10_branch 15 = .ok (.isub, 1) := by decide +kernel
theorem dX10_branch_16 : decode cX10_branch 16 = .ok (.i2l, 1) := by decide +kernel
theorem dX10_branch_17 : decode cX10_branch 17 = .ok (.invokestatic 139, 3) := by decide +kernel
theorem dX10_branch_20 : decode cX10_branch 20 = .ok (.ifCond .ne 6, 3) := by decide +kernel
theorem dX10_branch_23 : decode cX10_branch 23 = .ok (.bipush (-2), 2) := by decide +kernel
theorem dX10_branch_25 : decode cX10_branch 25 = .ok (.ireturn, 1) := by decide +kernel
theorem dX10_branch_26 : decode cX10_branch 26 = .ok (.iload_n 2, 1) := by decide +kernel
theorem dX10_branch_27 : decode cX10_branch 27 = .ok (.tableswitch 112 0 8 #[49, 56, 63, 70, 77, 84, 91, 98, 105], 49) := by decide +kernel
theorem dX10_branch_76 : decode cX10_branch 76 = .ok (.aload_n 0, 1) := by decide +kernel
theorem dX10_branch_77 : decode cX10_branch 77 = .ok (.getfield 40, 3) := by decide +kernel
theorem dX10_branch_80 : decode cX10_branch 80 = .ok (.iload_n 1, 1) := by decide +kernel
theorem dX10_branch_81 : decode cX10_branch 81 = .ok (.iaload, 1) := by decide +kernel
theorem dX10_branch_82 : decode cX10_branch 82 = .ok (.ireturn, 1) := by decide +kernel
theorem dX10_branch_83 : decode cX10_branch 83 = .ok (.aload_n 0, 1) := by decide +kernel
theorem dX10_branch_84 : decode cX10_branch 84 = .ok (.getfield 43, 3) := by decide +kernel
theorem dX10_branch_87 : decode cX10_branch 87 = .ok (.iload_n 1, 1) := by decide +kernel
theorem dX10_branch_88 : decode cX10_branch 88 = .ok (.iaload, 1) := by decide +kernel
theorem dX10_branch_89 : decode cX10_branch 89 = .ok (.ireturn, 1) := by decide +kernel
theorem dX10_branch_90 : decode cX10_branch 90 = .ok (.aload_n 0, 1) := by decide +kernel
theorem dX10_branch_91 : decode cX10_branch 91 = .ok (.getfield 91, 3) := by decide +kernel
theorem dX10_branch_94 : decode cX10_branch 94 = .ok (.iload_n 1, 1) := by decide +kernel
theorem dX10_branch_95 : decode cX10_branch 95 = .ok (.iaload, 1) := by decide +kernel
theorem dX10_branch_96 : decode cX10_branch 96 = .ok (.ireturn, 1) := by decide +kernel
theorem dX10_branch_97 : decode cX10_branch 97 = .ok (.aload_n 0, 1) := by decide +kernel
theorem dX10_branch_98 : decode cX10_branch 98 = .ok (.getfield 94, 3) := by decide +kernel
theorem dX10_branch_101 : decode cX10_branch 101 = .ok (.iload_n 1, 1) := by decide +kernel
theorem dX10_branch_102 : decode cX10_branch 102 = .ok (.iaload, 1) := by decide +kernel
theorem dX10_branch_103 : decode cX10_branch 103 = .ok (.ireturn, 1) := by decide +kernel
theorem dX10_branch_104 : decode cX10_branch 104 = .ok (.aload_n 0, 1) := by decide +kernel
theorem dX10_branch_105 : decode cX10_branch 105 = .ok (.getfield 97, 3) := by decide +kernel
theorem dX10_branch_108 : decode cX10_branch 108 = .ok (.iload_n 1, 1) := by decide +kernel
theorem dX10_branch_109 : decode cX10_branch 109 = .ok (.iaload, 1) := by decide +kernel
theorem dX10_branch_110 : decode cX10_branch 110 = .ok (.ireturn, 1) := by decide +kernel
theorem dX10_branch_111 : decode cX10_branch 111 = .ok (.aload_n 0, 1) := by decide +kernel
theorem dX10_branch_112 : decode cX10_branch 112 = .ok (.getfield 100, 3) := by decide +kernel
theorem dX10_branch_115 : decode cX10_branch 115 = .ok (.iload_n 1, 1) := by decide +kernel
theorem dX10_branch_116 : decode cX10_branch 116 = .ok (.iaload, 1) := by decide +kernel
theorem dX10_branch_117 : decode cX10_branch 117 = .ok (.ireturn, 1) := by decide +kernel
theorem dX10_branch_118 : decode cX10_branch 118 = .ok (.aload_n 0, 1) := by decide +kernel
theorem dX10_branch_119 : decode cX10_branch 119 = .ok (.getfield 103, 3) := by decide +kernel
theorem dX10_branch_122 : decode cX10_branch 122 = .ok (.iload_n 1, 1) := by decide +kernel
theorem dX10_branch_123 : decode cX10_branch 123 = .ok (.iaload, 1) := by decide +kernel
theorem dX10_branch_124 : decode cX10_branch 124 = .ok (.ireturn, 1) := by decide +kernel
theorem dX10_branch_125 : decode cX10_branch 125 = .ok (.aload_n 0, 1) := by decide +kernel
theorem dX10_branch_126 : decode cX10_branch 126 = .ok (.getfield 106, 3) := by decide +kernel
theorem dX10_branch_129 : decode cX10_branch 129 = .ok (.iload_n 1, 1) := by decide +kernel
theorem dX10_branch_130 : decode cX10_branch 130 = .ok (.iaload, 1) := by decide +kernel
theorem dX10_branch_131 : decode cX10_branch 131 = .ok (.ireturn, 1) := by decide +kernel
theorem dX10_branch_132 : decode cX10_branch 132 = .ok (.aload_n 0, 1) := by decide +kernel
theorem dX10_branch_133 : decode cX10_branch 133 = .ok (.getfield 46, 3) := by decide +kernel
theorem dX10_branch_136 : decode cX10_branch 136 = .ok (.iload_n 1, 1) := by decide +kernel
theorem dX10_branch_137 : decode cX10_branch 137 = .ok (.iaload, 1) := by decide +kernel
theorem dX10_branch_138 : decode cX10_branch 138 = .ok (.ireturn, 1) := by decide +kernel
theorem dX10_branch_139 : decode cX10_branch 139 = .ok (.bipush (-2), 2) := by decide +kernel
theorem dX10_branch_141 : decode cX10_branch 141 = .ok (.ireturn, 1) := by decide +kernel
theorem dX10_wrong_0 : decode cX10_wrong 0 = .ok (.aload_n 0, 1) := by decide +kernel
theorem dX10_wrong_1 : decode cX10_wrong 1 = .ok (.invokevirtual 484, 3) := by decide +kernel
theorem dX10_wrong_4 : decode cX10_wrong 4 = .ok (.ifCond .eq 25, 3) := by decide +kernel
theorem dX10_wrong_7 : decode cX10_wrong 7 = .ok (.iload_n 1, 1) := by decide +kernel
theorem dX10_wrong_8 : decode cX10_wrong 8 = .ok (.i2l, 1) := by decide +kernel
theorem dX10_wrong_9 : decode cX10_wrong 9 = .ok (.lconst 0, 1) := by decide +kernel
theorem dX10_wrong_10 : decode cX10_wrong 10 = .ok (.aload_n 0, 1) := by decide +kernel
theorem dX10_wrong_11 : decode cX10_wrong 11 = .ok (.getfield 289, 3) := by decide +kernel
theorem dX10_wrong_14 : decode cX10_wrong 14 = .ok (.i2l, 1) := by decide +kernel
theorem dX10_wrong_15 : decode cX10_wrong 15 = .ok (.invokestatic 139, 3) := by decide +kernel
theorem dX10_wrong_18 : decode cX10_wrong 18 = .ok (.ifCond .eq 11, 3) := by decide +kernel
theorem dX10_wrong_21 : decode cX10_wrong 21 = .ok (.aload_n 0, 1) := by decide +kernel
theorem dX10_wrong_22 : decode cX10_wrong 22 = .ok (.iload_n 1, 1) := by decide +kernel
theorem dX10_wrong_23 : decode cX10_wrong 23 = .ok (.invokevirtual 487, 3) := by decide +kernel
theorem dX10_wrong_26 : decode cX10_wrong 26 = .ok (.goto 5, 3) := by decide +kernel
theorem dX10_wrong_29 : decode cX10_wrong 29 = .ok (.bipush (-2), 2) := by decide +kernel
theorem dX10_wrong_31 : decode cX10_wrong 31 = .ok (.ireturn, 1) := by decide +kernel
theorem dX10_isAddress_0 : decode cX10_isAddress 0 = .ok (.lload_n 0, 1) := by decide +kernel
theorem dX10_isAddress_1 : decode cX10_isAddress 1 = .ok (.lconst 0, 1) := by decide +kernel
theorem dX10_isAddress_2 : decode cX10_isAddress 2 = .ok (.ldc2_w 490, 3) := by decide +kernel
theorem dX10_isAddress_5 : decode cX10_isAddress 5 = .ok (.invokestatic 139, 3) := by decide +kernel
theorem dX10_isAddress_8 : decode cX10_isAddress 8 = .ok (.ireturn, 1) := by decide +kernel
theorem dX10_wrongsAt_0 : decode cX10_wrongsAt 0 = .ok (.iconst 0, 1) := by decide +kernel
theorem dX10_wrongsAt_1 : decode cX10_wrongsAt 1 = .ok (.istore_n 2, 1) := by decide +kernel
theorem dX10_wrongsAt_2 : decode cX10_wrongsAt 2 = .ok (.iconst 0, 1) := by decide +kernel
theorem dX10_wrongsAt_3 : decode cX10_wrongsAt 3 = .ok (.istore_n 3, 1) := by decide +kernel
theorem dX10_wrongsAt_4 : decode cX10_wrongsAt 4 = .ok (.iload_n 3, 1) := by decide +kernel
theorem dX10_wrongsAt_5 : decode cX10_wrongsAt 5 = .ok (.aload_n 0, 1) := by decide +kernel
theorem dX10_wrongsAt_6 : decode cX10_wrongsAt 6 = .ok (.getfield 289, 3) := by decide +kernel
theorem dX10_wrongsAt_9 : decode cX10_wrongsAt 9 = .ok (.if_icmp .ge 35, 3) := by decide +kernel
theorem dX10_wrongsAt_12 : decode cX10_wrongsAt 12 = .ok (.iload_n 2, 1) := by decide +kernel
theorem dX10_wrongsAt_13 : decode cX10_wrongsAt 13 = .ok (.aload_n 0, 1) := by decide +kernel
theorem dX10_wrongsAt_14 : decode cX10_wrongsAt 14 = .ok (.getfield 40, 3) := by decide +kernel
theorem dX10_wrongsAt_17 : decode cX10_wrongsAt 17 = .ok (.iload_n 3, 1) := by decide +kernel
theorem dX10_wrongsAt_18 : decode cX10_wrongsAt 18 = .ok (.iaload, 1) := by decide +kernel
theorem dX10_wrongsAt_19 : decode cX10_wrongsAt 19 = .ok (.iload_n 1, 1) := by decide +kernel
theorem dX10_wrongsAt_20 : decode cX10_wrongsAt 20 = .ok (.if_icmp .ne 15, 3) := by decide +kernel
theorem dX10_wrongsAt_23 : decode cX10_wrongsAt 23 = .ok (.aload_n 0, 1) := by decide +kernel
theorem dX10_wrongsAt_24 : decode cX10_wrongsAt 24 = .ok (.iload_n 3, 1) := by decide +kernel
theorem dX10_wrongsAt_25 : decode cX10_wrongsAt 25 = .ok (.invokevirtual 477, 3) := by decide +kernel
theorem dX10_wrongsAt_28 : decode cX10_wrongsAt 28 = .ok (.ifCond .eq 7, 3) := by decide +kernel
theorem dX10_wrongsAt_31 : decode cX10_wrongsAt 31 = .ok (.iconst 1, 1) := by decide +kernel
theorem dX10_wrongsAt_32 : decode cX10_wrongsAt 32 = .ok (.goto 4, 3) := by decide +kernel
theorem dX10_wrongsAt_35 : decode cX10_wrongsAt 35 = .ok (.iconst 0, 1) := by decide +kernel
theorem dX10_wrongsAt_36 : decode cX10_wrongsAt 36 = .ok (.iadd, 1) := by decide +kernel
theorem dX10_wrongsAt_37 : decode cX10_wrongsAt 37 = .ok (.istore_n 2, 1) := by decide +kernel
theorem dX10_wrongsAt_38 : decode cX10_wrongsAt 38 = .ok (.iinc 3 1, 3) := by decide +kernel
theorem dX10_wrongsAt_41 : decode cX10_wrongsAt 41 = .ok (.goto (-37), 3) := by decide +kernel
theorem dX10_wrongsAt_44 : decode cX10_wrongsAt 44 = .ok (.iload_n 2, 1) := by decide +kernel
theorem dX10_wrongsAt_45 : decode cX10_wrongsAt 45 = .ok (.ireturn, 1) := by decide +kernel
theorem dX10_wrongs_0 : decode cX10_wrongs 0 = .ok (.aload_n 0, 1) := by decide +kernel
theorem dX10_wrongs_1 : decode cX10_wrongs 1 = .ok (.invokevirtual 484, 3) := by decide +kernel
theorem dX10_wrongs_4 : decode cX10_wrongs 4 = .ok (.ifCond .eq 19, 3) := by decide +kernel
theorem dX10_wrongs_7 : decode cX10_wrongs 7 = .ok (.iload_n 1, 1) := by decide +kernel
theorem dX10_wrongs_8 : decode cX10_wrongs 8 = .ok (.i2l, 1) := by decide +kernel
theorem dX10_wrongs_9 : decode cX10_wrongs 9 = .ok (.invokestatic 492, 3) := by decide +kernel
theorem dX10_wrongs_12 : decode cX10_wrongs 12 = .ok (.ifCond .eq 11, 3) := by decide +kernel
theorem dX10_wrongs_15 : decode cX10_wrongs 15 = .ok (.aload_n 0, 1) := by decide +kernel
theorem dX10_wrongs_16 : decode cX10_wrongs 16 = .ok (.iload_n 1, 1) := by decide +kernel
theorem dX10_wrongs_17 : decode cX10_wrongs 17 = .ok (.invokevirtual 496, 3) := by decide +kernel
theorem dX10_wrongs_20 : decode cX10_wrongs 20 = .ok (.goto 5, 3) := by decide +kernel
theorem dX10_wrongs_23 : decode cX10_wrongs 23 = .ok (.bipush (-2), 2) := by decide +kernel
theorem dX10_wrongs_25 : decode cX10_wrongs 25 = .ok (.ireturn, 1) := by decide +kernel
theorem dX10_worst_0 : decode cX10_worst 0 = .ok (.aload_n 0, 1) := by decide +kernel
theorem dX10_worst_1 : decode cX10_worst 1 = .ok (.invokevirtual 484, 3) := by decide +kernel
theorem dX10_worst_4 : decode cX10_worst 4 = .ok (.ifCond .ne 6, 3) := by decide +kernel
theorem dX10_worst_7 : decode cX10_worst 7 = .ok (.bipush (-2), 2) := by decide +kernel
theorem dX10_worst_9 : decode cX10_worst 9 = .ok (.ireturn, 1) := by decide +kernel
theorem dX10_worst_10 : decode cX10_worst 10 = .ok (.iconst (-1), 1) := by decide +kernel
theorem dX10_worst_11 : decode cX10_worst 11 = .ok (.istore_n 1, 1) := by decide +kernel
theorem dX10_worst_12 : decode cX10_worst 12 = .ok (.iconst 0, 1) := by decide +kernel
theorem dX10_worst_13 : decode cX10_worst 13 = .ok (.istore_n 2, 1) := by decide +kernel
theorem dX10_worst_14 : decode cX10_worst 14 = .ok (.iconst 0, 1) := by decide +kernel
theorem dX10_worst_15 : decode cX10_worst 15 = .ok (.istore_n 3, 1) := by decide +kernel
theorem dX10_worst_16 : decode cX10_worst 16 = .ok (.iload_n 3, 1) := by decide +kernel
theorem dX10_worst_17 : decode cX10_worst 17 = .ok (.bipush 64, 2) := by decide +kernel
theorem dX10_worst_19 : decode cX10_worst 19 = .ok (.if_icmp .ge 29, 3) := by decide +kernel
theorem dX10_worst_22 : decode cX10_worst 22 = .ok (.aload_n 0, 1) := by decide +kernel
theorem dX10_worst_23 : decode cX10_worst 23 = .ok (.iload_n 3, 1) := by decide +kernel
theorem dX10_worst_24 : decode cX10_worst 24 = .ok (.invokevirtual 496, 3) := by decide +kernel
theorem dX10_worst_27 : decode cX10_worst 27 = .ok (.iload_n 2, 1) := by decide +kernel
theorem dX10_worst_28 : decode cX10_worst 28 = .ok (.if_icmp .gt 6, 3) := by decide +kernel
theorem dX10_worst_31 : decode cX10_worst 31 = .ok (.goto 11, 3) := by decide +kernel
theorem dX10_worst_34 : decode cX10_worst 34 = .ok (.aload_n 0, 1) := by decide +kernel
theorem dX10_worst_35 : decode cX10_worst 35 = .ok (.iload_n 3, 1) := by decide +kernel
theorem dX10_worst_36 : decode cX10_worst 36 = .ok (.invokevirtual 496, 3) := by decide +kernel
theorem dX10_worst_39 : decode cX10_worst 39 = .ok (.istore_n 2, 1) := by decide +kernel
theorem dX10_worst_40 : decode cX10_worst 40 = .ok (.iload_n 3, 1) := by decide +kernel
theorem dX10_worst_41 : decode cX10_worst 41 = .ok (.istore_n 1, 1) := by decide +kernel
theorem dX10_worst_42 : decode cX10_worst 42 = .ok (.iinc 3 1, 3) := by decide +kernel
theorem dX10_worst_45 : decode cX10_worst 45 = .ok (.goto (-29), 3) := by decide +kernel
theorem dX10_worst_48 : decode cX10_worst 48 = .ok (.iload_n 1, 1) := by decide +kernel
theorem dX10_worst_49 : decode cX10_worst 49 = .ok (.ireturn, 1) := by decide +kernel
theorem dX10_streak_0 : decode cX10_streak 0 = .ok (.aload_n 0, 1) := by decide +kernel
theorem dX10_streak_1 : decode cX10_streak 1 = .ok (.invokevirtual 484, 3) := by decide +kernel
theorem dX10_streak_4 : decode cX10_streak 4 = .ok (.ifCond .ne 6, 3) := by decide +kernel
theorem dX10_streak_7 : decode cX10_streak 7 = .ok (.bipush (-2), 2) := by decide +kernel
theorem dX10_streak_9 : decode cX10_streak 9 = .ok (.ireturn, 1) := by decide +kernel
theorem dX10_streak_10 : decode cX10_streak 10 = .ok (.iconst 0, 1) := by decide +kernel
theorem dX10_streak_11 : decode cX10_streak 11 = .ok (.istore_n 1, 1) := by decide +kernel
theorem dX10_streak_12 : decode cX10_streak 12 = .ok (.iconst 0, 1) := by decide +kernel
theorem dX10_streak_13 : decode cX10_streak 13 = .ok (.istore_n 2, 1) := by decide +kernel
theorem dX10_streak_14 : decode cX10_streak 14 = .ok (.iconst 0, 1) := by decide +kernel
theorem dX10_streak_15 : decode cX10_streak 15 = .ok (.istore_n 3, 1) := by decide +kernel
theorem dX10_streak_16 : decode cX10_streak 16 = .ok (.iload_n 3, 1) := by decide +kernel
theorem dX10_streak_17 : decode cX10_streak 17 = .ok (.aload_n 0, 1) := by decide +kernel
theorem dX10_streak_18 : decode cX10_streak 18 = .ok (.getfield 289, 3) := by decide +kernel
theorem dX10_streak_21 : decode cX10_streak 21 = .ok (.if_icmp .ge 31, 3) := by decide +kernel
theorem dX10_streak_24 : decode cX10_streak 24 = .ok (.aload_n 0, 1) := by decide +kernel
theorem dX10_streak_25 : decode cX10_streak 25 = .ok (.iload_n 3, 1) := by decide +kernel
theorem dX10_streak_26 : decode cX10_streak 26 = .ok (.invokevirtual 477, 3) := by decide +kernel
theorem dX10_streak_29 : decode cX10_streak 29 = .ok (.ifCond .eq 7, 3) := by decide +kernel
theorem dX10_streak_32 : decode cX10_streak 32 = .ok (.iconst 0, 1) := by decide +kernel
theorem dX10_streak_33 : decode cX10_streak 33 = .ok (.goto 6, 3) := by decide +kernel
theorem dX10_streak_36 : decode cX10_streak 36 = .ok (.iload_n 2, 1) := by decide +kernel
theorem dX10_streak_37 : decode cX10_streak 37 = .ok (.iconst 1, 1) := by decide +kernel
theorem dX10_streak_38 : decode cX10_streak 38 = .ok (.iadd, 1) := by decide +kernel
theorem dX10_streak_39 : decode cX10_streak 39 = .ok (.istore_n 2, 1) := by decide +kernel
theorem dX10_streak_40 : decode cX10_streak 40 = .ok (.iload_n 1, 1) := by decide +kernel
theorem dX10_streak_41 : decode cX10_streak 41 = .ok (.iload_n 2, 1) := by decide +kernel
theorem dX10_streak_42 : decode cX10_streak 42 = .ok (.invokestatic 134, 3) := by decide +kernel
theorem dX10_streak_45 : decode cX10_streak 45 = .ok (.istore_n 1, 1) := by decide +kernel
theorem dX10_streak_46 : decode cX10_streak 46 = .ok (.iinc 3 1, 3) := by decide +kernel
theorem dX10_streak_49 : decode cX10_streak 49 = .ok (.goto (-33), 3) := by decide +kernel
theorem dX10_streak_52 : decode cX10_streak 52 = .ok (.iload_n 1, 1) := by decide +kernel
theorem dX10_streak_53 : decode cX10_streak 53 = .ok (.ireturn, 1) := by decide +kernel
theorem dX10_said_0 : decode cX10_said 0 = .ok (.aload_n 0, 1) := by decide +kernel
theorem dX10_said_1 : decode cX10_said 1 = .ok (.invokevirtual 484, 3) := by decide +kernel
theorem dX10_said_4 : decode cX10_said 4 = .ok (.ifCond .eq 15, 3) := by decide +kernel
theorem dX10_said_7 : decode cX10_said 7 = .ok (.iload_n 1, 1) := by decide +kernel
theorem dX10_said_8 : decode cX10_said 8 = .ok (.i2l, 1) := by decide +kernel
theorem dX10_said_9 : decode cX10_said 9 = .ok (.lconst 0, 1) := by decide +kernel
theorem dX10_said_10 : decode cX10_said 10 = .ok (.ldc2_w 137, 3) := by decide +kernel
theorem dX10_said_13 : decode cX10_said 13 = .ok (.invokestatic 139, 3) := by decide +kernel
theorem dX10_said_16 : decode cX10_said 16 = .ok (.ifCond .ne 6, 3) := by decide +kernel
theorem dX10_said_19 : decode cX10_said 19 = .ok (.bipush (-2), 2) := by decide +kernel
theorem dX10_said_21 : decode cX10_said 21 = .ok (.ireturn, 1) := by decide +kernel
theorem dX10_said_22 : decode cX10_said 22 = .ok (.iconst 0, 1) := by decide +kernel
theorem dX10_said_23 : decode cX10_said 23 = .ok (.istore_n 2, 1) := by decide +kernel
theorem dX10_said_24 : decode cX10_said 24 = .ok (.iconst 0, 1) := by decide +kernel
theorem dX10_said_25 : decode cX10_said 25 = .ok (.istore_n 3, 1) := by decide +kernel
theorem dX10_said_26 : decode cX10_said 26 = .ok (.iload_n 3, 1) := by decide +kernel
theorem dX10_said_27 : decode cX10_said 27 = .ok (.aload_n 0, 1) := by decide +kernel
theorem dX10_said_28 : decode cX10_said 28 = .ok (.getfield 289, 3) := by decide +kernel
theorem dX10_said_31 : decode cX10_said 31 = .ok (.if_icmp .ge 27, 3) := by decide +kernel
theorem dX10_said_34 : decode cX10_said 34 = .ok (.iload_n 2, 1) := by decide +kernel
theorem dX10_said_35 : decode cX10_said 35 = .ok (.aload_n 0, 1) := by decide +kernel
theorem dX10_said_36 : decode cX10_said 36 = .ok (.getfield 106, 3) := by decide +kernel
theorem dX10_said_39 : decode cX10_said 39 = .ok (.iload_n 3, 1) := by decide +kernel
theorem dX10_said_40 : decode cX10_said 40 = .ok (.iaload, 1) := by decide +kernel
theorem dX10_said_41 : decode cX10_said 41 = .ok (.iload_n 1, 1) := by decide +kernel
theorem dX10_said_42 : decode cX10_said 42 = .ok (.if_icmp .ne 7, 3) := by decide +kernel
theorem dX10_said_45 : decode cX10_said 45 = .ok (.iconst 1, 1) := by decide +kernel
theorem dX10_said_46 : decode cX10_said 46 = .ok (.goto 4, 3) := by decide +kernel
theorem dX10_said_49 : decode cX10_said 49 = .ok (.iconst 0, 1) := by decide +kernel
theorem dX10_said_50 : decode cX10_said 50 = .ok (.iadd, 1) := by decide +kernel
theorem dX10_said_51 : decode cX10_said 51 = .ok (.istore_n 2, 1) := by decide +kernel
theorem dX10_said_52 : decode cX10_said 52 = .ok (.iinc 3 1, 3) := by decide +kernel
theorem dX10_said_55 : decode cX10_said 55 = .ok (.goto (-29), 3) := by decide +kernel
theorem dX10_said_58 : decode cX10_said 58 = .ok (.iload_n 2, 1) := by decide +kernel
theorem dX10_said_59 : decode cX10_said 59 = .ok (.ireturn, 1) := by decide +kernel
theorem dX10_gained_0 : decode cX10_gained 0 = .ok (.aload_n 0, 1) := by decide +kernel
theorem dX10_gained_1 : decode cX10_gained 1 = .ok (.invokevirtual 484, 3) := by decide +kernel
theorem dX10_gained_4 : decode cX10_gained 4 = .ok (.ifCond .eq 15, 3) := by decide +kernel
theorem dX10_gained_7 : decode cX10_gained 7 = .ok (.iload_n 1, 1) := by decide +kernel
theorem dX10_gained_8 : decode cX10_gained 8 = .ok (.i2l, 1) := by decide +kernel
theorem dX10_gained_9 : decode cX10_gained 9 = .ok (.lconst 0, 1) := by decide +kernel
theorem dX10_gained_10 : decode cX10_gained 10 = .ok (.ldc2_w 137, 3) := by decide +kernel
theorem dX10_gained_13 : decode cX10_gained 13 = .ok (.invokestatic 139, 3) := by decide +kernel
theorem dX10_gained_16 : decode cX10_gained 16 = .ok (.ifCond .ne 7, 3) := by decide +kernel
theorem dX10_gained_19 : decode cX10_gained 19 = .ok (.sipush (-1000), 3) := by decide +kernel
theorem dX10_gained_22 : decode cX10_gained 22 = .ok (.ireturn, 1) := by decide +kernel
theorem dX10_gained_23 : decode cX10_gained 23 = .ok (.iconst 0, 1) := by decide +kernel
theorem dX10_gained_24 : decode cX10_gained 24 = .ok (.istore_n 2, 1) := by decide +kernel
theorem dX10_gained_25 : decode cX10_gained 25 = .ok (.iconst 0, 1) := by decide +kernel
theorem dX10_gained_26 : decode cX10_gained 26 = .ok (.istore_n 3, 1) := by decide +kernel
theorem dX10_gained_27 : decode cX10_gained 27 = .ok (.iload_n 3, 1) := by decide +kernel
theorem dX10_gained_28 : decode cX10_gained 28 = .ok (.aload_n 0, 1) := by decide +kernel
theorem dX10_gained_29 : decode cX10_gained 29 = .ok (.getfield 289, 3) := by decide +kernel
theorem dX10_gained_32 : decode cX10_gained 32 = .ok (.if_icmp .ge 50, 3) := by decide +kernel
theorem dX10_gained_35 : decode cX10_gained 35 = .ok (.aload_n 0, 1) := by decide +kernel
theorem dX10_gained_36 : decode cX10_gained 36 = .ok (.getfield 106, 3) := by decide +kernel
theorem dX10_gained_39 : decode cX10_gained 39 = .ok (.iload_n 3, 1) := by decide +kernel
theorem dX10_gained_40 : decode cX10_gained 40 = .ok (.iaload, 1) := by decide +kernel
theorem dX10_gained_41 : decode cX10_gained 41 = .ok (.iload_n 1, 1) := by decide +kernel
theorem dX10_gained_42 : decode cX10_gained 42 = .ok (.if_icmp .ne 34, 3) := by decide +kernel
theorem dX10_gained_45 : decode cX10_gained 45 = .ok (.aload_n 0, 1) := by decide +kernel
theorem dX10_gained_46 : decode cX10_gained 46 = .ok (.getfield 91, 3) := by decide +kernel
theorem dX10_gained_49 : decode cX10_gained 49 = .ok (.iload_n 3, 1) := by decide +kernel
theorem dX10_gained_50 : decode cX10_gained 50 = .ok (.iaload, 1) := by decide +kernel
theorem dX10_gained_51 : decode cX10_gained 51 = .ok (.aload_n 0, 1) := by decide +kernel
theorem dX10_gained_52 : decode cX10_gained 52 = .ok (.getfield 103, 3) := by decide +kernel
theorem dX10_gained_55 : decode cX10_gained 55 = .ok (.iload_n 3, 1) := by decide +kernel
theorem dX10_gained_56 : decode cX10_gained 56 = .ok (.iaload, 1) := by decide +kernel
theorem dX10_gained_57 : decode cX10_gained 57 = .ok (.if_icmp .eq 19, 3) := by decide +kernel
theorem dX10_gained_60 : decode cX10_gained 60 = .ok (.iload_n 2, 1) := by decide +kernel
theorem dX10_gained_61 : decode cX10_gained 61 = .ok (.aload_n 0, 1) := by decide +kernel
theorem dX10_gained_62 : decode cX10_gained 62 = .ok (.iload_n 3, 1) := by decide +kernel
theorem dX10_gained_63 : decode cX10_gained 63 = .ok (.invokevirtual 477, 3) := by decide +kernel
theorem dX10_gained_66 : decode cX10_gained 66 = .ok (.ifCond .eq 7, 3) := by decide +kernel
theorem dX10_gained_69 : decode cX10_gained 69 = .ok (.iconst (-1), 1) := by decide +kernel
theorem dX10_gained_70 : decode cX10_gained 70 = .ok (.goto 4, 3) := by decide +kernel
theorem dX10_gained_73 : decode cX10_gained 73 = .ok (.iconst 1, 1) := by decide +kernel
theorem dX10_gained_74 : decode cX10_gained 74 = .ok (.iadd, 1) := by decide +kernel
theorem dX10_gained_75 : decode cX10_gained 75 = .ok (.istore_n 2, 1) := by decide +kernel
theorem dX10_gained_76 : decode cX10_gained 76 = .ok (.iinc 3 1, 3) := by decide +kernel
theorem dX10_gained_79 : decode cX10_gained 79 = .ok (.goto (-52), 3) := by decide +kernel
theorem dX10_gained_82 : decode cX10_gained 82 = .ok (.iload_n 2, 1) := by decide +kernel
theorem dX10_gained_83 : decode cX10_gained 83 = .ok (.ireturn, 1) := by decide +kernel
theorem dX10_provided_0 : decode cX10_provided 0 = .ok (.aload_n 0, 1) := by decide +kernel
theorem dX10_provided_1 : decode cX10_provided 1 = .ok (.invokevirtual 484, 3) := by decide +kernel
theorem dX10_provided_4 : decode cX10_provided 4 = .ok (.ifCond .eq 17, 3) := by decide +kernel
theorem dX10_provided_7 : decode cX10_provided 7 = .ok (.iload_n 1, 1) := by decide +kernel
theorem dX10_provided_8 : decode cX10_provided 8 = .ok (.i2l, 1) := by decide +kernel
theorem dX10_provided_9 : decode cX10_provided 9 = .ok (.lconst 0, 1) := by decide +kernel
theorem dX10_provided_10 : decode cX10_provided 10 = .ok (.aload_n 0, 1) := by decide +kernel
theorem dX10_provided_11 : decode cX10_provided 11 = .ok (.invokevirtual 335, 3) := by decide +kernel
theorem dX10_provided_14 : decode cX10_provided 14 = .ok (.i2l, 1) := by decide +kernel
theorem dX10_provided_15 : decode cX10_provided 15 = .ok (.invokestatic 139, 3) := by decide +kernel
theorem dX10_provided_18 : decode cX10_provided 18 = .ok (.ifCond .ne 6, 3) := by decide +kernel
theorem dX10_provided_21 : decode cX10_provided 21 = .ok (.bipush (-2), 2) := by decide +kernel
theorem dX10_provided_23 : decode cX10_provided 23 = .ok (.ireturn, 1) := by decide +kernel
theorem dX10_provided_24 : decode cX10_provided 24 = .ok (.iconst 0, 1) := by decide +kernel
theorem dX10_provided_25 : decode cX10_provided 25 = .ok (.istore_n 2, 1) := by decide +kernel
theorem dX10_provided_26 : decode cX10_provided 26 = .ok (.iconst 0, 1) := by decide +kernel
theorem dX10_provided_27 : decode cX10_provided 27 = .ok (.istore_n 3, 1) := by decide +kernel
theorem dX10_provided_28 : decode cX10_provided 28 = .ok (.iload_n 3, 1) := by decide +kernel
theorem dX10_provided_29 : decode cX10_provided 29 = .ok (.aload_n 0, 1) := by decide +kernel
theorem dX10_provided_30 : decode cX10_provided 30 = .ok (.getfield 289, 3) := by decide +kernel
theorem dX10_provided_33 : decode cX10_provided 33 = .ok (.if_icmp .ge 27, 3) := by decide +kernel
theorem dX10_provided_36 : decode cX10_provided 36 = .ok (.iload_n 2, 1) := by decide +kernel
theorem dX10_provided_37 : decode cX10_provided 37 = .ok (.aload_n 0, 1) := by decide +kernel
theorem dX10_provided_38 : decode cX10_provided 38 = .ok (.getfield 94, 3) := by decide +kernel
theorem dX10_provided_41 : decode cX10_provided 41 = .ok (.iload_n 3, 1) := by decide +kernel
theorem dX10_provided_42 : decode cX10_provided 42 = .ok (.iaload, 1) := by decide +kernel
theorem dX10_provided_43 : decode cX10_provided 43 = .ok (.iload_n 1, 1) := by decide +kernel
theorem dX10_provided_44 : decode cX10_provided 44 = .ok (.if_icmp .ne 7, 3) := by decide +kernel
theorem dX10_provided_47 : decode cX10_provided 47 = .ok (.iconst 1, 1) := by decide +kernel
theorem dX10_provided_48 : decode cX10_provided 48 = .ok (.goto 4, 3) := by decide +kernel
theorem dX10_provided_51 : decode cX10_provided 51 = .ok (.iconst 0, 1) := by decide +kernel
theorem dX10_provided_52 : decode cX10_provided 52 = .ok (.iadd, 1) := by decide +kernel
theorem dX10_provided_53 : decode cX10_provided 53 = .ok (.istore_n 2, 1) := by decide +kernel
theorem dX10_provided_54 : decode cX10_provided 54 = .ok (.iinc 3 1, 3) := by decide +kernel
theorem dX10_provided_57 : decode cX10_provided 57 = .ok (.goto (-29), 3) := by decide +kernel
theorem dX10_provided_60 : decode cX10_provided 60 = .ok (.iload_n 2, 1) := by decide +kernel
theorem dX10_provided_61 : decode cX10_provided 61 = .ok (.ireturn, 1) := by decide +kernel
theorem dX10_history_0 : decode cX10_history 0 = .ok (.aload_n 0, 1) := by decide +kernel
theorem dX10_history_1 : decode cX10_history 1 = .ok (.iload_n 1, 1) := by decide +kernel
theorem dX10_history_2 : decode cX10_history 2 = .ok (.invokevirtual 499, 3) := by decide +kernel
theorem dX10_history_5 : decode cX10_history 5 = .ok (.ifCond .eq 29, 3) := by decide +kernel
theorem dX10_history_8 : decode cX10_history 8 = .ok (.iload_n 2, 1) := by decide +kernel
theorem dX10_history_9 : decode cX10_history 9 = .ok (.i2l, 1) := by decide +kernel
theorem dX10_history_10 : decode cX10_history 10 = .ok (.lconst 0, 1) := by decide +kernel
theorem dX10_history_11 : decode cX10_history 11 = .ok (.ldc2_w 502, 3) := by decide +kernel
theorem dX10_history_14 : decode cX10_history 14 = .ok (.invokestatic 139, 3) := by decide +kernel
theorem dX10_history_17 : decode cX10_history 17 = .ok (.ifCond .eq 17, 3) := by decide +kernel
theorem dX10_history_20 : decode cX10_history 20 = .ok (.aload_n 0, 1) := by decide +kernel
theorem dX10_history_21 : decode cX10_history 21 = .ok (.getfield 353, 3) := by decide +kernel
theorem dX10_history_24 : decode cX10_history 24 = .ok (.lconst 1, 1) := by decide +kernel
theorem dX10_history_25 : decode cX10_history 25 = .ok (.iload_n 2, 1) := by decide +kernel
theorem dX10_history_26 : decode cX10_history 26 = .ok (.lshl, 1) := by decide +kernel
theorem dX10_history_27 : decode cX10_history 27 = .ok (.lconst 1, 1) := by decide +kernel
theorem dX10_history_28 : decode cX10_history 28 = .ok (.lsub, 1) := by decide +kernel
theorem dX10_history_29 : decode cX10_history 29 = .ok (.land, 1) := by decide +kernel
theorem dX10_history_30 : decode cX10_history 30 = .ok (.l2i, 1) := by decide +kernel
theorem dX10_history_31 : decode cX10_history 31 = .ok (.goto 5, 3) := by decide +kernel
theorem dX10_history_34 : decode cX10_history 34 = .ok (.bipush (-2), 2) := by decide +kernel
theorem dX10_history_36 : decode cX10_history 36 = .ok (.ireturn, 1) := by decide +kernel
theorem dX10_fold_0 : decode cX10_fold 0 = .ok (.aload_n 0, 1) := by decide +kernel
theorem dX10_fold_1 : decode cX10_fold 1 = .ok (.iload_n 1, 1) := by decide +kernel
theorem dX10_fold_2 : decode cX10_fold 2 = .ok (.invokevirtual 499, 3) := by decide +kernel
theorem dX10_fold_5 : decode cX10_fold 5 = .ok (.ifCond .eq 36, 3) := by decide +kernel
theorem dX10_fold_8 : decode cX10_fold 8 = .ok (.iload_n 2, 1) := by decide +kernel
theorem dX10_fold_9 : decode cX10_fold 9 = .ok (.i2l, 1) := by decide +kernel
theorem dX10_fold_10 : decode cX10_fold 10 = .ok (.lconst 1, 1) := by decide +kernel
theorem dX10_fold_11 : decode cX10_fold 11 = .ok (.ldc2_w 504, 3) := by decide +kernel
theorem dX10_fold_14 : decode cX10_fold 14 = .ok (.invokestatic 139, 3) := by decide +kernel
theorem dX10_fold_17 : decode cX10_fold 17 = .ok (.ifCond .eq 24, 3) := by decide +kernel
theorem dX10_fold_20 : decode cX10_fold 20 = .ok (.iload_n 3, 1) := by decide +kernel
theorem dX10_fold_21 : decode cX10_fold 21 = .ok (.i2l, 1) := by decide +kernel
theorem dX10_fold_22 : decode cX10_fold 22 = .ok (.lconst 1, 1) := by decide +kernel
theorem dX10_fold_23 : decode cX10_fold 23 = .ok (.ldc2_w 506, 3) := by decide +kernel
theorem dX10_fold_26 : decode cX10_fold 26 = .ok (.invokestatic 139, 3) := by decide +kernel
theorem dX10_fold_29 : decode cX10_fold 29 = .ok (.ifCond .eq 12, 3) := by decide +kernel
theorem dX10_fold_32 : decode cX10_fold 32 = .ok (.aload_n 0, 1) := by decide +kernel
theorem dX10_fold_33 : decode cX10_fold 33 = .ok (.iload_n 2, 1) := by decide +kernel
theorem dX10_fold_34 : decode cX10_fold 34 = .ok (.iload_n 3, 1) := by decide +kernel
theorem dX10_fold_35 : decode cX10_fold 35 = .ok (.invokevirtual 357, 3) := by decide +kernel
theorem dX10_fold_38 : decode cX10_fold 38 = .ok (.goto 5, 3) := by decide +kernel
theorem dX10_fold_41 : decode cX10_fold 41 = .ok (.bipush (-2), 2) := by decide +kernel
theorem dX10_fold_43 : decode cX10_fold 43 = .ok (.ireturn, 1) := by decide +kernel
theorem dX10_isTable_0 : decode cX10_isTable 0 = .ok (.iload_n 1, 1) := by decide +kernel
theorem dX10_isTable_1 : decode cX10_isTable 1 = .ok (.i2l, 1) := by decide +kernel
theorem dX10_isTable_2 : decode cX10_isTable 2 = .ok (.lconst 1, 1) := by decide +kernel
theorem dX10_isTable_3 : decode cX10_isTable 3 = .ok (.aload_n 0, 1) := by decide +kernel
theorem dX10_isTable_4 : decode cX10_isTable 4 = .ok (.invokevirtual 335, 3) := by decide +kernel
theorem dX10_isTable_7 : decode cX10_isTable 7 = .ok (.i2l, 1) := by decide +kernel
theorem dX10_isTable_8 : decode cX10_isTable 8 = .ok (.invokestatic 139, 3) := by decide +kernel
theorem dX10_isTable_11 : decode cX10_isTable 11 = .ok (.ireturn, 1) := by decide +kernel
theorem dX10_index_0 : decode cX10_index 0 = .ok (.aload_n 0, 1) := by decide +kernel
theorem dX10_index_1 : decode cX10_index 1 = .ok (.iload_n 3, 1) := by decide +kernel
theorem dX10_index_2 : decode cX10_index 2 = .ok (.invokevirtual 499, 3) := by decide +kernel
theorem dX10_index_5 : decode cX10_index 5 = .ok (.ifCond .eq 28, 3) := by decide +kernel
theorem dX10_index_8 : decode cX10_index 8 = .ok (.aload_n 0, 1) := by decide +kernel
theorem dX10_index_9 : decode cX10_index 9 = .ok (.iload_n 1, 1) := by decide +kernel
theorem dX10_index_10 : decode cX10_index 10 = .ok (.invokevirtual 508, 3) := by decide +kernel
theorem dX10_index_13 : decode cX10_index 13 = .ok (.ifCond .eq 20, 3) := by decide +kernel
theorem dX10_index_16 : decode cX10_index 16 = .ok (.iload_n 2, 1) := by decide +kernel
theorem dX10_index_17 : decode cX10_index 17 = .ok (.i2l, 1) := by decide +kernel
theorem dX10_index_18 : decode cX10_index 18 = .ok (.invokestatic 492, 3) := by decide +kernel
theorem dX10_index_21 : decode cX10_index 21 = .ok (.ifCond .eq 12, 3) := by decide +kernel
theorem dX10_index_24 : decode cX10_index 24 = .ok (.aload_n 0, 1) := by decide +kernel
theorem dX10_index_25 : decode cX10_index 25 = .ok (.iload_n 1, 1) := by decide +kernel
theorem dX10_index_26 : decode cX10_index 26 = .ok (.iload_n 2, 1) := by decide +kernel
theorem dX10_index_27 : decode cX10_index 27 = .ok (.invokevirtual 369, 3) := by decide +kernel
theorem dX10_index_30 : decode cX10_index 30 = .ok (.goto 5, 3) := by decide +kernel
theorem dX10_index_33 : decode cX10_index 33 = .ok (.bipush (-2), 2) := by decide +kernel
theorem dX10_index_35 : decode cX10_index 35 = .ok (.ireturn, 1) := by decide +kernel
theorem dX10_tag_0 : decode cX10_tag 0 = .ok (.aload_n 0, 1) := by decide +kernel
theorem dX10_tag_1 : decode cX10_tag 1 = .ok (.iload_n 3, 1) := by decide +kernel
theorem dX10_tag_2 : decode cX10_tag 2 = .ok (.invokevirtual 499, 3) := by decide +kernel
theorem dX10_tag_5 : decode cX10_tag 5 = .ok (.ifCond .eq 28, 3) := by decide +kernel
theorem dX10_tag_8 : decode cX10_tag 8 = .ok (.aload_n 0, 1) := by decide +kernel
theorem dX10_tag_9 : decode cX10_tag 9 = .ok (.iload_n 1, 1) := by decide +kernel
theorem dX10_tag_10 : decode cX10_tag 10 = .ok (.invokevirtual 508, 3) := by decide +kernel
theorem dX10_tag_13 : decode cX10_tag 13 = .ok (.ifCond .eq 20, 3) := by decide +kernel
theorem dX10_tag_16 : decode cX10_tag 16 = .ok (.iload_n 2, 1) := by decide +kernel
theorem dX10_tag_17 : decode cX10_tag 17 = .ok (.i2l, 1) := by decide +kernel
theorem dX10_tag_18 : decode cX10_tag 18 = .ok (.invokestatic 492, 3) := by decide +kernel
theorem dX10_tag_21 : decode cX10_tag 21 = .ok (.ifCond .eq 12, 3) := by decide +kernel
theorem dX10_tag_24 : decode cX10_tag 24 = .ok (.aload_n 0, 1) := by decide +kernel
theorem dX10_tag_25 : decode cX10_tag 25 = .ok (.iload_n 1, 1) := by decide +kernel
theorem dX10_tag_26 : decode cX10_tag 26 = .ok (.iload_n 2, 1) := by decide +kernel
theorem dX10_tag_27 : decode cX10_tag 27 = .ok (.invokevirtual 372, 3) := by decide +kernel
theorem dX10_tag_30 : decode cX10_tag 30 = .ok (.goto 5, 3) := by decide +kernel
theorem dX10_tag_33 : decode cX10_tag 33 = .ok (.bipush (-2), 2) := by decide +kernel
theorem dX10_tag_35 : decode cX10_tag 35 = .ok (.ireturn, 1) := by decide +kernel
theorem dX10_asksOf_0 : decode cX10_asksOf 0 = .ok (.aload_n 0, 1) := by decide +kernel
theorem dX10_asksOf_1 : decode cX10_asksOf 1 = .ok (.iload_n 2, 1) := by decide +kernel
theorem dX10_asksOf_2 : decode cX10_asksOf 2 = .ok (.invokevirtual 499, 3) := by decide +kernel
theorem dX10_asksOf_5 : decode cX10_asksOf 5 = .ok (.ifCond .eq 11, 3) := by decide +kernel
theorem dX10_asksOf_8 : decode cX10_asksOf 8 = .ok (.iload_n 1, 1) := by decide +kernel
theorem dX10_asksOf_9 : decode cX10_asksOf 9 = .ok (.i2l, 1) := by decide +kernel
theorem dX10_asksOf_10 : decode cX10_asksOf 10 = .ok (.invokestatic 492, 3) := by decide +kernel
theorem dX10_asksOf_13 : decode cX10_asksOf 13 = .ok (.ifCond .ne 5, 3) := by decide +kernel
theorem dX10_asksOf_16 : decode cX10_asksOf 16 = .ok (.iconst 0, 1) := by decide +kernel
theorem dX10_asksOf_17 : decode cX10_asksOf 17 = .ok (.ireturn, 1) := by decide +kernel
theorem dX10_asksOf_18 : decode cX10_asksOf 18 = .ok (.aload_n 0, 1) := by decide +kernel
theorem dX10_asksOf_19 : decode cX10_asksOf 19 = .ok (.iload_n 1, 1) := by decide +kernel
theorem dX10_asksOf_20 : decode cX10_asksOf 20 = .ok (.invokevirtual 456, 3) := by decide +kernel
theorem dX10_asksOf_23 : decode cX10_asksOf 23 = .ok (.iconst 1, 1) := by decide +kernel
theorem dX10_asksOf_24 : decode cX10_asksOf 24 = .ok (.ireturn, 1) := by decide +kernel
theorem dX10_provider_0 : decode cX10_provider 0 = .ok (.aload_n 0, 1) := by decide +kernel
theorem dX10_provider_1 : decode cX10_provider 1 = .ok (.iload_n 1, 1) := by decide +kernel
theorem dX10_provider_2 : decode cX10_provider 2 = .ok (.iload_n 2, 1) := by decide +kernel
theorem dX10_provider_3 : decode cX10_provider 3 = .ok (.invokevirtual 511, 3) := by decide +kernel
theorem dX10_provider_6 : decode cX10_provider 6 = .ok (.ifCond .eq 10, 3) := by decide +kernel
theorem dX10_provider_9 : decode cX10_provider 9 = .ok (.aload_n 0, 1) := by decide +kernel
theorem dX10_provider_10 : decode cX10_provider 10 = .ok (.getfield 378, 3) := by decide +kernel
theorem dX10_provider_13 : decode cX10_provider 13 = .ok (.goto 5, 3) := by decide +kernel
theorem dX10_provider_16 : decode cX10_provider 16 = .ok (.bipush (-2), 2) := by decide +kernel
theorem dX10_provider_18 : decode cX10_provider 18 = .ok (.ireturn, 1) := by decide +kernel
theorem dX10_alternate_0 : decode cX10_alternate 0 = .ok (.aload_n 0, 1) := by decide +kernel
theorem dX10_alternate_1 : decode cX10_alternate 1 = .ok (.iload_n 1, 1) := by decide +kernel
theorem dX10_alternate_2 : decode cX10_alternate 2 = .ok (.iload_n 2, 1) := by decide +kernel
theorem dX10_alternate_3 : decode cX10_alternate 3 = .ok (.invokevirtual 511, 3) := by decide +kernel
theorem dX10_alternate_6 : decode cX10_alternate 6 = .ok (.ifCond .eq 10, 3) := by decide +kernel
theorem dX10_alternate_9 : decode cX10_alternate 9 = .ok (.aload_n 0, 1) := by decide +kernel
theorem dX10_alternate_10 : decode cX10_alternate 10 = .ok (.getfield 381, 3) := by decide +kernel
theorem dX10_alternate_13 : decode cX10_alternate 13 = .ok (.goto 5, 3) := by decide +kernel
theorem dX10_alternate_16 : decode cX10_alternate 16 = .ok (.bipush (-2), 2) := by decide +kernel
theorem dX10_alternate_18 : decode cX10_alternate 18 = .ok (.ireturn, 1) := by decide +kernel
theorem dX10_guess_0 : decode cX10_guess 0 = .ok (.aload_n 0, 1) := by decide +kernel
theorem dX10_guess_1 : decode cX10_guess 1 = .ok (.iload_n 1, 1) := by decide +kernel
theorem dX10_guess_2 : decode cX10_guess 2 = .ok (.iload_n 2, 1) := by decide +kernel
theorem dX10_guess_3 : decode cX10_guess 3 = .ok (.invokevirtual 511, 3) := by decide +kernel
theorem dX10_guess_6 : decode cX10_guess 6 = .ok (.ifCond .eq 10, 3) := by decide +kernel
theorem dX10_guess_9 : decode cX10_guess 9 = .ok (.aload_n 0, 1) := by decide +kernel
theorem dX10_guess_10 : decode cX10_guess 10 = .ok (.getfield 422, 3) := by decide +kernel
theorem dX10_guess_13 : decode cX10_guess 13 = .ok (.goto 5, 3) := by decide +kernel
theorem dX10_guess_16 : decode cX10_guess 16 = .ok (.bipush (-2), 2) := by decide +kernel
theorem dX10_guess_18 : decode cX10_guess 18 = .ok (.ireturn, 1) := by decide +kernel
theorem dX10_adds_0 : decode cX10_adds 0 = .ok (.aload_n 0, 1) := by decide +kernel
theorem dX10_adds_1 : decode cX10_adds 1 = .ok (.iload_n 1, 1) := by decide +kernel
theorem dX10_adds_2 : decode cX10_adds 2 = .ok (.iload_n 2, 1) := by decide +kernel
theorem dX10_adds_3 : decode cX10_adds 3 = .ok (.invokevirtual 511, 3) := by decide +kernel
theorem dX10_adds_6 : decode cX10_adds 6 = .ok (.ifCond .eq 10, 3) := by decide +kernel
theorem dX10_adds_9 : decode cX10_adds 9 = .ok (.aload_n 0, 1) := by decide +kernel
theorem dX10_adds_10 : decode cX10_adds 10 = .ok (.getfield 407, 3) := by decide +kernel
theorem dX10_adds_13 : decode cX10_adds 13 = .ok (.goto 6, 3) := by decide +kernel
theorem dX10_adds_16 : decode cX10_adds 16 = .ok (.sipush (-1000), 3) := by decide +kernel
theorem dX10_adds_19 : decode cX10_adds 19 = .ok (.ireturn, 1) := by decide +kernel
theorem dX10_entry_0 : decode cX10_entry 0 = .ok (.aload_n 0, 1) := by decide +kernel
theorem dX10_entry_1 : decode cX10_entry 1 = .ok (.iload 4, 2) := by decide +kernel
theorem dX10_entry_3 : decode cX10_entry 3 = .ok (.invokevirtual 499, 3) := by decide +kernel
theorem dX10_entry_6 : decode cX10_entry 6 = .ok (.ifCond .eq 39, 3) := by decide +kernel
theorem dX10_entry_9 : decode cX10_entry 9 = .ok (.aload_n 0, 1) := by decide +kernel
theorem dX10_entry_10 : decode cX10_entry 10 = .ok (.iload_n 1, 1) := by decide +kernel
theorem dX10_entry_11 : decode cX10_entry 11 = .ok (.invokevirtual 508, 3) := by decide +kernel
theorem dX10_entry_14 : decode cX10_entry 14 = .ok (.ifCond .eq 31, 3) := by decide +kernel
theorem dX10_entry_17 : decode cX10_entry 17 = .ok (.iload_n 2, 1) := by decide +kernel
theorem dX10_entry_18 : decode cX10_entry 18 = .ok (.i2l, 1) := by decide +kernel
theorem dX10_entry_19 : decode cX10_entry 19 = .ok (.lconst 0, 1) := by decide +kernel
theorem dX10_entry_20 : decode cX10_entry 20 = .ok (.aload_n 0, 1) := by decide +kernel
theorem dX10_entry_21 : decode cX10_entry 21 = .ok (.invokevirtual 360, 3) := by decide +kernel
theorem dX10_entry_24 : decode cX10_entry 24 = .ok (.iconst 1, 1) := by decide +kernel
theorem dX10_entry_25 : decode cX10_entry 25 = .ok (.isub, 1) := by decide +kernel
theorem dX10_entry_26 : decode cX10_entry 26 = .ok (.i2l, 1) := by decide +kernel
theorem dX10_entry_27 : decode cX10_entry 27 = .ok (.invokestatic 139, 3) := by decide +kernel
theorem dX10_entry_30 : decode cX10_entry 30 = .ok (.ifCond .eq 15, 3) := by decide +kernel
theorem dX10_entry_33 : decode cX10_entry 33 = .ok (.iload_n 3, 1) := by decide +kernel
theorem dX10_entry_34 : decode cX10_entry 34 = .ok (.i2l, 1) := by decide +kernel
theorem dX10_entry_35 : decode cX10_entry 35 = .ok (.lconst 0, 1) := by decide +kernel
theorem dX10_entry_36 : decode cX10_entry 36 = .ok (.ldc2_w 137, 3) := by decide +kernel
theorem dX10_entry_39 : decode cX10_entry 39 = .ok (.invokestatic 139, 3) := by decide +kernel
theorem dX10_entry_42 : decode cX10_entry 42 = .ok (.ifCond .ne 7, 3) := by decide +kernel
theorem dX10_entry_45 : decode cX10_entry 45 = .ok (.sipush (-1000), 3) := by decide +kernel
theorem dX10_entry_48 : decode cX10_entry 48 = .ok (.ireturn, 1) := by decide +kernel
theorem dX10_entry_49 : decode cX10_entry 49 = .ok (.bipush 16, 2) := by decide +kernel
theorem dX10_entry_51 : decode cX10_entry 51 = .ok (.iload_n 1, 1) := by decide +kernel
theorem dX10_entry_52 : decode cX10_entry 52 = .ok (.iconst 1, 1) := by decide +kernel
theorem dX10_entry_53 : decode cX10_entry 53 = .ok (.isub, 1) := by decide +kernel
theorem dX10_entry_54 : decode cX10_entry 54 = .ok (.imul, 1) := by decide +kernel
theorem dX10_entry_55 : decode cX10_entry 55 = .ok (.iload_n 2, 1) := by decide +kernel
theorem dX10_entry_56 : decode cX10_entry 56 = .ok (.iadd, 1) := by decide +kernel
theorem dX10_entry_57 : decode cX10_entry 57 = .ok (.istore 5, 2) := by decide +kernel
theorem dX10_entry_59 : decode cX10_entry 59 = .ok (.iload_n 3, 1) := by decide +kernel
theorem dX10_entry_60 : decode cX10_entry 60 = .ok (.ifCond .ne 13, 3) := by decide +kernel
theorem dX10_entry_63 : decode cX10_entry 63 = .ok (.aload_n 0, 1) := by decide +kernel
theorem dX10_entry_64 : decode cX10_entry 64 = .ok (.getfield 52, 3) := by decide +kernel
theorem dX10_entry_67 : decode cX10_entry 67 = .ok (.iload 5, 2) := by decide +kernel
theorem dX10_entry_69 : decode cX10_entry 69 = .ok (.iaload, 1) := by decide +kernel
theorem dX10_entry_70 : decode cX10_entry 70 = .ok (.goto 25, 3) := by decide +kernel
theorem dX10_entry_73 : decode cX10_entry 73 = .ok (.iload_n 3, 1) := by decide +kernel
theorem dX10_entry_74 : decode cX10_entry 74 = .ok (.iconst 1, 1) := by decide +kernel
theorem dX10_entry_75 : decode cX10_entry 75 = .ok (.if_icmp .ne 13, 3) := by decide +kernel
theorem dX10_entry_78 : decode cX10_entry 78 = .ok (.aload_n 0, 1) := by decide +kernel
theorem dX10_entry_79 : decode cX10_entry 79 = .ok (.getfield 55, 3) := by decide +kernel
theorem dX10_entry_82 : decode cX10_entry 82 = .ok (.iload 5, 2) := by decide +kernel
theorem dX10_entry_84 : decode cX10_entry 84 = .ok (.iaload, 1) := by decide +kernel
theorem dX10_entry_85 : decode cX10_entry 85 = .ok (.goto 10, 3) := by decide +kernel
theorem dX10_entry_88 : decode cX10_entry 88 = .ok (.aload_n 0, 1) := by decide +kernel
theorem dX10_entry_89 : decode cX10_entry 89 = .ok (.getfield 58, 3) := by decide +kernel
theorem dX10_entry_92 : decode cX10_entry 92 = .ok (.iload 5, 2) := by decide +kernel
theorem dX10_entry_94 : decode cX10_entry 94 = .ok (.iaload, 1) := by decide +kernel
theorem dX10_entry_95 : decode cX10_entry 95 = .ok (.ireturn, 1) := by decide +kernel
theorem dX10_held_0 : decode cX10_held 0 = .ok (.aload_n 0, 1) := by decide +kernel
theorem dX10_held_1 : decode cX10_held 1 = .ok (.iload_n 2, 1) := by decide +kernel
theorem dX10_held_2 : decode cX10_held 2 = .ok (.invokevirtual 499, 3) := by decide +kernel
theorem dX10_held_5 : decode cX10_held 5 = .ok (.ifCond .eq 17, 3) := by decide +kernel
theorem dX10_held_8 : decode cX10_held 8 = .ok (.iload_n 1, 1) := by decide +kernel
theorem dX10_held_9 : decode cX10_held 9 = .ok (.i2l, 1) := by decide +kernel
theorem dX10_held_10 : decode cX10_held 10 = .ok (.lconst 0, 1) := by decide +kernel
theorem dX10_held_11 : decode cX10_held 11 = .ok (.aload_n 0, 1) := by decide +kernel
theorem dX10_held_12 : decode cX10_held 12 = .ok (.invokevirtual 335, 3) := by decide +kernel
theorem dX10_held_15 : decode cX10_held 15 = .ok (.i2l, 1) := by decide +kernel
theorem dX10_held_16 : decode cX10_held 16 = .ok (.invokestatic 139, 3) := by decide +kernel
theorem dX10_held_19 : decode cX10_held 19 = .ok (.ifCond .ne 6, 3) := by decide +kernel
theorem dX10_held_22 : decode cX10_held 22 = .ok (.bipush (-2), 2) := by decide +kernel
theorem dX10_held_24 : decode cX10_held 24 = .ok (.ireturn, 1) := by decide +kernel
theorem dX10_held_25 : decode cX10_held 25 = .ok (.iconst 0, 1) := by decide +kernel
theorem dX10_held_26 : decode cX10_held 26 = .ok (.istore_n 3, 1) := by decide +kernel
theorem dX10_held_27 : decode cX10_held 27 = .ok (.iconst 0, 1) := by decide +kernel
theorem dX10_held_28 : decode cX10_held 28 = .ok (.istore 4, 2) := by decide +kernel
theorem dX10_held_30 : decode cX10_held 30 = .ok (.iload 4, 2) := by decide +kernel
theorem dX10_held_32 : decode cX10_held 32 = .ok (.bipush 80, 2) := by decide +kernel
theorem dX10_held_34 : decode cX10_held 34 = .ok (.if_icmp .ge 43, 3) := by decide +kernel
theorem dX10_held_37 : decode cX10_held 37 = .ok (.iload_n 3, 1) := by decide +kernel
theorem dX10_held_38 : decode cX10_held 38 = .ok (.aload_n 0, 1) := by decide +kernel
theorem dX10_held_39 : decode cX10_held 39 = .ok (.getfield 52, 3) := by decide +kernel
theorem dX10_held_42 : decode cX10_held 42 = .ok (.iload 4, 2) := by decide +kernel
theorem dX10_held_44 : decode cX10_held 44 = .ok (.iaload, 1) := by decide +kernel
theorem dX10_held_45 : decode cX10_held 45 = .ok (.iconst (-1), 1) := by decide +kernel
theorem dX10_held_46 : decode cX10_held 46 = .ok (.if_icmp .eq 22, 3) := by decide +kernel
theorem dX10_held_49 : decode cX10_held 49 = .ok (.iload_n 1, 1) := by decide +kernel
theorem dX10_held_50 : decode cX10_held 50 = .ok (.ifCond .eq 14, 3) := by decide +kernel
theorem dX10_held_53 : decode cX10_held 53 = .ok (.iload 4, 2) := by decide +kernel
theorem dX10_held_55 : decode cX10_held 55 = .ok (.bipush 16, 2) := by decide +kernel
theorem dX10_held_57 : decode cX10_held 57 = .ok (.idiv, 1) := by decide +kernel
theorem dX10_held_58 : decode cX10_held 58 = .ok (.iload_n 1, 1) := by decide +kernel
theorem dX10_held_59 : decode cX10_held 59 = .ok (.iconst 1, 1) := by decide +kernel
theorem dX10_held_60 : decode cX10_held 60 = .ok (.isub, 1) := by decide +kernel
theorem dX10_held_61 : decode cX10_held 61 = .ok (.if_icmp .ne 7, 3) := by decide +kernel
theorem dX10_held_64 : decode cX10_held 64 = .ok (.iconst 1, 1) := by decide +kernel
theorem dX10_held_65 : decode cX10_held 65 = .ok (.goto 4, 3) := by decide +kernel
theorem dX10_held_68 : decode cX10_held 68 = .ok (.iconst 0, 1) := by decide +kernel
theorem dX10_held_69 : decode cX10_held 69 = .ok (.iadd, 1) := by decide +kernel
theorem dX10_held_70 : decode cX10_held 70 = .ok (.istore_n 3, 1) := by decide +kernel
theorem dX10_held_71 : decode cX10_held 71 = .ok (.iinc 4 1, 3) := by decide +kernel
theorem dX10_held_74 : decode cX10_held 74 = .ok (.goto (-44), 3) := by decide +kernel
theorem dX10_held_77 : decode cX10_held 77 = .ok (.iload_n 3, 1) := by decide +kernel
theorem dX10_held_78 : decode cX10_held 78 = .ok (.ireturn, 1) := by decide +kernel
theorem dX10_base_0 : decode cX10_base 0 = .ok (.aload_n 0, 1) := by decide +kernel
theorem dX10_base_1 : decode cX10_base 1 = .ok (.iload_n 2, 1) := by decide +kernel
theorem dX10_base_2 : decode cX10_base 2 = .ok (.invokevirtual 499, 3) := by decide +kernel
theorem dX10_base_5 : decode cX10_base 5 = .ok (.ifCond .eq 24, 3) := by decide +kernel
theorem dX10_base_8 : decode cX10_base 8 = .ok (.iload_n 1, 1) := by decide +kernel
theorem dX10_base_9 : decode cX10_base 9 = .ok (.i2l, 1) := by decide +kernel
theorem dX10_base_10 : decode cX10_base 10 = .ok (.lconst 0, 1) := by decide +kernel
theorem dX10_base_11 : decode cX10_base 11 = .ok (.ldc2_w 405, 3) := by decide +kernel
theorem dX10_base_14 : decode cX10_base 14 = .ok (.invokestatic 139, 3) := by decide +kernel
theorem dX10_base_17 : decode cX10_base 17 = .ok (.ifCond .eq 12, 3) := by decide +kernel
theorem dX10_base_20 : decode cX10_base 20 = .ok (.aload_n 0, 1) := by decide +kernel
theorem dX10_base_21 : decode cX10_base 21 = .ok (.getfield 61, 3) := by decide +kernel
theorem dX10_base_24 : decode cX10_base 24 = .ok (.iload_n 1, 1) := by decide +kernel
theorem dX10_base_25 : decode cX10_base 25 = .ok (.iaload, 1) := by decide +kernel
theorem dX10_base_26 : decode cX10_base 26 = .ok (.goto 5, 3) := by decide +kernel
theorem dX10_base_29 : decode cX10_base 29 = .ok (.bipush (-2), 2) := by decide +kernel
theorem dX10_base_31 : decode cX10_base 31 = .ok (.ireturn, 1) := by decide +kernel
theorem dX10_gauge_0 : decode cX10_gauge 0 = .ok (.aload_n 0, 1) := by decide +kernel
theorem dX10_gauge_1 : decode cX10_gauge 1 = .ok (.iload_n 2, 1) := by decide +kernel
theorem dX10_gauge_2 : decode cX10_gauge 2 = .ok (.invokevirtual 499, 3) := by decide +kernel
theorem dX10_gauge_5 : decode cX10_gauge 5 = .ok (.ifCond .eq 15, 3) := by decide +kernel
theorem dX10_gauge_8 : decode cX10_gauge 8 = .ok (.iload_n 1, 1) := by decide +kernel
theorem dX10_gauge_9 : decode cX10_gauge 9 = .ok (.i2l, 1) := by decide +kernel
theorem dX10_gauge_10 : decode cX10_gauge 10 = .ok (.lconst 0, 1) := by decide +kernel
theorem dX10_gauge_11 : decode cX10_gauge 11 = .ok (.ldc2_w 480, 3) := by decide +kernel
theorem dX10_gauge_14 : decode cX10_gauge 14 = .ok (.invokestatic 139, 3) := by decide +kernel
theorem dX10_gauge_17 : decode cX10_gauge 17 = .ok (.ifCond .ne 6, 3) := by decide +kernel
theorem dX10_gauge_20 : decode cX10_gauge 20 = .ok (.bipush (-2), 2) := by decide +kernel
theorem dX10_gauge_22 : decode cX10_gauge 22 = .ok (.ireturn, 1) := by decide +kernel
theorem dX10_gauge_23 : decode cX10_gauge 23 = .ok (.iload_n 1, 1) := by decide +kernel
theorem dX10_gauge_24 : decode cX10_gauge 24 = .ok (.ifCond .ne 10, 3) := by decide +kernel
theorem dX10_gauge_27 : decode cX10_gauge 27 = .ok (.aload_n 0, 1) := by decide +kernel
theorem dX10_gauge_28 : decode cX10_gauge 28 = .ok (.getfield 341, 3) := by decide +kernel
theorem dX10_gauge_31 : decode cX10_gauge 31 = .ok (.goto 31, 3) := by decide +kernel
theorem dX10_gauge_34 : decode cX10_gauge 34 = .ok (.iload_n 1, 1) := by decide +kernel
theorem dX10_gauge_35 : decode cX10_gauge 35 = .ok (.iconst 1, 1) := by decide +kernel
theorem dX10_gauge_36 : decode cX10_gauge 36 = .ok (.if_icmp .ne 10, 3) := by decide +kernel
theorem dX10_gauge_39 : decode cX10_gauge 39 = .ok (.aload_n 0, 1) := by decide +kernel
theorem dX10_gauge_40 : decode cX10_gauge 40 = .ok (.getfield 344, 3) := by decide +kernel
theorem dX10_gauge_43 : decode cX10_gauge 43 = .ok (.goto 19, 3) := by decide +kernel
theorem dX10_gauge_46 : decode cX10_gauge 46 = .ok (.iload_n 1, 1) := by decide +kernel
theorem dX10_gauge_47 : decode cX10_gauge 47 = .ok (.iconst 2, 1) := by decide +kernel
theorem dX10_gauge_48 : decode cX10_gauge 48 = .ok (.if_icmp .ne 10, 3) := by decide +kernel
theorem dX10_gauge_51 : decode cX10_gauge 51 = .ok (.aload_n 0, 1) := by decide +kernel
theorem dX10_gauge_52 : decode cX10_gauge 52 = .ok (.getfield 347, 3) := by decide +kernel
theorem dX10_gauge_55 : decode cX10_gauge 55 = .ok (.goto 7, 3) := by decide +kernel
theorem dX10_gauge_58 : decode cX10_gauge 58 = .ok (.aload_n 0, 1) := by decide +kernel
theorem dX10_gauge_59 : decode cX10_gauge 59 = .ok (.getfield 350, 3) := by decide +kernel
theorem dX10_gauge_62 : decode cX10_gauge 62 = .ok (.ireturn, 1) := by decide +kernel
theorem dX10_loop_0 : decode cX10_loop 0 = .ok (.aload_n 0, 1) := by decide +kernel
theorem dX10_loop_1 : decode cX10_loop 1 = .ok (.iload_n 3, 1) := by decide +kernel
theorem dX10_loop_2 : decode cX10_loop 2 = .ok (.invokevirtual 499, 3) := by decide +kernel
theorem dX10_loop_5 : decode cX10_loop 5 = .ok (.ifCond .eq 15, 3) := by decide +kernel
theorem dX10_loop_8 : decode cX10_loop 8 = .ok (.iload_n 1, 1) := by decide +kernel
theorem dX10_loop_9 : decode cX10_loop 9 = .ok (.i2l, 1) := by decide +kernel
theorem dX10_loop_10 : decode cX10_loop 10 = .ok (.lconst 0, 1) := by decide +kernel
theorem dX10_loop_11 : decode cX10_loop 11 = .ok (.ldc2_w 482, 3) := by decide +kernel
theorem dX10_loop_14 : decode cX10_loop 14 = .ok (.invokestatic 139, 3) := by decide +kernel
theorem dX10_loop_17 : decode cX10_loop 17 = .ok (.ifCond .ne 6, 3) := by decide +kernel
theorem dX10_loop_20 : decode cX10_loop 20 = .ok (.bipush (-2), 2) := by decide +kernel
theorem dX10_loop_22 : decode cX10_loop 22 = .ok (.ireturn, 1) := by decide +kernel
theorem dX10_loop_23 : decode cX10_loop 23 = .ok (.iload_n 2, 1) := by decide +kernel
theorem dX10_loop_24 : decode cX10_loop 24 = .ok (.tableswitch 71 0 4 #[36, 43, 50, 57, 64], 36) := by decide +kernel
theorem dX10_loop_60 : decode cX10_loop 60 = .ok (.aload_n 0, 1) := by decide +kernel
theorem dX10_loop_61 : decode cX10_loop 61 = .ok (.getfield 64, 3) := by decide +kernel
theorem dX10_loop_64 : decode cX10_loop 64 = .ok (.iload_n 1, 1) := by decide +kernel
theorem dX10_loop_65 : decode cX10_loop 65 = .ok (.iaload, 1) := by decide +kernel
theorem dX10_loop_66 : decode cX10_loop 66 = .ok (.ireturn, 1) := by decide +kernel
theorem dX10_loop_67 : decode cX10_loop 67 = .ok (.aload_n 0, 1) := by decide +kernel
theorem dX10_loop_68 : decode cX10_loop 68 = .ok (.getfield 67, 3) := by decide +kernel
theorem dX10_loop_71 : decode cX10_loop 71 = .ok (.iload_n 1, 1) := by decide +kernel
theorem dX10_loop_72 : decode cX10_loop 72 = .ok (.iaload, 1) := by decide +kernel
theorem dX10_loop_73 : decode cX10_loop 73 = .ok (.ireturn, 1) := by decide +kernel
theorem dX10_loop_74 : decode cX10_loop 74 = .ok (.aload_n 0, 1) := by decide +kernel
theorem dX10_loop_75 : decode cX10_loop 75 = .ok (.getfield 70, 3) := by decide +kernel
theorem dX10_loop_78 : decode cX10_loop 78 = .ok (.iload_n 1, 1) := by decide +kernel
theorem dX10_loop_79 : decode cX10_loop 79 = .ok (.iaload, 1) := by decide +kernel
theorem dX10_loop_80 : decode cX10_loop 80 = .ok (.ireturn, 1) := by decide +kernel
theorem dX10_loop_81 : decode cX10_loop 81 = .ok (.aload_n 0, 1) := by decide +kernel
theorem dX10_loop_82 : decode cX10_loop 82 = .ok (.getfield 73, 3) := by decide +kernel
theorem dX10_loop_85 : decode cX10_loop 85 = .ok (.iload_n 1, 1) := by decide +kernel
theorem dX10_loop_86 : decode cX10_loop 86 = .ok (.iaload, 1) := by decide +kernel
theorem dX10_loop_87 : decode cX10_loop 87 = .ok (.ireturn, 1) := by decide +kernel
theorem dX10_loop_88 : decode cX10_loop 88 = .ok (.aload_n 0, 1) := by decide +kernel
theorem dX10_loop_89 : decode cX10_loop 89 = .ok (.getfield 76, 3) := by decide +kernel
theorem dX10_loop_92 : decode cX10_loop 92 = .ok (.iload_n 1, 1) := by decide +kernel
theorem dX10_loop_93 : decode cX10_loop 93 = .ok (.iaload, 1) := by decide +kernel
theorem dX10_loop_94 : decode cX10_loop 94 = .ok (.ireturn, 1) := by decide +kernel
theorem dX10_loop_95 : decode cX10_loop 95 = .ok (.bipush (-2), 2) := by decide +kernel
theorem dX10_loop_97 : decode cX10_loop 97 = .ok (.ireturn, 1) := by decide +kernel
theorem dX10_corrector_0 : decode cX10_corrector 0 = .ok (.aload_n 0, 1) := by decide +kernel
theorem dX10_corrector_1 : decode cX10_corrector 1 = .ok (.iload_n 3, 1) := by decide +kernel
theorem dX10_corrector_2 : decode cX10_corrector 2 = .ok (.invokevirtual 499, 3) := by decide +kernel
theorem dX10_corrector_5 : decode cX10_corrector 5 = .ok (.ifCond .eq 41, 3) := by decide +kernel
theorem dX10_corrector_8 : decode cX10_corrector 8 = .ok (.iload_n 1, 1) := by decide +kernel
theorem dX10_corrector_9 : decode cX10_corrector 9 = .ok (.i2l, 1) := by decide +kernel
theorem dX10_corrector_10 : decode cX10_corrector 10 = .ok (.lconst 0, 1) := by decide +kernel
theorem dX10_corrector_11 : decode cX10_corrector 11 = .ok (.ldc2_w 137, 3) := by decide +kernel
theorem dX10_corrector_14 : decode cX10_corrector 14 = .ok (.invokestatic 139, 3) := by decide +kernel
theorem dX10_corrector_17 : decode cX10_corrector 17 = .ok (.ifCond .eq 29, 3) := by decide +kernel
theorem dX10_corrector_20 : decode cX10_corrector 20 = .ok (.iload_n 2, 1) := by decide +kernel
theorem dX10_corrector_21 : decode cX10_corrector 21 = .ok (.i2l, 1) := by decide +kernel
theorem dX10_corrector_22 : decode cX10_corrector 22 = .ok (.lconst 0, 1) := by decide +kernel
theorem dX10_corrector_23 : decode cX10_corrector 23 = .ok (.ldc2_w 405, 3) := by decide +kernel
theorem dX10_corrector_26 : decode cX10_corrector 26 = .ok (.invokestatic 139, 3) := by decide +kernel
theorem dX10_corrector_29 : decode cX10_corrector 29 = .ok (.ifCond .eq 17, 3) := by decide +kernel
theorem dX10_corrector_32 : decode cX10_corrector 32 = .ok (.aload_n 0, 1) := by decide +kernel
theorem dX10_corrector_33 : decode cX10_corrector 33 = .ok (.getfield 79, 3) := by decide +kernel
theorem dX10_corrector_36 : decode cX10_corrector 36 = .ok (.bipush 16, 2) := by decide +kernel
theorem dX10_corrector_38 : decode cX10_corrector 38 = .ok (.iload_n 1, 1) := by decide +kernel
theorem dX10_corrector_39 : decode cX10_corrector 39 = .ok (.imul, 1) := by decide +kernel
theorem dX10_corrector_40 : decode cX10_corrector 40 = .ok (.iload_n 2, 1) := by decide +kernel
theorem dX10_corrector_41 : decode cX10_corrector 41 = .ok (.iadd, 1) := by decide +kernel
theorem dX10_corrector_42 : decode cX10_corrector 42 = .ok (.iaload, 1) := by decide +kernel
theorem dX10_corrector_43 : decode cX10_corrector 43 = .ok (.goto 6, 3) := by decide +kernel
theorem dX10_corrector_46 : decode cX10_corrector 46 = .ok (.sipush (-1000), 3) := by decide +kernel
theorem dX10_corrector_49 : decode cX10_corrector 49 = .ok (.ireturn, 1) := by decide +kernel
theorem dX10_clash_0 : decode cX10_clash 0 = .ok (.aload_n 0, 1) := by decide +kernel
theorem dX10_clash_1 : decode cX10_clash 1 = .ok (.iload_n 3, 1) := by decide +kernel
theorem dX10_clash_2 : decode cX10_clash 2 = .ok (.invokevirtual 499, 3) := by decide +kernel
theorem dX10_clash_5 : decode cX10_clash 5 = .ok (.ifCond .eq 19, 3) := by decide +kernel
theorem dX10_clash_8 : decode cX10_clash 8 = .ok (.iload_n 1, 1) := by decide +kernel
theorem dX10_clash_9 : decode cX10_clash 9 = .ok (.i2l, 1) := by decide +kernel
theorem dX10_clash_10 : decode cX10_clash 10 = .ok (.invokestatic 492, 3) := by decide +kernel
theorem dX10_clash_13 : decode cX10_clash 13 = .ok (.ifCond .eq 11, 3) := by decide +kernel
theorem dX10_clash_16 : decode cX10_clash 16 = .ok (.iload_n 2, 1) := by decide +kernel
theorem dX10_clash_17 : decode cX10_clash 17 = .ok (.i2l, 1) := by decide +kernel
theorem dX10_clash_18 : decode cX10_clash 18 = .ok (.invokestatic 492, 3) := by decide +kernel
theorem dX10_clash_21 : decode cX10_clash 21 = .ok (.ifCond .ne 6, 3) := by decide +kernel
theorem dX10_clash_24 : decode cX10_clash 24 = .ok (.bipush (-2), 2) := by decide +kernel
theorem dX10_clash_26 : decode cX10_clash 26 = .ok (.ireturn, 1) := by decide +kernel
theorem dX10_clash_27 : decode cX10_clash 27 = .ok (.iconst 0, 1) := by decide +kernel
theorem dX10_clash_28 : decode cX10_clash 28 = .ok (.istore 4, 2) := by decide +kernel
theorem dX10_clash_30 : decode cX10_clash 30 = .ok (.iconst 1, 1) := by decide +kernel
theorem dX10_clash_31 : decode cX10_clash 31 = .ok (.istore 5, 2) := by decide +kernel
theorem dX10_clash_33 : decode cX10_clash 33 = .ok (.iload 5, 2) := by decide +kernel
theorem dX10_clash_35 : decode cX10_clash 35 = .ok (.aload_n 0, 1) := by decide +kernel
theorem dX10_clash_36 : decode cX10_clash 36 = .ok (.invokevirtual 335, 3) := by decide +kernel
theorem dX10_clash_39 : decode cX10_clash 39 = .ok (.if_icmp .gt 53, 3) := by decide +kernel
theorem dX10_clash_42 : decode cX10_clash 42 = .ok (.iload 4, 2) := by decide +kernel
theorem dX10_clash_44 : decode cX10_clash 44 = .ok (.aload_n 0, 1) := by decide +kernel
theorem dX10_clash_45 : decode cX10_clash 45 = .ok (.iload 5, 2) := by decide +kernel
theorem dX10_clash_47 : decode cX10_clash 47 = .ok (.iload_n 1, 1) := by decide +kernel
theorem dX10_clash_48 : decode cX10_clash 48 = .ok (.invokevirtual 369, 3) := by decide +kernel
theorem dX10_clash_51 : decode cX10_clash 51 = .ok (.aload_n 0, 1) := by decide +kernel
theorem dX10_clash_52 : decode cX10_clash 52 = .ok (.iload 5, 2) := by decide +kernel
theorem dX10_clash_54 : decode cX10_clash 54 = .ok (.iload_n 2, 1) := by decide +kernel
theorem dX10_clash_55 : decode cX10_clash 55 = .ok (.invokevirtual 369, 3) := by decide +kernel
theorem dX10_clash_58 : decode cX10_clash 58 = .ok (.if_icmp .ne 24, 3) := by decide +kernel
theorem dX10_clash_61 : decode cX10_clash 61 = .ok (.aload_n 0, 1) := by decide +kernel
theorem dX10_clash_62 : decode cX10_clash 62 = .ok (.iload 5, 2) := by decide +kernel
theorem dX10_clash_64 : decode cX10_clash 64 = .ok (.iload_n 1, 1) := by decide +kernel
theorem dX10_clash_65 : decode cX10_clash 65 = .ok (.invokevirtual 372, 3) := by decide +kernel
theorem dX10_clash_68 : decode cX10_clash 68 = .ok (.aload_n 0, 1) := by decide +kernel
theorem dX10_clash_69 : decode cX10_clash 69 = .ok (.iload 5, 2) := by decide +kernel
theorem dX10_clash_71 : decode cX10_clash 71 = .ok (.iload_n 2, 1) := by decide +kernel
theorem dX10_clash_72 : decode cX10_clash 72 = .ok (.invokevirtual 372, 3) := by decide +kernel
theorem dX10_clash_75 : decode cX10_clash 75 = .ok (.if_icmp .ne 7, 3) := by decide +kernel
theorem dX10_clash_78 : decode cX10_clash 78 = .ok (.iconst 1, 1) := by decide +kernel
theorem dX10_clash_79 : decode cX10_clash 79 = .ok (.goto 4, 3) := by decide +kernel
theorem dX10_clash_82 : decode cX10_clash 82 = .ok (.iconst 0, 1) := by decide +kernel
theorem dX10_clash_83 : decode cX10_clash 83 = .ok (.iadd, 1) := by decide +kernel
theorem dX10_clash_84 : decode cX10_clash 84 = .ok (.istore 4, 2) := by decide +kernel
theorem dX10_clash_86 : decode cX10_clash 86 = .ok (.iinc 5 1, 3) := by decide +kernel
theorem dX10_clash_89 : decode cX10_clash 89 = .ok (.goto (-56), 3) := by decide +kernel
theorem dX10_clash_92 : decode cX10_clash 92 = .ok (.iload 4, 2) := by decide +kernel
theorem dX10_clash_94 : decode cX10_clash 94 = .ok (.ireturn, 1) := by decide +kernel
theorem dX10_isPlain_0 : decode cX10_isPlain 0 = .ok (.aload_n 0, 1) := by decide +kernel
theorem dX10_isPlain_1 : decode cX10_isPlain 1 = .ok (.iload_n 1, 1) := by decide +kernel
theorem dX10_isPlain_2 : decode cX10_isPlain 2 = .ok (.invokevirtual 314, 3) := by decide +kernel
theorem dX10_isPlain_5 : decode cX10_isPlain 5 = .ok (.ifCond .eq 28, 3) := by decide +kernel
theorem dX10_isPlain_8 : decode cX10_isPlain 8 = .ok (.aload_n 0, 1) := by decide +kernel
theorem dX10_isPlain_9 : decode cX10_isPlain 9 = .ok (.iload_n 1, 1) := by decide +kernel
theorem dX10_isPlain_10 : decode cX10_isPlain 10 = .ok (.invokevirtual 283, 3) := by decide +kernel
theorem dX10_isPlain_13 : decode cX10_isPlain 13 = .ok (.invokestatic 295, 3) := by decide +kernel
theorem dX10_isPlain_16 : decode cX10_isPlain 16 = .ok (.ifCond .ne 17, 3) := by decide +kernel
theorem dX10_isPlain_19 : decode cX10_isPlain 19 = .ok (.aload_n 0, 1) := by decide +kernel
theorem dX10_isPlain_20 : decode cX10_isPlain 20 = .ok (.iload_n 1, 1) := by decide +kernel
theorem dX10_isPlain_21 : decode cX10_isPlain 21 = .ok (.invokevirtual 283, 3) := by decide +kernel
theorem dX10_isPlain_24 : decode cX10_isPlain 24 = .ok (.bipush 10, 2) := by decide +kernel
theorem dX10_isPlain_26 : decode cX10_isPlain 26 = .ok (.if_icmp .eq 7, 3) := by decide +kernel
theorem dX10_isPlain_29 : decode cX10_isPlain 29 = .ok (.iconst 1, 1) := by decide +kernel
theorem dX10_isPlain_30 : decode cX10_isPlain 30 = .ok (.goto 4, 3) := by decide +kernel
theorem dX10_isPlain_33 : decode cX10_isPlain 33 = .ok (.iconst 0, 1) := by decide +kernel
theorem dX10_isPlain_34 : decode cX10_isPlain 34 = .ok (.ireturn, 1) := by decide +kernel
theorem dX10_goAstray_0 : decode cX10_goAstray 0 = .ok (.aload_n 0, 1) := by decide +kernel
theorem dX10_goAstray_1 : decode cX10_goAstray 1 = .ok (.getfield 40, 3) := by decide +kernel
theorem dX10_goAstray_4 : decode cX10_goAstray 4 = .ok (.iload_n 1, 1) := by decide +kernel
theorem dX10_goAstray_5 : decode cX10_goAstray 5 = .ok (.iaload, 1) := by decide +kernel
theorem dX10_goAstray_6 : decode cX10_goAstray 6 = .ok (.istore_n 2, 1) := by decide +kernel
theorem dX10_goAstray_7 : decode cX10_goAstray 7 = .ok (.aload_n 0, 1) := by decide +kernel
theorem dX10_goAstray_8 : decode cX10_goAstray 8 = .ok (.getfield 91, 3) := by decide +kernel
theorem dX10_goAstray_11 : decode cX10_goAstray 11 = .ok (.iload_n 1, 1) := by decide +kernel
theorem dX10_goAstray_12 : decode cX10_goAstray 12 = .ok (.iaload, 1) := by decide +kernel
theorem dX10_goAstray_13 : decode cX10_goAstray 13 = .ok (.iconst 1, 1) := by decide +kernel
theorem dX10_goAstray_14 : decode cX10_goAstray 14 = .ok (.if_icmp .ne 11, 3) := by decide +kernel
theorem dX10_goAstray_17 : decode cX10_goAstray 17 = .ok (.aload_n 0, 1) := by decide +kernel
theorem dX10_goAstray_18 : decode cX10_goAstray 18 = .ok (.iload_n 2, 1) := by decide +kernel
theorem dX10_goAstray_19 : decode cX10_goAstray 19 = .ok (.invokevirtual 307, 3) := by decide +kernel
theorem dX10_goAstray_22 : decode cX10_goAstray 22 = .ok (.goto 6, 3) := by decide +kernel
theorem dX10_goAstray_25 : decode cX10_goAstray 25 = .ok (.iload_n 2, 1) := by decide +kernel
theorem dX10_goAstray_26 : decode cX10_goAstray 26 = .ok (.iconst 1, 1) := by decide +kernel
theorem dX10_goAstray_27 : decode cX10_goAstray 27 = .ok (.iadd, 1) := by decide +kernel
theorem dX10_goAstray_28 : decode cX10_goAstray 28 = .ok (.istore_n 3, 1) := by decide +kernel
theorem dX10_goAstray_29 : decode cX10_goAstray 29 = .ok (.iconst 0, 1) := by decide +kernel
theorem dX10_goAstray_30 : decode cX10_goAstray 30 = .ok (.istore 4, 2) := by decide +kernel
theorem dX10_goAstray_32 : decode cX10_goAstray 32 = .ok (.iconst 0, 1) := by decide +kernel
theorem dX10_goAstray_33 : decode cX10_goAstray 33 = .ok (.istore 5, 2) := by decide +kernel
theorem dX10_goAstray_35 : decode cX10_goAstray 35 = .ok (.iload 5, 2) := by decide +kernel
theorem dX10_goAstray_37 : decode cX10_goAstray 37 = .ok (.bipush 8, 2) := by decide +kernel
theorem dX10_goAstray_39 : decode cX10_goAstray 39 = .ok (.if_icmp .ge 33, 3) := by decide +kernel
theorem dX10_goAstray_42 : decode cX10_goAstray 42 = .ok (.aload_n 0, 1) := by decide +kernel
theorem dX10_goAstray_43 : decode cX10_goAstray 43 = .ok (.getfield 109, 3) := by decide +kernel
theorem dX10_goAstray_46 : decode cX10_goAstray 46 = .ok (.iload 5, 2) := by decide +kernel
theorem dX10_goAstray_48 : decode cX10_goAstray 48 = .ok (.aload_n 0, 1) := by decide +kernel
theorem dX10_goAstray_49 : decode cX10_goAstray 49 = .ok (.getfield 34, 3) := by decide +kernel
theorem dX10_goAstray_52 : decode cX10_goAstray 52 = .ok (.bipush 8, 2) := by decide +kernel
theorem dX10_goAstray_54 : decode cX10_goAstray 54 = .ok (.aload_n 0, 1) := by decide +kernel
theorem dX10_goAstray_55 : decode cX10_goAstray 55 = .ok (.getfield 46, 3) := by decide +kernel
theorem dX10_goAstray_58 : decode cX10_goAstray 58 = .ok (.iload_n 1, 1) := by decide +kernel
theorem dX10_goAstray_59 : decode cX10_goAstray 59 = .ok (.iaload, 1) := by decide +kernel
theorem dX10_goAstray_60 : decode cX10_goAstray 60 = .ok (.imul, 1) := by decide +kernel
theorem dX10_goAstray_61 : decode cX10_goAstray 61 = .ok (.iload 5, 2) := by decide +kernel
theorem dX10_goAstray_63 : decode cX10_goAstray 63 = .ok (.iadd, 1) := by decide +kernel
theorem dX10_goAstray_64 : decode cX10_goAstray 64 = .ok (.iaload, 1) := by decide +kernel
theorem dX10_goAstray_65 : decode cX10_goAstray 65 = .ok (.iastore, 1) := by decide +kernel
theorem dX10_goAstray_66 : decode cX10_goAstray 66 = .ok (.iinc 5 1, 3) := by decide +kernel
theorem dX10_goAstray_69 : decode cX10_goAstray 69 = .ok (.goto (-34), 3) := by decide +kernel
theorem dX10_goAstray_72 : decode cX10_goAstray 72 = .ok (.iload 4, 2) := by decide +kernel
theorem dX10_goAstray_74 : decode cX10_goAstray 74 = .ok (.aload_n 0, 1) := by decide +kernel
theorem dX10_goAstray_75 : decode cX10_goAstray 75 = .ok (.getfield 9, 3) := by decide +kernel
theorem dX10_goAstray_78 : decode cX10_goAstray 78 = .ok (.iconst 4, 1) := by decide +kernel
theorem dX10_goAstray_79 : decode cX10_goAstray 79 = .ok (.iaload, 1) := by decide +kernel
theorem dX10_goAstray_80 : decode cX10_goAstray 80 = .ok (.if_icmp .ge 74, 3) := by decide +kernel
theorem dX10_goAstray_83 : decode cX10_goAstray 83 = .ok (.aload_n 0, 1) := by decide +kernel
theorem dX10_goAstray_84 : decode cX10_goAstray 84 = .ok (.iload_n 3, 1) := by decide +kernel
theorem dX10_goAstray_85 : decode cX10_goAstray 85 = .ok (.invokevirtual 514, 3) := by decide +kernel
theorem dX10_goAstray_88 : decode cX10_goAstray 88 = .ok (.ifCond .eq 66, 3) := by decide +kernel
theorem dX10_goAstray_91 : decode cX10_goAstray 91 = .ok (.aload_n 0, 1) := by decide +kernel
theorem dX10_goAstray_92 : decode cX10_goAstray 92 = .ok (.iload_n 3, 1) := by decide +kernel
theorem dX10_goAstray_93 : decode cX10_goAstray 93 = .ok (.invokevirtual 283, 3) := by decide +kernel
theorem dX10_goAstray_96 : decode cX10_goAstray 96 = .ok (.bipush 9, 2) := by decide +kernel
theorem dX10_goAstray_98 : decode cX10_goAstray 98 = .ok (.if_icmp .eq 28, 3) := by decide +kernel
theorem dX10_goAstray_101 : decode cX10_goAstray 101 = .ok (.aload_n 0, 1) := by decide +kernel
theorem dX10_goAstray_102 : decode cX10_goAstray 102 = .ok (.iload_n 3, 1) := by decide +kernel
theorem dX10_goAstray_103 : decode cX10_goAstray 103 = .ok (.invokevirtual 283, 3) := by decide +kernel
theorem dX10_goAstray_106 : decode cX10_goAstray 106 = .ok (.aload_n 0, 1) := by decide +kernel
theorem dX10_goAstray_107 : decode cX10_goAstray 107 = .ok (.iload_n 3, 1) := by decide +kernel
theorem dX10_goAstray_108 : decode cX10_goAstray 108 = .ok (.iconst 0, 1) := by decide +kernel
theorem dX10_goAstray_109 : decode cX10_goAstray 109 = .ok (.invokevirtual 286, 3) := by decide +kernel
theorem dX10_goAstray_112 : decode cX10_goAstray 112 = .ok (.aload_n 0, 1) := by decide +kernel
theorem dX10_goAstray_113 : decode cX10_goAstray 113 = .ok (.iload_n 3, 1) := by decide +kernel
theorem dX10_goAstray_114 : decode cX10_goAstray 114 = .ok (.iconst 1, 1) := by decide +kernel
theorem dX10_goAstray_115 : decode cX10_goAstray 115 = .ok (.invokevirtual 286, 3) := by decide +kernel
theorem dX10_goAstray_118 : decode cX10_goAstray 118 = .ok (.aload_n 0, 1) := by decide +kernel
theorem dX10_goAstray_119 : decode cX10_goAstray 119 = .ok (.getfield 109, 3) := by decide +kernel
theorem dX10_goAstray_122 : decode cX10_goAstray 122 = .ok (.iconst 0, 1) := by decide +kernel
theorem dX10_goAstray_123 : decode cX10_goAstray 123 = .ok (.invokestatic 310, 3) := by decide +kernel
theorem dX10_goAstray_126 : decode cX10_goAstray 126 = .ok (.aload_n 0, 1) := by decide +kernel
theorem dX10_goAstray_127 : decode cX10_goAstray 127 = .ok (.iload_n 3, 1) := by decide +kernel
theorem dX10_goAstray_128 : decode cX10_goAstray 128 = .ok (.invokevirtual 283, 3) := by decide +kernel
theorem dX10_goAstray_131 : decode cX10_goAstray 131 = .ok (.bipush 9, 2) := by decide +kernel
theorem dX10_goAstray_133 : decode cX10_goAstray 133 = .ok (.if_icmp .ne 11, 3) := by decide +kernel
theorem dX10_goAstray_136 : decode cX10_goAstray 136 = .ok (.aload_n 0, 1) := by decide +kernel
theorem dX10_goAstray_137 : decode cX10_goAstray 137 = .ok (.iload_n 3, 1) := by decide +kernel
theorem dX10_goAstray_138 : decode cX10_goAstray 138 = .ok (.invokevirtual 307, 3) := by decide +kernel
theorem dX10_goAstray_141 : decode cX10_goAstray 141 = .ok (.goto 6, 3) := by decide +kernel
theorem dX10_goAstray_144 : decode cX10_goAstray 144 = .ok (.iload_n 3, 1) := by decide +kernel
theorem dX10_goAstray_145 : decode cX10_goAstray 145 = .ok (.iconst 1, 1) := by decide +kernel
theorem dX10_goAstray_146 : decode cX10_goAstray 146 = .ok (.iadd, 1) := by decide +kernel
theorem dX10_goAstray_147 : decode cX10_goAstray 147 = .ok (.istore_n 3, 1) := by decide +kernel
theorem dX10_goAstray_148 : decode cX10_goAstray 148 = .ok (.iinc 4 1, 3) := by decide +kernel
theorem dX10_goAstray_151 : decode cX10_goAstray 151 = .ok (.goto (-79), 3) := by decide +kernel
theorem dX10_goAstray_154 : decode cX10_goAstray 154 = .ok (.iload 4, 2) := by decide +kernel
theorem dX10_goAstray_156 : decode cX10_goAstray 156 = .ok (.ireturn, 1) := by decide +kernel
theorem dX10_isOfRun_0 : decode cX10_isOfRun 0 = .ok (.iload_n 1, 1) := by decide +kernel
theorem dX10_isOfRun_1 : decode cX10_isOfRun 1 = .ok (.i2l, 1) := by decide +kernel
theorem dX10_isOfRun_2 : decode cX10_isOfRun 2 = .ok (.lconst 0, 1) := by decide +kernel
theorem dX10_isOfRun_3 : decode cX10_isOfRun 3 = .ok (.aload_n 0, 1) := by decide +kernel
theorem dX10_isOfRun_4 : decode cX10_isOfRun 4 = .ok (.getfield 326, 3) := by decide +kernel
theorem dX10_isOfRun_7 : decode cX10_isOfRun 7 = .ok (.iconst 1, 1) := by decide +kernel
theorem dX10_isOfRun_8 : decode cX10_isOfRun 8 = .ok (.isub, 1) := by decide +kernel
theorem dX10_isOfRun_9 : decode cX10_isOfRun 9 = .ok (.i2l, 1) := by decide +kernel
theorem dX10_isOfRun_10 : decode cX10_isOfRun 10 = .ok (.invokestatic 139, 3) := by decide +kernel
theorem dX10_isOfRun_13 : decode cX10_isOfRun 13 = .ok (.ireturn, 1) := by decide +kernel
theorem dX10_strays_0 : decode cX10_strays 0 = .ok (.aload_n 0, 1) := by decide +kernel
theorem dX10_strays_1 : decode cX10_strays 1 = .ok (.invokevirtual 484, 3) := by decide +kernel
theorem dX10_strays_4 : decode cX10_strays 4 = .ok (.ifCond .eq 11, 3) := by decide +kernel
theorem dX10_strays_7 : decode cX10_strays 7 = .ok (.aload_n 0, 1) := by decide +kernel
theorem dX10_strays_8 : decode cX10_strays 8 = .ok (.iload_n 1, 1) := by decide +kernel
theorem dX10_strays_9 : decode cX10_strays 9 = .ok (.invokevirtual 517, 3) := by decide +kernel
theorem dX10_strays_12 : decode cX10_strays 12 = .ok (.ifCond .ne 6, 3) := by decide +kernel
theorem dX10_strays_15 : decode cX10_strays 15 = .ok (.bipush (-2), 2) := by decide +kernel
theorem dX10_strays_17 : decode cX10_strays 17 = .ok (.ireturn, 1) := by decide +kernel
theorem dX10_strays_18 : decode cX10_strays 18 = .ok (.aload_n 0, 1) := by decide +kernel
theorem dX10_strays_19 : decode cX10_strays 19 = .ok (.iload_n 1, 1) := by decide +kernel
theorem dX10_strays_20 : decode cX10_strays 20 = .ok (.invokevirtual 477, 3) := by decide +kernel
theorem dX10_strays_23 : decode cX10_strays 23 = .ok (.ifCond .eq 11, 3) := by decide +kernel
theorem dX10_strays_26 : decode cX10_strays 26 = .ok (.aload_n 0, 1) := by decide +kernel
theorem dX10_strays_27 : decode cX10_strays 27 = .ok (.iload_n 1, 1) := by decide +kernel
theorem dX10_strays_28 : decode cX10_strays 28 = .ok (.invokevirtual 520, 3) := by decide +kernel
theorem dX10_strays_31 : decode cX10_strays 31 = .ok (.goto 4, 3) := by decide +kernel
theorem dX10_strays_34 : decode cX10_strays 34 = .ok (.iconst 0, 1) := by decide +kernel
theorem dX10_strays_35 : decode cX10_strays 35 = .ok (.ireturn, 1) := by decide +kernel
theorem dX10_stray_0 : decode cX10_stray 0 = .ok (.aload_n 0, 1) := by decide +kernel
theorem dX10_stray_1 : decode cX10_stray 1 = .ok (.invokevirtual 484, 3) := by decide +kernel
theorem dX10_stray_4 : decode cX10_stray 4 = .ok (.ifCond .eq 23, 3) := by decide +kernel
theorem dX10_stray_7 : decode cX10_stray 7 = .ok (.aload_n 0, 1) := by decide +kernel
theorem dX10_stray_8 : decode cX10_stray 8 = .ok (.iload_n 1, 1) := by decide +kernel
theorem dX10_stray_9 : decode cX10_stray 9 = .ok (.invokevirtual 517, 3) := by decide +kernel
theorem dX10_stray_12 : decode cX10_stray 12 = .ok (.ifCond .eq 15, 3) := by decide +kernel
theorem dX10_stray_15 : decode cX10_stray 15 = .ok (.iload_n 2, 1) := by decide +kernel
theorem dX10_stray_16 : decode cX10_stray 16 = .ok (.i2l, 1) := by decide +kernel
theorem dX10_stray_17 : decode cX10_stray 17 = .ok (.lconst 0, 1) := by decide +kernel
theorem dX10_stray_18 : decode cX10_stray 18 = .ok (.ldc2_w 482, 3) := by decide +kernel
theorem dX10_stray_21 : decode cX10_stray 21 = .ok (.invokestatic 139, 3) := by decide +kernel
theorem dX10_stray_24 : decode cX10_stray 24 = .ok (.ifCond .ne 6, 3) := by decide +kernel
theorem dX10_stray_27 : decode cX10_stray 27 = .ok (.bipush (-2), 2) := by decide +kernel
theorem dX10_stray_29 : decode cX10_stray 29 = .ok (.ireturn, 1) := by decide +kernel
theorem dX10_stray_30 : decode cX10_stray 30 = .ok (.aload_n 0, 1) := by decide +kernel
theorem dX10_stray_31 : decode cX10_stray 31 = .ok (.iload_n 1, 1) := by decide +kernel
theorem dX10_stray_32 : decode cX10_stray 32 = .ok (.invokevirtual 477, 3) := by decide +kernel
theorem dX10_stray_35 : decode cX10_stray 35 = .ok (.ifCond .ne 5, 3) := by decide +kernel
theorem dX10_stray_38 : decode cX10_stray 38 = .ok (.iconst (-1), 1) := by decide +kernel
theorem dX10_stray_39 : decode cX10_stray 39 = .ok (.ireturn, 1) := by decide +kernel
theorem dX10_stray_40 : decode cX10_stray 40 = .ok (.aload_n 0, 1) := by decide +kernel
theorem dX10_stray_41 : decode cX10_stray 41 = .ok (.iload_n 1, 1) := by decide +kernel
theorem dX10_stray_42 : decode cX10_stray 42 = .ok (.invokevirtual 520, 3) := by decide +kernel
theorem dX10_stray_45 : decode cX10_stray 45 = .ok (.pop, 1) := by decide +kernel
theorem dX10_stray_46 : decode cX10_stray 46 = .ok (.aload_n 0, 1) := by decide +kernel
theorem dX10_stray_47 : decode cX10_stray 47 = .ok (.getfield 109, 3) := by decide +kernel
theorem dX10_stray_50 : decode cX10_stray 50 = .ok (.iload_n 2, 1) := by decide +kernel
theorem dX10_stray_51 : decode cX10_stray 51 = .ok (.iaload, 1) := by decide +kernel
theorem dX10_stray_52 : decode cX10_stray 52 = .ok (.ireturn, 1) := by decide +kernel
theorem dX10_costNow_0 : decode cX10_costNow 0 = .ok (.aload_n 0, 1) := by decide +kernel
theorem dX10_costNow_1 : decode cX10_costNow 1 = .ok (.getfield 292, 3) := by decide +kernel
theorem dX10_costNow_4 : decode cX10_costNow 4 = .ok (.istore_n 1, 1) := by decide +kernel
theorem dX10_costNow_5 : decode cX10_costNow 5 = .ok (.iconst 0, 1) := by decide +kernel
theorem dX10_costNow_6 : decode cX10_costNow 6 = .ok (.istore_n 2, 1) := by decide +kernel
theorem dX10_costNow_7 : decode cX10_costNow 7 = .ok (.iload_n 2, 1) := by decide +kernel
theorem dX10_costNow_8 : decode cX10_costNow 8 = .ok (.aload_n 0, 1) := by decide +kernel
theorem dX10_costNow_9 : decode cX10_costNow 9 = .ok (.getfield 326, 3) := by decide +kernel
theorem dX10_costNow_12 : decode cX10_costNow 12 = .ok (.if_icmp .ge 32, 3) := by decide +kernel
theorem dX10_costNow_15 : decode cX10_costNow 15 = .ok (.aload_n 0, 1) := by decide +kernel
theorem dX10_costNow_16 : decode cX10_costNow 16 = .ok (.iload_n 2, 1) := by decide +kernel
theorem dX10_costNow_17 : decode cX10_costNow 17 = .ok (.invokevirtual 477, 3) := by decide +kernel
theorem dX10_costNow_20 : decode cX10_costNow 20 = .ok (.ifCond .eq 18, 3) := by decide +kernel
theorem dX10_costNow_23 : decode cX10_costNow 23 = .ok (.iload_n 1, 1) := by decide +kernel
theorem dX10_costNow_24 : decode cX10_costNow 24 = .ok (.aload_n 0, 1) := by decide +kernel
theorem dX10_costNow_25 : decode cX10_costNow 25 = .ok (.getfield 9, 3) := by decide +kernel
theorem dX10_costNow_28 : decode cX10_costNow 28 = .ok (.iconst 3, 1) := by decide +kernel
theorem dX10_costNow_29 : decode cX10_costNow 29 = .ok (.iaload, 1) := by decide +kernel
theorem dX10_costNow_30 : decode cX10_costNow 30 = .ok (.aload_n 0, 1) := by decide +kernel
theorem dX10_costNow_31 : decode cX10_costNow 31 = .ok (.iload_n 2, 1) := by decide +kernel
theorem dX10_costNow_32 : decode cX10_costNow 32 = .ok (.invokevirtual 520, 3) := by decide +kernel
theorem dX10_costNow_35 : decode cX10_costNow 35 = .ok (.iadd, 1) := by decide +kernel
theorem dX10_costNow_36 : decode cX10_costNow 36 = .ok (.iadd, 1) := by decide +kernel
theorem dX10_costNow_37 : decode cX10_costNow 37 = .ok (.istore_n 1, 1) := by decide +kernel
theorem dX10_costNow_38 : decode cX10_costNow 38 = .ok (.iinc 2 1, 3) := by decide +kernel
theorem dX10_costNow_41 : decode cX10_costNow 41 = .ok (.goto (-34), 3) := by decide +kernel
theorem dX10_costNow_44 : decode cX10_costNow 44 = .ok (.iload_n 1, 1) := by decide +kernel
theorem dX10_costNow_45 : decode cX10_costNow 45 = .ok (.ireturn, 1) := by decide +kernel
theorem dX10_cycles_0 : decode cX10_cycles 0 = .ok (.aload_n 0, 1) := by decide +kernel
theorem dX10_cycles_1 : decode cX10_cycles 1 = .ok (.invokevirtual 484, 3) := by decide +kernel
theorem dX10_cycles_4 : decode cX10_cycles 4 = .ok (.ifCond .eq 10, 3) := by decide +kernel
theorem dX10_cycles_7 : decode cX10_cycles 7 = .ok (.aload_n 0, 1) := by decide +kernel
theorem dX10_cycles_8 : decode cX10_cycles 8 = .ok (.invokevirtual 523, 3) := by decide +kernel
theorem dX10_cycles_11 : decode cX10_cycles 11 = .ok (.goto 5, 3) := by decide +kernel
theorem dX10_cycles_14 : decode cX10_cycles 14 = .ok (.bipush (-2), 2) := by decide +kernel
theorem dX10_cycles_16 : decode cX10_cycles 16 = .ok (.ireturn, 1) := by decide +kernel
theorem dX10_playBy_0 : decode cX10_playBy 0 = .ok (.aload_n 0, 1) := by decide +kernel
theorem dX10_playBy_1 : decode cX10_playBy 1 = .ok (.iload_n 1, 1) := by decide +kernel
theorem dX10_playBy_2 : decode cX10_playBy 2 = .ok (.putfield 329, 3) := by decide +kernel
theorem dX10_playBy_5 : decode cX10_playBy 5 = .ok (.aload_n 0, 1) := by decide +kernel
theorem dX10_playBy_6 : decode cX10_playBy 6 = .ok (.aload_n 0, 1) := by decide +kernel
theorem dX10_playBy_7 : decode cX10_playBy 7 = .ok (.getfield 289, 3) := by decide +kernel
theorem dX10_playBy_10 : decode cX10_playBy 10 = .ok (.invokevirtual 474, 3) := by decide +kernel
theorem dX10_playBy_13 : decode cX10_playBy 13 = .ok (.return_, 1) := by decide +kernel
theorem dX10_cheapest_0 : decode cX10_cheapest 0 = .ok (.aload_n 0, 1) := by decide +kernel
theorem dX10_cheapest_1 : decode cX10_cheapest 1 = .ok (.invokevirtual 484, 3) := by decide +kernel
theorem dX10_cheapest_4 : decode cX10_cheapest 4 = .ok (.ifCond .ne 6, 3) := by decide +kernel
theorem dX10_cheapest_7 : decode cX10_cheapest 7 = .ok (.bipush (-2), 2) := by decide +kernel
theorem dX10_cheapest_9 : decode cX10_cheapest 9 = .ok (.ireturn, 1) := by decide +kernel
theorem dX10_cheapest_10 : decode cX10_cheapest 10 = .ok (.aload_n 0, 1) := by decide +kernel
theorem dX10_cheapest_11 : decode cX10_cheapest 11 = .ok (.invokevirtual 523, 3) := by decide +kernel
theorem dX10_cheapest_14 : decode cX10_cheapest 14 = .ok (.istore_n 1, 1) := by decide +kernel
theorem dX10_cheapest_15 : decode cX10_cheapest 15 = .ok (.iconst 0, 1) := by decide +kernel
theorem dX10_cheapest_16 : decode cX10_cheapest 16 = .ok (.istore_n 2, 1) := by decide +kernel
theorem dX10_cheapest_17 : decode cX10_cheapest 17 = .ok (.iload_n 2, 1) := by decide +kernel
theorem dX10_cheapest_18 : decode cX10_cheapest 18 = .ok (.bipush 8, 2) := by decide +kernel
theorem dX10_cheapest_20 : decode cX10_cheapest 20 = .ok (.if_icmp .ge 23, 3) := by decide +kernel
theorem dX10_cheapest_23 : decode cX10_cheapest 23 = .ok (.aload_n 0, 1) := by decide +kernel
theorem dX10_cheapest_24 : decode cX10_cheapest 24 = .ok (.iload_n 2, 1) := by decide +kernel
theorem dX10_cheapest_25 : decode cX10_cheapest 25 = .ok (.invokevirtual 526, 3) := by decide +kernel
theorem dX10_cheapest_28 : decode cX10_cheapest 28 = .ok (.iload_n 1, 1) := by decide +kernel
theorem dX10_cheapest_29 : decode cX10_cheapest 29 = .ok (.aload_n 0, 1) := by decide +kernel
theorem dX10_cheapest_30 : decode cX10_cheapest 30 = .ok (.invokevirtual 523, 3) := by decide +kernel
theorem dX10_cheapest_33 : decode cX10_cheapest 33 = .ok (.invokestatic 128, 3) := by decide +kernel
theorem dX10_cheapest_36 : decode cX10_cheapest 36 = .ok (.istore_n 1, 1) := by decide +kernel
theorem dX10_cheapest_37 : decode cX10_cheapest 37 = .ok (.iinc 2 1, 3) := by decide +kernel
theorem dX10_cheapest_40 : decode cX10_cheapest 40 = .ok (.goto (-23), 3) := by decide +kernel
theorem dX10_cheapest_43 : decode cX10_cheapest 43 = .ok (.iload_n 1, 1) := by decide +kernel
theorem dX10_cheapest_44 : decode cX10_cheapest 44 = .ok (.ireturn, 1) := by decide +kernel
theorem dX10_wrongWith_0 : decode cX10_wrongWith 0 = .ok (.aload_n 0, 1) := by decide +kernel
theorem dX10_wrongWith_1 : decode cX10_wrongWith 1 = .ok (.iload_n 1, 1) := by decide +kernel
theorem dX10_wrongWith_2 : decode cX10_wrongWith 2 = .ok (.invokevirtual 526, 3) := by decide +kernel
theorem dX10_wrongWith_5 : decode cX10_wrongWith 5 = .ok (.aload_n 0, 1) := by decide +kernel
theorem dX10_wrongWith_6 : decode cX10_wrongWith 6 = .ok (.aload_n 0, 1) := by decide +kernel
theorem dX10_wrongWith_7 : decode cX10_wrongWith 7 = .ok (.getfield 289, 3) := by decide +kernel
theorem dX10_wrongWith_10 : decode cX10_wrongWith 10 = .ok (.invokevirtual 487, 3) := by decide +kernel
theorem dX10_wrongWith_13 : decode cX10_wrongWith 13 = .ok (.ireturn, 1) := by decide +kernel
theorem dX10_by_0 : decode cX10_by 0 = .ok (.aload_n 0, 1) := by decide +kernel
theorem dX10_by_1 : decode cX10_by 1 = .ok (.invokevirtual 471, 3) := by decide +kernel
theorem dX10_by_4 : decode cX10_by 4 = .ok (.ifCond .eq 23, 3) := by decide +kernel
theorem dX10_by_7 : decode cX10_by 7 = .ok (.iload_n 1, 1) := by decide +kernel
theorem dX10_by_8 : decode cX10_by 8 = .ok (.i2l, 1) := by decide +kernel
theorem dX10_by_9 : decode cX10_by 9 = .ok (.lconst 0, 1) := by decide +kernel
theorem dX10_by_10 : decode cX10_by 10 = .ok (.ldc2_w 482, 3) := by decide +kernel
theorem dX10_by_13 : decode cX10_by 13 = .ok (.invokestatic 139, 3) := by decide +kernel
theorem dX10_by_16 : decode cX10_by 16 = .ok (.ifCond .eq 11, 3) := by decide +kernel
theorem dX10_by_19 : decode cX10_by 19 = .ok (.aload_n 0, 1) := by decide +kernel
theorem dX10_by_20 : decode cX10_by 20 = .ok (.iload_n 1, 1) := by decide +kernel
theorem dX10_by_21 : decode cX10_by 21 = .ok (.invokevirtual 529, 3) := by decide +kernel
theorem dX10_by_24 : decode cX10_by 24 = .ok (.goto 5, 3) := by decide +kernel
theorem dX10_by_27 : decode cX10_by 27 = .ok (.bipush (-2), 2) := by decide +kernel
theorem dX10_by_29 : decode cX10_by 29 = .ok (.ireturn, 1) := by decide +kernel
theorem dX10_ideal_0 : decode cX10_ideal 0 = .ok (.aload_n 0, 1) := by decide +kernel
theorem dX10_ideal_1 : decode cX10_ideal 1 = .ok (.invokevirtual 471, 3) := by decide +kernel
theorem dX10_ideal_4 : decode cX10_ideal 4 = .ok (.ifCond .ne 6, 3) := by decide +kernel
theorem dX10_ideal_7 : decode cX10_ideal 7 = .ok (.bipush (-2), 2) := by decide +kernel
theorem dX10_ideal_9 : decode cX10_ideal 9 = .ok (.ireturn, 1) := by decide +kernel
theorem dX10_ideal_10 : decode cX10_ideal 10 = .ok (.iconst 0, 1) := by decide +kernel
theorem dX10_ideal_11 : decode cX10_ideal 11 = .ok (.istore_n 1, 1) := by decide +kernel
theorem dX10_ideal_12 : decode cX10_ideal 12 = .ok (.aload_n 0, 1) := by decide +kernel
theorem dX10_ideal_13 : decode cX10_ideal 13 = .ok (.iconst 0, 1) := by decide +kernel
theorem dX10_ideal_14 : decode cX10_ideal 14 = .ok (.invokevirtual 529, 3) := by decide +kernel
theorem dX10_ideal_17 : decode cX10_ideal 17 = .ok (.istore_n 2, 1) := by decide +kernel
theorem dX10_ideal_18 : decode cX10_ideal 18 = .ok (.iconst 1, 1) := by decide +kernel
theorem dX10_ideal_19 : decode cX10_ideal 19 = .ok (.istore_n 3, 1) := by decide +kernel
theorem dX10_ideal_20 : decode cX10_ideal 20 = .ok (.iload_n 3, 1) := by decide +kernel
theorem dX10_ideal_21 : decode cX10_ideal 21 = .ok (.bipush 8, 2) := by decide +kernel
theorem dX10_ideal_23 : decode cX10_ideal 23 = .ok (.if_icmp .ge 30, 3) := by decide +kernel
theorem dX10_ideal_26 : decode cX10_ideal 26 = .ok (.aload_n 0, 1) := by decide +kernel
theorem dX10_ideal_27 : decode cX10_ideal 27 = .ok (.iload_n 3, 1) := by decide +kernel
theorem dX10_ideal_28 : decode cX10_ideal 28 = .ok (.invokevirtual 529, 3) := by decide +kernel
theorem dX10_ideal_31 : decode cX10_ideal 31 = .ok (.istore 4, 2) := by decide +kernel
theorem dX10_ideal_33 : decode cX10_ideal 33 = .ok (.iload 4, 2) := by decide +kernel
theorem dX10_ideal_35 : decode cX10_ideal 35 = .ok (.iload_n 2, 1) := by decide +kernel
theorem dX10_ideal_36 : decode cX10_ideal 36 = .ok (.if_icmp .lt 6, 3) := by decide +kernel
theorem dX10_ideal_39 : decode cX10_ideal 39 = .ok (.goto 8, 3) := by decide +kernel
theorem dX10_ideal_42 : decode cX10_ideal 42 = .ok (.iload 4, 2) := by decide +kernel
theorem dX10_ideal_44 : decode cX10_ideal 44 = .ok (.istore_n 2, 1) := by decide +kernel
theorem dX10_ideal_45 : decode cX10_ideal 45 = .ok (.iload_n 3, 1) := by decide +kernel
theorem dX10_ideal_46 : decode cX10_ideal 46 = .ok (.istore_n 1, 1) := by decide +kernel
theorem dX10_ideal_47 : decode cX10_ideal 47 = .ok (.iinc 3 1, 3) := by decide +kernel
theorem dX10_ideal_50 : decode cX10_ideal 50 = .ok (.goto (-30), 3) := by decide +kernel
theorem dX10_ideal_53 : decode cX10_ideal 53 = .ok (.iload_n 1, 1) := by decide +kernel
theorem dX10_ideal_54 : decode cX10_ideal 54 = .ok (.ireturn, 1) := by decide +kernel
theorem dX10_wrongWithout_0 : decode cX10_wrongWithout 0 = .ok (.aload_n 0, 1) := by decide +kernel
theorem dX10_wrongWithout_1 : decode cX10_wrongWithout 1 = .ok (.invokevirtual 465, 3) := by decide +kernel
theorem dX10_wrongWithout_4 : decode cX10_wrongWithout 4 = .ok (.aload_n 0, 1) := by decide +kernel
theorem dX10_wrongWithout_5 : decode cX10_wrongWithout 5 = .ok (.iload_n 1, 1) := by decide +kernel
theorem dX10_wrongWithout_6 : decode cX10_wrongWithout 6 = .ok (.putfield 332, 3) := by decide +kernel
theorem dX10_wrongWithout_9 : decode cX10_wrongWithout 9 = .ok (.aload_n 0, 1) := by decide +kernel
theorem dX10_wrongWithout_10 : decode cX10_wrongWithout 10 = .ok (.aload_n 0, 1) := by decide +kernel
theorem dX10_wrongWithout_11 : decode cX10_wrongWithout 11 = .ok (.getfield 289, 3) := by decide +kernel
theorem dX10_wrongWithout_14 : decode cX10_wrongWithout 14 = .ok (.invokevirtual 474, 3) := by decide +kernel
theorem dX10_wrongWithout_17 : decode cX10_wrongWithout 17 = .ok (.aload_n 0, 1) := by decide +kernel
theorem dX10_wrongWithout_18 : decode cX10_wrongWithout 18 = .ok (.aload_n 0, 1) := by decide +kernel
theorem dX10_wrongWithout_19 : decode cX10_wrongWithout 19 = .ok (.getfield 289, 3) := by decide +kernel
theorem dX10_wrongWithout_22 : decode cX10_wrongWithout 22 = .ok (.invokevirtual 487, 3) := by decide +kernel
theorem dX10_wrongWithout_25 : decode cX10_wrongWithout 25 = .ok (.ireturn, 1) := by decide +kernel
theorem dX10_without_0 : decode cX10_without 0 = .ok (.aload_n 0, 1) := by decide +kernel
theorem dX10_without_1 : decode cX10_without 1 = .ok (.invokevirtual 471, 3) := by decide +kernel
theorem dX10_without_4 : decode cX10_without 4 = .ok (.ifCond .eq 19, 3) := by decide +kernel
theorem dX10_without_7 : decode cX10_without 7 = .ok (.aload_n 0, 1) := by decide +kernel
theorem dX10_without_8 : decode cX10_without 8 = .ok (.iload_n 1, 1) := by decide +kernel
theorem dX10_without_9 : decode cX10_without 9 = .ok (.invokevirtual 508, 3) := by decide +kernel
theorem dX10_without_12 : decode cX10_without 12 = .ok (.ifCond .eq 11, 3) := by decide +kernel
theorem dX10_without_15 : decode cX10_without 15 = .ok (.aload_n 0, 1) := by decide +kernel
theorem dX10_without_16 : decode cX10_without 16 = .ok (.iload_n 1, 1) := by decide +kernel
theorem dX10_without_17 : decode cX10_without 17 = .ok (.invokevirtual 532, 3) := by decide +kernel
theorem dX10_without_20 : decode cX10_without 20 = .ok (.goto 5, 3) := by decide +kernel
theorem dX10_without_23 : decode cX10_without 23 = .ok (.bipush (-2), 2) := by decide +kernel
theorem dX10_without_25 : decode cX10_without 25 = .ok (.ireturn, 1) := by decide +kernel
theorem dX10_spare_0 : decode cX10_spare 0 = .ok (.aload_n 0, 1) := by decide +kernel
theorem dX10_spare_1 : decode cX10_spare 1 = .ok (.invokevirtual 471, 3) := by decide +kernel
theorem dX10_spare_4 : decode cX10_spare 4 = .ok (.ifCond .ne 6, 3) := by decide +kernel
theorem dX10_spare_7 : decode cX10_spare 7 = .ok (.bipush (-2), 2) := by decide +kernel
theorem dX10_spare_9 : decode cX10_spare 9 = .ok (.ireturn, 1) := by decide +kernel
theorem dX10_spare_10 : decode cX10_spare 10 = .ok (.iconst (-1), 1) := by decide +kernel
theorem dX10_spare_11 : decode cX10_spare 11 = .ok (.istore_n 1, 1) := by decide +kernel
theorem dX10_spare_12 : decode cX10_spare 12 = .ok (.iconst 0, 1) := by decide +kernel
theorem dX10_spare_13 : decode cX10_spare 13 = .ok (.istore_n 2, 1) := by decide +kernel
theorem dX10_spare_14 : decode cX10_spare 14 = .ok (.iconst 1, 1) := by decide +kernel
theorem dX10_spare_15 : decode cX10_spare 15 = .ok (.istore_n 3, 1) := by decide +kernel
theorem dX10_spare_16 : decode cX10_spare 16 = .ok (.iload_n 3, 1) := by decide +kernel
theorem dX10_spare_17 : decode cX10_spare 17 = .ok (.aload_n 0, 1) := by decide +kernel
theorem dX10_spare_18 : decode cX10_spare 18 = .ok (.invokevirtual 335, 3) := by decide +kernel
theorem dX10_spare_21 : decode cX10_spare 21 = .ok (.if_icmp .gt 35, 3) := by decide +kernel
theorem dX10_spare_24 : decode cX10_spare 24 = .ok (.aload_n 0, 1) := by decide +kernel
theorem dX10_spare_25 : decode cX10_spare 25 = .ok (.iload_n 3, 1) := by decide +kernel
theorem dX10_spare_26 : decode cX10_spare 26 = .ok (.invokevirtual 532, 3) := by decide +kernel
theorem dX10_spare_29 : decode cX10_spare 29 = .ok (.istore 4, 2) := by decide +kernel
theorem dX10_spare_31 : decode cX10_spare 31 = .ok (.iload_n 1, 1) := by decide +kernel
theorem dX10_spare_32 : decode cX10_spare 32 = .ok (.iconst (-1), 1) := by decide +kernel
theorem dX10_spare_33 : decode cX10_spare 33 = .ok (.if_icmp .eq 12, 3) := by decide +kernel
theorem dX10_spare_36 : decode cX10_spare 36 = .ok (.iload 4, 2) := by decide +kernel
theorem dX10_spare_38 : decode cX10_spare 38 = .ok (.iload_n 2, 1) := by decide +kernel
theorem dX10_spare_39 : decode cX10_spare 39 = .ok (.if_icmp .lt 6, 3) := by decide +kernel
theorem dX10_spare_42 : decode cX10_spare 42 = .ok (.goto 8, 3) := by decide +kernel
theorem dX10_spare_45 : decode cX10_spare 45 = .ok (.iload 4, 2) := by decide +kernel
theorem dX10_spare_47 : decode cX10_spare 47 = .ok (.istore_n 2, 1) := by decide +kernel
theorem dX10_spare_48 : decode cX10_spare 48 = .ok (.iload_n 3, 1) := by decide +kernel
theorem dX10_spare_49 : decode cX10_spare 49 = .ok (.istore_n 1, 1) := by decide +kernel
theorem dX10_spare_50 : decode cX10_spare 50 = .ok (.iinc 3 1, 3) := by decide +kernel
theorem dX10_spare_53 : decode cX10_spare 53 = .ok (.goto (-37), 3) := by decide +kernel
theorem dX10_spare_56 : decode cX10_spare 56 = .ok (.iload_n 1, 1) := by decide +kernel
theorem dX10_spare_57 : decode cX10_spare 57 = .ok (.ireturn, 1) := by decide +kernel
theorem dX10_lowOf_0 : decode cX10_lowOf 0 = .ok (.iload_n 1, 1) := by decide +kernel
theorem dX10_lowOf_1 : decode cX10_lowOf 1 = .ok (.iconst 1, 1) := by decide +kernel
theorem dX10_lowOf_2 : decode cX10_lowOf 2 = .ok (.if_icmp .ne 7, 3) := by decide +kernel
theorem dX10_lowOf_5 : decode cX10_lowOf 5 = .ok (.iconst 1, 1) := by decide +kernel
theorem dX10_lowOf_6 : decode cX10_lowOf 6 = .ok (.goto 16, 3) := by decide +kernel
theorem dX10_lowOf_9 : decode cX10_lowOf 9 = .ok (.aload_n 0, 1) := by decide +kernel
theorem dX10_lowOf_10 : decode cX10_lowOf 10 = .ok (.getfield 9, 3) := by decide +kernel
theorem dX10_lowOf_13 : decode cX10_lowOf 13 = .ok (.bipush 10, 2) := by decide +kernel
theorem dX10_lowOf_15 : decode cX10_lowOf 15 = .ok (.iload_n 1, 1) := by decide +kernel
theorem dX10_lowOf_16 : decode cX10_lowOf 16 = .ok (.iadd, 1) := by decide +kernel
theorem dX10_lowOf_17 : decode cX10_lowOf 17 = .ok (.iconst 2, 1) := by decide +kernel
theorem dX10_lowOf_18 : decode cX10_lowOf 18 = .ok (.isub, 1) := by decide +kernel
theorem dX10_lowOf_19 : decode cX10_lowOf 19 = .ok (.iaload, 1) := by decide +kernel
theorem dX10_lowOf_20 : decode cX10_lowOf 20 = .ok (.iconst 1, 1) := by decide +kernel
theorem dX10_lowOf_21 : decode cX10_lowOf 21 = .ok (.iadd, 1) := by decide +kernel
theorem dX10_lowOf_22 : decode cX10_lowOf 22 = .ok (.ireturn, 1) := by decide +kernel
theorem dX10_farOf_0 : decode cX10_farOf 0 = .ok (.iload_n 1, 1) := by decide +kernel
theorem dX10_farOf_1 : decode cX10_farOf 1 = .ok (.aload_n 0, 1) := by decide +kernel
theorem dX10_farOf_2 : decode cX10_farOf 2 = .ok (.invokevirtual 335, 3) := by decide +kernel
theorem dX10_farOf_5 : decode cX10_farOf 5 = .ok (.if_icmp .ne 8, 3) := by decide +kernel
theorem dX10_farOf_8 : decode cX10_farOf 8 = .ok (.bipush 40, 2) := by decide +kernel
theorem dX10_farOf_10 : decode cX10_farOf 10 = .ok (.goto 14, 3) := by decide +kernel
theorem dX10_farOf_13 : decode cX10_farOf 13 = .ok (.aload_n 0, 1) := by decide +kernel
theorem dX10_farOf_14 : decode cX10_farOf 14 = .ok (.getfield 9, 3) := by decide +kernel
theorem dX10_farOf_17 : decode cX10_farOf 17 = .ok (.bipush 10, 2) := by decide +kernel
theorem dX10_farOf_19 : decode cX10_farOf 19 = .ok (.iload_n 1, 1) := by decide +kernel
theorem dX10_farOf_20 : decode cX10_farOf 20 = .ok (.iadd, 1) := by decide +kernel
theorem dX10_farOf_21 : decode cX10_farOf 21 = .ok (.iaload, 1) := by decide +kernel
theorem dX10_farOf_22 : decode cX10_farOf 22 = .ok (.iconst 1, 1) := by decide +kernel
theorem dX10_farOf_23 : decode cX10_farOf 23 = .ok (.isub, 1) := by decide +kernel
theorem dX10_farOf_24 : decode cX10_farOf 24 = .ok (.ireturn, 1) := by decide +kernel
theorem dX10_wrongSpanned_0 : decode cX10_wrongSpanned 0 = .ok (.aload_n 0, 1) := by decide +kernel
theorem dX10_wrongSpanned_1 : decode cX10_wrongSpanned 1 = .ok (.invokevirtual 465, 3) := by decide +kernel
theorem dX10_wrongSpanned_4 : decode cX10_wrongSpanned 4 = .ok (.aload_n 0, 1) := by decide +kernel
theorem dX10_wrongSpanned_5 : decode cX10_wrongSpanned 5 = .ok (.getfield 49, 3) := by decide +kernel
theorem dX10_wrongSpanned_8 : decode cX10_wrongSpanned 8 = .ok (.iload_n 1, 1) := by decide +kernel
theorem dX10_wrongSpanned_9 : decode cX10_wrongSpanned 9 = .ok (.iload_n 2, 1) := by decide +kernel
theorem dX10_wrongSpanned_10 : decode cX10_wrongSpanned 10 = .ok (.iastore, 1) := by decide +kernel
theorem dX10_wrongSpanned_11 : decode cX10_wrongSpanned 11 = .ok (.aload_n 0, 1) := by decide +kernel
theorem dX10_wrongSpanned_12 : decode cX10_wrongSpanned 12 = .ok (.aload_n 0, 1) := by decide +kernel
theorem dX10_wrongSpanned_13 : decode cX10_wrongSpanned 13 = .ok (.getfield 289, 3) := by decide +kernel
theorem dX10_wrongSpanned_16 : decode cX10_wrongSpanned 16 = .ok (.invokevirtual 474, 3) := by decide +kernel
theorem dX10_wrongSpanned_19 : decode cX10_wrongSpanned 19 = .ok (.aload_n 0, 1) := by decide +kernel
theorem dX10_wrongSpanned_20 : decode cX10_wrongSpanned 20 = .ok (.aload_n 0, 1) := by decide +kernel
theorem dX10_wrongSpanned_21 : decode cX10_wrongSpanned 21 = .ok (.getfield 289, 3) := by decide +kernel
theorem dX10_wrongSpanned_24 : decode cX10_wrongSpanned 24 = .ok (.invokevirtual 487, 3) := by decide +kernel
theorem dX10_wrongSpanned_27 : decode cX10_wrongSpanned 27 = .ok (.ireturn, 1) := by decide +kernel
theorem dX10_spanned_0 : decode cX10_spanned 0 = .ok (.aload_n 0, 1) := by decide +kernel
theorem dX10_spanned_1 : decode cX10_spanned 1 = .ok (.invokevirtual 471, 3) := by decide +kernel
theorem dX10_spanned_4 : decode cX10_spanned 4 = .ok (.ifCond .eq 40, 3) := by decide +kernel
theorem dX10_spanned_7 : decode cX10_spanned 7 = .ok (.aload_n 0, 1) := by decide +kernel
theorem dX10_spanned_8 : decode cX10_spanned 8 = .ok (.iload_n 1, 1) := by decide +kernel
theorem dX10_spanned_9 : decode cX10_spanned 9 = .ok (.invokevirtual 508, 3) := by decide +kernel
theorem dX10_spanned_12 : decode cX10_spanned 12 = .ok (.ifCond .eq 32, 3) := by decide +kernel
theorem dX10_spanned_15 : decode cX10_spanned 15 = .ok (.iload_n 2, 1) := by decide +kernel
theorem dX10_spanned_16 : decode cX10_spanned 16 = .ok (.i2l, 1) := by decide +kernel
theorem dX10_spanned_17 : decode cX10_spanned 17 = .ok (.aload_n 0, 1) := by decide +kernel
theorem dX10_spanned_18 : decode cX10_spanned 18 = .ok (.iload_n 1, 1) := by decide +kernel
theorem dX10_spanned_19 : decode cX10_spanned 19 = .ok (.invokevirtual 535, 3) := by decide +kernel
theorem dX10_spanned_22 : decode cX10_spanned 22 = .ok (.i2l, 1) := by decide +kernel
theorem dX10_spanned_23 : decode cX10_spanned 23 = .ok (.aload_n 0, 1) := by decide +kernel
theorem dX10_spanned_24 : decode cX10_spanned 24 = .ok (.iload_n 1, 1) := by decide +kernel
theorem dX10_spanned_25 : decode cX10_spanned 25 = .ok (.invokevirtual 538, 3) := by decide +kernel
theorem dX10_spanned_28 : decode cX10_spanned 28 = .ok (.i2l, 1) := by decide +kernel
theorem dX10_spanned_29 : decode cX10_spanned 29 = .ok (.invokestatic 139, 3) := by decide +kernel
theorem dX10_spanned_32 : decode cX10_spanned 32 = .ok (.ifCond .eq 12, 3) := by decide +kernel
theorem dX10_spanned_35 : decode cX10_spanned 35 = .ok (.aload_n 0, 1) := by decide +kernel
theorem dX10_spanned_36 : decode cX10_spanned 36 = .ok (.iload_n 1, 1) := by decide +kernel
theorem dX10_spanned_37 : decode cX10_spanned 37 = .ok (.iload_n 2, 1) := by decide +kernel
theorem dX10_spanned_38 : decode cX10_spanned 38 = .ok (.invokevirtual 541, 3) := by decide +kernel
theorem dX10_spanned_41 : decode cX10_spanned 41 = .ok (.goto 5, 3) := by decide +kernel
theorem dX10_spanned_44 : decode cX10_spanned 44 = .ok (.bipush (-2), 2) := by decide +kernel
theorem dX10_spanned_46 : decode cX10_spanned 46 = .ok (.ireturn, 1) := by decide +kernel
theorem dX10_span_0 : decode cX10_span 0 = .ok (.aload_n 0, 1) := by decide +kernel
theorem dX10_span_1 : decode cX10_span 1 = .ok (.invokevirtual 471, 3) := by decide +kernel
theorem dX10_span_4 : decode cX10_span 4 = .ok (.ifCond .eq 11, 3) := by decide +kernel
theorem dX10_span_7 : decode cX10_span 7 = .ok (.aload_n 0, 1) := by decide +kernel
theorem dX10_span_8 : decode cX10_span 8 = .ok (.iload_n 1, 1) := by decide +kernel
theorem dX10_span_9 : decode cX10_span 9 = .ok (.invokevirtual 508, 3) := by decide +kernel
theorem dX10_span_12 : decode cX10_span 12 = .ok (.ifCond .ne 6, 3) := by decide +kernel
theorem dX10_span_15 : decode cX10_span 15 = .ok (.bipush (-2), 2) := by decide +kernel
theorem dX10_span_17 : decode cX10_span 17 = .ok (.ireturn, 1) := by decide +kernel
theorem dX10_span_18 : decode cX10_span 18 = .ok (.aload_n 0, 1) := by decide +kernel
theorem dX10_span_19 : decode cX10_span 19 = .ok (.iload_n 1, 1) := by decide +kernel
theorem dX10_span_20 : decode cX10_span 20 = .ok (.invokevirtual 535, 3) := by decide +kernel
theorem dX10_span_23 : decode cX10_span 23 = .ok (.istore_n 2, 1) := by decide +kernel
theorem dX10_span_24 : decode cX10_span 24 = .ok (.aload_n 0, 1) := by decide +kernel
theorem dX10_span_25 : decode cX10_span 25 = .ok (.iload_n 1, 1) := by decide +kernel
theorem dX10_span_26 : decode cX10_span 26 = .ok (.iload_n 2, 1) := by decide +kernel
theorem dX10_span_27 : decode cX10_span 27 = .ok (.invokevirtual 541, 3) := by decide +kernel
theorem dX10_span_30 : decode cX10_span 30 = .ok (.istore_n 3, 1) := by decide +kernel
theorem dX10_span_31 : decode cX10_span 31 = .ok (.iload_n 2, 1) := by decide +kernel
theorem dX10_span_32 : decode cX10_span 32 = .ok (.iconst 1, 1) := by decide +kernel
theorem dX10_span_33 : decode cX10_span 33 = .ok (.iadd, 1) := by decide +kernel
theorem dX10_span_34 : decode cX10_span 34 = .ok (.istore 4, 2) := by decide +kernel
theorem dX10_span_36 : decode cX10_span 36 = .ok (.iload 4, 2) := by decide +kernel
theorem dX10_span_38 : decode cX10_span 38 = .ok (.aload_n 0, 1) := by decide +kernel
theorem dX10_span_39 : decode cX10_span 39 = .ok (.iload_n 1, 1) := by decide +kernel
theorem dX10_span_40 : decode cX10_span 40 = .ok (.invokevirtual 538, 3) := by decide +kernel
theorem dX10_span_43 : decode cX10_span 43 = .ok (.if_icmp .gt 33, 3) := by decide +kernel
theorem dX10_span_46 : decode cX10_span 46 = .ok (.aload_n 0, 1) := by decide +kernel
theorem dX10_span_47 : decode cX10_span 47 = .ok (.iload_n 1, 1) := by decide +kernel
theorem dX10_span_48 : decode cX10_span 48 = .ok (.iload 4, 2) := by decide +kernel
theorem dX10_span_50 : decode cX10_span 50 = .ok (.invokevirtual 541, 3) := by decide +kernel
theorem dX10_span_53 : decode cX10_span 53 = .ok (.istore 5, 2) := by decide +kernel
theorem dX10_span_55 : decode cX10_span 55 = .ok (.iload 5, 2) := by decide +kernel
theorem dX10_span_57 : decode cX10_span 57 = .ok (.iload_n 3, 1) := by decide +kernel
theorem dX10_span_58 : decode cX10_span 58 = .ok (.if_icmp .lt 6, 3) := by decide +kernel
theorem dX10_span_61 : decode cX10_span 61 = .ok (.goto 9, 3) := by decide +kernel
theorem dX10_span_64 : decode cX10_span 64 = .ok (.iload 5, 2) := by decide +kernel
theorem dX10_span_66 : decode cX10_span 66 = .ok (.istore_n 3, 1) := by decide +kernel
theorem dX10_span_67 : decode cX10_span 67 = .ok (.iload 4, 2) := by decide +kernel
theorem dX10_span_69 : decode cX10_span 69 = .ok (.istore_n 2, 1) := by decide +kernel
theorem dX10_span_70 : decode cX10_span 70 = .ok (.iinc 4 1, 3) := by decide +kernel
theorem dX10_span_73 : decode cX10_span 73 = .ok (.goto (-37), 3) := by decide +kernel
theorem dX10_span_76 : decode cX10_span 76 = .ok (.iload_n 2, 1) := by decide +kernel
theorem dX10_span_77 : decode cX10_span 77 = .ok (.ireturn, 1) := by decide +kernel
theorem dX10_playPattern_0 : decode cX10_playPattern 0 = .ok (.aload_n 0, 1) := by decide +kernel
theorem dX10_playPattern_1 : decode cX10_playPattern 1 = .ok (.invokevirtual 453, 3) := by decide +kernel
theorem dX10_playPattern_4 : decode cX10_playPattern 4 = .ok (.iconst 0, 1) := by decide +kernel
theorem dX10_playPattern_5 : decode cX10_playPattern 5 = .ok (.istore 4, 2) := by decide +kernel
theorem dX10_playPattern_7 : decode cX10_playPattern 7 = .ok (.iload 4, 2) := by decide +kernel
theorem dX10_playPattern_9 : decode cX10_playPattern 9 = .ok (.bipush 30, 2) := by decide +kernel
theorem dX10_playPattern_11 : decode cX10_playPattern 11 = .ok (.if_icmp .ge 75, 3) := by decide +kernel
theorem dX10_playPattern_14 : decode cX10_playPattern 14 = .ok (.aload_n 0, 1) := by decide +kernel
theorem dX10_playPattern_15 : decode cX10_playPattern 15 = .ok (.getfield 112, 3) := by decide +kernel
theorem dX10_playPattern_18 : decode cX10_playPattern 18 = .ok (.iload 4, 2) := by decide +kernel
theorem dX10_playPattern_20 : decode cX10_playPattern 20 = .ok (.iconst 0, 1) := by decide +kernel
theorem dX10_playPattern_21 : decode cX10_playPattern 21 = .ok (.iastore, 1) := by decide +kernel
theorem dX10_playPattern_22 : decode cX10_playPattern 22 = .ok (.iconst 0, 1) := by decide +kernel
theorem dX10_playPattern_23 : decode cX10_playPattern 23 = .ok (.istore 5, 2) := by decide +kernel
theorem dX10_playPattern_25 : decode cX10_playPattern 25 = .ok (.iload 5, 2) := by decide +kernel
theorem dX10_playPattern_27 : decode cX10_playPattern 27 = .ok (.iload_n 3, 1) := by decide +kernel
theorem dX10_playPattern_28 : decode cX10_playPattern 28 = .ok (.if_icmp .ge 52, 3) := by decide +kernel
theorem dX10_playPattern_31 : decode cX10_playPattern 31 = .ok (.iload_n 2, 1) := by decide +kernel
theorem dX10_playPattern_32 : decode cX10_playPattern 32 = .ok (.iload 5, 2) := by decide +kernel
theorem dX10_playPattern_34 : decode cX10_playPattern 34 = .ok (.ishr, 1) := by decide +kernel
theorem dX10_playPattern_35 : decode cX10_playPattern 35 = .ok (.iconst 1, 1) := by decide +kernel
theorem dX10_playPattern_36 : decode cX10_playPattern 36 = .ok (.iand, 1) := by decide +kernel
theorem dX10_playPattern_37 : decode cX10_playPattern 37 = .ok (.istore 6, 2) := by decide +kernel
theorem dX10_playPattern_39 : decode cX10_playPattern 39 = .ok (.aload_n 0, 1) := by decide +kernel
theorem dX10_playPattern_40 : decode cX10_playPattern 40 = .ok (.iload_n 1, 1) := by decide +kernel
theorem dX10_playPattern_41 : decode cX10_playPattern 41 = .ok (.invokevirtual 456, 3) := by decide +kernel
theorem dX10_playPattern_44 : decode cX10_playPattern 44 = .ok (.aload_n 0, 1) := by decide +kernel
theorem dX10_playPattern_45 : decode cX10_playPattern 45 = .ok (.getfield 112, 3) := by decide +kernel
theorem dX10_playPattern_48 : decode cX10_playPattern 48 = .ok (.iload 4, 2) := by decide +kernel
theorem dX10_playPattern_50 : decode cX10_playPattern 50 = .ok (.dup2, 1) := by decide +kernel
theorem dX10_playPattern_51 : decode cX10_playPattern 51 = .ok (.iaload, 1) := by decide +kernel
theorem dX10_playPattern_52 : decode cX10_playPattern 52 = .ok (.aload_n 0, 1) := by decide +kernel
theorem dX10_playPattern_53 : decode cX10_playPattern 53 = .ok (.getfield 422, 3) := by decide +kernel
theorem dX10_playPattern_56 : decode cX10_playPattern 56 = .ok (.iload 6, 2) := by decide +kernel
theorem dX10_playPattern_58 : decode cX10_playPattern 58 = .ok (.if_icmp .ne 7, 3) := by decide +kernel
theorem dX10_playPattern_61 : decode cX10_playPattern 61 = .ok (.iconst 0, 1) := by decide +kernel
theorem dX10_playPattern_62 : decode cX10_playPattern 62 = .ok (.goto 4, 3) := by decide +kernel
theorem dX10_playPattern_65 : decode cX10_playPattern 65 = .ok (.iconst 1, 1) := by decide +kernel
theorem dX10_playPattern_66 : decode cX10_playPattern 66 = .ok (.iadd, 1) := by decide +kernel
theorem dX10_playPattern_67 : decode cX10_playPattern 67 = .ok (.iastore, 1) := by decide +kernel
theorem dX10_playPattern_68 : decode cX10_playPattern 68 = .ok (.aload_n 0, 1) := by decide +kernel
theorem dX10_playPattern_69 : decode cX10_playPattern 69 = .ok (.iload 6, 2) := by decide +kernel
theorem dX10_playPattern_71 : decode cX10_playPattern 71 = .ok (.invokevirtual 459, 3) := by decide +kernel
theorem dX10_playPattern_74 : decode cX10_playPattern 74 = .ok (.iinc 5 1, 3) := by decide +kernel
theorem dX10_playPattern_77 : decode cX10_playPattern 77 = .ok (.goto (-52), 3) := by decide +kernel
theorem dX10_playPattern_80 : decode cX10_playPattern 80 = .ok (.iinc 4 1, 3) := by decide +kernel
theorem dX10_playPattern_83 : decode cX10_playPattern 83 = .ok (.goto (-76), 3) := by decide +kernel
theorem dX10_playPattern_86 : decode cX10_playPattern 86 = .ok (.return_, 1) := by decide +kernel
theorem dX10_asksPattern_0 : decode cX10_asksPattern 0 = .ok (.aload_n 0, 1) := by decide +kernel
theorem dX10_asksPattern_1 : decode cX10_asksPattern 1 = .ok (.invokevirtual 471, 3) := by decide +kernel
theorem dX10_asksPattern_4 : decode cX10_asksPattern 4 = .ok (.ifCond .eq 38, 3) := by decide +kernel
theorem dX10_asksPattern_7 : decode cX10_asksPattern 7 = .ok (.iload_n 1, 1) := by decide +kernel
theorem dX10_asksPattern_8 : decode cX10_asksPattern 8 = .ok (.i2l, 1) := by decide +kernel
theorem dX10_asksPattern_9 : decode cX10_asksPattern 9 = .ok (.invokestatic 492, 3) := by decide +kernel
theorem dX10_asksPattern_12 : decode cX10_asksPattern 12 = .ok (.ifCond .eq 30, 3) := by decide +kernel
theorem dX10_asksPattern_15 : decode cX10_asksPattern 15 = .ok (.iload_n 3, 1) := by decide +kernel
theorem dX10_asksPattern_16 : decode cX10_asksPattern 16 = .ok (.i2l, 1) := by decide +kernel
theorem dX10_asksPattern_17 : decode cX10_asksPattern 17 = .ok (.lconst 1, 1) := by decide +kernel
theorem dX10_asksPattern_18 : decode cX10_asksPattern 18 = .ok (.ldc2_w 544, 3) := by decide +kernel
theorem dX10_asksPattern_21 : decode cX10_asksPattern 21 = .ok (.invokestatic 139, 3) := by decide +kernel
theorem dX10_asksPattern_24 : decode cX10_asksPattern 24 = .ok (.ifCond .eq 18, 3) := by decide +kernel
theorem dX10_asksPattern_27 : decode cX10_asksPattern 27 = .ok (.iload_n 2, 1) := by decide +kernel
theorem dX10_asksPattern_28 : decode cX10_asksPattern 28 = .ok (.i2l, 1) := by decide +kernel
theorem dX10_asksPattern_29 : decode cX10_asksPattern 29 = .ok (.lconst 0, 1) := by decide +kernel
theorem dX10_asksPattern_30 : decode cX10_asksPattern 30 = .ok (.iconst 1, 1) := by decide +kernel
theorem dX10_asksPattern_31 : decode cX10_asksPattern 31 = .ok (.iload_n 3, 1) := by decide +kernel
theorem dX10_asksPattern_32 : decode cX10_asksPattern 32 = .ok (.ishl, 1) := by decide +kernel
theorem dX10_asksPattern_33 : decode cX10_asksPattern 33 = .ok (.iconst 1, 1) := by decide +kernel
theorem dX10_asksPattern_34 : decode cX10_asksPattern 34 = .ok (.isub, 1) := by decide +kernel
theorem dX10_asksPattern_35 : decode cX10_asksPattern 35 = .ok (.i2l, 1) := by decide +kernel
theorem dX10_asksPattern_36 : decode cX10_asksPattern 36 = .ok (.invokestatic 139, 3) := by decide +kernel
theorem dX10_asksPattern_39 : decode cX10_asksPattern 39 = .ok (.ifCond .ne 5, 3) := by decide +kernel
theorem dX10_asksPattern_42 : decode cX10_asksPattern 42 = .ok (.iconst 0, 1) := by decide +kernel
theorem dX10_asksPattern_43 : decode cX10_asksPattern 43 = .ok (.ireturn, 1) := by decide +kernel
theorem dX10_asksPattern_44 : decode cX10_asksPattern 44 = .ok (.aload_n 0, 1) := by decide +kernel
theorem dX10_asksPattern_45 : decode cX10_asksPattern 45 = .ok (.iload_n 1, 1) := by decide +kernel
theorem dX10_asksPattern_46 : decode cX10_asksPattern 46 = .ok (.iload_n 2, 1) := by decide +kernel
theorem dX10_asksPattern_47 : decode cX10_asksPattern 47 = .ok (.iload_n 3, 1) := by decide +kernel
theorem dX10_asksPattern_48 : decode cX10_asksPattern 48 = .ok (.invokevirtual 546, 3) := by decide +kernel
theorem dX10_asksPattern_51 : decode cX10_asksPattern 51 = .ok (.iconst 1, 1) := by decide +kernel
theorem dX10_asksPattern_52 : decode cX10_asksPattern 52 = .ok (.ireturn, 1) := by decide +kernel
theorem dX10_learntNow_0 : decode cX10_learntNow 0 = .ok (.bipush 30, 2) := by decide +kernel
theorem dX10_learntNow_2 : decode cX10_learntNow 2 = .ok (.istore_n 1, 1) := by decide +kernel
theorem dX10_learntNow_3 : decode cX10_learntNow 3 = .ok (.iload_n 1, 1) := by decide +kernel
theorem dX10_learntNow_4 : decode cX10_learntNow 4 = .ok (.ifCond .le 20, 3) := by decide +kernel
theorem dX10_learntNow_7 : decode cX10_learntNow 7 = .ok (.aload_n 0, 1) := by decide +kernel
theorem dX10_learntNow_8 : decode cX10_learntNow 8 = .ok (.getfield 112, 3) := by decide +kernel
theorem dX10_learntNow_11 : decode cX10_learntNow 11 = .ok (.iload_n 1, 1) := by decide +kernel
theorem dX10_learntNow_12 : decode cX10_learntNow 12 = .ok (.iconst 1, 1) := by decide +kernel
theorem dX10_learntNow_13 : decode cX10_learntNow 13 = .ok (.isub, 1) := by decide +kernel
theorem dX10_learntNow_14 : decode cX10_learntNow 14 = .ok (.iaload, 1) := by decide +kernel
theorem dX10_learntNow_15 : decode cX10_learntNow 15 = .ok (.ifCond .ne 9, 3) := by decide +kernel
theorem dX10_learntNow_18 : decode cX10_learntNow 18 = .ok (.iinc 1 (-1), 3) := by decide +kernel
theorem dX10_learntNow_21 : decode cX10_learntNow 21 = .ok (.goto (-18), 3) := by decide +kernel
theorem dX10_learntNow_24 : decode cX10_learntNow 24 = .ok (.iload_n 1, 1) := by decide +kernel
theorem dX10_learntNow_25 : decode cX10_learntNow 25 = .ok (.bipush 30, 2) := by decide +kernel
theorem dX10_learntNow_27 : decode cX10_learntNow 27 = .ok (.if_icmp .ne 7, 3) := by decide +kernel
theorem dX10_learntNow_30 : decode cX10_learntNow 30 = .ok (.iconst (-1), 1) := by decide +kernel
theorem dX10_learntNow_31 : decode cX10_learntNow 31 = .ok (.goto 4, 3) := by decide +kernel
theorem dX10_learntNow_34 : decode cX10_learntNow 34 = .ok (.iload_n 1, 1) := by decide +kernel
theorem dX10_learntNow_35 : decode cX10_learntNow 35 = .ok (.ireturn, 1) := by decide +kernel
theorem dX10_round_0 : decode cX10_round 0 = .ok (.iload 4, 2) := by decide +kernel
theorem dX10_round_2 : decode cX10_round 2 = .ok (.i2l, 1) := by decide +kernel
theorem dX10_round_3 : decode cX10_round 3 = .ok (.lconst 0, 1) := by decide +kernel
theorem dX10_round_4 : decode cX10_round 4 = .ok (.ldc2_w 549, 3) := by decide +kernel
theorem dX10_round_7 : decode cX10_round 7 = .ok (.invokestatic 139, 3) := by decide +kernel
theorem dX10_round_10 : decode cX10_round 10 = .ok (.ifCond .eq 23, 3) := by decide +kernel
theorem dX10_round_13 : decode cX10_round 13 = .ok (.aload_n 0, 1) := by decide +kernel
theorem dX10_round_14 : decode cX10_round 14 = .ok (.iload_n 1, 1) := by decide +kernel
theorem dX10_round_15 : decode cX10_round 15 = .ok (.iload_n 2, 1) := by decide +kernel
theorem dX10_round_16 : decode cX10_round 16 = .ok (.iload_n 3, 1) := by decide +kernel
theorem dX10_round_17 : decode cX10_round 17 = .ok (.invokevirtual 551, 3) := by decide +kernel
theorem dX10_round_20 : decode cX10_round 20 = .ok (.ifCond .eq 13, 3) := by decide +kernel
theorem dX10_round_23 : decode cX10_round 23 = .ok (.aload_n 0, 1) := by decide +kernel
theorem dX10_round_24 : decode cX10_round 24 = .ok (.getfield 112, 3) := by decide +kernel
theorem dX10_round_27 : decode cX10_round 27 = .ok (.iload 4, 2) := by decide +kernel
theorem dX10_round_29 : decode cX10_round 29 = .ok (.iaload, 1) := by decide +kernel
theorem dX10_round_30 : decode cX10_round 30 = .ok (.goto 5, 3) := by decide +kernel
theorem dX10_round_33 : decode cX10_round 33 = .ok (.bipush (-2), 2) := by decide +kernel
theorem dX10_round_35 : decode cX10_round 35 = .ok (.ireturn, 1) := by decide +kernel
theorem dX10_learnt_0 : decode cX10_learnt 0 = .ok (.aload_n 0, 1) := by decide +kernel
theorem dX10_learnt_1 : decode cX10_learnt 1 = .ok (.iload_n 1, 1) := by decide +kernel
theorem dX10_learnt_2 : decode cX10_learnt 2 = .ok (.iload_n 2, 1) := by decide +kernel
theorem dX10_learnt_3 : decode cX10_learnt 3 = .ok (.iload_n 3, 1) := by decide +kernel
theorem dX10_learnt_4 : decode cX10_learnt 4 = .ok (.invokevirtual 551, 3) := by decide +kernel
theorem dX10_learnt_7 : decode cX10_learnt 7 = .ok (.ifCond .eq 10, 3) := by decide +kernel
theorem dX10_learnt_10 : decode cX10_learnt 10 = .ok (.aload_n 0, 1) := by decide +kernel
theorem dX10_learnt_11 : decode cX10_learnt 11 = .ok (.invokevirtual 555, 3) := by decide +kernel
theorem dX10_learnt_14 : decode cX10_learnt 14 = .ok (.goto 5, 3) := by decide +kernel
theorem dX10_learnt_17 : decode cX10_learnt 17 = .ok (.bipush (-2), 2) := by decide +kernel
theorem dX10_learnt_19 : decode cX10_learnt 19 = .ok (.ireturn, 1) := by decide +kernel
theorem dX10_learns_0 : decode cX10_learns 0 = .ok (.aload_n 0, 1) := by decide +kernel
theorem dX10_learns_1 : decode cX10_learns 1 = .ok (.invokevirtual 471, 3) := by decide +kernel
theorem dX10_learns_4 : decode cX10_learns 4 = .ok (.ifCond .eq 23, 3) := by decide +kernel
theorem dX10_learns_7 : decode cX10_learns 7 = .ok (.iload_n 1, 1) := by decide +kernel
theorem dX10_learns_8 : decode cX10_learns 8 = .ok (.i2l, 1) := by decide +kernel
theorem dX10_learns_9 : decode cX10_learns 9 = .ok (.invokestatic 492, 3) := by decide +kernel
theorem dX10_learns_12 : decode cX10_learns 12 = .ok (.ifCond .eq 15, 3) := by decide +kernel
theorem dX10_learns_15 : decode cX10_learns 15 = .ok (.iload_n 2, 1) := by decide +kernel
theorem dX10_learns_16 : decode cX10_learns 16 = .ok (.i2l, 1) := by decide +kernel
theorem dX10_learns_17 : decode cX10_learns 17 = .ok (.lconst 1, 1) := by decide +kernel
theorem dX10_learns_18 : decode cX10_learns 18 = .ok (.ldc2_w 558, 3) := by decide +kernel
theorem dX10_learns_21 : decode cX10_learns 21 = .ok (.invokestatic 139, 3) := by decide +kernel
theorem dX10_learns_24 : decode cX10_learns 24 = .ok (.ifCond .ne 6, 3) := by decide +kernel
theorem dX10_learns_27 : decode cX10_learns 27 = .ok (.bipush (-2), 2) := by decide +kernel
theorem dX10_learns_29 : decode cX10_learns 29 = .ok (.ireturn, 1) := by decide +kernel
theorem dX10_learns_30 : decode cX10_learns 30 = .ok (.iconst 0, 1) := by decide +kernel
theorem dX10_learns_31 : decode cX10_learns 31 = .ok (.istore_n 3, 1) := by decide +kernel
theorem dX10_learns_32 : decode cX10_learns 32 = .ok (.iconst 0, 1) := by decide +kernel
theorem dX10_learns_33 : decode cX10_learns 33 = .ok (.istore 4, 2) := by decide +kernel
theorem dX10_learns_35 : decode cX10_learns 35 = .ok (.iload 4, 2) := by decide +kernel
theorem dX10_learns_37 : decode cX10_learns 37 = .ok (.iconst 1, 1) := by decide +kernel
theorem dX10_learns_38 : decode cX10_learns 38 = .ok (.iload_n 2, 1) := by decide +kernel
theorem dX10_learns_39 : decode cX10_learns 39 = .ok (.ishl, 1) := by decide +kernel
theorem dX10_learns_40 : decode cX10_learns 40 = .ok (.if_icmp .ge 33, 3) := by decide +kernel
theorem dX10_learns_43 : decode cX10_learns 43 = .ok (.aload_n 0, 1) := by decide +kernel
theorem dX10_learns_44 : decode cX10_learns 44 = .ok (.iload_n 1, 1) := by decide +kernel
theorem dX10_learns_45 : decode cX10_learns 45 = .ok (.iload 4, 2) := by decide +kernel
theorem dX10_learns_47 : decode cX10_learns 47 = .ok (.iload_n 2, 1) := by decide +kernel
theorem dX10_learns_48 : decode cX10_learns 48 = .ok (.invokevirtual 546, 3) := by decide +kernel
theorem dX10_learns_51 : decode cX10_learns 51 = .ok (.iload_n 3, 1) := by decide +kernel
theorem dX10_learns_52 : decode cX10_learns 52 = .ok (.aload_n 0, 1) := by decide +kernel
theorem dX10_learns_53 : decode cX10_learns 53 = .ok (.invokevirtual 555, 3) := by decide +kernel
theorem dX10_learns_56 : decode cX10_learns 56 = .ok (.iconst (-1), 1) := by decide +kernel
theorem dX10_learns_57 : decode cX10_learns 57 = .ok (.if_icmp .ne 7, 3) := by decide +kernel
theorem dX10_learns_60 : decode cX10_learns 60 = .ok (.iconst 0, 1) := by decide +kernel
theorem dX10_learns_61 : decode cX10_learns 61 = .ok (.goto 4, 3) := by decide +kernel
theorem dX10_learns_64 : decode cX10_learns 64 = .ok (.iconst 1, 1) := by decide +kernel
theorem dX10_learns_65 : decode cX10_learns 65 = .ok (.iadd, 1) := by decide +kernel
theorem dX10_learns_66 : decode cX10_learns 66 = .ok (.istore_n 3, 1) := by decide +kernel
theorem dX10_learns_67 : decode cX10_learns 67 = .ok (.iinc 4 1, 3) := by decide +kernel
theorem dX10_learns_70 : decode cX10_learns 70 = .ok (.goto (-35), 3) := by decide +kernel
theorem dX10_learns_73 : decode cX10_learns 73 = .ok (.iload_n 3, 1) := by decide +kernel
theorem dX10_learns_74 : decode cX10_learns 74 = .ok (.ireturn, 1) := by decide +kernel
theorem dX10_numberIn_0 : decode cX10_numberIn 0 = .ok (.aload_n 0, 1) := by decide +kernel
theorem dX10_numberIn_1 : decode cX10_numberIn 1 = .ok (.getfield 121, 3) := by decide +kernel
theorem dX10_numberIn_4 : decode cX10_numberIn 4 = .ok (.bipush 60, 2) := by decide +kernel
theorem dX10_numberIn_6 : decode cX10_numberIn 6 = .ok (.iload_n 1, 1) := by decide +kernel
theorem dX10_numberIn_7 : decode cX10_numberIn 7 = .ok (.imul, 1) := by decide +kernel
theorem dX10_numberIn_8 : decode cX10_numberIn 8 = .ok (.iload_n 2, 1) := by decide +kernel
theorem dX10_numberIn_9 : decode cX10_numberIn 9 = .ok (.iadd, 1) := by decide +kernel
theorem dX10_numberIn_10 : decode cX10_numberIn 10 = .ok (.laload, 1) := by decide +kernel
theorem dX10_numberIn_11 : decode cX10_numberIn 11 = .ok (.lreturn, 1) := by decide +kernel
theorem dX10_areIn_0 : decode cX10_areIn 0 = .ok (.iconst 1, 1) := by decide +kernel
theorem dX10_areIn_1 : decode cX10_areIn 1 = .ok (.istore_n 3, 1) := by decide +kernel
theorem dX10_areIn_2 : decode cX10_areIn 2 = .ok (.iconst 0, 1) := by decide +kernel
theorem dX10_areIn_3 : decode cX10_areIn 3 = .ok (.istore 4, 2) := by decide +kernel
theorem dX10_areIn_5 : decode cX10_areIn 5 = .ok (.iload 4, 2) := by decide +kernel
theorem dX10_areIn_7 : decode cX10_areIn 7 = .ok (.aload_n 0, 1) := by decide +kernel
theorem dX10_areIn_8 : decode cX10_areIn 8 = .ok (.getfield 115, 3) := by decide +kernel
theorem dX10_areIn_11 : decode cX10_areIn 11 = .ok (.iload_n 1, 1) := by decide +kernel
theorem dX10_areIn_12 : decode cX10_areIn 12 = .ok (.iaload, 1) := by decide +kernel
theorem dX10_areIn_13 : decode cX10_areIn 13 = .ok (.if_icmp .ge 35, 3) := by decide +kernel
theorem dX10_areIn_16 : decode cX10_areIn 16 = .ok (.iload_n 3, 1) := by decide +kernel
theorem dX10_areIn_17 : decode cX10_areIn 17 = .ok (.ifCond .eq 23, 3) := by decide +kernel
theorem dX10_areIn_20 : decode cX10_areIn 20 = .ok (.aload_n 0, 1) := by decide +kernel
theorem dX10_areIn_21 : decode cX10_areIn 21 = .ok (.iload_n 1, 1) := by decide +kernel
theorem dX10_areIn_22 : decode cX10_areIn 22 = .ok (.iload 4, 2) := by decide +kernel
theorem dX10_areIn_24 : decode cX10_areIn 24 = .ok (.invokevirtual 560, 3) := by decide +kernel
theorem dX10_areIn_27 : decode cX10_areIn 27 = .ok (.lconst 0, 1) := by decide +kernel
theorem dX10_areIn_28 : decode cX10_areIn 28 = .ok (.iload_n 2, 1) := by decide +kernel
theorem dX10_areIn_29 : decode cX10_areIn 29 = .ok (.i2l, 1) := by decide +kernel
theorem dX10_areIn_30 : decode cX10_areIn 30 = .ok (.invokestatic 139, 3) := by decide +kernel
theorem dX10_areIn_33 : decode cX10_areIn 33 = .ok (.ifCond .eq 7, 3) := by decide +kernel
theorem dX10_areIn_36 : decode cX10_areIn 36 = .ok (.iconst 1, 1) := by decide +kernel
theorem dX10_areIn_37 : decode cX10_areIn 37 = .ok (.goto 4, 3) := by decide +kernel
theorem dX10_areIn_40 : decode cX10_areIn 40 = .ok (.iconst 0, 1) := by decide +kernel
theorem dX10_areIn_41 : decode cX10_areIn 41 = .ok (.istore_n 3, 1) := by decide +kernel
theorem dX10_areIn_42 : decode cX10_areIn 42 = .ok (.iinc 4 1, 3) := by decide +kernel
theorem dX10_areIn_45 : decode cX10_areIn 45 = .ok (.goto (-40), 3) := by decide +kernel
theorem dX10_areIn_48 : decode cX10_areIn 48 = .ok (.iload_n 3, 1) := by decide +kernel
theorem dX10_areIn_49 : decode cX10_areIn 49 = .ok (.ireturn, 1) := by decide +kernel
theorem dX10_trace_0 : decode cX10_trace 0 = .ok (.iload_n 1, 1) := by decide +kernel
theorem dX10_trace_1 : decode cX10_trace 1 = .ok (.invokestatic 564, 3) := by decide +kernel
theorem dX10_trace_4 : decode cX10_trace 4 = .ok (.ifCond .eq 10, 3) := by decide +kernel
theorem dX10_trace_7 : decode cX10_trace 7 = .ok (.aload_n 0, 1) := by decide +kernel
theorem dX10_trace_8 : decode cX10_trace 8 = .ok (.invokevirtual 471, 3) := by decide +kernel
theorem dX10_trace_11 : decode cX10_trace 11 = .ok (.ifCond .ne 6, 3) := by decide +kernel
theorem dX10_trace_14 : decode cX10_trace 14 = .ok (.bipush (-2), 2) := by decide +kernel
theorem dX10_trace_16 : decode cX10_trace 16 = .ok (.ireturn, 1) := by decide +kernel
theorem dX10_trace_17 : decode cX10_trace 17 = .ok (.aload_n 0, 1) := by decide +kernel
theorem dX10_trace_18 : decode cX10_trace 18 = .ok (.getfield 115, 3) := by decide +kernel
theorem dX10_trace_21 : decode cX10_trace 21 = .ok (.iload_n 1, 1) := by decide +kernel
theorem dX10_trace_22 : decode cX10_trace 22 = .ok (.iaload, 1) := by decide +kernel
theorem dX10_trace_23 : decode cX10_trace 23 = .ok (.iconst (-1), 1) := by decide +kernel
theorem dX10_trace_24 : decode cX10_trace 24 = .ok (.if_icmp .ne 6, 3) := by decide +kernel
theorem dX10_trace_27 : decode cX10_trace 27 = .ok (.bipush (-6), 2) := by decide +kernel
theorem dX10_trace_29 : decode cX10_trace 29 = .ok (.ireturn, 1) := by decide +kernel
theorem dX10_trace_30 : decode cX10_trace 30 = .ok (.aload_n 0, 1) := by decide +kernel
theorem dX10_trace_31 : decode cX10_trace 31 = .ok (.iload_n 1, 1) := by decide +kernel
theorem dX10_trace_32 : decode cX10_trace 32 = .ok (.bipush 127, 2) := by decide +kernel
theorem dX10_trace_34 : decode cX10_trace 34 = .ok (.invokevirtual 567, 3) := by decide +kernel
theorem dX10_trace_37 : decode cX10_trace 37 = .ok (.ifCond .ne 6, 3) := by decide +kernel
theorem dX10_trace_40 : decode cX10_trace 40 = .ok (.bipush (-2), 2) := by decide +kernel
theorem dX10_trace_42 : decode cX10_trace 42 = .ok (.ireturn, 1) := by decide +kernel
theorem dX10_trace_43 : decode cX10_trace 43 = .ok (.iconst 0, 1) := by decide +kernel
theorem dX10_trace_44 : decode cX10_trace 44 = .ok (.istore_n 2, 1) := by decide +kernel
theorem dX10_trace_45 : decode cX10_trace 45 = .ok (.aload_n 0, 1) := by decide +kernel
theorem dX10_trace_46 : decode cX10_trace 46 = .ok (.invokevirtual 453, 3) := by decide +kernel
theorem dX10_trace_49 : decode cX10_trace 49 = .ok (.iconst 0, 1) := by decide +kernel
theorem dX10_trace_50 : decode cX10_trace 50 = .ok (.istore_n 3, 1) := by decide +kernel
theorem dX10_trace_51 : decode cX10_trace 51 = .ok (.iload_n 3, 1) := by decide +kernel
theorem dX10_trace_52 : decode cX10_trace 52 = .ok (.aload_n 0, 1) := by decide +kernel
theorem dX10_trace_53 : decode cX10_trace 53 = .ok (.getfield 115, 3) := by decide +kernel
theorem dX10_trace_56 : decode cX10_trace 56 = .ok (.iload_n 1, 1) := by decide +kernel
theorem dX10_trace_57 : decode cX10_trace 57 = .ok (.iaload, 1) := by decide +kernel
theorem dX10_trace_58 : decode cX10_trace 58 = .ok (.if_icmp .ge 53, 3) := by decide +kernel
theorem dX10_trace_61 : decode cX10_trace 61 = .ok (.aload_n 0, 1) := by decide +kernel
theorem dX10_trace_62 : decode cX10_trace 62 = .ok (.iload_n 1, 1) := by decide +kernel
theorem dX10_trace_63 : decode cX10_trace 63 = .ok (.iload_n 3, 1) := by decide +kernel
theorem dX10_trace_64 : decode cX10_trace 64 = .ok (.invokevirtual 560, 3) := by decide +kernel
theorem dX10_trace_67 : decode cX10_trace 67 = .ok (.l2i, 1) := by decide +kernel
theorem dX10_trace_68 : decode cX10_trace 68 = .ok (.istore 4, 2) := by decide +kernel
theorem dX10_trace_70 : decode cX10_trace 70 = .ok (.aload_n 0, 1) := by decide +kernel
theorem dX10_trace_71 : decode cX10_trace 71 = .ok (.iload 4, 2) := by decide +kernel
theorem dX10_trace_73 : decode cX10_trace 73 = .ok (.iconst 2, 1) := by decide +kernel
theorem dX10_trace_74 : decode cX10_trace 74 = .ok (.idiv, 1) := by decide +kernel
theorem dX10_trace_75 : decode cX10_trace 75 = .ok (.invokevirtual 456, 3) := by decide +kernel
theorem dX10_trace_78 : decode cX10_trace 78 = .ok (.iload_n 2, 1) := by decide +kernel
theorem dX10_trace_79 : decode cX10_trace 79 = .ok (.aload_n 0, 1) := by decide +kernel
theorem dX10_trace_80 : decode cX10_trace 80 = .ok (.getfield 422, 3) := by decide +kernel
theorem dX10_trace_83 : decode cX10_trace 83 = .ok (.iload 4, 2) := by decide +kernel
theorem dX10_trace_85 : decode cX10_trace 85 = .ok (.iconst 2, 1) := by decide +kernel
theorem dX10_trace_86 : decode cX10_trace 86 = .ok (.irem, 1) := by decide +kernel
theorem dX10_trace_87 : decode cX10_trace 87 = .ok (.if_icmp .ne 7, 3) := by decide +kernel
theorem dX10_trace_90 : decode cX10_trace 90 = .ok (.iconst 0, 1) := by decide +kernel
theorem dX10_trace_91 : decode cX10_trace 91 = .ok (.goto 4, 3) := by decide +kernel
theorem dX10_trace_94 : decode cX10_trace 94 = .ok (.iconst 1, 1) := by decide +kernel
theorem dX10_trace_95 : decode cX10_trace 95 = .ok (.iadd, 1) := by decide +kernel
theorem dX10_trace_96 : decode cX10_trace 96 = .ok (.istore_n 2, 1) := by decide +kernel
theorem dX10_trace_97 : decode cX10_trace 97 = .ok (.aload_n 0, 1) := by decide +kernel
theorem dX10_trace_98 : decode cX10_trace 98 = .ok (.iload 4, 2) := by decide +kernel
theorem dX10_trace_100 : decode cX10_trace 100 = .ok (.iconst 2, 1) := by decide +kernel
theorem dX10_trace_101 : decode cX10_trace 101 = .ok (.irem, 1) := by decide +kernel
theorem dX10_trace_102 : decode cX10_trace 102 = .ok (.invokevirtual 459, 3) := by decide +kernel
theorem dX10_trace_105 : decode cX10_trace 105 = .ok (.iinc 3 1, 3) := by decide +kernel
theorem dX10_trace_108 : decode cX10_trace 108 = .ok (.goto (-57), 3) := by decide +kernel
theorem dX10_trace_111 : decode cX10_trace 111 = .ok (.iload_n 2, 1) := by decide +kernel
theorem dX10_trace_112 : decode cX10_trace 112 = .ok (.ireturn, 1) := by decide +kernel
theorem dX10_like_0 : decode cX10_like 0 = .ok (.iload_n 1, 1) := by decide +kernel
theorem dX10_like_1 : decode cX10_like 1 = .ok (.invokestatic 564, 3) := by decide +kernel
theorem dX10_like_4 : decode cX10_like 4 = .ok (.ifCond .eq 10, 3) := by decide +kernel
theorem dX10_like_7 : decode cX10_like 7 = .ok (.aload_n 0, 1) := by decide +kernel
theorem dX10_like_8 : decode cX10_like 8 = .ok (.invokevirtual 471, 3) := by decide +kernel
theorem dX10_like_11 : decode cX10_like 11 = .ok (.ifCond .ne 6, 3) := by decide +kernel
theorem dX10_like_14 : decode cX10_like 14 = .ok (.bipush (-2), 2) := by decide +kernel
theorem dX10_like_16 : decode cX10_like 16 = .ok (.ireturn, 1) := by decide +kernel
theorem dX10_like_17 : decode cX10_like 17 = .ok (.aload_n 0, 1) := by decide +kernel
theorem dX10_like_18 : decode cX10_like 18 = .ok (.getfield 115, 3) := by decide +kernel
theorem dX10_like_21 : decode cX10_like 21 = .ok (.iload_n 1, 1) := by decide +kernel
theorem dX10_like_22 : decode cX10_like 22 = .ok (.iaload, 1) := by decide +kernel
theorem dX10_like_23 : decode cX10_like 23 = .ok (.iconst (-1), 1) := by decide +kernel
theorem dX10_like_24 : decode cX10_like 24 = .ok (.if_icmp .ne 6, 3) := by decide +kernel
theorem dX10_like_27 : decode cX10_like 27 = .ok (.bipush (-6), 2) := by decide +kernel
theorem dX10_like_29 : decode cX10_like 29 = .ok (.ireturn, 1) := by decide +kernel
theorem dX10_like_30 : decode cX10_like 30 = .ok (.aload_n 0, 1) := by decide +kernel
theorem dX10_like_31 : decode cX10_like 31 = .ok (.iload_n 1, 1) := by decide +kernel
theorem dX10_like_32 : decode cX10_like 32 = .ok (.iconst 1, 1) := by decide +kernel
theorem dX10_like_33 : decode cX10_like 33 = .ok (.invokevirtual 567, 3) := by decide +kernel
theorem dX10_like_36 : decode cX10_like 36 = .ok (.ifCond .eq 16, 3) := by decide +kernel
theorem dX10_like_39 : decode cX10_like 39 = .ok (.aload_n 0, 1) := by decide +kernel
