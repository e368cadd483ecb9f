theorem dX9_history_32 : decode cX9_history 32 = .ok (.getfield 179, 3) := by decide +kernel
theorem dX9_history_35 : decode cX9_history 35 = .ok (.l2i, 1) := by decide +kernel
theorem dX9_history_36 : decode cX9_history 36 = .ok (.iload_n 2, 1) := by decide +kernel
theorem dX9_history_37 : decode cX9_history 37 = .ok (.invokestatic 183, 3) := by decide +kernel
theorem dX9_history_40 : decode cX9_history 40 = .ok (.iand, 1) := by decide +kernel
theorem dX9_history_41 : decode cX9_history 41 = .ok (.ireturn, 1) := by decide +kernel
theorem dX9_fold_0 : decode cX9_fold 0 = .ok (.aload_n 0, 1) := by decide +kernel
theorem dX9_fold_1 : decode cX9_fold 1 = .ok (.iload_n 1, 1) := by decide +kernel
theorem dX9_fold_2 : decode cX9_fold 2 = .ok (.invokevirtual 144, 3) := by decide +kernel
theorem dX9_fold_5 : decode cX9_fold 5 = .ok (.ifCond .eq 27, 3) := by decide +kernel
theorem dX9_fold_8 : decode cX9_fold 8 = .ok (.iload_n 2, 1) := by decide +kernel
theorem dX9_fold_9 : decode cX9_fold 9 = .ok (.i2l, 1) := by decide +kernel
theorem dX9_fold_10 : decode cX9_fold 10 = .ok (.lconst 1, 1) := by decide +kernel
theorem dX9_fold_11 : decode cX9_fold 11 = .ok (.ldc2_w 186, 3) := by decide +kernel
theorem dX9_fold_14 : decode cX9_fold 14 = .ok (.invokestatic 77, 3) := by decide +kernel
theorem dX9_fold_17 : decode cX9_fold 17 = .ok (.ifCond .eq 15, 3) := by decide +kernel
theorem dX9_fold_20 : decode cX9_fold 20 = .ok (.iload_n 3, 1) := by decide +kernel
theorem dX9_fold_21 : decode cX9_fold 21 = .ok (.i2l, 1) := by decide +kernel
theorem dX9_fold_22 : decode cX9_fold 22 = .ok (.lconst 1, 1) := by decide +kernel
theorem dX9_fold_23 : decode cX9_fold 23 = .ok (.ldc2_w 188, 3) := by decide +kernel
theorem dX9_fold_26 : decode cX9_fold 26 = .ok (.invokestatic 77, 3) := by decide +kernel
theorem dX9_fold_29 : decode cX9_fold 29 = .ok (.ifCond .ne 6, 3) := by decide +kernel
theorem dX9_fold_32 : decode cX9_fold 32 = .ok (.bipush (-2), 2) := by decide +kernel
theorem dX9_fold_34 : decode cX9_fold 34 = .ok (.ireturn, 1) := by decide +kernel
theorem dX9_fold_35 : decode cX9_fold 35 = .ok (.aload_n 0, 1) := by decide +kernel
theorem dX9_fold_36 : decode cX9_fold 36 = .ok (.iload_n 1, 1) := by decide +kernel
theorem dX9_fold_37 : decode cX9_fold 37 = .ok (.invokevirtual 176, 3) := by decide +kernel
theorem dX9_fold_40 : decode cX9_fold 40 = .ok (.aload_n 0, 1) := by decide +kernel
theorem dX9_fold_41 : decode cX9_fold 41 = .ok (.getfield 51, 3) := by decide +kernel
theorem dX9_fold_44 : decode cX9_fold 44 = .ok (.getfield 179, 3) := by decide +kernel
theorem dX9_fold_47 : decode cX9_fold 47 = .ok (.iload_n 2, 1) := by decide +kernel
theorem dX9_fold_48 : decode cX9_fold 48 = .ok (.iload_n 3, 1) := by decide +kernel
theorem dX9_fold_49 : decode cX9_fold 49 = .ok (.invokestatic 190, 3) := by decide +kernel
theorem dX9_fold_52 : decode cX9_fold 52 = .ok (.ireturn, 1) := by decide +kernel
theorem dX9_index_0 : decode cX9_index 0 = .ok (.aload_n 0, 1) := by decide +kernel
theorem dX9_index_1 : decode cX9_index 1 = .ok (.iload_n 3, 1) := by decide +kernel
theorem dX9_index_2 : decode cX9_index 2 = .ok (.invokevirtual 144, 3) := by decide +kernel
theorem dX9_index_5 : decode cX9_index 5 = .ok (.ifCond .eq 18, 3) := by decide +kernel
theorem dX9_index_8 : decode cX9_index 8 = .ok (.aload_n 0, 1) := by decide +kernel
theorem dX9_index_9 : decode cX9_index 9 = .ok (.iload_n 1, 1) := by decide +kernel
theorem dX9_index_10 : decode cX9_index 10 = .ok (.invokevirtual 194, 3) := by decide +kernel
theorem dX9_index_13 : decode cX9_index 13 = .ok (.ifCond .eq 10, 3) := by decide +kernel
theorem dX9_index_16 : decode cX9_index 16 = .ok (.iload_n 2, 1) := by decide +kernel
theorem dX9_index_17 : decode cX9_index 17 = .ok (.invokestatic 150, 3) := by decide +kernel
theorem dX9_index_20 : decode cX9_index 20 = .ok (.ifCond .ne 6, 3) := by decide +kernel
theorem dX9_index_23 : decode cX9_index 23 = .ok (.bipush (-2), 2) := by decide +kernel
theorem dX9_index_25 : decode cX9_index 25 = .ok (.ireturn, 1) := by decide +kernel
theorem dX9_index_26 : decode cX9_index 26 = .ok (.aload_n 0, 1) := by decide +kernel
theorem dX9_index_27 : decode cX9_index 27 = .ok (.iload_n 3, 1) := by decide +kernel
theorem dX9_index_28 : decode cX9_index 28 = .ok (.invokevirtual 176, 3) := by decide +kernel
theorem dX9_index_31 : decode cX9_index 31 = .ok (.aload_n 0, 1) := by decide +kernel
theorem dX9_index_32 : decode cX9_index 32 = .ok (.getfield 51, 3) := by decide +kernel
theorem dX9_index_35 : decode cX9_index 35 = .ok (.getfield 197, 3) := by decide +kernel
theorem dX9_index_38 : decode cX9_index 38 = .ok (.iload_n 1, 1) := by decide +kernel
theorem dX9_index_39 : decode cX9_index 39 = .ok (.iload_n 2, 1) := by decide +kernel
theorem dX9_index_40 : decode cX9_index 40 = .ok (.aload_n 0, 1) := by decide +kernel
theorem dX9_index_41 : decode cX9_index 41 = .ok (.getfield 51, 3) := by decide +kernel
theorem dX9_index_44 : decode cX9_index 44 = .ok (.getfield 179, 3) := by decide +kernel
theorem dX9_index_47 : decode cX9_index 47 = .ok (.invokevirtual 200, 3) := by decide +kernel
theorem dX9_index_50 : decode cX9_index 50 = .ok (.ireturn, 1) := by decide +kernel
theorem dX9_tag_0 : decode cX9_tag 0 = .ok (.aload_n 0, 1) := by decide +kernel
theorem dX9_tag_1 : decode cX9_tag 1 = .ok (.iload_n 3, 1) := by decide +kernel
theorem dX9_tag_2 : decode cX9_tag 2 = .ok (.invokevirtual 144, 3) := by decide +kernel
theorem dX9_tag_5 : decode cX9_tag 5 = .ok (.ifCond .eq 18, 3) := by decide +kernel
theorem dX9_tag_8 : decode cX9_tag 8 = .ok (.aload_n 0, 1) := by decide +kernel
theorem dX9_tag_9 : decode cX9_tag 9 = .ok (.iload_n 1, 1) := by decide +kernel
theorem dX9_tag_10 : decode cX9_tag 10 = .ok (.invokevirtual 194, 3) := by decide +kernel
theorem dX9_tag_13 : decode cX9_tag 13 = .ok (.ifCond .eq 10, 3) := by decide +kernel
theorem dX9_tag_16 : decode cX9_tag 16 = .ok (.iload_n 2, 1) := by decide +kernel
theorem dX9_tag_17 : decode cX9_tag 17 = .ok (.invokestatic 150, 3) := by decide +kernel
theorem dX9_tag_20 : decode cX9_tag 20 = .ok (.ifCond .ne 6, 3) := by decide +kernel
theorem dX9_tag_23 : decode cX9_tag 23 = .ok (.bipush (-2), 2) := by decide +kernel
theorem dX9_tag_25 : decode cX9_tag 25 = .ok (.ireturn, 1) := by decide +kernel
theorem dX9_tag_26 : decode cX9_tag 26 = .ok (.aload_n 0, 1) := by decide +kernel
theorem dX9_tag_27 : decode cX9_tag 27 = .ok (.iload_n 3, 1) := by decide +kernel
theorem dX9_tag_28 : decode cX9_tag 28 = .ok (.invokevirtual 176, 3) := by decide +kernel
theorem dX9_tag_31 : decode cX9_tag 31 = .ok (.aload_n 0, 1) := by decide +kernel
theorem dX9_tag_32 : decode cX9_tag 32 = .ok (.getfield 51, 3) := by decide +kernel
theorem dX9_tag_35 : decode cX9_tag 35 = .ok (.getfield 197, 3) := by decide +kernel
theorem dX9_tag_38 : decode cX9_tag 38 = .ok (.iload_n 1, 1) := by decide +kernel
theorem dX9_tag_39 : decode cX9_tag 39 = .ok (.iload_n 2, 1) := by decide +kernel
theorem dX9_tag_40 : decode cX9_tag 40 = .ok (.aload_n 0, 1) := by decide +kernel
theorem dX9_tag_41 : decode cX9_tag 41 = .ok (.getfield 51, 3) := by decide +kernel
theorem dX9_tag_44 : decode cX9_tag 44 = .ok (.getfield 179, 3) := by decide +kernel
theorem dX9_tag_47 : decode cX9_tag 47 = .ok (.invokevirtual 206, 3) := by decide +kernel
theorem dX9_tag_50 : decode cX9_tag 50 = .ok (.ireturn, 1) := by decide +kernel
theorem dX9_provider_0 : decode cX9_provider 0 = .ok (.aload_n 0, 1) := by decide +kernel
theorem dX9_provider_1 : decode cX9_provider 1 = .ok (.iload_n 1, 1) := by decide +kernel
theorem dX9_provider_2 : decode cX9_provider 2 = .ok (.iload_n 2, 1) := by decide +kernel
theorem dX9_provider_3 : decode cX9_provider 3 = .ok (.invokevirtual 209, 3) := by decide +kernel
theorem dX9_provider_6 : decode cX9_provider 6 = .ok (.ifCond .eq 16, 3) := by decide +kernel
theorem dX9_provider_9 : decode cX9_provider 9 = .ok (.aload_n 0, 1) := by decide +kernel
theorem dX9_provider_10 : decode cX9_provider 10 = .ok (.getfield 51, 3) := by decide +kernel
theorem dX9_provider_13 : decode cX9_provider 13 = .ok (.getfield 197, 3) := by decide +kernel
theorem dX9_provider_16 : decode cX9_provider 16 = .ok (.getfield 213, 3) := by decide +kernel
theorem dX9_provider_19 : decode cX9_provider 19 = .ok (.goto 5, 3) := by decide +kernel
theorem dX9_provider_22 : decode cX9_provider 22 = .ok (.bipush (-2), 2) := by decide +kernel
theorem dX9_provider_24 : decode cX9_provider 24 = .ok (.ireturn, 1) := by decide +kernel
theorem dX9_alternate_0 : decode cX9_alternate 0 = .ok (.aload_n 0, 1) := by decide +kernel
theorem dX9_alternate_1 : decode cX9_alternate 1 = .ok (.iload_n 1, 1) := by decide +kernel
theorem dX9_alternate_2 : decode cX9_alternate 2 = .ok (.iload_n 2, 1) := by decide +kernel
theorem dX9_alternate_3 : decode cX9_alternate 3 = .ok (.invokevirtual 209, 3) := by decide +kernel
theorem dX9_alternate_6 : decode cX9_alternate 6 = .ok (.ifCond .eq 16, 3) := by decide +kernel
theorem dX9_alternate_9 : decode cX9_alternate 9 = .ok (.aload_n 0, 1) := by decide +kernel
theorem dX9_alternate_10 : decode cX9_alternate 10 = .ok (.getfield 51, 3) := by decide +kernel
theorem dX9_alternate_13 : decode cX9_alternate 13 = .ok (.getfield 197, 3) := by decide +kernel
theorem dX9_alternate_16 : decode cX9_alternate 16 = .ok (.getfield 216, 3) := by decide +kernel
theorem dX9_alternate_19 : decode cX9_alternate 19 = .ok (.goto 5, 3) := by decide +kernel
theorem dX9_alternate_22 : decode cX9_alternate 22 = .ok (.bipush (-2), 2) := by decide +kernel
theorem dX9_alternate_24 : decode cX9_alternate 24 = .ok (.ireturn, 1) := by decide +kernel
theorem dX9_guess_0 : decode cX9_guess 0 = .ok (.aload_n 0, 1) := by decide +kernel
theorem dX9_guess_1 : decode cX9_guess 1 = .ok (.iload_n 1, 1) := by decide +kernel
theorem dX9_guess_2 : decode cX9_guess 2 = .ok (.iload_n 2, 1) := by decide +kernel
theorem dX9_guess_3 : decode cX9_guess 3 = .ok (.invokevirtual 209, 3) := by decide +kernel
theorem dX9_guess_6 : decode cX9_guess 6 = .ok (.ifCond .eq 13, 3) := by decide +kernel
theorem dX9_guess_9 : decode cX9_guess 9 = .ok (.aload_n 0, 1) := by decide +kernel
theorem dX9_guess_10 : decode cX9_guess 10 = .ok (.getfield 51, 3) := by decide +kernel
theorem dX9_guess_13 : decode cX9_guess 13 = .ok (.getfield 219, 3) := by decide +kernel
theorem dX9_guess_16 : decode cX9_guess 16 = .ok (.goto 5, 3) := by decide +kernel
theorem dX9_guess_19 : decode cX9_guess 19 = .ok (.bipush (-2), 2) := by decide +kernel
theorem dX9_guess_21 : decode cX9_guess 21 = .ok (.ireturn, 1) := by decide +kernel
theorem dX9_adds_0 : decode cX9_adds 0 = .ok (.aload_n 0, 1) := by decide +kernel
theorem dX9_adds_1 : decode cX9_adds 1 = .ok (.iload_n 1, 1) := by decide +kernel
theorem dX9_adds_2 : decode cX9_adds 2 = .ok (.iload_n 2, 1) := by decide +kernel
theorem dX9_adds_3 : decode cX9_adds 3 = .ok (.invokevirtual 209, 3) := by decide +kernel
theorem dX9_adds_6 : decode cX9_adds 6 = .ok (.ifCond .eq 16, 3) := by decide +kernel
theorem dX9_adds_9 : decode cX9_adds 9 = .ok (.aload_n 0, 1) := by decide +kernel
theorem dX9_adds_10 : decode cX9_adds 10 = .ok (.getfield 51, 3) := by decide +kernel
theorem dX9_adds_13 : decode cX9_adds 13 = .ok (.getfield 222, 3) := by decide +kernel
theorem dX9_adds_16 : decode cX9_adds 16 = .ok (.getfield 226, 3) := by decide +kernel
theorem dX9_adds_19 : decode cX9_adds 19 = .ok (.goto 6, 3) := by decide +kernel
theorem dX9_adds_22 : decode cX9_adds 22 = .ok (.sipush (-1000), 3) := by decide +kernel
theorem dX9_adds_25 : decode cX9_adds 25 = .ok (.ireturn, 1) := by decide +kernel
theorem dX9_entry_0 : decode cX9_entry 0 = .ok (.aload_n 0, 1) := by decide +kernel
theorem dX9_entry_1 : decode cX9_entry 1 = .ok (.iload 4, 2) := by decide +kernel
theorem dX9_entry_3 : decode cX9_entry 3 = .ok (.invokevirtual 144, 3) := by decide +kernel
theorem dX9_entry_6 : decode cX9_entry 6 = .ok (.ifCond .eq 45, 3) := by decide +kernel
theorem dX9_entry_9 : decode cX9_entry 9 = .ok (.aload_n 0, 1) := by decide +kernel
theorem dX9_entry_10 : decode cX9_entry 10 = .ok (.iload_n 1, 1) := by decide +kernel
theorem dX9_entry_11 : decode cX9_entry 11 = .ok (.invokevirtual 194, 3) := by decide +kernel
theorem dX9_entry_14 : decode cX9_entry 14 = .ok (.ifCond .eq 37, 3) := by decide +kernel
theorem dX9_entry_17 : decode cX9_entry 17 = .ok (.iload_n 2, 1) := by decide +kernel
theorem dX9_entry_18 : decode cX9_entry 18 = .ok (.i2l, 1) := by decide +kernel
theorem dX9_entry_19 : decode cX9_entry 19 = .ok (.lconst 0, 1) := by decide +kernel
theorem dX9_entry_20 : decode cX9_entry 20 = .ok (.aload_n 0, 1) := by decide +kernel
theorem dX9_entry_21 : decode cX9_entry 21 = .ok (.getfield 23, 3) := by decide +kernel
theorem dX9_entry_24 : decode cX9_entry 24 = .ok (.getfield 231, 3) := by decide +kernel
theorem dX9_entry_27 : decode cX9_entry 27 = .ok (.iconst 0, 1) := by decide +kernel
theorem dX9_entry_28 : decode cX9_entry 28 = .ok (.iaload, 1) := by decide +kernel
theorem dX9_entry_29 : decode cX9_entry 29 = .ok (.invokestatic 183, 3) := by decide +kernel
theorem dX9_entry_32 : decode cX9_entry 32 = .ok (.i2l, 1) := by decide +kernel
theorem dX9_entry_33 : decode cX9_entry 33 = .ok (.invokestatic 77, 3) := by decide +kernel
theorem dX9_entry_36 : decode cX9_entry 36 = .ok (.ifCond .eq 15, 3) := by decide +kernel
theorem dX9_entry_39 : decode cX9_entry 39 = .ok (.iload_n 3, 1) := by decide +kernel
theorem dX9_entry_40 : decode cX9_entry 40 = .ok (.i2l, 1) := by decide +kernel
theorem dX9_entry_41 : decode cX9_entry 41 = .ok (.lconst 0, 1) := by decide +kernel
theorem dX9_entry_42 : decode cX9_entry 42 = .ok (.ldc2_w 234, 3) := by decide +kernel
theorem dX9_entry_45 : decode cX9_entry 45 = .ok (.invokestatic 77, 3) := by decide +kernel
theorem dX9_entry_48 : decode cX9_entry 48 = .ok (.ifCond .ne 7, 3) := by decide +kernel
theorem dX9_entry_51 : decode cX9_entry 51 = .ok (.sipush (-1000), 3) := by decide +kernel
theorem dX9_entry_54 : decode cX9_entry 54 = .ok (.ireturn, 1) := by decide +kernel
theorem dX9_entry_55 : decode cX9_entry 55 = .ok (.aload_n 0, 1) := by decide +kernel
theorem dX9_entry_56 : decode cX9_entry 56 = .ok (.iload 4, 2) := by decide +kernel
theorem dX9_entry_58 : decode cX9_entry 58 = .ok (.invokevirtual 176, 3) := by decide +kernel
theorem dX9_entry_61 : decode cX9_entry 61 = .ok (.bipush 16, 2) := by decide +kernel
theorem dX9_entry_63 : decode cX9_entry 63 = .ok (.iload_n 1, 1) := by decide +kernel
theorem dX9_entry_64 : decode cX9_entry 64 = .ok (.iconst 1, 1) := by decide +kernel
theorem dX9_entry_65 : decode cX9_entry 65 = .ok (.isub, 1) := by decide +kernel
theorem dX9_entry_66 : decode cX9_entry 66 = .ok (.imul, 1) := by decide +kernel
theorem dX9_entry_67 : decode cX9_entry 67 = .ok (.iload_n 2, 1) := by decide +kernel
theorem dX9_entry_68 : decode cX9_entry 68 = .ok (.iadd, 1) := by decide +kernel
theorem dX9_entry_69 : decode cX9_entry 69 = .ok (.istore 5, 2) := by decide +kernel
theorem dX9_entry_71 : decode cX9_entry 71 = .ok (.iload_n 3, 1) := by decide +kernel
theorem dX9_entry_72 : decode cX9_entry 72 = .ok (.ifCond .ne 17, 3) := by decide +kernel
theorem dX9_entry_75 : decode cX9_entry 75 = .ok (.aload_n 0, 1) := by decide +kernel
theorem dX9_entry_76 : decode cX9_entry 76 = .ok (.getfield 51, 3) := by decide +kernel
theorem dX9_entry_79 : decode cX9_entry 79 = .ok (.getfield 197, 3) := by decide +kernel
theorem dX9_entry_82 : decode cX9_entry 82 = .ok (.getfield 236, 3) := by decide +kernel
theorem dX9_entry_85 : decode cX9_entry 85 = .ok (.iload 5, 2) := by decide +kernel
theorem dX9_entry_87 : decode cX9_entry 87 = .ok (.iaload, 1) := by decide +kernel
theorem dX9_entry_88 : decode cX9_entry 88 = .ok (.ireturn, 1) := by decide +kernel
theorem dX9_entry_89 : decode cX9_entry 89 = .ok (.iload_n 3, 1) := by decide +kernel
theorem dX9_entry_90 : decode cX9_entry 90 = .ok (.iconst 1, 1) := by decide +kernel
theorem dX9_entry_91 : decode cX9_entry 91 = .ok (.if_icmp .ne 19, 3) := by decide +kernel
theorem dX9_entry_94 : decode cX9_entry 94 = .ok (.aload_n 0, 1) := by decide +kernel
theorem dX9_entry_95 : decode cX9_entry 95 = .ok (.getfield 51, 3) := by decide +kernel
theorem dX9_entry_98 : decode cX9_entry 98 = .ok (.getfield 197, 3) := by decide +kernel
theorem dX9_entry_101 : decode cX9_entry 101 = .ok (.getfield 239, 3) := by decide +kernel
theorem dX9_entry_104 : decode cX9_entry 104 = .ok (.iload 5, 2) := by decide +kernel
theorem dX9_entry_106 : decode cX9_entry 106 = .ok (.iaload, 1) := by decide +kernel
theorem dX9_entry_107 : decode cX9_entry 107 = .ok (.goto 16, 3) := by decide +kernel
theorem dX9_entry_110 : decode cX9_entry 110 = .ok (.aload_n 0, 1) := by decide +kernel
theorem dX9_entry_111 : decode cX9_entry 111 = .ok (.getfield 51, 3) := by decide +kernel
theorem dX9_entry_114 : decode cX9_entry 114 = .ok (.getfield 197, 3) := by decide +kernel
theorem dX9_entry_117 : decode cX9_entry 117 = .ok (.getfield 242, 3) := by decide +kernel
theorem dX9_entry_120 : decode cX9_entry 120 = .ok (.iload 5, 2) := by decide +kernel
theorem dX9_entry_122 : decode cX9_entry 122 = .ok (.iaload, 1) := by decide +kernel
theorem dX9_entry_123 : decode cX9_entry 123 = .ok (.ireturn, 1) := by decide +kernel
theorem dX9_held_0 : decode cX9_held 0 = .ok (.aload_n 0, 1) := by decide +kernel
theorem dX9_held_1 : decode cX9_held 1 = .ok (.iload_n 2, 1) := by decide +kernel
theorem dX9_held_2 : decode cX9_held 2 = .ok (.invokevirtual 144, 3) := by decide +kernel
theorem dX9_held_5 : decode cX9_held 5 = .ok (.ifCond .eq 20, 3) := by decide +kernel
theorem dX9_held_8 : decode cX9_held 8 = .ok (.iload_n 1, 1) := by decide +kernel
theorem dX9_held_9 : decode cX9_held 9 = .ok (.i2l, 1) := by decide +kernel
theorem dX9_held_10 : decode cX9_held 10 = .ok (.lconst 0, 1) := by decide +kernel
theorem dX9_held_11 : decode cX9_held 11 = .ok (.aload_n 0, 1) := by decide +kernel
theorem dX9_held_12 : decode cX9_held 12 = .ok (.getfield 23, 3) := by decide +kernel
theorem dX9_held_15 : decode cX9_held 15 = .ok (.getfield 171, 3) := by decide +kernel
theorem dX9_held_18 : decode cX9_held 18 = .ok (.i2l, 1) := by decide +kernel
theorem dX9_held_19 : decode cX9_held 19 = .ok (.invokestatic 77, 3) := by decide +kernel
theorem dX9_held_22 : decode cX9_held 22 = .ok (.ifCond .ne 6, 3) := by decide +kernel
theorem dX9_held_25 : decode cX9_held 25 = .ok (.bipush (-2), 2) := by decide +kernel
theorem dX9_held_27 : decode cX9_held 27 = .ok (.ireturn, 1) := by decide +kernel
theorem dX9_held_28 : decode cX9_held 28 = .ok (.aload_n 0, 1) := by decide +kernel
theorem dX9_held_29 : decode cX9_held 29 = .ok (.iload_n 2, 1) := by decide +kernel
theorem dX9_held_30 : decode cX9_held 30 = .ok (.invokevirtual 176, 3) := by decide +kernel
theorem dX9_held_33 : decode cX9_held 33 = .ok (.iload_n 1, 1) := by decide +kernel
theorem dX9_held_34 : decode cX9_held 34 = .ok (.ifCond .ne 19, 3) := by decide +kernel
theorem dX9_held_37 : decode cX9_held 37 = .ok (.aload_n 0, 1) := by decide +kernel
theorem dX9_held_38 : decode cX9_held 38 = .ok (.getfield 51, 3) := by decide +kernel
theorem dX9_held_41 : decode cX9_held 41 = .ok (.getfield 197, 3) := by decide +kernel
theorem dX9_held_44 : decode cX9_held 44 = .ok (.iconst 0, 1) := by decide +kernel
theorem dX9_held_45 : decode cX9_held 45 = .ok (.bipush 80, 2) := by decide +kernel
theorem dX9_held_47 : decode cX9_held 47 = .ok (.invokevirtual 245, 3) := by decide +kernel
theorem dX9_held_50 : decode cX9_held 50 = .ok (.goto 23, 3) := by decide +kernel
theorem dX9_held_53 : decode cX9_held 53 = .ok (.aload_n 0, 1) := by decide +kernel
theorem dX9_held_54 : decode cX9_held 54 = .ok (.getfield 51, 3) := by decide +kernel
theorem dX9_held_57 : decode cX9_held 57 = .ok (.getfield 197, 3) := by decide +kernel
theorem dX9_held_60 : decode cX9_held 60 = .ok (.bipush 16, 2) := by decide +kernel
theorem dX9_held_62 : decode cX9_held 62 = .ok (.iload_n 1, 1) := by decide +kernel
theorem dX9_held_63 : decode cX9_held 63 = .ok (.iconst 1, 1) := by decide +kernel
theorem dX9_held_64 : decode cX9_held 64 = .ok (.isub, 1) := by decide +kernel
theorem dX9_held_65 : decode cX9_held 65 = .ok (.imul, 1) := by decide +kernel
theorem dX9_held_66 : decode cX9_held 66 = .ok (.bipush 16, 2) := by decide +kernel
theorem dX9_held_68 : decode cX9_held 68 = .ok (.iload_n 1, 1) := by decide +kernel
theorem dX9_held_69 : decode cX9_held 69 = .ok (.imul, 1) := by decide +kernel
theorem dX9_held_70 : decode cX9_held 70 = .ok (.invokevirtual 245, 3) := by decide +kernel
theorem dX9_held_73 : decode cX9_held 73 = .ok (.ireturn, 1) := by decide +kernel
theorem dX9_base_0 : decode cX9_base 0 = .ok (.aload_n 0, 1) := by decide +kernel
theorem dX9_base_1 : decode cX9_base 1 = .ok (.iload_n 2, 1) := by decide +kernel
theorem dX9_base_2 : decode cX9_base 2 = .ok (.invokevirtual 144, 3) := by decide +kernel
theorem dX9_base_5 : decode cX9_base 5 = .ok (.ifCond .eq 15, 3) := by decide +kernel
theorem dX9_base_8 : decode cX9_base 8 = .ok (.iload_n 1, 1) := by decide +kernel
theorem dX9_base_9 : decode cX9_base 9 = .ok (.i2l, 1) := by decide +kernel
theorem dX9_base_10 : decode cX9_base 10 = .ok (.lconst 0, 1) := by decide +kernel
theorem dX9_base_11 : decode cX9_base 11 = .ok (.ldc2_w 248, 3) := by decide +kernel
theorem dX9_base_14 : decode cX9_base 14 = .ok (.invokestatic 77, 3) := by decide +kernel
theorem dX9_base_17 : decode cX9_base 17 = .ok (.ifCond .ne 6, 3) := by decide +kernel
theorem dX9_base_20 : decode cX9_base 20 = .ok (.bipush (-2), 2) := by decide +kernel
theorem dX9_base_22 : decode cX9_base 22 = .ok (.ireturn, 1) := by decide +kernel
theorem dX9_base_23 : decode cX9_base 23 = .ok (.aload_n 0, 1) := by decide +kernel
theorem dX9_base_24 : decode cX9_base 24 = .ok (.iload_n 2, 1) := by decide +kernel
theorem dX9_base_25 : decode cX9_base 25 = .ok (.invokevirtual 176, 3) := by decide +kernel
theorem dX9_base_28 : decode cX9_base 28 = .ok (.aload_n 0, 1) := by decide +kernel
theorem dX9_base_29 : decode cX9_base 29 = .ok (.getfield 51, 3) := by decide +kernel
theorem dX9_base_32 : decode cX9_base 32 = .ok (.getfield 197, 3) := by decide +kernel
theorem dX9_base_35 : decode cX9_base 35 = .ok (.getfield 250, 3) := by decide +kernel
theorem dX9_base_38 : decode cX9_base 38 = .ok (.iload_n 1, 1) := by decide +kernel
theorem dX9_base_39 : decode cX9_base 39 = .ok (.iaload, 1) := by decide +kernel
theorem dX9_base_40 : decode cX9_base 40 = .ok (.ireturn, 1) := by decide +kernel
theorem dX9_gauge_0 : decode cX9_gauge 0 = .ok (.aload_n 0, 1) := by decide +kernel
theorem dX9_gauge_1 : decode cX9_gauge 1 = .ok (.iload_n 2, 1) := by decide +kernel
theorem dX9_gauge_2 : decode cX9_gauge 2 = .ok (.invokevirtual 144, 3) := by decide +kernel
theorem dX9_gauge_5 : decode cX9_gauge 5 = .ok (.ifCond .eq 15, 3) := by decide +kernel
theorem dX9_gauge_8 : decode cX9_gauge 8 = .ok (.iload_n 1, 1) := by decide +kernel
theorem dX9_gauge_9 : decode cX9_gauge 9 = .ok (.i2l, 1) := by decide +kernel
theorem dX9_gauge_10 : decode cX9_gauge 10 = .ok (.lconst 0, 1) := by decide +kernel
theorem dX9_gauge_11 : decode cX9_gauge 11 = .ok (.ldc2_w 105, 3) := by decide +kernel
theorem dX9_gauge_14 : decode cX9_gauge 14 = .ok (.invokestatic 77, 3) := by decide +kernel
theorem dX9_gauge_17 : decode cX9_gauge 17 = .ok (.ifCond .ne 6, 3) := by decide +kernel
theorem dX9_gauge_20 : decode cX9_gauge 20 = .ok (.bipush (-2), 2) := by decide +kernel
theorem dX9_gauge_22 : decode cX9_gauge 22 = .ok (.ireturn, 1) := by decide +kernel
theorem dX9_gauge_23 : decode cX9_gauge 23 = .ok (.aload_n 0, 1) := by decide +kernel
theorem dX9_gauge_24 : decode cX9_gauge 24 = .ok (.iload_n 2, 1) := by decide +kernel
theorem dX9_gauge_25 : decode cX9_gauge 25 = .ok (.invokevirtual 176, 3) := by decide +kernel
theorem dX9_gauge_28 : decode cX9_gauge 28 = .ok (.iload_n 1, 1) := by decide +kernel
theorem dX9_gauge_29 : decode cX9_gauge 29 = .ok (.ifCond .ne 14, 3) := by decide +kernel
theorem dX9_gauge_32 : decode cX9_gauge 32 = .ok (.aload_n 0, 1) := by decide +kernel
theorem dX9_gauge_33 : decode cX9_gauge 33 = .ok (.getfield 51, 3) := by decide +kernel
theorem dX9_gauge_36 : decode cX9_gauge 36 = .ok (.getfield 197, 3) := by decide +kernel
theorem dX9_gauge_39 : decode cX9_gauge 39 = .ok (.getfield 253, 3) := by decide +kernel
theorem dX9_gauge_42 : decode cX9_gauge 42 = .ok (.ireturn, 1) := by decide +kernel
theorem dX9_gauge_43 : decode cX9_gauge 43 = .ok (.iload_n 1, 1) := by decide +kernel
theorem dX9_gauge_44 : decode cX9_gauge 44 = .ok (.iconst 1, 1) := by decide +kernel
theorem dX9_gauge_45 : decode cX9_gauge 45 = .ok (.if_icmp .ne 14, 3) := by decide +kernel
theorem dX9_gauge_48 : decode cX9_gauge 48 = .ok (.aload_n 0, 1) := by decide +kernel
theorem dX9_gauge_49 : decode cX9_gauge 49 = .ok (.getfield 51, 3) := by decide +kernel
theorem dX9_gauge_52 : decode cX9_gauge 52 = .ok (.getfield 197, 3) := by decide +kernel
theorem dX9_gauge_55 : decode cX9_gauge 55 = .ok (.getfield 256, 3) := by decide +kernel
theorem dX9_gauge_58 : decode cX9_gauge 58 = .ok (.ireturn, 1) := by decide +kernel
theorem dX9_gauge_59 : decode cX9_gauge 59 = .ok (.iload_n 1, 1) := by decide +kernel
theorem dX9_gauge_60 : decode cX9_gauge 60 = .ok (.iconst 2, 1) := by decide +kernel
theorem dX9_gauge_61 : decode cX9_gauge 61 = .ok (.if_icmp .ne 16, 3) := by decide +kernel
theorem dX9_gauge_64 : decode cX9_gauge 64 = .ok (.aload_n 0, 1) := by decide +kernel
theorem dX9_gauge_65 : decode cX9_gauge 65 = .ok (.getfield 51, 3) := by decide +kernel
theorem dX9_gauge_68 : decode cX9_gauge 68 = .ok (.getfield 222, 3) := by decide +kernel
theorem dX9_gauge_71 : decode cX9_gauge 71 = .ok (.getfield 259, 3) := by decide +kernel
theorem dX9_gauge_74 : decode cX9_gauge 74 = .ok (.goto 13, 3) := by decide +kernel
theorem dX9_gauge_77 : decode cX9_gauge 77 = .ok (.aload_n 0, 1) := by decide +kernel
theorem dX9_gauge_78 : decode cX9_gauge 78 = .ok (.getfield 51, 3) := by decide +kernel
theorem dX9_gauge_81 : decode cX9_gauge 81 = .ok (.getfield 197, 3) := by decide +kernel
theorem dX9_gauge_84 : decode cX9_gauge 84 = .ok (.getfield 262, 3) := by decide +kernel
theorem dX9_gauge_87 : decode cX9_gauge 87 = .ok (.ireturn, 1) := by decide +kernel
theorem dX9_loop_0 : decode cX9_loop 0 = .ok (.aload_n 0, 1) := by decide +kernel
theorem dX9_loop_1 : decode cX9_loop 1 = .ok (.iload_n 3, 1) := by decide +kernel
theorem dX9_loop_2 : decode cX9_loop 2 = .ok (.invokevirtual 144, 3) := by decide +kernel
theorem dX9_loop_5 : decode cX9_loop 5 = .ok (.ifCond .eq 27, 3) := by decide +kernel
theorem dX9_loop_8 : decode cX9_loop 8 = .ok (.iload_n 1, 1) := by decide +kernel
theorem dX9_loop_9 : decode cX9_loop 9 = .ok (.i2l, 1) := by decide +kernel
theorem dX9_loop_10 : decode cX9_loop 10 = .ok (.lconst 0, 1) := by decide +kernel
theorem dX9_loop_11 : decode cX9_loop 11 = .ok (.ldc2_w 267, 3) := by decide +kernel
theorem dX9_loop_14 : decode cX9_loop 14 = .ok (.invokestatic 77, 3) := by decide +kernel
theorem dX9_loop_17 : decode cX9_loop 17 = .ok (.ifCond .eq 15, 3) := by decide +kernel
theorem dX9_loop_20 : decode cX9_loop 20 = .ok (.iload_n 2, 1) := by decide +kernel
theorem dX9_loop_21 : decode cX9_loop 21 = .ok (.i2l, 1) := by decide +kernel
theorem dX9_loop_22 : decode cX9_loop 22 = .ok (.lconst 0, 1) := by decide +kernel
theorem dX9_loop_23 : decode cX9_loop 23 = .ok (.ldc2_w 269, 3) := by decide +kernel
theorem dX9_loop_26 : decode cX9_loop 26 = .ok (.invokestatic 77, 3) := by decide +kernel
theorem dX9_loop_29 : decode cX9_loop 29 = .ok (.ifCond .ne 6, 3) := by decide +kernel
theorem dX9_loop_32 : decode cX9_loop 32 = .ok (.bipush (-2), 2) := by decide +kernel
theorem dX9_loop_34 : decode cX9_loop 34 = .ok (.ireturn, 1) := by decide +kernel
theorem dX9_loop_35 : decode cX9_loop 35 = .ok (.aload_n 0, 1) := by decide +kernel
theorem dX9_loop_36 : decode cX9_loop 36 = .ok (.iload_n 3, 1) := by decide +kernel
theorem dX9_loop_37 : decode cX9_loop 37 = .ok (.invokevirtual 176, 3) := by decide +kernel
theorem dX9_loop_40 : decode cX9_loop 40 = .ok (.iload_n 2, 1) := by decide +kernel
theorem dX9_loop_41 : decode cX9_loop 41 = .ok (.ifCond .ne 16, 3) := by decide +kernel
theorem dX9_loop_44 : decode cX9_loop 44 = .ok (.aload_n 0, 1) := by decide +kernel
theorem dX9_loop_45 : decode cX9_loop 45 = .ok (.getfield 51, 3) := by decide +kernel
theorem dX9_loop_48 : decode cX9_loop 48 = .ok (.getfield 271, 3) := by decide +kernel
theorem dX9_loop_51 : decode cX9_loop 51 = .ok (.getfield 275, 3) := by decide +kernel
theorem dX9_loop_54 : decode cX9_loop 54 = .ok (.iload_n 1, 1) := by decide +kernel
theorem dX9_loop_55 : decode cX9_loop 55 = .ok (.iaload, 1) := by decide +kernel
theorem dX9_loop_56 : decode cX9_loop 56 = .ok (.ireturn, 1) := by decide +kernel
theorem dX9_loop_57 : decode cX9_loop 57 = .ok (.iload_n 2, 1) := by decide +kernel
theorem dX9_loop_58 : decode cX9_loop 58 = .ok (.iconst 1, 1) := by decide +kernel
theorem dX9_loop_59 : decode cX9_loop 59 = .ok (.if_icmp .ne 16, 3) := by decide +kernel
theorem dX9_loop_62 : decode cX9_loop 62 = .ok (.aload_n 0, 1) := by decide +kernel
theorem dX9_loop_63 : decode cX9_loop 63 = .ok (.getfield 51, 3) := by decide +kernel
theorem dX9_loop_66 : decode cX9_loop 66 = .ok (.getfield 271, 3) := by decide +kernel
theorem dX9_loop_69 : decode cX9_loop 69 = .ok (.getfield 278, 3) := by decide +kernel
theorem dX9_loop_72 : decode cX9_loop 72 = .ok (.iload_n 1, 1) := by decide +kernel
theorem dX9_loop_73 : decode cX9_loop 73 = .ok (.iaload, 1) := by decide +kernel
theorem dX9_loop_74 : decode cX9_loop 74 = .ok (.ireturn, 1) := by decide +kernel
theorem dX9_loop_75 : decode cX9_loop 75 = .ok (.iload_n 2, 1) := by decide +kernel
theorem dX9_loop_76 : decode cX9_loop 76 = .ok (.iconst 2, 1) := by decide +kernel
theorem dX9_loop_77 : decode cX9_loop 77 = .ok (.if_icmp .ne 16, 3) := by decide +kernel
theorem dX9_loop_80 : decode cX9_loop 80 = .ok (.aload_n 0, 1) := by decide +kernel
theorem dX9_loop_81 : decode cX9_loop 81 = .ok (.getfield 51, 3) := by decide +kernel
theorem dX9_loop_84 : decode cX9_loop 84 = .ok (.getfield 271, 3) := by decide +kernel
theorem dX9_loop_87 : decode cX9_loop 87 = .ok (.getfield 281, 3) := by decide +kernel
theorem dX9_loop_90 : decode cX9_loop 90 = .ok (.iload_n 1, 1) := by decide +kernel
theorem dX9_loop_91 : decode cX9_loop 91 = .ok (.iaload, 1) := by decide +kernel
theorem dX9_loop_92 : decode cX9_loop 92 = .ok (.ireturn, 1) := by decide +kernel
theorem dX9_loop_93 : decode cX9_loop 93 = .ok (.iload_n 2, 1) := by decide +kernel
theorem dX9_loop_94 : decode cX9_loop 94 = .ok (.iconst 3, 1) := by decide +kernel
theorem dX9_loop_95 : decode cX9_loop 95 = .ok (.if_icmp .ne 18, 3) := by decide +kernel
theorem dX9_loop_98 : decode cX9_loop 98 = .ok (.aload_n 0, 1) := by decide +kernel
theorem dX9_loop_99 : decode cX9_loop 99 = .ok (.getfield 51, 3) := by decide +kernel
theorem dX9_loop_102 : decode cX9_loop 102 = .ok (.getfield 271, 3) := by decide +kernel
theorem dX9_loop_105 : decode cX9_loop 105 = .ok (.getfield 284, 3) := by decide +kernel
theorem dX9_loop_108 : decode cX9_loop 108 = .ok (.iload_n 1, 1) := by decide +kernel
theorem dX9_loop_109 : decode cX9_loop 109 = .ok (.iaload, 1) := by decide +kernel
theorem dX9_loop_110 : decode cX9_loop 110 = .ok (.goto 15, 3) := by decide +kernel
theorem dX9_loop_113 : decode cX9_loop 113 = .ok (.aload_n 0, 1) := by decide +kernel
theorem dX9_loop_114 : decode cX9_loop 114 = .ok (.getfield 51, 3) := by decide +kernel
theorem dX9_loop_117 : decode cX9_loop 117 = .ok (.getfield 271, 3) := by decide +kernel
theorem dX9_loop_120 : decode cX9_loop 120 = .ok (.getfield 287, 3) := by decide +kernel
theorem dX9_loop_123 : decode cX9_loop 123 = .ok (.iload_n 1, 1) := by decide +kernel
theorem dX9_loop_124 : decode cX9_loop 124 = .ok (.iaload, 1) := by decide +kernel
theorem dX9_loop_125 : decode cX9_loop 125 = .ok (.ireturn, 1) := by decide +kernel
theorem dX9_corrector_0 : decode cX9_corrector 0 = .ok (.aload_n 0, 1) := by decide +kernel
theorem dX9_corrector_1 : decode cX9_corrector 1 = .ok (.iload_n 3, 1) := by decide +kernel
theorem dX9_corrector_2 : decode cX9_corrector 2 = .ok (.invokevirtual 144, 3) := by decide +kernel
theorem dX9_corrector_5 : decode cX9_corrector 5 = .ok (.ifCond .eq 27, 3) := by decide +kernel
theorem dX9_corrector_8 : decode cX9_corrector 8 = .ok (.iload_n 1, 1) := by decide +kernel
theorem dX9_corrector_9 : decode cX9_corrector 9 = .ok (.i2l, 1) := by decide +kernel
theorem dX9_corrector_10 : decode cX9_corrector 10 = .ok (.lconst 0, 1) := by decide +kernel
theorem dX9_corrector_11 : decode cX9_corrector 11 = .ok (.ldc2_w 234, 3) := by decide +kernel
theorem dX9_corrector_14 : decode cX9_corrector 14 = .ok (.invokestatic 77, 3) := by decide +kernel
theorem dX9_corrector_17 : decode cX9_corrector 17 = .ok (.ifCond .eq 15, 3) := by decide +kernel
theorem dX9_corrector_20 : decode cX9_corrector 20 = .ok (.iload_n 2, 1) := by decide +kernel
theorem dX9_corrector_21 : decode cX9_corrector 21 = .ok (.i2l, 1) := by decide +kernel
theorem dX9_corrector_22 : decode cX9_corrector 22 = .ok (.lconst 0, 1) := by decide +kernel
theorem dX9_corrector_23 : decode cX9_corrector 23 = .ok (.ldc2_w 248, 3) := by decide +kernel
theorem dX9_corrector_26 : decode cX9_corrector 26 = .ok (.invokestatic 77, 3) := by decide +kernel
theorem dX9_corrector_29 : decode cX9_corrector 29 = .ok (.ifCond .ne 7, 3) := by decide +kernel
theorem dX9_corrector_32 : decode cX9_corrector 32 = .ok (.sipush (-1000), 3) := by decide +kernel
theorem dX9_corrector_35 : decode cX9_corrector 35 = .ok (.ireturn, 1) := by decide +kernel
theorem dX9_corrector_36 : decode cX9_corrector 36 = .ok (.aload_n 0, 1) := by decide +kernel
theorem dX9_corrector_37 : decode cX9_corrector 37 = .ok (.iload_n 3, 1) := by decide +kernel
theorem dX9_corrector_38 : decode cX9_corrector 38 = .ok (.invokevirtual 176, 3) := by decide +kernel
theorem dX9_corrector_41 : decode cX9_corrector 41 = .ok (.aload_n 0, 1) := by decide +kernel
theorem dX9_corrector_42 : decode cX9_corrector 42 = .ok (.getfield 51, 3) := by decide +kernel
theorem dX9_corrector_45 : decode cX9_corrector 45 = .ok (.getfield 222, 3) := by decide +kernel
theorem dX9_corrector_48 : decode cX9_corrector 48 = .ok (.getfield 290, 3) := by decide +kernel
theorem dX9_corrector_51 : decode cX9_corrector 51 = .ok (.bipush 16, 2) := by decide +kernel
theorem dX9_corrector_53 : decode cX9_corrector 53 = .ok (.iload_n 1, 1) := by decide +kernel
theorem dX9_corrector_54 : decode cX9_corrector 54 = .ok (.imul, 1) := by decide +kernel
theorem dX9_corrector_55 : decode cX9_corrector 55 = .ok (.iload_n 2, 1) := by decide +kernel
theorem dX9_corrector_56 : decode cX9_corrector 56 = .ok (.iadd, 1) := by decide +kernel
theorem dX9_corrector_57 : decode cX9_corrector 57 = .ok (.iaload, 1) := by decide +kernel
theorem dX9_corrector_58 : decode cX9_corrector 58 = .ok (.ireturn, 1) := by decide +kernel
theorem dX9_clash_0 : decode cX9_clash 0 = .ok (.aload_n 0, 1) := by decide +kernel
theorem dX9_clash_1 : decode cX9_clash 1 = .ok (.iload_n 3, 1) := by decide +kernel
theorem dX9_clash_2 : decode cX9_clash 2 = .ok (.invokevirtual 144, 3) := by decide +kernel
theorem dX9_clash_5 : decode cX9_clash 5 = .ok (.ifCond .eq 17, 3) := by decide +kernel
theorem dX9_clash_8 : decode cX9_clash 8 = .ok (.iload_n 1, 1) := by decide +kernel
theorem dX9_clash_9 : decode cX9_clash 9 = .ok (.invokestatic 150, 3) := by decide +kernel
theorem dX9_clash_12 : decode cX9_clash 12 = .ok (.ifCond .eq 10, 3) := by decide +kernel
theorem dX9_clash_15 : decode cX9_clash 15 = .ok (.iload_n 2, 1) := by decide +kernel
theorem dX9_clash_16 : decode cX9_clash 16 = .ok (.invokestatic 150, 3) := by decide +kernel
theorem dX9_clash_19 : decode cX9_clash 19 = .ok (.ifCond .ne 6, 3) := by decide +kernel
theorem dX9_clash_22 : decode cX9_clash 22 = .ok (.bipush (-2), 2) := by decide +kernel
theorem dX9_clash_24 : decode cX9_clash 24 = .ok (.ireturn, 1) := by decide +kernel
theorem dX9_clash_25 : decode cX9_clash 25 = .ok (.aload_n 0, 1) := by decide +kernel
theorem dX9_clash_26 : decode cX9_clash 26 = .ok (.iload_n 3, 1) := by decide +kernel
theorem dX9_clash_27 : decode cX9_clash 27 = .ok (.invokevirtual 176, 3) := by decide +kernel
theorem dX9_clash_30 : decode cX9_clash 30 = .ok (.iconst 0, 1) := by decide +kernel
theorem dX9_clash_31 : decode cX9_clash 31 = .ok (.istore 4, 2) := by decide +kernel
theorem dX9_clash_33 : decode cX9_clash 33 = .ok (.iconst 1, 1) := by decide +kernel
theorem dX9_clash_34 : decode cX9_clash 34 = .ok (.istore 5, 2) := by decide +kernel
theorem dX9_clash_36 : decode cX9_clash 36 = .ok (.iload 5, 2) := by decide +kernel
theorem dX9_clash_38 : decode cX9_clash 38 = .ok (.aload_n 0, 1) := by decide +kernel
theorem dX9_clash_39 : decode cX9_clash 39 = .ok (.getfield 23, 3) := by decide +kernel
theorem dX9_clash_42 : decode cX9_clash 42 = .ok (.getfield 171, 3) := by decide +kernel
theorem dX9_clash_45 : decode cX9_clash 45 = .ok (.if_icmp .gt 98, 3) := by decide +kernel
theorem dX9_clash_48 : decode cX9_clash 48 = .ok (.aload_n 0, 1) := by decide +kernel
theorem dX9_clash_49 : decode cX9_clash 49 = .ok (.getfield 51, 3) := by decide +kernel
theorem dX9_clash_52 : decode cX9_clash 52 = .ok (.getfield 197, 3) := by decide +kernel
theorem dX9_clash_55 : decode cX9_clash 55 = .ok (.iload 5, 2) := by decide +kernel
theorem dX9_clash_57 : decode cX9_clash 57 = .ok (.iload_n 1, 1) := by decide +kernel
theorem dX9_clash_58 : decode cX9_clash 58 = .ok (.aload_n 0, 1) := by decide +kernel
theorem dX9_clash_59 : decode cX9_clash 59 = .ok (.getfield 51, 3) := by decide +kernel
theorem dX9_clash_62 : decode cX9_clash 62 = .ok (.getfield 179, 3) := by decide +kernel
theorem dX9_clash_65 : decode cX9_clash 65 = .ok (.invokevirtual 200, 3) := by decide +kernel
theorem dX9_clash_68 : decode cX9_clash 68 = .ok (.aload_n 0, 1) := by decide +kernel
theorem dX9_clash_69 : decode cX9_clash 69 = .ok (.getfield 51, 3) := by decide +kernel
theorem dX9_clash_72 : decode cX9_clash 72 = .ok (.getfield 197, 3) := by decide +kernel
theorem dX9_clash_75 : decode cX9_clash 75 = .ok (.iload 5, 2) := by decide +kernel
theorem dX9_clash_77 : decode cX9_clash 77 = .ok (.iload_n 2, 1) := by decide +kernel
theorem dX9_clash_78 : decode cX9_clash 78 = .ok (.aload_n 0, 1) := by decide +kernel
theorem dX9_clash_79 : decode cX9_clash 79 = .ok (.getfield 51, 3) := by decide +kernel
theorem dX9_clash_82 : decode cX9_clash 82 = .ok (.getfield 179, 3) := by decide +kernel
theorem dX9_clash_85 : decode cX9_clash 85 = .ok (.invokevirtual 200, 3) := by decide +kernel
theorem dX9_clash_88 : decode cX9_clash 88 = .ok (.if_icmp .ne 49, 3) := by decide +kernel
theorem dX9_clash_91 : decode cX9_clash 91 = .ok (.aload_n 0, 1) := by decide +kernel
theorem dX9_clash_92 : decode cX9_clash 92 = .ok (.getfield 51, 3) := by decide +kernel
theorem dX9_clash_95 : decode cX9_clash 95 = .ok (.getfield 197, 3) := by decide +kernel
theorem dX9_clash_98 : decode cX9_clash 98 = .ok (.iload 5, 2) := by decide +kernel
theorem dX9_clash_100 : decode cX9_clash 100 = .ok (.iload_n 1, 1) := by decide +kernel
theorem dX9_clash_101 : decode cX9_clash 101 = .ok (.aload_n 0, 1) := by decide +kernel
theorem dX9_clash_102 : decode cX9_clash 102 = .ok (.getfield 51, 3) := by decide +kernel
theorem dX9_clash_105 : decode cX9_clash 105 = .ok (.getfield 179, 3) := by decide +kernel
theorem dX9_clash_108 : decode cX9_clash 108 = .ok (.invokevirtual 206, 3) := by decide +kernel
theorem dX9_clash_111 : decode cX9_clash 111 = .ok (.aload_n 0, 1) := by decide +kernel
theorem dX9_clash_112 : decode cX9_clash 112 = .ok (.getfield 51, 3) := by decide +kernel
theorem dX9_clash_115 : decode cX9_clash 115 = .ok (.getfield 197, 3) := by decide +kernel
theorem dX9_clash_118 : decode cX9_clash 118 = .ok (.iload 5, 2) := by decide +kernel
theorem dX9_clash_120 : decode cX9_clash 120 = .ok (.iload_n 2, 1) := by decide +kernel
theorem dX9_clash_121 : decode cX9_clash 121 = .ok (.aload_n 0, 1) := by decide +kernel
theorem dX9_clash_122 : decode cX9_clash 122 = .ok (.getfield 51, 3) := by decide +kernel
theorem dX9_clash_125 : decode cX9_clash 125 = .ok (.getfield 179, 3) := by decide +kernel
theorem dX9_clash_128 : decode cX9_clash 128 = .ok (.invokevirtual 206, 3) := by decide +kernel
theorem dX9_clash_131 : decode cX9_clash 131 = .ok (.if_icmp .ne 6, 3) := by decide +kernel
theorem dX9_clash_134 : decode cX9_clash 134 = .ok (.iinc 4 1, 3) := by decide +kernel
theorem dX9_clash_137 : decode cX9_clash 137 = .ok (.iinc 5 1, 3) := by decide +kernel
theorem dX9_clash_140 : decode cX9_clash 140 = .ok (.goto (-104), 3) := by decide +kernel
theorem dX9_clash_143 : decode cX9_clash 143 = .ok (.iload 4, 2) := by decide +kernel
theorem dX9_clash_145 : decode cX9_clash 145 = .ok (.ireturn, 1) := by decide +kernel
theorem dX9_strays_0 : decode cX9_strays 0 = .ok (.iload_n 1, 1) := by decide +kernel
theorem dX9_strays_1 : decode cX9_strays 1 = .ok (.i2l, 1) := by decide +kernel
theorem dX9_strays_2 : decode cX9_strays 2 = .ok (.lconst 0, 1) := by decide +kernel
theorem dX9_strays_3 : decode cX9_strays 3 = .ok (.aload_n 0, 1) := by decide +kernel
theorem dX9_strays_4 : decode cX9_strays 4 = .ok (.getfield 44, 3) := by decide +kernel
theorem dX9_strays_7 : decode cX9_strays 7 = .ok (.getfield 291, 3) := by decide +kernel
theorem dX9_strays_10 : decode cX9_strays 10 = .ok (.iconst 1, 1) := by decide +kernel
theorem dX9_strays_11 : decode cX9_strays 11 = .ok (.isub, 1) := by decide +kernel
theorem dX9_strays_12 : decode cX9_strays 12 = .ok (.i2l, 1) := by decide +kernel
theorem dX9_strays_13 : decode cX9_strays 13 = .ok (.invokestatic 77, 3) := by decide +kernel
theorem dX9_strays_16 : decode cX9_strays 16 = .ok (.ifCond .ne 6, 3) := by decide +kernel
theorem dX9_strays_19 : decode cX9_strays 19 = .ok (.bipush (-2), 2) := by decide +kernel
theorem dX9_strays_21 : decode cX9_strays 21 = .ok (.ireturn, 1) := by decide +kernel
theorem dX9_strays_22 : decode cX9_strays 22 = .ok (.aload_n 0, 1) := by decide +kernel
theorem dX9_strays_23 : decode cX9_strays 23 = .ok (.getfield 44, 3) := by decide +kernel
theorem dX9_strays_26 : decode cX9_strays 26 = .ok (.iload_n 1, 1) := by decide +kernel
theorem dX9_strays_27 : decode cX9_strays 27 = .ok (.invokevirtual 147, 3) := by decide +kernel
theorem dX9_strays_30 : decode cX9_strays 30 = .ok (.ifCond .eq 11, 3) := by decide +kernel
theorem dX9_strays_33 : decode cX9_strays 33 = .ok (.aload_n 0, 1) := by decide +kernel
theorem dX9_strays_34 : decode cX9_strays 34 = .ok (.iload_n 1, 1) := by decide +kernel
theorem dX9_strays_35 : decode cX9_strays 35 = .ok (.invokevirtual 294, 3) := by decide +kernel
theorem dX9_strays_38 : decode cX9_strays 38 = .ok (.goto 4, 3) := by decide +kernel
theorem dX9_strays_41 : decode cX9_strays 41 = .ok (.iconst 0, 1) := by decide +kernel
theorem dX9_strays_42 : decode cX9_strays 42 = .ok (.ireturn, 1) := by decide +kernel
theorem dX9_stray_0 : decode cX9_stray 0 = .ok (.iload_n 1, 1) := by decide +kernel
theorem dX9_stray_1 : decode cX9_stray 1 = .ok (.i2l, 1) := by decide +kernel
theorem dX9_stray_2 : decode cX9_stray 2 = .ok (.lconst 0, 1) := by decide +kernel
theorem dX9_stray_3 : decode cX9_stray 3 = .ok (.aload_n 0, 1) := by decide +kernel
theorem dX9_stray_4 : decode cX9_stray 4 = .ok (.getfield 44, 3) := by decide +kernel
theorem dX9_stray_7 : decode cX9_stray 7 = .ok (.getfield 291, 3) := by decide +kernel
theorem dX9_stray_10 : decode cX9_stray 10 = .ok (.iconst 1, 1) := by decide +kernel
theorem dX9_stray_11 : decode cX9_stray 11 = .ok (.isub, 1) := by decide +kernel
theorem dX9_stray_12 : decode cX9_stray 12 = .ok (.i2l, 1) := by decide +kernel
theorem dX9_stray_13 : decode cX9_stray 13 = .ok (.invokestatic 77, 3) := by decide +kernel
theorem dX9_stray_16 : decode cX9_stray 16 = .ok (.ifCond .eq 10, 3) := by decide +kernel
theorem dX9_stray_19 : decode cX9_stray 19 = .ok (.iload_n 2, 1) := by decide +kernel
theorem dX9_stray_20 : decode cX9_stray 20 = .ok (.invokestatic 129, 3) := by decide +kernel
theorem dX9_stray_23 : decode cX9_stray 23 = .ok (.ifCond .ne 6, 3) := by decide +kernel
theorem dX9_stray_26 : decode cX9_stray 26 = .ok (.bipush (-2), 2) := by decide +kernel
theorem dX9_stray_28 : decode cX9_stray 28 = .ok (.ireturn, 1) := by decide +kernel
theorem dX9_stray_29 : decode cX9_stray 29 = .ok (.aload_n 0, 1) := by decide +kernel
theorem dX9_stray_30 : decode cX9_stray 30 = .ok (.getfield 44, 3) := by decide +kernel
theorem dX9_stray_33 : decode cX9_stray 33 = .ok (.iload_n 1, 1) := by decide +kernel
theorem dX9_stray_34 : decode cX9_stray 34 = .ok (.invokevirtual 147, 3) := by decide +kernel
theorem dX9_stray_37 : decode cX9_stray 37 = .ok (.ifCond .ne 5, 3) := by decide +kernel
theorem dX9_stray_40 : decode cX9_stray 40 = .ok (.iconst (-1), 1) := by decide +kernel
theorem dX9_stray_41 : decode cX9_stray 41 = .ok (.ireturn, 1) := by decide +kernel
theorem dX9_stray_42 : decode cX9_stray 42 = .ok (.aload_n 0, 1) := by decide +kernel
theorem dX9_stray_43 : decode cX9_stray 43 = .ok (.iload_n 1, 1) := by decide +kernel
theorem dX9_stray_44 : decode cX9_stray 44 = .ok (.invokevirtual 294, 3) := by decide +kernel
theorem dX9_stray_47 : decode cX9_stray 47 = .ok (.pop, 1) := by decide +kernel
theorem dX9_stray_48 : decode cX9_stray 48 = .ok (.aload_n 0, 1) := by decide +kernel
theorem dX9_stray_49 : decode cX9_stray 49 = .ok (.getfield 37, 3) := by decide +kernel
theorem dX9_stray_52 : decode cX9_stray 52 = .ok (.getfield 297, 3) := by decide +kernel
theorem dX9_stray_55 : decode cX9_stray 55 = .ok (.iload_n 2, 1) := by decide +kernel
theorem dX9_stray_56 : decode cX9_stray 56 = .ok (.iaload, 1) := by decide +kernel
theorem dX9_stray_57 : decode cX9_stray 57 = .ok (.ireturn, 1) := by decide +kernel
theorem dX9_cycles_0 : decode cX9_cycles 0 = .ok (.aload_n 0, 1) := by decide +kernel
theorem dX9_cycles_1 : decode cX9_cycles 1 = .ok (.invokevirtual 113, 3) := by decide +kernel
theorem dX9_cycles_4 : decode cX9_cycles 4 = .ok (.ifCond .eq 19, 3) := by decide +kernel
theorem dX9_cycles_7 : decode cX9_cycles 7 = .ok (.aload_n 0, 1) := by decide +kernel
theorem dX9_cycles_8 : decode cX9_cycles 8 = .ok (.aload_n 0, 1) := by decide +kernel
theorem dX9_cycles_9 : decode cX9_cycles 9 = .ok (.getfield 23, 3) := by decide +kernel
theorem dX9_cycles_12 : decode cX9_cycles 12 = .ok (.getfield 231, 3) := by decide +kernel
theorem dX9_cycles_15 : decode cX9_cycles 15 = .ok (.iconst 5, 1) := by decide +kernel
theorem dX9_cycles_16 : decode cX9_cycles 16 = .ok (.iaload, 1) := by decide +kernel
theorem dX9_cycles_17 : decode cX9_cycles 17 = .ok (.invokevirtual 300, 3) := by decide +kernel
theorem dX9_cycles_20 : decode cX9_cycles 20 = .ok (.goto 5, 3) := by decide +kernel
theorem dX9_cycles_23 : decode cX9_cycles 23 = .ok (.bipush (-2), 2) := by decide +kernel
theorem dX9_cycles_25 : decode cX9_cycles 25 = .ok (.ireturn, 1) := by decide +kernel
theorem dX9_cheapest_0 : decode cX9_cheapest 0 = .ok (.aload_n 0, 1) := by decide +kernel
theorem dX9_cheapest_1 : decode cX9_cheapest 1 = .ok (.invokevirtual 113, 3) := by decide +kernel
theorem dX9_cheapest_4 : decode cX9_cheapest 4 = .ok (.ifCond .ne 6, 3) := by decide +kernel
theorem dX9_cheapest_7 : decode cX9_cheapest 7 = .ok (.bipush (-2), 2) := by decide +kernel
theorem dX9_cheapest_9 : decode cX9_cheapest 9 = .ok (.ireturn, 1) := by decide +kernel
theorem dX9_cheapest_10 : decode cX9_cheapest 10 = .ok (.aload_n 0, 1) := by decide +kernel
theorem dX9_cheapest_11 : decode cX9_cheapest 11 = .ok (.iconst 0, 1) := by decide +kernel
theorem dX9_cheapest_12 : decode cX9_cheapest 12 = .ok (.invokevirtual 300, 3) := by decide +kernel
theorem dX9_cheapest_15 : decode cX9_cheapest 15 = .ok (.istore_n 1, 1) := by decide +kernel
theorem dX9_cheapest_16 : decode cX9_cheapest 16 = .ok (.iconst 1, 1) := by decide +kernel
theorem dX9_cheapest_17 : decode cX9_cheapest 17 = .ok (.istore_n 2, 1) := by decide +kernel
theorem dX9_cheapest_18 : decode cX9_cheapest 18 = .ok (.iload_n 2, 1) := by decide +kernel
theorem dX9_cheapest_19 : decode cX9_cheapest 19 = .ok (.bipush 8, 2) := by decide +kernel
theorem dX9_cheapest_21 : decode cX9_cheapest 21 = .ok (.if_icmp .ge 19, 3) := by decide +kernel
theorem dX9_cheapest_24 : decode cX9_cheapest 24 = .ok (.iload_n 1, 1) := by decide +kernel
theorem dX9_cheapest_25 : decode cX9_cheapest 25 = .ok (.aload_n 0, 1) := by decide +kernel
theorem dX9_cheapest_26 : decode cX9_cheapest 26 = .ok (.iload_n 2, 1) := by decide +kernel
theorem dX9_cheapest_27 : decode cX9_cheapest 27 = .ok (.invokevirtual 300, 3) := by decide +kernel
theorem dX9_cheapest_30 : decode cX9_cheapest 30 = .ok (.invokestatic 303, 3) := by decide +kernel
theorem dX9_cheapest_33 : decode cX9_cheapest 33 = .ok (.istore_n 1, 1) := by decide +kernel
theorem dX9_cheapest_34 : decode cX9_cheapest 34 = .ok (.iinc 2 1, 3) := by decide +kernel
theorem dX9_cheapest_37 : decode cX9_cheapest 37 = .ok (.goto (-19), 3) := by decide +kernel
theorem dX9_cheapest_40 : decode cX9_cheapest 40 = .ok (.iload_n 1, 1) := by decide +kernel
theorem dX9_cheapest_41 : decode cX9_cheapest 41 = .ok (.ireturn, 1) := by decide +kernel
theorem dX9_by_0 : decode cX9_by 0 = .ok (.aload_n 0, 1) := by decide +kernel
theorem dX9_by_1 : decode cX9_by 1 = .ok (.invokevirtual 113, 3) := by decide +kernel
theorem dX9_by_4 : decode cX9_by 4 = .ok (.ifCond .eq 15, 3) := by decide +kernel
theorem dX9_by_7 : decode cX9_by 7 = .ok (.iload_n 1, 1) := by decide +kernel
theorem dX9_by_8 : decode cX9_by 8 = .ok (.i2l, 1) := by decide +kernel
theorem dX9_by_9 : decode cX9_by 9 = .ok (.lconst 0, 1) := by decide +kernel
theorem dX9_by_10 : decode cX9_by 10 = .ok (.ldc2_w 267, 3) := by decide +kernel
theorem dX9_by_13 : decode cX9_by 13 = .ok (.invokestatic 77, 3) := by decide +kernel
theorem dX9_by_16 : decode cX9_by 16 = .ok (.ifCond .ne 6, 3) := by decide +kernel
theorem dX9_by_19 : decode cX9_by 19 = .ok (.bipush (-2), 2) := by decide +kernel
theorem dX9_by_21 : decode cX9_by 21 = .ok (.ireturn, 1) := by decide +kernel
theorem dX9_by_22 : decode cX9_by 22 = .ok (.aload_n 0, 1) := by decide +kernel
theorem dX9_by_23 : decode cX9_by 23 = .ok (.iload_n 1, 1) := by decide +kernel
theorem dX9_by_24 : decode cX9_by 24 = .ok (.invokevirtual 306, 3) := by decide +kernel
theorem dX9_by_27 : decode cX9_by 27 = .ok (.aload_n 0, 1) := by decide +kernel
theorem dX9_by_28 : decode cX9_by 28 = .ok (.invokevirtual 309, 3) := by decide +kernel
theorem dX9_by_31 : decode cX9_by 31 = .ok (.ireturn, 1) := by decide +kernel
theorem dX9_ideal_0 : decode cX9_ideal 0 = .ok (.aload_n 0, 1) := by decide +kernel
theorem dX9_ideal_1 : decode cX9_ideal 1 = .ok (.invokevirtual 113, 3) := by decide +kernel
theorem dX9_ideal_4 : decode cX9_ideal 4 = .ok (.ifCond .ne 6, 3) := by decide +kernel
theorem dX9_ideal_7 : decode cX9_ideal 7 = .ok (.bipush (-2), 2) := by decide +kernel
theorem dX9_ideal_9 : decode cX9_ideal 9 = .ok (.ireturn, 1) := by decide +kernel
theorem dX9_ideal_10 : decode cX9_ideal 10 = .ok (.iconst (-1), 1) := by decide +kernel
theorem dX9_ideal_11 : decode cX9_ideal 11 = .ok (.istore_n 1, 1) := by decide +kernel
theorem dX9_ideal_12 : decode cX9_ideal 12 = .ok (.sipush 241, 3) := by decide +kernel
theorem dX9_ideal_15 : decode cX9_ideal 15 = .ok (.istore_n 2, 1) := by decide +kernel
theorem dX9_ideal_16 : decode cX9_ideal 16 = .ok (.iconst 0, 1) := by decide +kernel
theorem dX9_ideal_17 : decode cX9_ideal 17 = .ok (.istore_n 3, 1) := by decide +kernel
theorem dX9_ideal_18 : decode cX9_ideal 18 = .ok (.iload_n 3, 1) := by decide +kernel
theorem dX9_ideal_19 : decode cX9_ideal 19 = .ok (.bipush 8, 2) := by decide +kernel
theorem dX9_ideal_21 : decode cX9_ideal 21 = .ok (.if_icmp .ge 31, 3) := by decide +kernel
theorem dX9_ideal_24 : decode cX9_ideal 24 = .ok (.aload_n 0, 1) := by decide +kernel
theorem dX9_ideal_25 : decode cX9_ideal 25 = .ok (.iload_n 3, 1) := by decide +kernel
theorem dX9_ideal_26 : decode cX9_ideal 26 = .ok (.invokevirtual 306, 3) := by decide +kernel
theorem dX9_ideal_29 : decode cX9_ideal 29 = .ok (.aload_n 0, 1) := by decide +kernel
theorem dX9_ideal_30 : decode cX9_ideal 30 = .ok (.invokevirtual 309, 3) := by decide +kernel
theorem dX9_ideal_33 : decode cX9_ideal 33 = .ok (.istore 4, 2) := by decide +kernel
theorem dX9_ideal_35 : decode cX9_ideal 35 = .ok (.iload 4, 2) := by decide +kernel
theorem dX9_ideal_37 : decode cX9_ideal 37 = .ok (.iload_n 2, 1) := by decide +kernel
theorem dX9_ideal_38 : decode cX9_ideal 38 = .ok (.if_icmp .ge 8, 3) := by decide +kernel
theorem dX9_ideal_41 : decode cX9_ideal 41 = .ok (.iload 4, 2) := by decide +kernel
theorem dX9_ideal_43 : decode cX9_ideal 43 = .ok (.istore_n 2, 1) := by decide +kernel
theorem dX9_ideal_44 : decode cX9_ideal 44 = .ok (.iload_n 3, 1) := by decide +kernel
theorem dX9_ideal_45 : decode cX9_ideal 45 = .ok (.istore_n 1, 1) := by decide +kernel
theorem dX9_ideal_46 : decode cX9_ideal 46 = .ok (.iinc 3 1, 3) := by decide +kernel
theorem dX9_ideal_49 : decode cX9_ideal 49 = .ok (.goto (-31), 3) := by decide +kernel
theorem dX9_ideal_52 : decode cX9_ideal 52 = .ok (.iload_n 1, 1) := by decide +kernel
theorem dX9_ideal_53 : decode cX9_ideal 53 = .ok (.ireturn, 1) := by decide +kernel
theorem dX9_without_0 : decode cX9_without 0 = .ok (.aload_n 0, 1) := by decide +kernel
theorem dX9_without_1 : decode cX9_without 1 = .ok (.iload_n 1, 1) := by decide +kernel
theorem dX9_without_2 : decode cX9_without 2 = .ok (.invokevirtual 194, 3) := by decide +kernel
theorem dX9_without_5 : decode cX9_without 5 = .ok (.ifCond .ne 6, 3) := by decide +kernel
theorem dX9_without_8 : decode cX9_without 8 = .ok (.bipush (-2), 2) := by decide +kernel
theorem dX9_without_10 : decode cX9_without 10 = .ok (.ireturn, 1) := by decide +kernel
theorem dX9_without_11 : decode cX9_without 11 = .ok (.aload_n 0, 1) := by decide +kernel
theorem dX9_without_12 : decode cX9_without 12 = .ok (.iload_n 1, 1) := by decide +kernel
theorem dX9_without_13 : decode cX9_without 13 = .ok (.invokevirtual 313, 3) := by decide +kernel
theorem dX9_without_16 : decode cX9_without 16 = .ok (.aload_n 0, 1) := by decide +kernel
theorem dX9_without_17 : decode cX9_without 17 = .ok (.invokevirtual 309, 3) := by decide +kernel
theorem dX9_without_20 : decode cX9_without 20 = .ok (.ireturn, 1) := by decide +kernel
theorem dX9_spare_0 : decode cX9_spare 0 = .ok (.aload_n 0, 1) := by decide +kernel
theorem dX9_spare_1 : decode cX9_spare 1 = .ok (.invokevirtual 113, 3) := by decide +kernel
theorem dX9_spare_4 : decode cX9_spare 4 = .ok (.ifCond .ne 6, 3) := by decide +kernel
theorem dX9_spare_7 : decode cX9_spare 7 = .ok (.bipush (-2), 2) := by decide +kernel
theorem dX9_spare_9 : decode cX9_spare 9 = .ok (.ireturn, 1) := by decide +kernel
theorem dX9_spare_10 : decode cX9_spare 10 = .ok (.iconst (-1), 1) := by decide +kernel
theorem dX9_spare_11 : decode cX9_spare 11 = .ok (.istore_n 1, 1) := by decide +kernel
theorem dX9_spare_12 : decode cX9_spare 12 = .ok (.sipush 241, 3) := by decide +kernel
theorem dX9_spare_15 : decode cX9_spare 15 = .ok (.istore_n 2, 1) := by decide +kernel
theorem dX9_spare_16 : decode cX9_spare 16 = .ok (.iconst 1, 1) := by decide +kernel
theorem dX9_spare_17 : decode cX9_spare 17 = .ok (.istore_n 3, 1) := by decide +kernel
theorem dX9_spare_18 : decode cX9_spare 18 = .ok (.iload_n 3, 1) := by decide +kernel
theorem dX9_spare_19 : decode cX9_spare 19 = .ok (.aload_n 0, 1) := by decide +kernel
theorem dX9_spare_20 : decode cX9_spare 20 = .ok (.getfield 23, 3) := by decide +kernel
theorem dX9_spare_23 : decode cX9_spare 23 = .ok (.getfield 171, 3) := by decide +kernel
theorem dX9_spare_26 : decode cX9_spare 26 = .ok (.if_icmp .gt 31, 3) := by decide +kernel
theorem dX9_spare_29 : decode cX9_spare 29 = .ok (.aload_n 0, 1) := by decide +kernel
theorem dX9_spare_30 : decode cX9_spare 30 = .ok (.iload_n 3, 1) := by decide +kernel
theorem dX9_spare_31 : decode cX9_spare 31 = .ok (.invokevirtual 313, 3) := by decide +kernel
theorem dX9_spare_34 : decode cX9_spare 34 = .ok (.aload_n 0, 1) := by decide +kernel
theorem dX9_spare_35 : decode cX9_spare 35 = .ok (.invokevirtual 309, 3) := by decide +kernel
theorem dX9_spare_38 : decode cX9_spare 38 = .ok (.istore 4, 2) := by decide +kernel
theorem dX9_spare_40 : decode cX9_spare 40 = .ok (.iload 4, 2) := by decide +kernel
theorem dX9_spare_42 : decode cX9_spare 42 = .ok (.iload_n 2, 1) := by decide +kernel
theorem dX9_spare_43 : decode cX9_spare 43 = .ok (.if_icmp .ge 8, 3) := by decide +kernel
theorem dX9_spare_46 : decode cX9_spare 46 = .ok (.iload 4, 2) := by decide +kernel
theorem dX9_spare_48 : decode cX9_spare 48 = .ok (.istore_n 2, 1) := by decide +kernel
theorem dX9_spare_49 : decode cX9_spare 49 = .ok (.iload_n 3, 1) := by decide +kernel
theorem dX9_spare_50 : decode cX9_spare 50 = .ok (.istore_n 1, 1) := by decide +kernel
theorem dX9_spare_51 : decode cX9_spare 51 = .ok (.iinc 3 1, 3) := by decide +kernel
theorem dX9_spare_54 : decode cX9_spare 54 = .ok (.goto (-36), 3) := by decide +kernel
theorem dX9_spare_57 : decode cX9_spare 57 = .ok (.iload_n 1, 1) := by decide +kernel
theorem dX9_spare_58 : decode cX9_spare 58 = .ok (.ireturn, 1) := by decide +kernel
theorem dX9_spanned_0 : decode cX9_spanned 0 = .ok (.aload_n 0, 1) := by decide +kernel
theorem dX9_spanned_1 : decode cX9_spanned 1 = .ok (.iload_n 1, 1) := by decide +kernel
theorem dX9_spanned_2 : decode cX9_spanned 2 = .ok (.invokevirtual 194, 3) := by decide +kernel
theorem dX9_spanned_5 : decode cX9_spanned 5 = .ok (.ifCond .eq 23, 3) := by decide +kernel
theorem dX9_spanned_8 : decode cX9_spanned 8 = .ok (.iload_n 2, 1) := by decide +kernel
theorem dX9_spanned_9 : decode cX9_spanned 9 = .ok (.i2l, 1) := by decide +kernel
theorem dX9_spanned_10 : decode cX9_spanned 10 = .ok (.aload_n 0, 1) := by decide +kernel
theorem dX9_spanned_11 : decode cX9_spanned 11 = .ok (.iload_n 1, 1) := by decide +kernel
theorem dX9_spanned_12 : decode cX9_spanned 12 = .ok (.invokevirtual 316, 3) := by decide +kernel
theorem dX9_spanned_15 : decode cX9_spanned 15 = .ok (.i2l, 1) := by decide +kernel
theorem dX9_spanned_16 : decode cX9_spanned 16 = .ok (.aload_n 0, 1) := by decide +kernel
theorem dX9_spanned_17 : decode cX9_spanned 17 = .ok (.iload_n 1, 1) := by decide +kernel
theorem dX9_spanned_18 : decode cX9_spanned 18 = .ok (.invokevirtual 319, 3) := by decide +kernel
theorem dX9_spanned_21 : decode cX9_spanned 21 = .ok (.i2l, 1) := by decide +kernel
theorem dX9_spanned_22 : decode cX9_spanned 22 = .ok (.invokestatic 77, 3) := by decide +kernel
theorem dX9_spanned_25 : decode cX9_spanned 25 = .ok (.ifCond .ne 6, 3) := by decide +kernel
theorem dX9_spanned_28 : decode cX9_spanned 28 = .ok (.bipush (-2), 2) := by decide +kernel
theorem dX9_spanned_30 : decode cX9_spanned 30 = .ok (.ireturn, 1) := by decide +kernel
theorem dX9_spanned_31 : decode cX9_spanned 31 = .ok (.aload_n 0, 1) := by decide +kernel
theorem dX9_spanned_32 : decode cX9_spanned 32 = .ok (.iload_n 1, 1) := by decide +kernel
theorem dX9_spanned_33 : decode cX9_spanned 33 = .ok (.iload_n 2, 1) := by decide +kernel
theorem dX9_spanned_34 : decode cX9_spanned 34 = .ok (.invokevirtual 322, 3) := by decide +kernel
theorem dX9_spanned_37 : decode cX9_spanned 37 = .ok (.aload_n 0, 1) := by decide +kernel
theorem dX9_spanned_38 : decode cX9_spanned 38 = .ok (.invokevirtual 309, 3) := by decide +kernel
theorem dX9_spanned_41 : decode cX9_spanned 41 = .ok (.ireturn, 1) := by decide +kernel
theorem dX9_span_0 : decode cX9_span 0 = .ok (.aload_n 0, 1) := by decide +kernel
theorem dX9_span_1 : decode cX9_span 1 = .ok (.iload_n 1, 1) := by decide +kernel
theorem dX9_span_2 : decode cX9_span 2 = .ok (.invokevirtual 194, 3) := by decide +kernel
theorem dX9_span_5 : decode cX9_span 5 = .ok (.ifCond .ne 6, 3) := by decide +kernel
theorem dX9_span_8 : decode cX9_span 8 = .ok (.bipush (-2), 2) := by decide +kernel
theorem dX9_span_10 : decode cX9_span 10 = .ok (.ireturn, 1) := by decide +kernel
theorem dX9_span_11 : decode cX9_span 11 = .ok (.iconst (-1), 1) := by decide +kernel
theorem dX9_span_12 : decode cX9_span 12 = .ok (.istore_n 2, 1) := by decide +kernel
theorem dX9_span_13 : decode cX9_span 13 = .ok (.sipush 241, 3) := by decide +kernel
theorem dX9_span_16 : decode cX9_span 16 = .ok (.istore_n 3, 1) := by decide +kernel
theorem dX9_span_17 : decode cX9_span 17 = .ok (.aload_n 0, 1) := by decide +kernel
theorem dX9_span_18 : decode cX9_span 18 = .ok (.iload_n 1, 1) := by decide +kernel
theorem dX9_span_19 : decode cX9_span 19 = .ok (.invokevirtual 316, 3) := by decide +kernel
theorem dX9_span_22 : decode cX9_span 22 = .ok (.istore 4, 2) := by decide +kernel
theorem dX9_span_24 : decode cX9_span 24 = .ok (.iload 4, 2) := by decide +kernel
theorem dX9_span_26 : decode cX9_span 26 = .ok (.aload_n 0, 1) := by decide +kernel
theorem dX9_span_27 : decode cX9_span 27 = .ok (.iload_n 1, 1) := by decide +kernel
theorem dX9_span_28 : decode cX9_span 28 = .ok (.invokevirtual 319, 3) := by decide +kernel
theorem dX9_span_31 : decode cX9_span 31 = .ok (.if_icmp .gt 34, 3) := by decide +kernel
theorem dX9_span_34 : decode cX9_span 34 = .ok (.aload_n 0, 1) := by decide +kernel
theorem dX9_span_35 : decode cX9_span 35 = .ok (.iload_n 1, 1) := by decide +kernel
theorem dX9_span_36 : decode cX9_span 36 = .ok (.iload 4, 2) := by decide +kernel
theorem dX9_span_38 : decode cX9_span 38 = .ok (.invokevirtual 322, 3) := by decide +kernel
theorem dX9_span_41 : decode cX9_span 41 = .ok (.aload_n 0, 1) := by decide +kernel
theorem dX9_span_42 : decode cX9_span 42 = .ok (.invokevirtual 309, 3) := by decide +kernel
theorem dX9_span_45 : decode cX9_span 45 = .ok (.istore 5, 2) := by decide +kernel
theorem dX9_span_47 : decode cX9_span 47 = .ok (.iload 5, 2) := by decide +kernel
theorem dX9_span_49 : decode cX9_span 49 = .ok (.iload_n 3, 1) := by decide +kernel
theorem dX9_span_50 : decode cX9_span 50 = .ok (.if_icmp .ge 9, 3) := by decide +kernel
theorem dX9_span_53 : decode cX9_span 53 = .ok (.iload 5, 2) := by decide +kernel
theorem dX9_span_55 : decode cX9_span 55 = .ok (.istore_n 3, 1) := by decide +kernel
theorem dX9_span_56 : decode cX9_span 56 = .ok (.iload 4, 2) := by decide +kernel
theorem dX9_span_58 : decode cX9_span 58 = .ok (.istore_n 2, 1) := by decide +kernel
theorem dX9_span_59 : decode cX9_span 59 = .ok (.iinc 4 1, 3) := by decide +kernel
theorem dX9_span_62 : decode cX9_span 62 = .ok (.goto (-38), 3) := by decide +kernel
theorem dX9_span_65 : decode cX9_span 65 = .ok (.iload_n 2, 1) := by decide +kernel
theorem dX9_span_66 : decode cX9_span 66 = .ok (.ireturn, 1) := by decide +kernel
theorem dX9_round_0 : decode cX9_round 0 = .ok (.aload_n 0, 1) := by decide +kernel
theorem dX9_round_1 : decode cX9_round 1 = .ok (.iload_n 1, 1) := by decide +kernel
theorem dX9_round_2 : decode cX9_round 2 = .ok (.iload_n 2, 1) := by decide +kernel
theorem dX9_round_3 : decode cX9_round 3 = .ok (.iload_n 3, 1) := by decide +kernel
theorem dX9_round_4 : decode cX9_round 4 = .ok (.invokevirtual 326, 3) := by decide +kernel
theorem dX9_round_7 : decode cX9_round 7 = .ok (.ifCond .eq 16, 3) := by decide +kernel
theorem dX9_round_10 : decode cX9_round 10 = .ok (.iload 4, 2) := by decide +kernel
theorem dX9_round_12 : decode cX9_round 12 = .ok (.i2l, 1) := by decide +kernel
theorem dX9_round_13 : decode cX9_round 13 = .ok (.lconst 0, 1) := by decide +kernel
theorem dX9_round_14 : decode cX9_round 14 = .ok (.ldc2_w 330, 3) := by decide +kernel
theorem dX9_round_17 : decode cX9_round 17 = .ok (.invokestatic 77, 3) := by decide +kernel
theorem dX9_round_20 : decode cX9_round 20 = .ok (.ifCond .ne 6, 3) := by decide +kernel
theorem dX9_round_23 : decode cX9_round 23 = .ok (.bipush (-2), 2) := by decide +kernel
theorem dX9_round_25 : decode cX9_round 25 = .ok (.ireturn, 1) := by decide +kernel
theorem dX9_round_26 : decode cX9_round 26 = .ok (.aload_n 0, 1) := by decide +kernel
theorem dX9_round_27 : decode cX9_round 27 = .ok (.iload_n 1, 1) := by decide +kernel
theorem dX9_round_28 : decode cX9_round 28 = .ok (.iload_n 2, 1) := by decide +kernel
theorem dX9_round_29 : decode cX9_round 29 = .ok (.iload_n 3, 1) := by decide +kernel
theorem dX9_round_30 : decode cX9_round 30 = .ok (.iload 4, 2) := by decide +kernel
theorem dX9_round_32 : decode cX9_round 32 = .ok (.iconst 1, 1) := by decide +kernel
theorem dX9_round_33 : decode cX9_round 33 = .ok (.iadd, 1) := by decide +kernel
theorem dX9_round_34 : decode cX9_round 34 = .ok (.invokevirtual 332, 3) := by decide +kernel
theorem dX9_round_37 : decode cX9_round 37 = .ok (.aload_n 0, 1) := by decide +kernel
theorem dX9_round_38 : decode cX9_round 38 = .ok (.getfield 58, 3) := by decide +kernel
theorem dX9_round_41 : decode cX9_round 41 = .ok (.iload 4, 2) := by decide +kernel
theorem dX9_round_43 : decode cX9_round 43 = .ok (.iaload, 1) := by decide +kernel
theorem dX9_round_44 : decode cX9_round 44 = .ok (.ireturn, 1) := by decide +kernel
theorem dX9_learnt_0 : decode cX9_learnt 0 = .ok (.aload_n 0, 1) := by decide +kernel
theorem dX9_learnt_1 : decode cX9_learnt 1 = .ok (.iload_n 1, 1) := by decide +kernel
theorem dX9_learnt_2 : decode cX9_learnt 2 = .ok (.iload_n 2, 1) := by decide +kernel
theorem dX9_learnt_3 : decode cX9_learnt 3 = .ok (.iload_n 3, 1) := by decide +kernel
theorem dX9_learnt_4 : decode cX9_learnt 4 = .ok (.invokevirtual 326, 3) := by decide +kernel
theorem dX9_learnt_7 : decode cX9_learnt 7 = .ok (.ifCond .ne 6, 3) := by decide +kernel
theorem dX9_learnt_10 : decode cX9_learnt 10 = .ok (.bipush (-2), 2) := by decide +kernel
theorem dX9_learnt_12 : decode cX9_learnt 12 = .ok (.ireturn, 1) := by decide +kernel
theorem dX9_learnt_13 : decode cX9_learnt 13 = .ok (.aload_n 0, 1) := by decide +kernel
theorem dX9_learnt_14 : decode cX9_learnt 14 = .ok (.iload_n 1, 1) := by decide +kernel
theorem dX9_learnt_15 : decode cX9_learnt 15 = .ok (.iload_n 2, 1) := by decide +kernel
theorem dX9_learnt_16 : decode cX9_learnt 16 = .ok (.iload_n 3, 1) := by decide +kernel
theorem dX9_learnt_17 : decode cX9_learnt 17 = .ok (.bipush 30, 2) := by decide +kernel
theorem dX9_learnt_19 : decode cX9_learnt 19 = .ok (.invokevirtual 332, 3) := by decide +kernel
theorem dX9_learnt_22 : decode cX9_learnt 22 = .ok (.aload_n 0, 1) := by decide +kernel
theorem dX9_learnt_23 : decode cX9_learnt 23 = .ok (.invokevirtual 336, 3) := by decide +kernel
theorem dX9_learnt_26 : decode cX9_learnt 26 = .ok (.ireturn, 1) := by decide +kernel
theorem dX9_learns_0 : decode cX9_learns 0 = .ok (.aload_n 0, 1) := by decide +kernel
theorem dX9_learns_1 : decode cX9_learns 1 = .ok (.invokevirtual 113, 3) := by decide +kernel
theorem dX9_learns_4 : decode cX9_learns 4 = .ok (.ifCond .eq 22, 3) := by decide +kernel
theorem dX9_learns_7 : decode cX9_learns 7 = .ok (.iload_n 1, 1) := by decide +kernel
theorem dX9_learns_8 : decode cX9_learns 8 = .ok (.invokestatic 150, 3) := by decide +kernel
theorem dX9_learns_11 : decode cX9_learns 11 = .ok (.ifCond .eq 15, 3) := by decide +kernel
theorem dX9_learns_14 : decode cX9_learns 14 = .ok (.iload_n 2, 1) := by decide +kernel
theorem dX9_learns_15 : decode cX9_learns 15 = .ok (.i2l, 1) := by decide +kernel
theorem dX9_learns_16 : decode cX9_learns 16 = .ok (.lconst 1, 1) := by decide +kernel
theorem dX9_learns_17 : decode cX9_learns 17 = .ok (.ldc2_w 339, 3) := by decide +kernel
theorem dX9_learns_20 : decode cX9_learns 20 = .ok (.invokestatic 77, 3) := by decide +kernel
theorem dX9_learns_23 : decode cX9_learns 23 = .ok (.ifCond .ne 6, 3) := by decide +kernel
theorem dX9_learns_26 : decode cX9_learns 26 = .ok (.bipush (-2), 2) := by decide +kernel
theorem dX9_learns_28 : decode cX9_learns 28 = .ok (.ireturn, 1) := by decide +kernel
theorem dX9_learns_29 : decode cX9_learns 29 = .ok (.iconst 0, 1) := by decide +kernel
theorem dX9_learns_30 : decode cX9_learns 30 = .ok (.istore_n 3, 1) := by decide +kernel
theorem dX9_learns_31 : decode cX9_learns 31 = .ok (.iconst 0, 1) := by decide +kernel
theorem dX9_learns_32 : decode cX9_learns 32 = .ok (.istore 4, 2) := by decide +kernel
theorem dX9_learns_34 : decode cX9_learns 34 = .ok (.iload 4, 2) := by decide +kernel
theorem dX9_learns_36 : decode cX9_learns 36 = .ok (.iload_n 2, 1) := by decide +kernel
theorem dX9_learns_37 : decode cX9_learns 37 = .ok (.invokestatic 183, 3) := by decide +kernel
theorem dX9_learns_40 : decode cX9_learns 40 = .ok (.if_icmp .gt 32, 3) := by decide +kernel
theorem dX9_learns_43 : decode cX9_learns 43 = .ok (.aload_n 0, 1) := by decide +kernel
theorem dX9_learns_44 : decode cX9_learns 44 = .ok (.iload_n 1, 1) := by decide +kernel
theorem dX9_learns_45 : decode cX9_learns 45 = .ok (.iload 4, 2) := by decide +kernel
theorem dX9_learns_47 : decode cX9_learns 47 = .ok (.iload_n 2, 1) := by decide +kernel
theorem dX9_learns_48 : decode cX9_learns 48 = .ok (.bipush 30, 2) := by decide +kernel
theorem dX9_learns_50 : decode cX9_learns 50 = .ok (.invokevirtual 332, 3) := by decide +kernel
theorem dX9_learns_53 : decode cX9_learns 53 = .ok (.aload_n 0, 1) := by decide +kernel
theorem dX9_learns_54 : decode cX9_learns 54 = .ok (.getfield 58, 3) := by decide +kernel
theorem dX9_learns_57 : decode cX9_learns 57 = .ok (.bipush 29, 2) := by decide +kernel
theorem dX9_learns_59 : decode cX9_learns 59 = .ok (.iaload, 1) := by decide +kernel
theorem dX9_learns_60 : decode cX9_learns 60 = .ok (.ifCond .ne 6, 3) := by decide +kernel
theorem dX9_learns_63 : decode cX9_learns 63 = .ok (.iinc 3 1, 3) := by decide +kernel
theorem dX9_learns_66 : decode cX9_learns 66 = .ok (.iinc 4 1, 3) := by decide +kernel
theorem dX9_learns_69 : decode cX9_learns 69 = .ok (.goto (-35), 3) := by decide +kernel
theorem dX9_learns_72 : decode cX9_learns 72 = .ok (.iload_n 3, 1) := by decide +kernel
theorem dX9_learns_73 : decode cX9_learns 73 = .ok (.ireturn, 1) := by decide +kernel
theorem dX9_trace_0 : decode cX9_trace 0 = .ok (.aload_n 0, 1) := by decide +kernel
theorem dX9_trace_1 : decode cX9_trace 1 = .ok (.invokevirtual 113, 3) := by decide +kernel
theorem dX9_trace_4 : decode cX9_trace 4 = .ok (.ifCond .eq 10, 3) := by decide +kernel
theorem dX9_trace_7 : decode cX9_trace 7 = .ok (.iload_n 1, 1) := by decide +kernel
theorem dX9_trace_8 : decode cX9_trace 8 = .ok (.invokestatic 341, 3) := by decide +kernel
theorem dX9_trace_11 : decode cX9_trace 11 = .ok (.ifCond .ne 6, 3) := by decide +kernel
theorem dX9_trace_14 : decode cX9_trace 14 = .ok (.bipush (-2), 2) := by decide +kernel
theorem dX9_trace_16 : decode cX9_trace 16 = .ok (.ireturn, 1) := by decide +kernel
theorem dX9_trace_17 : decode cX9_trace 17 = .ok (.aload_n 0, 1) := by decide +kernel
theorem dX9_trace_18 : decode cX9_trace 18 = .ok (.getfield 65, 3) := by decide +kernel
theorem dX9_trace_21 : decode cX9_trace 21 = .ok (.iload_n 1, 1) := by decide +kernel
theorem dX9_trace_22 : decode cX9_trace 22 = .ok (.invokevirtual 344, 3) := by decide +kernel
theorem dX9_trace_25 : decode cX9_trace 25 = .ok (.ifCond .ne 6, 3) := by decide +kernel
theorem dX9_trace_28 : decode cX9_trace 28 = .ok (.bipush (-6), 2) := by decide +kernel
theorem dX9_trace_30 : decode cX9_trace 30 = .ok (.ireturn, 1) := by decide +kernel
theorem dX9_trace_31 : decode cX9_trace 31 = .ok (.aload_n 0, 1) := by decide +kernel
theorem dX9_trace_32 : decode cX9_trace 32 = .ok (.getfield 65, 3) := by decide +kernel
theorem dX9_trace_35 : decode cX9_trace 35 = .ok (.iload_n 1, 1) := by decide +kernel
theorem dX9_trace_36 : decode cX9_trace 36 = .ok (.bipush 127, 2) := by decide +kernel
theorem dX9_trace_38 : decode cX9_trace 38 = .ok (.invokevirtual 347, 3) := by decide +kernel
theorem dX9_trace_41 : decode cX9_trace 41 = .ok (.ifCond .ne 6, 3) := by decide +kernel
theorem dX9_trace_44 : decode cX9_trace 44 = .ok (.bipush (-2), 2) := by decide +kernel
theorem dX9_trace_46 : decode cX9_trace 46 = .ok (.ireturn, 1) := by decide +kernel
theorem dX9_trace_47 : decode cX9_trace 47 = .ok (.aload_n 0, 1) := by decide +kernel
theorem dX9_trace_48 : decode cX9_trace 48 = .ok (.getfield 55, 3) := by decide +kernel
theorem dX9_trace_51 : decode cX9_trace 51 = .ok (.aload_n 0, 1) := by decide +kernel
theorem dX9_trace_52 : decode cX9_trace 52 = .ok (.getfield 23, 3) := by decide +kernel
theorem dX9_trace_55 : decode cX9_trace 55 = .ok (.invokevirtual 350, 3) := by decide +kernel
theorem dX9_trace_58 : decode cX9_trace 58 = .ok (.iconst 0, 1) := by decide +kernel
theorem dX9_trace_59 : decode cX9_trace 59 = .ok (.istore_n 2, 1) := by decide +kernel
theorem dX9_trace_60 : decode cX9_trace 60 = .ok (.iconst 0, 1) := by decide +kernel
theorem dX9_trace_61 : decode cX9_trace 61 = .ok (.istore_n 3, 1) := by decide +kernel
theorem dX9_trace_62 : decode cX9_trace 62 = .ok (.iload_n 3, 1) := by decide +kernel
theorem dX9_trace_63 : decode cX9_trace 63 = .ok (.aload_n 0, 1) := by decide +kernel
theorem dX9_trace_64 : decode cX9_trace 64 = .ok (.getfield 65, 3) := by decide +kernel
theorem dX9_trace_67 : decode cX9_trace 67 = .ok (.getfield 353, 3) := by decide +kernel
theorem dX9_trace_70 : decode cX9_trace 70 = .ok (.iload_n 1, 1) := by decide +kernel
theorem dX9_trace_71 : decode cX9_trace 71 = .ok (.iaload, 1) := by decide +kernel
theorem dX9_trace_72 : decode cX9_trace 72 = .ok (.if_icmp .ge 53, 3) := by decide +kernel
theorem dX9_trace_75 : decode cX9_trace 75 = .ok (.aload_n 0, 1) := by decide +kernel
theorem dX9_trace_76 : decode cX9_trace 76 = .ok (.getfield 65, 3) := by decide +kernel
theorem dX9_trace_79 : decode cX9_trace 79 = .ok (.iload_n 1, 1) := by decide +kernel
theorem dX9_trace_80 : decode cX9_trace 80 = .ok (.iload_n 3, 1) := by decide +kernel
theorem dX9_trace_81 : decode cX9_trace 81 = .ok (.invokevirtual 354, 3) := by decide +kernel
theorem dX9_trace_84 : decode cX9_trace 84 = .ok (.l2i, 1) := by decide +kernel
theorem dX9_trace_85 : decode cX9_trace 85 = .ok (.istore 4, 2) := by decide +kernel
theorem dX9_trace_87 : decode cX9_trace 87 = .ok (.aload_n 0, 1) := by decide +kernel
theorem dX9_trace_88 : decode cX9_trace 88 = .ok (.getfield 55, 3) := by decide +kernel
theorem dX9_trace_91 : decode cX9_trace 91 = .ok (.iload 4, 2) := by decide +kernel
theorem dX9_trace_93 : decode cX9_trace 93 = .ok (.iconst 2, 1) := by decide +kernel
theorem dX9_trace_94 : decode cX9_trace 94 = .ok (.idiv, 1) := by decide +kernel
theorem dX9_trace_95 : decode cX9_trace 95 = .ok (.invokevirtual 358, 3) := by decide +kernel
theorem dX9_trace_98 : decode cX9_trace 98 = .ok (.iload 4, 2) := by decide +kernel
theorem dX9_trace_100 : decode cX9_trace 100 = .ok (.iconst 2, 1) := by decide +kernel
theorem dX9_trace_101 : decode cX9_trace 101 = .ok (.irem, 1) := by decide +kernel
theorem dX9_trace_102 : decode cX9_trace 102 = .ok (.if_icmp .eq 6, 3) := by decide +kernel
theorem dX9_trace_105 : decode cX9_trace 105 = .ok (.iinc 2 1, 3) := by decide +kernel
theorem dX9_trace_108 : decode cX9_trace 108 = .ok (.aload_n 0, 1) := by decide +kernel
theorem dX9_trace_109 : decode cX9_trace 109 = .ok (.getfield 55, 3) := by decide +kernel
theorem dX9_trace_112 : decode cX9_trace 112 = .ok (.iload 4, 2) := by decide +kernel
theorem dX9_trace_114 : decode cX9_trace 114 = .ok (.iconst 2, 1) := by decide +kernel
theorem dX9_trace_115 : decode cX9_trace 115 = .ok (.irem, 1) := by decide +kernel
theorem dX9_trace_116 : decode cX9_trace 116 = .ok (.invokevirtual 361, 3) := by decide +kernel
theorem dX9_trace_119 : decode cX9_trace 119 = .ok (.iinc 3 1, 3) := by decide +kernel
theorem dX9_trace_122 : decode cX9_trace 122 = .ok (.goto (-60), 3) := by decide +kernel
theorem dX9_trace_125 : decode cX9_trace 125 = .ok (.iload_n 2, 1) := by decide +kernel
theorem dX9_trace_126 : decode cX9_trace 126 = .ok (.ireturn, 1) := by decide +kernel
theorem dX9_like_0 : decode cX9_like 0 = .ok (.aload_n 0, 1) := by decide +kernel
theorem dX9_like_1 : decode cX9_like 1 = .ok (.invokevirtual 113, 3) := by decide +kernel
theorem dX9_like_4 : decode cX9_like 4 = .ok (.ifCond .eq 10, 3) := by decide +kernel
theorem dX9_like_7 : decode cX9_like 7 = .ok (.iload_n 1, 1) := by decide +kernel
theorem dX9_like_8 : decode cX9_like 8 = .ok (.invokestatic 341, 3) := by decide +kernel
theorem dX9_like_11 : decode cX9_like 11 = .ok (.ifCond .ne 6, 3) := by decide +kernel
theorem dX9_like_14 : decode cX9_like 14 = .ok (.bipush (-2), 2) := by decide +kernel
theorem dX9_like_16 : decode cX9_like 16 = .ok (.ireturn, 1) := by decide +kernel
theorem dX9_like_17 : decode cX9_like 17 = .ok (.aload_n 0, 1) := by decide +kernel
theorem dX9_like_18 : decode cX9_like 18 = .ok (.getfield 65, 3) := by decide +kernel
theorem dX9_like_21 : decode cX9_like 21 = .ok (.iload_n 1, 1) := by decide +kernel
theorem dX9_like_22 : decode cX9_like 22 = .ok (.invokevirtual 344, 3) := by decide +kernel
theorem dX9_like_25 : decode cX9_like 25 = .ok (.ifCond .ne 6, 3) := by decide +kernel
theorem dX9_like_28 : decode cX9_like 28 = .ok (.bipush (-6), 2) := by decide +kernel
theorem dX9_like_30 : decode cX9_like 30 = .ok (.ireturn, 1) := by decide +kernel
theorem dX9_like_31 : decode cX9_like 31 = .ok (.aload_n 0, 1) := by decide +kernel
theorem dX9_like_32 : decode cX9_like 32 = .ok (.getfield 65, 3) := by decide +kernel
theorem dX9_like_35 : decode cX9_like 35 = .ok (.iload_n 1, 1) := by decide +kernel
theorem dX9_like_36 : decode cX9_like 36 = .ok (.iconst 1, 1) := by decide +kernel
theorem dX9_like_37 : decode cX9_like 37 = .ok (.invokevirtual 347, 3) := by decide +kernel
theorem dX9_like_40 : decode cX9_like 40 = .ok (.ifCond .eq 22, 3) := by decide +kernel
theorem dX9_like_43 : decode cX9_like 43 = .ok (.aload_n 0, 1) := by decide +kernel
theorem dX9_like_44 : decode cX9_like 44 = .ok (.getfield 65, 3) := by decide +kernel
theorem dX9_like_47 : decode cX9_like 47 = .ok (.getfield 353, 3) := by decide +kernel
theorem dX9_like_50 : decode cX9_like 50 = .ok (.iload_n 1, 1) := by decide +kernel
theorem dX9_like_51 : decode cX9_like 51 = .ok (.iaload, 1) := by decide +kernel
theorem dX9_like_52 : decode cX9_like 52 = .ok (.aload_n 0, 1) := by decide +kernel
theorem dX9_like_53 : decode cX9_like 53 = .ok (.getfield 44, 3) := by decide +kernel
theorem dX9_like_56 : decode cX9_like 56 = .ok (.getfield 157, 3) := by decide +kernel
theorem dX9_like_59 : decode cX9_like 59 = .ok (.if_icmp .le 6, 3) := by decide +kernel
theorem dX9_like_62 : decode cX9_like 62 = .ok (.bipush (-2), 2) := by decide +kernel
theorem dX9_like_64 : decode cX9_like 64 = .ok (.ireturn, 1) := by decide +kernel
theorem dX9_like_65 : decode cX9_like 65 = .ok (.iconst 0, 1) := by decide +kernel
theorem dX9_like_66 : decode cX9_like 66 = .ok (.istore_n 2, 1) := by decide +kernel
theorem dX9_like_67 : decode cX9_like 67 = .ok (.iconst 0, 1) := by decide +kernel
theorem dX9_like_68 : decode cX9_like 68 = .ok (.istore_n 3, 1) := by decide +kernel
theorem dX9_like_69 : decode cX9_like 69 = .ok (.iload_n 3, 1) := by decide +kernel
theorem dX9_like_70 : decode cX9_like 70 = .ok (.bipush 8, 2) := by decide +kernel
theorem dX9_like_72 : decode cX9_like 72 = .ok (.if_icmp .ge 28, 3) := by decide +kernel
theorem dX9_like_75 : decode cX9_like 75 = .ok (.aload_n 0, 1) := by decide +kernel
theorem dX9_like_76 : decode cX9_like 76 = .ok (.iload_n 3, 1) := by decide +kernel
theorem dX9_like_77 : decode cX9_like 77 = .ok (.invokevirtual 306, 3) := by decide +kernel
theorem dX9_like_80 : decode cX9_like 80 = .ok (.aload_n 0, 1) := by decide +kernel
theorem dX9_like_81 : decode cX9_like 81 = .ok (.iload_n 1, 1) := by decide +kernel
theorem dX9_like_82 : decode cX9_like 82 = .ok (.invokevirtual 364, 3) := by decide +kernel
theorem dX9_like_85 : decode cX9_like 85 = .ok (.ifCond .eq 9, 3) := by decide +kernel
theorem dX9_like_88 : decode cX9_like 88 = .ok (.iload_n 2, 1) := by decide +kernel
theorem dX9_like_89 : decode cX9_like 89 = .ok (.iconst 1, 1) := by decide +kernel
theorem dX9_like_90 : decode cX9_like 90 = .ok (.iload_n 3, 1) := by decide +kernel
theorem dX9_like_91 : decode cX9_like 91 = .ok (.ishl, 1) := by decide +kernel
theorem dX9_like_92 : decode cX9_like 92 = .ok (.ior, 1) := by decide +kernel
theorem dX9_like_93 : decode cX9_like 93 = .ok (.istore_n 2, 1) := by decide +kernel
theorem dX9_like_94 : decode cX9_like 94 = .ok (.iinc 3 1, 3) := by decide +kernel
theorem dX9_like_97 : decode cX9_like 97 = .ok (.goto (-28), 3) := by decide +kernel
theorem dX9_like_100 : decode cX9_like 100 = .ok (.iload_n 2, 1) := by decide +kernel
theorem dX9_like_101 : decode cX9_like 101 = .ok (.ireturn, 1) := by decide +kernel
theorem dX9_meets_0 : decode cX9_meets 0 = .ok (.aload_n 0, 1) := by decide +kernel
theorem dX9_meets_1 : decode cX9_meets 1 = .ok (.invokevirtual 113, 3) := by decide +kernel
theorem dX9_meets_4 : decode cX9_meets 4 = .ok (.ifCond .eq 20, 3) := by decide +kernel
theorem dX9_meets_7 : decode cX9_meets 7 = .ok (.iload_n 1, 1) := by decide +kernel
theorem dX9_meets_8 : decode cX9_meets 8 = .ok (.invokestatic 150, 3) := by decide +kernel
theorem dX9_meets_11 : decode cX9_meets 11 = .ok (.ifCond .eq 13, 3) := by decide +kernel
theorem dX9_meets_14 : decode cX9_meets 14 = .ok (.iload_n 2, 1) := by decide +kernel
theorem dX9_meets_15 : decode cX9_meets 15 = .ok (.i2l, 1) := by decide +kernel
theorem dX9_meets_16 : decode cX9_meets 16 = .ok (.lconst 0, 1) := by decide +kernel
theorem dX9_meets_17 : decode cX9_meets 17 = .ok (.lconst 1, 1) := by decide +kernel
theorem dX9_meets_18 : decode cX9_meets 18 = .ok (.invokestatic 77, 3) := by decide +kernel
theorem dX9_meets_21 : decode cX9_meets 21 = .ok (.ifCond .ne 6, 3) := by decide +kernel
theorem dX9_meets_24 : decode cX9_meets 24 = .ok (.bipush (-2), 2) := by decide +kernel
theorem dX9_meets_26 : decode cX9_meets 26 = .ok (.ireturn, 1) := by decide +kernel
theorem dX9_meets_27 : decode cX9_meets 27 = .ok (.aload_n 0, 1) := by decide +kernel
theorem dX9_meets_28 : decode cX9_meets 28 = .ok (.getfield 23, 3) := by decide +kernel
theorem dX9_meets_31 : decode cX9_meets 31 = .ok (.getfield 367, 3) := by decide +kernel
theorem dX9_meets_34 : decode cX9_meets 34 = .ok (.bipush 40, 2) := by decide +kernel
theorem dX9_meets_36 : decode cX9_meets 36 = .ok (.if_icmp .lt 6, 3) := by decide +kernel
theorem dX9_meets_39 : decode cX9_meets 39 = .ok (.bipush (-5), 2) := by decide +kernel
theorem dX9_meets_41 : decode cX9_meets 41 = .ok (.ireturn, 1) := by decide +kernel
theorem dX9_meets_42 : decode cX9_meets 42 = .ok (.aload_n 0, 1) := by decide +kernel
theorem dX9_meets_43 : decode cX9_meets 43 = .ok (.getfield 44, 3) := by decide +kernel
theorem dX9_meets_46 : decode cX9_meets 46 = .ok (.getfield 157, 3) := by decide +kernel
theorem dX9_meets_49 : decode cX9_meets 49 = .ok (.istore_n 3, 1) := by decide +kernel
theorem dX9_meets_50 : decode cX9_meets 50 = .ok (.aload_n 0, 1) := by decide +kernel
theorem dX9_meets_51 : decode cX9_meets 51 = .ok (.iload_n 3, 1) := by decide +kernel
theorem dX9_meets_52 : decode cX9_meets 52 = .ok (.invokevirtual 176, 3) := by decide +kernel
theorem dX9_meets_55 : decode cX9_meets 55 = .ok (.aload_n 0, 1) := by decide +kernel
theorem dX9_meets_56 : decode cX9_meets 56 = .ok (.getfield 23, 3) := by decide +kernel
theorem dX9_meets_59 : decode cX9_meets 59 = .ok (.getfield 370, 3) := by decide +kernel
theorem dX9_meets_62 : decode cX9_meets 62 = .ok (.aload_n 0, 1) := by decide +kernel
theorem dX9_meets_63 : decode cX9_meets 63 = .ok (.getfield 23, 3) := by decide +kernel
theorem dX9_meets_66 : decode cX9_meets 66 = .ok (.getfield 367, 3) := by decide +kernel
theorem dX9_meets_69 : decode cX9_meets 69 = .ok (.iconst 2, 1) := by decide +kernel
theorem dX9_meets_70 : decode cX9_meets 70 = .ok (.iload_n 1, 1) := by decide +kernel
theorem dX9_meets_71 : decode cX9_meets 71 = .ok (.imul, 1) := by decide +kernel
theorem dX9_meets_72 : decode cX9_meets 72 = .ok (.iload_n 2, 1) := by decide +kernel
theorem dX9_meets_73 : decode cX9_meets 73 = .ok (.iadd, 1) := by decide +kernel
theorem dX9_meets_74 : decode cX9_meets 74 = .ok (.iastore, 1) := by decide +kernel
theorem dX9_meets_75 : decode cX9_meets 75 = .ok (.aload_n 0, 1) := by decide +kernel
theorem dX9_meets_76 : decode cX9_meets 76 = .ok (.getfield 23, 3) := by decide +kernel
theorem dX9_meets_79 : decode cX9_meets 79 = .ok (.dup, 1) := by decide +kernel
theorem dX9_meets_80 : decode cX9_meets 80 = .ok (.getfield 367, 3) := by decide +kernel
theorem dX9_meets_83 : decode cX9_meets 83 = .ok (.iconst 1, 1) := by decide +kernel
theorem dX9_meets_84 : decode cX9_meets 84 = .ok (.iadd, 1) := by decide +kernel
theorem dX9_meets_85 : decode cX9_meets 85 = .ok (.putfield 367, 3) := by decide +kernel
theorem dX9_meets_88 : decode cX9_meets 88 = .ok (.aload_n 0, 1) := by decide +kernel
theorem dX9_meets_89 : decode cX9_meets 89 = .ok (.getfield 44, 3) := by decide +kernel
theorem dX9_meets_92 : decode cX9_meets 92 = .ok (.iload_n 1, 1) := by decide +kernel
theorem dX9_meets_93 : decode cX9_meets 93 = .ok (.iload_n 2, 1) := by decide +kernel
theorem dX9_meets_94 : decode cX9_meets 94 = .ok (.iconst (-1), 1) := by decide +kernel
theorem dX9_meets_95 : decode cX9_meets 95 = .ok (.invokevirtual 373, 3) := by decide +kernel
theorem dX9_meets_98 : decode cX9_meets 98 = .ok (.aload_n 0, 1) := by decide +kernel
theorem dX9_meets_99 : decode cX9_meets 99 = .ok (.iload_n 3, 1) := by decide +kernel
theorem dX9_meets_100 : decode cX9_meets 100 = .ok (.invokevirtual 377, 3) := by decide +kernel
theorem dX9_meets_103 : decode cX9_meets 103 = .ok (.aload_n 0, 1) := by decide +kernel
theorem dX9_meets_104 : decode cX9_meets 104 = .ok (.getfield 44, 3) := by decide +kernel
theorem dX9_meets_107 : decode cX9_meets 107 = .ok (.iload_n 3, 1) := by decide +kernel
theorem dX9_meets_108 : decode cX9_meets 108 = .ok (.invokevirtual 147, 3) := by decide +kernel
theorem dX9_meets_111 : decode cX9_meets 111 = .ok (.ifCond .eq 7, 3) := by decide +kernel
theorem dX9_meets_114 : decode cX9_meets 114 = .ok (.iconst 0, 1) := by decide +kernel
theorem dX9_meets_115 : decode cX9_meets 115 = .ok (.goto 4, 3) := by decide +kernel
theorem dX9_meets_118 : decode cX9_meets 118 = .ok (.iconst 1, 1) := by decide +kernel
theorem dX9_meets_119 : decode cX9_meets 119 = .ok (.ireturn, 1) := by decide +kernel
theorem dX9_undo_0 : decode cX9_undo 0 = .ok (.aload_n 0, 1) := by decide +kernel
theorem dX9_undo_1 : decode cX9_undo 1 = .ok (.invokevirtual 113, 3) := by decide +kernel
theorem dX9_undo_4 : decode cX9_undo 4 = .ok (.ifCond .ne 6, 3) := by decide +kernel
theorem dX9_undo_7 : decode cX9_undo 7 = .ok (.bipush (-2), 2) := by decide +kernel
theorem dX9_undo_9 : decode cX9_undo 9 = .ok (.ireturn, 1) := by decide +kernel
theorem dX9_undo_10 : decode cX9_undo 10 = .ok (.aload_n 0, 1) := by decide +kernel
theorem dX9_undo_11 : decode cX9_undo 11 = .ok (.getfield 23, 3) := by decide +kernel
theorem dX9_undo_14 : decode cX9_undo 14 = .ok (.getfield 367, 3) := by decide +kernel
theorem dX9_undo_17 : decode cX9_undo 17 = .ok (.ifCond .ne 6, 3) := by decide +kernel
theorem dX9_undo_20 : decode cX9_undo 20 = .ok (.bipush (-5), 2) := by decide +kernel
theorem dX9_undo_22 : decode cX9_undo 22 = .ok (.ireturn, 1) := by decide +kernel
theorem dX9_undo_23 : decode cX9_undo 23 = .ok (.aload_n 0, 1) := by decide +kernel
theorem dX9_undo_24 : decode cX9_undo 24 = .ok (.aload_n 0, 1) := by decide +kernel
theorem dX9_undo_25 : decode cX9_undo 25 = .ok (.getfield 23, 3) := by decide +kernel
theorem dX9_undo_28 : decode cX9_undo 28 = .ok (.getfield 367, 3) := by decide +kernel
theorem dX9_undo_31 : decode cX9_undo 31 = .ok (.iconst 1, 1) := by decide +kernel
theorem dX9_undo_32 : decode cX9_undo 32 = .ok (.isub, 1) := by decide +kernel
theorem dX9_undo_33 : decode cX9_undo 33 = .ok (.invokevirtual 380, 3) := by decide +kernel
theorem dX9_undo_36 : decode cX9_undo 36 = .ok (.aload_n 0, 1) := by decide +kernel
theorem dX9_undo_37 : decode cX9_undo 37 = .ok (.getfield 23, 3) := by decide +kernel
theorem dX9_undo_40 : decode cX9_undo 40 = .ok (.getfield 367, 3) := by decide +kernel
theorem dX9_undo_43 : decode cX9_undo 43 = .ok (.ireturn, 1) := by decide +kernel
theorem dX9_anew_0 : decode cX9_anew 0 = .ok (.aload_n 0, 1) := by decide +kernel
theorem dX9_anew_1 : decode cX9_anew 1 = .ok (.invokevirtual 113, 3) := by decide +kernel
theorem dX9_anew_4 : decode cX9_anew 4 = .ok (.ifCond .ne 6, 3) := by decide +kernel
theorem dX9_anew_7 : decode cX9_anew 7 = .ok (.bipush (-2), 2) := by decide +kernel
theorem dX9_anew_9 : decode cX9_anew 9 = .ok (.ireturn, 1) := by decide +kernel
theorem dX9_anew_10 : decode cX9_anew 10 = .ok (.aload_n 0, 1) := by decide +kernel
theorem dX9_anew_11 : decode cX9_anew 11 = .ok (.getfield 23, 3) := by decide +kernel
theorem dX9_anew_14 : decode cX9_anew 14 = .ok (.getfield 367, 3) := by decide +kernel
theorem dX9_anew_17 : decode cX9_anew 17 = .ok (.istore_n 1, 1) := by decide +kernel
theorem dX9_anew_18 : decode cX9_anew 18 = .ok (.aload_n 0, 1) := by decide +kernel
theorem dX9_anew_19 : decode cX9_anew 19 = .ok (.iconst 0, 1) := by decide +kernel
theorem dX9_anew_20 : decode cX9_anew 20 = .ok (.invokevirtual 380, 3) := by decide +kernel
theorem dX9_anew_23 : decode cX9_anew 23 = .ok (.iload_n 1, 1) := by decide +kernel
theorem dX9_anew_24 : decode cX9_anew 24 = .ok (.ireturn, 1) := by decide +kernel
theorem dX9_count_0 : decode cX9_count 0 = .ok (.iload_n 1, 1) := by decide +kernel
theorem dX9_count_1 : decode cX9_count 1 = .ok (.i2l, 1) := by decide +kernel
theorem dX9_count_2 : decode cX9_count 2 = .ok (.lconst 0, 1) := by decide +kernel
theorem dX9_count_3 : decode cX9_count 3 = .ok (.ldc2_w 339, 3) := by decide +kernel
theorem dX9_count_6 : decode cX9_count 6 = .ok (.invokestatic 77, 3) := by decide +kernel
theorem dX9_count_9 : decode cX9_count 9 = .ok (.ifCond .eq 13, 3) := by decide +kernel
theorem dX9_count_12 : decode cX9_count 12 = .ok (.aload_n 0, 1) := by decide +kernel
theorem dX9_count_13 : decode cX9_count 13 = .ok (.getfield 23, 3) := by decide +kernel
theorem dX9_count_16 : decode cX9_count 16 = .ok (.getfield 231, 3) := by decide +kernel
theorem dX9_count_19 : decode cX9_count 19 = .ok (.iload_n 1, 1) := by decide +kernel
theorem dX9_count_20 : decode cX9_count 20 = .ok (.iaload, 1) := by decide +kernel
theorem dX9_count_21 : decode cX9_count 21 = .ok (.ireturn, 1) := by decide +kernel
theorem dX9_count_22 : decode cX9_count 22 = .ok (.iload_n 1, 1) := by decide +kernel
theorem dX9_count_23 : decode cX9_count 23 = .ok (.tableswitch 97 6 12 #[41, 49, 57, 65, 73, 81, 89], 41) := by decide +kernel
theorem dX9_count_64 : decode cX9_count 64 = .ok (.aload_n 0, 1) := by decide +kernel
theorem dX9_count_65 : decode cX9_count 65 = .ok (.getfield 23, 3) := by decide +kernel
theorem dX9_count_68 : decode cX9_count 68 = .ok (.getfield 171, 3) := by decide +kernel
theorem dX9_count_71 : decode cX9_count 71 = .ok (.ireturn, 1) := by decide +kernel
theorem dX9_count_72 : decode cX9_count 72 = .ok (.aload_n 0, 1) := by decide +kernel
theorem dX9_count_73 : decode cX9_count 73 = .ok (.getfield 23, 3) := by decide +kernel
theorem dX9_count_76 : decode cX9_count 76 = .ok (.getfield 383, 3) := by decide +kernel
theorem dX9_count_79 : decode cX9_count 79 = .ok (.ireturn, 1) := by decide +kernel
theorem dX9_count_80 : decode cX9_count 80 = .ok (.aload_n 0, 1) := by decide +kernel
theorem dX9_count_81 : decode cX9_count 81 = .ok (.getfield 44, 3) := by decide +kernel
theorem dX9_count_84 : decode cX9_count 84 = .ok (.getfield 291, 3) := by decide +kernel
theorem dX9_count_87 : decode cX9_count 87 = .ok (.ireturn, 1) := by decide +kernel
theorem dX9_count_88 : decode cX9_count 88 = .ok (.aload_n 0, 1) := by decide +kernel
theorem dX9_count_89 : decode cX9_count 89 = .ok (.getfield 23, 3) := by decide +kernel
theorem dX9_count_92 : decode cX9_count 92 = .ok (.getfield 367, 3) := by decide +kernel
theorem dX9_count_95 : decode cX9_count 95 = .ok (.ireturn, 1) := by decide +kernel
theorem dX9_count_96 : decode cX9_count 96 = .ok (.aload_n 0, 1) := by decide +kernel
theorem dX9_count_97 : decode cX9_count 97 = .ok (.getfield 23, 3) := by decide +kernel
theorem dX9_count_100 : decode cX9_count 100 = .ok (.getfield 92, 3) := by decide +kernel
theorem dX9_count_103 : decode cX9_count 103 = .ok (.ireturn, 1) := by decide +kernel
theorem dX9_count_104 : decode cX9_count 104 = .ok (.aload_n 0, 1) := by decide +kernel
theorem dX9_count_105 : decode cX9_count 105 = .ok (.getfield 12, 3) := by decide +kernel
theorem dX9_count_108 : decode cX9_count 108 = .ok (.getfield 69, 3) := by decide +kernel
theorem dX9_count_111 : decode cX9_count 111 = .ok (.ireturn, 1) := by decide +kernel
theorem dX9_count_112 : decode cX9_count 112 = .ok (.aload_n 0, 1) := by decide +kernel
theorem dX9_count_113 : decode cX9_count 113 = .ok (.getfield 65, 3) := by decide +kernel
theorem dX9_count_116 : decode cX9_count 116 = .ok (.invokevirtual 386, 3) := by decide +kernel
theorem dX9_count_119 : decode cX9_count 119 = .ok (.ireturn, 1) := by decide +kernel
theorem dX9_count_120 : decode cX9_count 120 = .ok (.iconst (-1), 1) := by decide +kernel
theorem dX9_count_121 : decode cX9_count 121 = .ok (.ireturn, 1) := by decide +kernel
theorem dX9_image_0 : decode cX9_image 0 = .ok (.iload_n 1, 1) := by decide +kernel
theorem dX9_image_1 : decode cX9_image 1 = .ok (.i2l, 1) := by decide +kernel
theorem dX9_image_2 : decode cX9_image 2 = .ok (.lconst 0, 1) := by decide +kernel
theorem dX9_image_3 : decode cX9_image 3 = .ok (.ldc2_w 234, 3) := by decide +kernel
theorem dX9_image_6 : decode cX9_image 6 = .ok (.invokestatic 77, 3) := by decide +kernel
theorem dX9_image_9 : decode cX9_image 9 = .ok (.ifCond .ne 6, 3) := by decide +kernel
theorem dX9_image_12 : decode cX9_image 12 = .ok (.bipush (-2), 2) := by decide +kernel
theorem dX9_image_14 : decode cX9_image 14 = .ok (.ireturn, 1) := by decide +kernel
theorem dX9_image_15 : decode cX9_image 15 = .ok (.aload_n 0, 1) := by decide +kernel
theorem dX9_image_16 : decode cX9_image 16 = .ok (.getfield 26, 3) := by decide +kernel
theorem dX9_image_19 : decode cX9_image 19 = .ok (.iload_n 1, 1) := by decide +kernel
theorem dX9_image_20 : decode cX9_image 20 = .ok (.aaload, 1) := by decide +kernel
theorem dX9_image_21 : decode cX9_image 21 = .ok (.aload_n 0, 1) := by decide +kernel
theorem dX9_image_22 : decode cX9_image 22 = .ok (.getfield 23, 3) := by decide +kernel
theorem dX9_image_25 : decode cX9_image 25 = .ok (.invokevirtual 85, 3) := by decide +kernel
theorem dX9_image_28 : decode cX9_image 28 = .ok (.aload_n 0, 1) := by decide +kernel
theorem dX9_image_29 : decode cX9_image 29 = .ok (.getfield 30, 3) := by decide +kernel
theorem dX9_image_32 : decode cX9_image 32 = .ok (.iload_n 1, 1) := by decide +kernel
theorem dX9_image_33 : decode cX9_image 33 = .ok (.iconst 1, 1) := by decide +kernel
theorem dX9_image_34 : decode cX9_image 34 = .ok (.bastore, 1) := by decide +kernel
theorem dX9_image_35 : decode cX9_image 35 = .ok (.iconst 0, 1) := by decide +kernel
theorem dX9_image_36 : decode cX9_image 36 = .ok (.ireturn, 1) := by decide +kernel
theorem dX9_back_0 : decode cX9_back 0 = .ok (.iload_n 1, 1) := by decide +kernel
theorem dX9_back_1 : decode cX9_back 1 = .ok (.i2l, 1) := by decide +kernel
theorem dX9_back_2 : decode cX9_back 2 = .ok (.lconst 0, 1) := by decide +kernel
theorem dX9_back_3 : decode cX9_back 3 = .ok (.ldc2_w 234, 3) := by decide +kernel
theorem dX9_back_6 : decode cX9_back 6 = .ok (.invokestatic 77, 3) := by decide +kernel
theorem dX9_back_9 : decode cX9_back 9 = .ok (.ifCond .ne 6, 3) := by decide +kernel
theorem dX9_back_12 : decode cX9_back 12 = .ok (.bipush (-2), 2) := by decide +kernel
theorem dX9_back_14 : decode cX9_back 14 = .ok (.ireturn, 1) := by decide +kernel
theorem dX9_back_15 : decode cX9_back 15 = .ok (.aload_n 0, 1) := by decide +kernel
theorem dX9_back_16 : decode cX9_back 16 = .ok (.getfield 30, 3) := by decide +kernel
theorem dX9_back_19 : decode cX9_back 19 = .ok (.iload_n 1, 1) := by decide +kernel
theorem dX9_back_20 : decode cX9_back 20 = .ok (.baload, 1) := by decide +kernel
theorem dX9_back_21 : decode cX9_back 21 = .ok (.ifCond .ne 6, 3) := by decide +kernel
theorem dX9_back_24 : decode cX9_back 24 = .ok (.bipush (-6), 2) := by decide +kernel
theorem dX9_back_26 : decode cX9_back 26 = .ok (.ireturn, 1) := by decide +kernel
theorem dX9_back_27 : decode cX9_back 27 = .ok (.aload_n 0, 1) := by decide +kernel
theorem dX9_back_28 : decode cX9_back 28 = .ok (.getfield 23, 3) := by decide +kernel
theorem dX9_back_31 : decode cX9_back 31 = .ok (.aload_n 0, 1) := by decide +kernel
theorem dX9_back_32 : decode cX9_back 32 = .ok (.getfield 26, 3) := by decide +kernel
theorem dX9_back_35 : decode cX9_back 35 = .ok (.iload_n 1, 1) := by decide +kernel
theorem dX9_back_36 : decode cX9_back 36 = .ok (.aaload, 1) := by decide +kernel
theorem dX9_back_37 : decode cX9_back 37 = .ok (.invokevirtual 85, 3) := by decide +kernel
theorem dX9_back_40 : decode cX9_back 40 = .ok (.aload_n 0, 1) := by decide +kernel
theorem dX9_back_41 : decode cX9_back 41 = .ok (.invokevirtual 89, 3) := by decide +kernel
theorem dX9_back_44 : decode cX9_back 44 = .ok (.iconst 0, 1) := by decide +kernel
theorem dX9_back_45 : decode cX9_back 45 = .ok (.ireturn, 1) := by decide +kernel
theorem dX9_row_0 : decode cX9_row 0 = .ok (.iload_n 1, 1) := by decide +kernel
theorem dX9_row_1 : decode cX9_row 1 = .ok (.invokestatic 341, 3) := by decide +kernel
theorem dX9_row_4 : decode cX9_row 4 = .ok (.ifCond .eq 19, 3) := by decide +kernel
theorem dX9_row_7 : decode cX9_row 7 = .ok (.iload_n 2, 1) := by decide +kernel
theorem dX9_row_8 : decode cX9_row 8 = .ok (.i2l, 1) := by decide +kernel
theorem dX9_row_9 : decode cX9_row 9 = .ok (.lconst 0, 1) := by decide +kernel
theorem dX9_row_10 : decode cX9_row 10 = .ok (.lconst 1, 1) := by decide +kernel
theorem dX9_row_11 : decode cX9_row 11 = .ok (.invokestatic 77, 3) := by decide +kernel
theorem dX9_row_14 : decode cX9_row 14 = .ok (.ifCond .eq 9, 3) := by decide +kernel
theorem dX9_row_17 : decode cX9_row 17 = .ok (.iload_n 3, 1) := by decide +kernel
theorem dX9_row_18 : decode cX9_row 18 = .ok (.bipush 60, 2) := by decide +kernel
theorem dX9_row_20 : decode cX9_row 20 = .ok (.if_icmp .le 6, 3) := by decide +kernel
theorem dX9_row_23 : decode cX9_row 23 = .ok (.bipush (-2), 2) := by decide +kernel
theorem dX9_row_25 : decode cX9_row 25 = .ok (.ireturn, 1) := by decide +kernel
theorem dX9_row_26 : decode cX9_row 26 = .ok (.iload_n 3, 1) := by decide +kernel
theorem dX9_row_27 : decode cX9_row 27 = .ok (.ifCond .ge 6, 3) := by decide +kernel
theorem dX9_row_30 : decode cX9_row 30 = .ok (.bipush (-3), 2) := by decide +kernel
theorem dX9_row_32 : decode cX9_row 32 = .ok (.ireturn, 1) := by decide +kernel
theorem dX9_row_33 : decode cX9_row 33 = .ok (.aload_n 0, 1) := by decide +kernel
theorem dX9_row_34 : decode cX9_row 34 = .ok (.getfield 65, 3) := by decide +kernel
theorem dX9_row_37 : decode cX9_row 37 = .ok (.iload_n 1, 1) := by decide +kernel
theorem dX9_row_38 : decode cX9_row 38 = .ok (.iload_n 2, 1) := by decide +kernel
theorem dX9_row_39 : decode cX9_row 39 = .ok (.iload_n 3, 1) := by decide +kernel
theorem dX9_row_40 : decode cX9_row 40 = .ok (.invokevirtual 389, 3) := by decide +kernel
theorem dX9_row_43 : decode cX9_row 43 = .ok (.iconst 0, 1) := by decide +kernel
theorem dX9_row_44 : decode cX9_row 44 = .ok (.ireturn, 1) := by decide +kernel
theorem dX9_write_0 : decode cX9_write 0 = .ok (.iload_n 1, 1) := by decide +kernel
theorem dX9_write_1 : decode cX9_write 1 = .ok (.invokestatic 341, 3) := by decide +kernel
theorem dX9_write_4 : decode cX9_write 4 = .ok (.ifCond .ne 6, 3) := by decide +kernel
theorem dX9_write_7 : decode cX9_write 7 = .ok (.bipush (-2), 2) := by decide +kernel
theorem dX9_write_9 : decode cX9_write 9 = .ok (.ireturn, 1) := by decide +kernel
theorem dX9_write_10 : decode cX9_write 10 = .ok (.aload_n 0, 1) := by decide +kernel
theorem dX9_write_11 : decode cX9_write 11 = .ok (.getfield 65, 3) := by decide +kernel
theorem dX9_write_14 : decode cX9_write 14 = .ok (.iload_n 1, 1) := by decide +kernel
theorem dX9_write_15 : decode cX9_write 15 = .ok (.invokevirtual 344, 3) := by decide +kernel
theorem dX9_write_18 : decode cX9_write 18 = .ok (.ifCond .ne 6, 3) := by decide +kernel
theorem dX9_write_21 : decode cX9_write 21 = .ok (.bipush (-6), 2) := by decide +kernel
theorem dX9_write_23 : decode cX9_write 23 = .ok (.ireturn, 1) := by decide +kernel
theorem dX9_write_24 : decode cX9_write 24 = .ok (.iload_n 2, 1) := by decide +kernel
theorem dX9_write_25 : decode cX9_write 25 = .ok (.i2l, 1) := by decide +kernel
theorem dX9_write_26 : decode cX9_write 26 = .ok (.lconst 0, 1) := by decide +kernel
theorem dX9_write_27 : decode cX9_write 27 = .ok (.aload_n 0, 1) := by decide +kernel
theorem dX9_write_28 : decode cX9_write 28 = .ok (.getfield 65, 3) := by decide +kernel
theorem dX9_write_31 : decode cX9_write 31 = .ok (.getfield 353, 3) := by decide +kernel
theorem dX9_write_34 : decode cX9_write 34 = .ok (.iload_n 1, 1) := by decide +kernel
theorem dX9_write_35 : decode cX9_write 35 = .ok (.iaload, 1) := by decide +kernel
theorem dX9_write_36 : decode cX9_write 36 = .ok (.iconst 1, 1) := by decide +kernel
theorem dX9_write_37 : decode cX9_write 37 = .ok (.isub, 1) := by decide +kernel
theorem dX9_write_38 : decode cX9_write 38 = .ok (.i2l, 1) := by decide +kernel
theorem dX9_write_39 : decode cX9_write 39 = .ok (.invokestatic 77, 3) := by decide +kernel
theorem dX9_write_42 : decode cX9_write 42 = .ok (.ifCond .ne 6, 3) := by decide +kernel
theorem dX9_write_45 : decode cX9_write 45 = .ok (.bipush (-7), 2) := by decide +kernel
theorem dX9_write_47 : decode cX9_write 47 = .ok (.ireturn, 1) := by decide +kernel
theorem dX9_write_48 : decode cX9_write 48 = .ok (.aload_n 0, 1) := by decide +kernel
theorem dX9_write_49 : decode cX9_write 49 = .ok (.getfield 65, 3) := by decide +kernel
theorem dX9_write_52 : decode cX9_write 52 = .ok (.iload_n 1, 1) := by decide +kernel
theorem dX9_write_53 : decode cX9_write 53 = .ok (.iload_n 2, 1) := by decide +kernel
theorem dX9_write_54 : decode cX9_write 54 = .ok (.lload_n 3, 1) := by decide +kernel
theorem dX9_write_55 : decode cX9_write 55 = .ok (.invokevirtual 392, 3) := by decide +kernel
theorem dX9_write_58 : decode cX9_write 58 = .ok (.iconst 0, 1) := by decide +kernel
theorem dX9_write_59 : decode cX9_write 59 = .ok (.ireturn, 1) := by decide +kernel
theorem dX9_number_0 : decode cX9_number 0 = .ok (.iload_n 1, 1) := by decide +kernel
theorem dX9_number_1 : decode cX9_number 1 = .ok (.invokestatic 341, 3) := by decide +kernel
theorem dX9_number_4 : decode cX9_number 4 = .ok (.ifCond .eq 24, 3) := by decide +kernel
theorem dX9_number_7 : decode cX9_number 7 = .ok (.iload_n 2, 1) := by decide +kernel
theorem dX9_number_8 : decode cX9_number 8 = .ok (.i2l, 1) := by decide +kernel
theorem dX9_number_9 : decode cX9_number 9 = .ok (.lconst 0, 1) := by decide +kernel
theorem dX9_number_10 : decode cX9_number 10 = .ok (.aload_n 0, 1) := by decide +kernel
theorem dX9_number_11 : decode cX9_number 11 = .ok (.getfield 65, 3) := by decide +kernel
theorem dX9_number_14 : decode cX9_number 14 = .ok (.getfield 353, 3) := by decide +kernel
theorem dX9_number_17 : decode cX9_number 17 = .ok (.iload_n 1, 1) := by decide +kernel
theorem dX9_number_18 : decode cX9_number 18 = .ok (.iaload, 1) := by decide +kernel
theorem dX9_number_19 : decode cX9_number 19 = .ok (.iconst 1, 1) := by decide +kernel
theorem dX9_number_20 : decode cX9_number 20 = .ok (.isub, 1) := by decide +kernel
theorem dX9_number_21 : decode cX9_number 21 = .ok (.i2l, 1) := by decide +kernel
theorem dX9_number_22 : decode cX9_number 22 = .ok (.invokestatic 77, 3) := by decide +kernel
theorem dX9_number_25 : decode cX9_number 25 = .ok (.ifCond .ne 7, 3) := by decide +kernel
theorem dX9_number_28 : decode cX9_number 28 = .ok (.ldc2_w 396, 3) := by decide +kernel
theorem dX9_number_31 : decode cX9_number 31 = .ok (.lreturn, 1) := by decide +kernel
theorem dX9_number_32 : decode cX9_number 32 = .ok (.aload_n 0, 1) := by decide +kernel
theorem dX9_number_33 : decode cX9_number 33 = .ok (.getfield 65, 3) := by decide +kernel
theorem dX9_number_36 : decode cX9_number 36 = .ok (.iload_n 1, 1) := by decide +kernel
theorem dX9_number_37 : decode cX9_number 37 = .ok (.iload_n 2, 1) := by decide +kernel
theorem dX9_number_38 : decode cX9_number 38 = .ok (.invokevirtual 354, 3) := by decide +kernel
theorem dX9_number_41 : decode cX9_number 41 = .ok (.lreturn, 1) := by decide +kernel
theorem dX9_isTold_0 : decode cX9_isTold 0 = .ok (.aload_n 0, 1) := by decide +kernel
theorem dX9_isTold_1 : decode cX9_isTold 1 = .ok (.getfield 23, 3) := by decide +kernel
theorem dX9_isTold_4 : decode cX9_isTold 4 = .ok (.getfield 92, 3) := by decide +kernel
theorem dX9_isTold_7 : decode cX9_isTold 7 = .ok (.ifCond .le 7, 3) := by decide +kernel
theorem dX9_isTold_10 : decode cX9_isTold 10 = .ok (.iconst 1, 1) := by decide +kernel
theorem dX9_isTold_11 : decode cX9_isTold 11 = .ok (.goto 4, 3) := by decide +kernel
theorem dX9_isTold_14 : decode cX9_isTold 14 = .ok (.iconst 0, 1) := by decide +kernel
theorem dX9_isTold_15 : decode cX9_isTold 15 = .ok (.ireturn, 1) := by decide +kernel
theorem dX9_isStep_0 : decode cX9_isStep 0 = .ok (.aload_n 0, 1) := by decide +kernel
theorem dX9_isStep_1 : decode cX9_isStep 1 = .ok (.invokevirtual 113, 3) := by decide +kernel
theorem dX9_isStep_4 : decode cX9_isStep 4 = .ok (.ifCond .eq 24, 3) := by decide +kernel
theorem dX9_isStep_7 : decode cX9_isStep 7 = .ok (.iload_n 1, 1) := by decide +kernel
theorem dX9_isStep_8 : decode cX9_isStep 8 = .ok (.i2l, 1) := by decide +kernel
theorem dX9_isStep_9 : decode cX9_isStep 9 = .ok (.lconst 0, 1) := by decide +kernel
theorem dX9_isStep_10 : decode cX9_isStep 10 = .ok (.aload_n 0, 1) := by decide +kernel
theorem dX9_isStep_11 : decode cX9_isStep 11 = .ok (.getfield 37, 3) := by decide +kernel
theorem dX9_isStep_14 : decode cX9_isStep 14 = .ok (.getfield 117, 3) := by decide +kernel
theorem dX9_isStep_17 : decode cX9_isStep 17 = .ok (.i2l, 1) := by decide +kernel
theorem dX9_isStep_18 : decode cX9_isStep 18 = .ok (.invokestatic 77, 3) := by decide +kernel
theorem dX9_isStep_21 : decode cX9_isStep 21 = .ok (.ifCond .eq 7, 3) := by decide +kernel
theorem dX9_isStep_24 : decode cX9_isStep 24 = .ok (.iconst 1, 1) := by decide +kernel
theorem dX9_isStep_25 : decode cX9_isStep 25 = .ok (.goto 4, 3) := by decide +kernel
theorem dX9_isStep_28 : decode cX9_isStep 28 = .ok (.iconst 0, 1) := by decide +kernel
theorem dX9_isStep_29 : decode cX9_isStep 29 = .ok (.ireturn, 1) := by decide +kernel
theorem dX9_isBranch_0 : decode cX9_isBranch 0 = .ok (.iload_n 1, 1) := by decide +kernel
theorem dX9_isBranch_1 : decode cX9_isBranch 1 = .ok (.i2l, 1) := by decide +kernel
theorem dX9_isBranch_2 : decode cX9_isBranch 2 = .ok (.lconst 0, 1) := by decide +kernel
theorem dX9_isBranch_3 : decode cX9_isBranch 3 = .ok (.aload_n 0, 1) := by decide +kernel
theorem dX9_isBranch_4 : decode cX9_isBranch 4 = .ok (.getfield 44, 3) := by decide +kernel
theorem dX9_isBranch_7 : decode cX9_isBranch 7 = .ok (.getfield 157, 3) := by decide +kernel
theorem dX9_isBranch_10 : decode cX9_isBranch 10 = .ok (.iconst 1, 1) := by decide +kernel
theorem dX9_isBranch_11 : decode cX9_isBranch 11 = .ok (.isub, 1) := by decide +kernel
theorem dX9_isBranch_12 : decode cX9_isBranch 12 = .ok (.i2l, 1) := by decide +kernel
theorem dX9_isBranch_13 : decode cX9_isBranch 13 = .ok (.invokestatic 77, 3) := by decide +kernel
theorem dX9_isBranch_16 : decode cX9_isBranch 16 = .ok (.ireturn, 1) := by decide +kernel
theorem dX9_isMoment_0 : decode cX9_isMoment 0 = .ok (.aload_n 0, 1) := by decide +kernel
theorem dX9_isMoment_1 : decode cX9_isMoment 1 = .ok (.invokevirtual 113, 3) := by decide +kernel
theorem dX9_isMoment_4 : decode cX9_isMoment 4 = .ok (.ifCond .eq 24, 3) := by decide +kernel
theorem dX9_isMoment_7 : decode cX9_isMoment 7 = .ok (.iload_n 1, 1) := by decide +kernel
theorem dX9_isMoment_8 : decode cX9_isMoment 8 = .ok (.i2l, 1) := by decide +kernel
theorem dX9_isMoment_9 : decode cX9_isMoment 9 = .ok (.lconst 0, 1) := by decide +kernel
theorem dX9_isMoment_10 : decode cX9_isMoment 10 = .ok (.aload_n 0, 1) := by decide +kernel
theorem dX9_isMoment_11 : decode cX9_isMoment 11 = .ok (.getfield 44, 3) := by decide +kernel
theorem dX9_isMoment_14 : decode cX9_isMoment 14 = .ok (.getfield 157, 3) := by decide +kernel
theorem dX9_isMoment_17 : decode cX9_isMoment 17 = .ok (.i2l, 1) := by decide +kernel
theorem dX9_isMoment_18 : decode cX9_isMoment 18 = .ok (.invokestatic 77, 3) := by decide +kernel
theorem dX9_isMoment_21 : decode cX9_isMoment 21 = .ok (.ifCond .eq 7, 3) := by decide +kernel
theorem dX9_isMoment_24 : decode cX9_isMoment 24 = .ok (.iconst 1, 1) := by decide +kernel
theorem dX9_isMoment_25 : decode cX9_isMoment 25 = .ok (.goto 4, 3) := by decide +kernel
theorem dX9_isMoment_28 : decode cX9_isMoment 28 = .ok (.iconst 0, 1) := by decide +kernel
theorem dX9_isMoment_29 : decode cX9_isMoment 29 = .ok (.ireturn, 1) := by decide +kernel
theorem dX9_isTable_0 : decode cX9_isTable 0 = .ok (.iload_n 1, 1) := by decide +kernel
theorem dX9_isTable_1 : decode cX9_isTable 1 = .ok (.i2l, 1) := by decide +kernel
theorem dX9_isTable_2 : decode cX9_isTable 2 = .ok (.lconst 1, 1) := by decide +kernel
theorem dX9_isTable_3 : decode cX9_isTable 3 = .ok (.aload_n 0, 1) := by decide +kernel
theorem dX9_isTable_4 : decode cX9_isTable 4 = .ok (.getfield 23, 3) := by decide +kernel
theorem dX9_isTable_7 : decode cX9_isTable 7 = .ok (.getfield 171, 3) := by decide +kernel
theorem dX9_isTable_10 : decode cX9_isTable 10 = .ok (.i2l, 1) := by decide +kernel
theorem dX9_isTable_11 : decode cX9_isTable 11 = .ok (.invokestatic 77, 3) := by decide +kernel
theorem dX9_isTable_14 : decode cX9_isTable 14 = .ok (.ireturn, 1) := by decide +kernel
theorem dX9_isPattern_0 : decode cX9_isPattern 0 = .ok (.aload_n 0, 1) := by decide +kernel
theorem dX9_isPattern_1 : decode cX9_isPattern 1 = .ok (.invokevirtual 113, 3) := by decide +kernel
theorem dX9_isPattern_4 : decode cX9_isPattern 4 = .ok (.ifCond .eq 40, 3) := by decide +kernel
theorem dX9_isPattern_7 : decode cX9_isPattern 7 = .ok (.iload_n 1, 1) := by decide +kernel
theorem dX9_isPattern_8 : decode cX9_isPattern 8 = .ok (.invokestatic 150, 3) := by decide +kernel
theorem dX9_isPattern_11 : decode cX9_isPattern 11 = .ok (.ifCond .eq 33, 3) := by decide +kernel
theorem dX9_isPattern_14 : decode cX9_isPattern 14 = .ok (.iload_n 3, 1) := by decide +kernel
theorem dX9_isPattern_15 : decode cX9_isPattern 15 = .ok (.i2l, 1) := by decide +kernel
theorem dX9_isPattern_16 : decode cX9_isPattern 16 = .ok (.lconst 1, 1) := by decide +kernel
theorem dX9_isPattern_17 : decode cX9_isPattern 17 = .ok (.ldc2_w 398, 3) := by decide +kernel
theorem dX9_isPattern_20 : decode cX9_isPattern 20 = .ok (.invokestatic 77, 3) := by decide +kernel
theorem dX9_isPattern_23 : decode cX9_isPattern 23 = .ok (.ifCond .eq 21, 3) := by decide +kernel
theorem dX9_isPattern_26 : decode cX9_isPattern 26 = .ok (.iload_n 2, 1) := by decide +kernel
theorem dX9_isPattern_27 : decode cX9_isPattern 27 = .ok (.i2l, 1) := by decide +kernel
theorem dX9_isPattern_28 : decode cX9_isPattern 28 = .ok (.lconst 0, 1) := by decide +kernel
theorem dX9_isPattern_29 : decode cX9_isPattern 29 = .ok (.iload_n 3, 1) := by decide +kernel
theorem dX9_isPattern_30 : decode cX9_isPattern 30 = .ok (.invokestatic 183, 3) := by decide +kernel
theorem dX9_isPattern_33 : decode cX9_isPattern 33 = .ok (.i2l, 1) := by decide +kernel
theorem dX9_isPattern_34 : decode cX9_isPattern 34 = .ok (.invokestatic 77, 3) := by decide +kernel
theorem dX9_isPattern_37 : decode cX9_isPattern 37 = .ok (.ifCond .eq 7, 3) := by decide +kernel
theorem dX9_isPattern_40 : decode cX9_isPattern 40 = .ok (.iconst 1, 1) := by decide +kernel
theorem dX9_isPattern_41 : decode cX9_isPattern 41 = .ok (.goto 4, 3) := by decide +kernel
theorem dX9_isPattern_44 : decode cX9_isPattern 44 = .ok (.iconst 0, 1) := by decide +kernel
theorem dX9_isPattern_45 : decode cX9_isPattern 45 = .ok (.ireturn, 1) := by decide +kernel
theorem dX9_isRegister_0 : decode cX9_isRegister 0 = .ok (.iload_n 0, 1) := by decide +kernel
theorem dX9_isRegister_1 : decode cX9_isRegister 1 = .ok (.i2l, 1) := by decide +kernel
theorem dX9_isRegister_2 : decode cX9_isRegister 2 = .ok (.lconst 0, 1) := by decide +kernel
theorem dX9_isRegister_3 : decode cX9_isRegister 3 = .ok (.ldc2_w 267, 3) := by decide +kernel
theorem dX9_isRegister_6 : decode cX9_isRegister 6 = .ok (.invokestatic 77, 3) := by decide +kernel
theorem dX9_isRegister_9 : decode cX9_isRegister 9 = .ok (.ireturn, 1) := by decide +kernel
theorem dX9_isAddress_0 : decode cX9_isAddress 0 = .ok (.iload_n 0, 1) := by decide +kernel
theorem dX9_isAddress_1 : decode cX9_isAddress 1 = .ok (.i2l, 1) := by decide +kernel
theorem dX9_isAddress_2 : decode cX9_isAddress 2 = .ok (.lconst 0, 1) := by decide +kernel
theorem dX9_isAddress_3 : decode cX9_isAddress 3 = .ok (.ldc2_w 400, 3) := by decide +kernel
theorem dX9_isAddress_6 : decode cX9_isAddress 6 = .ok (.invokestatic 77, 3) := by decide +kernel
theorem dX9_isAddress_9 : decode cX9_isAddress 9 = .ok (.ireturn, 1) := by decide +kernel
theorem dX9_isWho_0 : decode cX9_isWho 0 = .ok (.iload_n 0, 1) := by decide +kernel
theorem dX9_isWho_1 : decode cX9_isWho 1 = .ok (.i2l, 1) := by decide +kernel
theorem dX9_isWho_2 : decode cX9_isWho 2 = .ok (.lconst 0, 1) := by decide +kernel
theorem dX9_isWho_3 : decode cX9_isWho 3 = .ok (.ldc2_w 234, 3) := by decide +kernel
theorem dX9_isWho_6 : decode cX9_isWho 6 = .ok (.invokestatic 77, 3) := by decide +kernel
theorem dX9_isWho_9 : decode cX9_isWho 9 = .ok (.ireturn, 1) := by decide +kernel
theorem dX9_isSlot_0 : decode cX9_isSlot 0 = .ok (.iload_n 0, 1) := by decide +kernel
theorem dX9_isSlot_1 : decode cX9_isSlot 1 = .ok (.i2l, 1) := by decide +kernel
theorem dX9_isSlot_2 : decode cX9_isSlot 2 = .ok (.lconst 0, 1) := by decide +kernel
theorem dX9_isSlot_3 : decode cX9_isSlot 3 = .ok (.ldc2_w 105, 3) := by decide +kernel
theorem dX9_isSlot_6 : decode cX9_isSlot 6 = .ok (.invokestatic 77, 3) := by decide +kernel
theorem dX9_isSlot_9 : decode cX9_isSlot 9 = .ok (.ireturn, 1) := by decide +kernel
theorem dX9_within_0 : decode cX9_within 0 = .ok (.lload_n 0, 1) := by decide +kernel
theorem dX9_within_1 : decode cX9_within 1 = .ok (.lload_n 2, 1) := by decide +kernel
theorem dX9_within_2 : decode cX9_within 2 = .ok (.lcmp, 1) := by decide +kernel
theorem dX9_within_3 : decode cX9_within 3 = .ok (.ifCond .lt 14, 3) := by decide +kernel
theorem dX9_within_6 : decode cX9_within 6 = .ok (.lload_n 0, 1) := by decide +kernel
theorem dX9_within_7 : decode cX9_within 7 = .ok (.lload 4, 2) := by decide +kernel
theorem dX9_within_9 : decode cX9_within 9 = .ok (.lcmp, 1) := by decide +kernel
theorem dX9_within_10 : decode cX9_within 10 = .ok (.ifCond .gt 7, 3) := by decide +kernel
theorem dX9_within_13 : decode cX9_within 13 = .ok (.iconst 1, 1) := by decide +kernel
theorem dX9_within_14 : decode cX9_within 14 = .ok (.goto 4, 3) := by decide +kernel
theorem dX9_within_17 : decode cX9_within 17 = .ok (.iconst 0, 1) := by decide +kernel
theorem dX9_within_18 : decode cX9_within 18 = .ok (.ireturn, 1) := by decide +kernel
theorem dX9_lowest_0 : decode cX9_lowest 0 = .ok (.iconst 1, 1) := by decide +kernel
theorem dX9_lowest_1 : decode cX9_lowest 1 = .ok (.iload_n 0, 1) := by decide +kernel
theorem dX9_lowest_2 : decode cX9_lowest 2 = .ok (.ishl, 1) := by decide +kernel
theorem dX9_lowest_3 : decode cX9_lowest 3 = .ok (.iconst 1, 1) := by decide +kernel
theorem dX9_lowest_4 : decode cX9_lowest 4 = .ok (.isub, 1) := by decide +kernel
theorem dX9_lowest_5 : decode cX9_lowest 5 = .ok (.ireturn, 1) := by decide +kernel
theorem dX9_bounded_0 : decode cX9_bounded 0 = .ok (.iload_n 1, 1) := by decide +kernel
theorem dX9_bounded_1 : decode cX9_bounded 1 = .ok (.iload_n 2, 1) := by decide +kernel
theorem dX9_bounded_2 : decode cX9_bounded 2 = .ok (.iload_n 0, 1) := by decide +kernel
theorem dX9_bounded_3 : decode cX9_bounded 3 = .ok (.invokestatic 303, 3) := by decide +kernel
theorem dX9_bounded_6 : decode cX9_bounded 6 = .ok (.invokestatic 160, 3) := by decide +kernel
theorem dX9_bounded_9 : decode cX9_bounded 9 = .ok (.ireturn, 1) := by decide +kernel
theorem dX9_folded_0 : decode cX9_folded 0 = .ok (.lload_n 0, 1) := by decide +kernel
theorem dX9_folded_1 : decode cX9_folded 1 = .ok (.lconst 1, 1) := by decide +kernel
theorem dX9_folded_2 : decode cX9_folded 2 = .ok (.iload_n 2, 1) := by decide +kernel
theorem dX9_folded_3 : decode cX9_folded 3 = .ok (.lshl, 1) := by decide +kernel
theorem dX9_folded_4 : decode cX9_folded 4 = .ok (.lconst 1, 1) := by decide +kernel
theorem dX9_folded_5 : decode cX9_folded 5 = .ok (.lsub, 1) := by decide +kernel
theorem dX9_folded_6 : decode cX9_folded 6 = .ok (.land, 1) := by decide +kernel
theorem dX9_folded_7 : decode cX9_folded 7 = .ok (.lstore 4, 2) := by decide +kernel
theorem dX9_folded_9 : decode cX9_folded 9 = .ok (.iconst 5, 1) := by decide +kernel
theorem dX9_folded_10 : decode cX9_folded 10 = .ok (.istore 6, 2) := by decide +kernel
theorem dX9_folded_12 : decode cX9_folded 12 = .ok (.iload 6, 2) := by decide +kernel
theorem dX9_folded_14 : decode cX9_folded 14 = .ok (.ifCond .lt 31, 3) := by decide +kernel
theorem dX9_folded_17 : decode cX9_folded 17 = .ok (.iload_n 3, 1) := by decide +kernel
theorem dX9_folded_18 : decode cX9_folded 18 = .ok (.iload 6, 2) := by decide +kernel
theorem dX9_folded_20 : decode cX9_folded 20 = .ok (.ishl, 1) := by decide +kernel
theorem dX9_folded_21 : decode cX9_folded 21 = .ok (.istore 7, 2) := by decide +kernel
theorem dX9_folded_23 : decode cX9_folded 23 = .ok (.iload 7, 2) := by decide +kernel
theorem dX9_folded_25 : decode cX9_folded 25 = .ok (.iload_n 2, 1) := by decide +kernel
theorem dX9_folded_26 : decode cX9_folded 26 = .ok (.if_icmp .ge 13, 3) := by decide +kernel
theorem dX9_folded_29 : decode cX9_folded 29 = .ok (.lload 4, 2) := by decide +kernel
theorem dX9_folded_31 : decode cX9_folded 31 = .ok (.lload 4, 2) := by decide +kernel
theorem dX9_folded_33 : decode cX9_folded 33 = .ok (.iload 7, 2) := by decide +kernel
theorem dX9_folded_35 : decode cX9_folded 35 = .ok (.lushr, 1) := by decide +kernel
theorem dX9_folded_36 : decode cX9_folded 36 = .ok (.lxor, 1) := by decide +kernel
theorem dX9_folded_37 : decode cX9_folded 37 = .ok (.lstore 4, 2) := by decide +kernel
theorem dX9_folded_39 : decode cX9_folded 39 = .ok (.iinc 6 (-1), 3) := by decide +kernel
theorem dX9_folded_42 : decode cX9_folded 42 = .ok (.goto (-30), 3) := by decide +kernel
theorem dX9_folded_45 : decode cX9_folded 45 = .ok (.lload 4, 2) := by decide +kernel
theorem dX9_folded_47 : decode cX9_folded 47 = .ok (.lconst 1, 1) := by decide +kernel
theorem dX9_folded_48 : decode cX9_folded 48 = .ok (.iload_n 3, 1) := by decide +kernel
theorem dX9_folded_49 : decode cX9_folded 49 = .ok (.lshl, 1) := by decide +kernel
theorem dX9_folded_50 : decode cX9_folded 50 = .ok (.lconst 1, 1) := by decide +kernel
theorem dX9_folded_51 : decode cX9_folded 51 = .ok (.lsub, 1) := by decide +kernel
theorem dX9_folded_52 : decode cX9_folded 52 = .ok (.land, 1) := by decide +kernel
theorem dX9_folded_53 : decode cX9_folded 53 = .ok (.l2i, 1) := by decide +kernel
theorem dX9_folded_54 : decode cX9_folded 54 = .ok (.ireturn, 1) := by decide +kernel
theorem dX9_rebuild_0 : decode cX9_rebuild 0 = .ok (.aload_n 0, 1) := by decide +kernel
theorem dX9_rebuild_1 : decode cX9_rebuild 1 = .ok (.getfield 44, 3) := by decide +kernel
theorem dX9_rebuild_4 : decode cX9_rebuild 4 = .ok (.invokevirtual 402, 3) := by decide +kernel
theorem dX9_rebuild_7 : decode cX9_rebuild 7 = .ok (.aload_n 0, 1) := by decide +kernel
theorem dX9_rebuild_8 : decode cX9_rebuild 8 = .ok (.getfield 51, 3) := by decide +kernel
theorem dX9_rebuild_11 : decode cX9_rebuild 11 = .ok (.aload_n 0, 1) := by decide +kernel
theorem dX9_rebuild_12 : decode cX9_rebuild 12 = .ok (.getfield 23, 3) := by decide +kernel
theorem dX9_rebuild_15 : decode cX9_rebuild 15 = .ok (.invokevirtual 350, 3) := by decide +kernel
theorem dX9_rebuild_18 : decode cX9_rebuild 18 = .ok (.aload_n 0, 1) := by decide +kernel
theorem dX9_rebuild_19 : decode cX9_rebuild 19 = .ok (.getfield 37, 3) := by decide +kernel
theorem dX9_rebuild_22 : decode cX9_rebuild 22 = .ok (.aload_n 0, 1) := by decide +kernel
theorem dX9_rebuild_23 : decode cX9_rebuild 23 = .ok (.getfield 23, 3) := by decide +kernel
theorem dX9_rebuild_26 : decode cX9_rebuild 26 = .ok (.aload_n 0, 1) := by decide +kernel
theorem dX9_rebuild_27 : decode cX9_rebuild 27 = .ok (.getfield 44, 3) := by decide +kernel
theorem dX9_rebuild_30 : decode cX9_rebuild 30 = .ok (.invokevirtual 405, 3) := by decide +kernel
theorem dX9_rebuild_33 : decode cX9_rebuild 33 = .ok (.iconst 0, 1) := by decide +kernel
theorem dX9_rebuild_34 : decode cX9_rebuild 34 = .ok (.istore_n 1, 1) := by decide +kernel
theorem dX9_rebuild_35 : decode cX9_rebuild 35 = .ok (.iload_n 1, 1) := by decide +kernel
theorem dX9_rebuild_36 : decode cX9_rebuild 36 = .ok (.aload_n 0, 1) := by decide +kernel
theorem dX9_rebuild_37 : decode cX9_rebuild 37 = .ok (.getfield 23, 3) := by decide +kernel
theorem dX9_rebuild_40 : decode cX9_rebuild 40 = .ok (.getfield 367, 3) := by decide +kernel
theorem dX9_rebuild_43 : decode cX9_rebuild 43 = .ok (.if_icmp .ge 39, 3) := by decide +kernel
theorem dX9_rebuild_46 : decode cX9_rebuild 46 = .ok (.aload_n 0, 1) := by decide +kernel
theorem dX9_rebuild_47 : decode cX9_rebuild 47 = .ok (.getfield 44, 3) := by decide +kernel
theorem dX9_rebuild_50 : decode cX9_rebuild 50 = .ok (.aload_n 0, 1) := by decide +kernel
theorem dX9_rebuild_51 : decode cX9_rebuild 51 = .ok (.getfield 23, 3) := by decide +kernel
theorem dX9_rebuild_54 : decode cX9_rebuild 54 = .ok (.getfield 370, 3) := by decide +kernel
theorem dX9_rebuild_57 : decode cX9_rebuild 57 = .ok (.iload_n 1, 1) := by decide +kernel
theorem dX9_rebuild_58 : decode cX9_rebuild 58 = .ok (.iaload, 1) := by decide +kernel
theorem dX9_rebuild_59 : decode cX9_rebuild 59 = .ok (.iconst 2, 1) := by decide +kernel
theorem dX9_rebuild_60 : decode cX9_rebuild 60 = .ok (.idiv, 1) := by decide +kernel
theorem dX9_rebuild_61 : decode cX9_rebuild 61 = .ok (.aload_n 0, 1) := by decide +kernel
theorem dX9_rebuild_62 : decode cX9_rebuild 62 = .ok (.getfield 23, 3) := by decide +kernel
theorem dX9_rebuild_65 : decode cX9_rebuild 65 = .ok (.getfield 370, 3) := by decide +kernel
theorem dX9_rebuild_68 : decode cX9_rebuild 68 = .ok (.iload_n 1, 1) := by decide +kernel
theorem dX9_rebuild_69 : decode cX9_rebuild 69 = .ok (.iaload, 1) := by decide +kernel
theorem dX9_rebuild_70 : decode cX9_rebuild 70 = .ok (.iconst 2, 1) := by decide +kernel
theorem dX9_rebuild_71 : decode cX9_rebuild 71 = .ok (.irem, 1) := by decide +kernel
theorem dX9_rebuild_72 : decode cX9_rebuild 72 = .ok (.iconst (-1), 1) := by decide +kernel
theorem dX9_rebuild_73 : decode cX9_rebuild 73 = .ok (.invokevirtual 373, 3) := by decide +kernel
theorem dX9_rebuild_76 : decode cX9_rebuild 76 = .ok (.iinc 1 1, 3) := by decide +kernel
theorem dX9_rebuild_79 : decode cX9_rebuild 79 = .ok (.goto (-44), 3) := by decide +kernel
theorem dX9_rebuild_82 : decode cX9_rebuild 82 = .ok (.iconst 0, 1) := by decide +kernel
theorem dX9_rebuild_83 : decode cX9_rebuild 83 = .ok (.istore_n 1, 1) := by decide +kernel
theorem dX9_rebuild_84 : decode cX9_rebuild 84 = .ok (.iload_n 1, 1) := by decide +kernel
theorem dX9_rebuild_85 : decode cX9_rebuild 85 = .ok (.aload_n 0, 1) := by decide +kernel
theorem dX9_rebuild_86 : decode cX9_rebuild 86 = .ok (.getfield 44, 3) := by decide +kernel
theorem dX9_rebuild_89 : decode cX9_rebuild 89 = .ok (.getfield 157, 3) := by decide +kernel
theorem dX9_rebuild_92 : decode cX9_rebuild 92 = .ok (.if_icmp .ge 14, 3) := by decide +kernel
theorem dX9_rebuild_95 : decode cX9_rebuild 95 = .ok (.aload_n 0, 1) := by decide +kernel
theorem dX9_rebuild_96 : decode cX9_rebuild 96 = .ok (.iload_n 1, 1) := by decide +kernel
theorem dX9_rebuild_97 : decode cX9_rebuild 97 = .ok (.invokevirtual 377, 3) := by decide +kernel
theorem dX9_rebuild_100 : decode cX9_rebuild 100 = .ok (.iinc 1 1, 3) := by decide +kernel
theorem dX9_rebuild_103 : decode cX9_rebuild 103 = .ok (.goto (-19), 3) := by decide +kernel
theorem dX9_rebuild_106 : decode cX9_rebuild 106 = .ok (.return_, 1) := by decide +kernel
theorem dX9_record_0 : decode cX9_record 0 = .ok (.aload_n 0, 1) := by decide +kernel
theorem dX9_record_1 : decode cX9_record 1 = .ok (.getfield 51, 3) := by decide +kernel
theorem dX9_record_4 : decode cX9_record 4 = .ok (.aload_n 0, 1) := by decide +kernel
theorem dX9_record_5 : decode cX9_record 5 = .ok (.getfield 44, 3) := by decide +kernel
theorem dX9_record_8 : decode cX9_record 8 = .ok (.iload_n 1, 1) := by decide +kernel
theorem dX9_record_9 : decode cX9_record 9 = .ok (.iconst 0, 1) := by decide +kernel
theorem dX9_record_10 : decode cX9_record 10 = .ok (.invokevirtual 140, 3) := by decide +kernel
theorem dX9_record_13 : decode cX9_record 13 = .ok (.invokevirtual 358, 3) := by decide +kernel
theorem dX9_record_16 : decode cX9_record 16 = .ok (.pop, 1) := by decide +kernel
theorem dX9_record_17 : decode cX9_record 17 = .ok (.aload_n 0, 1) := by decide +kernel
theorem dX9_record_18 : decode cX9_record 18 = .ok (.getfield 44, 3) := by decide +kernel
theorem dX9_record_21 : decode cX9_record 21 = .ok (.iload_n 1, 1) := by decide +kernel
theorem dX9_record_22 : decode cX9_record 22 = .ok (.aload_n 0, 1) := by decide +kernel
theorem dX9_record_23 : decode cX9_record 23 = .ok (.getfield 51, 3) := by decide +kernel
theorem dX9_record_26 : decode cX9_record 26 = .ok (.invokevirtual 409, 3) := by decide +kernel
theorem dX9_record_29 : decode cX9_record 29 = .ok (.aload_n 0, 1) := by decide +kernel
theorem dX9_record_30 : decode cX9_record 30 = .ok (.getfield 51, 3) := by decide +kernel
theorem dX9_record_33 : decode cX9_record 33 = .ok (.aload_n 0, 1) := by decide +kernel
theorem dX9_record_34 : decode cX9_record 34 = .ok (.getfield 44, 3) := by decide +kernel
theorem dX9_record_37 : decode cX9_record 37 = .ok (.iload_n 1, 1) := by decide +kernel
theorem dX9_record_38 : decode cX9_record 38 = .ok (.iconst 1, 1) := by decide +kernel
theorem dX9_record_39 : decode cX9_record 39 = .ok (.invokevirtual 140, 3) := by decide +kernel
theorem dX9_record_42 : decode cX9_record 42 = .ok (.invokevirtual 361, 3) := by decide +kernel
theorem dX9_record_45 : decode cX9_record 45 = .ok (.return_, 1) := by decide +kernel
theorem dX9_keepActs_0 : decode cX9_keepActs 0 = .ok (.aload_n 0, 1) := by decide +kernel
theorem dX9_keepActs_1 : decode cX9_keepActs 1 = .ok (.getfield 23, 3) := by decide +kernel
theorem dX9_keepActs_4 : decode cX9_keepActs 4 = .ok (.iload_n 1, 1) := by decide +kernel
theorem dX9_keepActs_5 : decode cX9_keepActs 5 = .ok (.putfield 367, 3) := by decide +kernel
theorem dX9_keepActs_8 : decode cX9_keepActs 8 = .ok (.aload_n 0, 1) := by decide +kernel
theorem dX9_keepActs_9 : decode cX9_keepActs 9 = .ok (.getfield 44, 3) := by decide +kernel
theorem dX9_keepActs_12 : decode cX9_keepActs 12 = .ok (.aload_n 0, 1) := by decide +kernel
theorem dX9_keepActs_13 : decode cX9_keepActs 13 = .ok (.getfield 44, 3) := by decide +kernel
theorem dX9_keepActs_16 : decode cX9_keepActs 16 = .ok (.getfield 291, 3) := by decide +kernel
theorem dX9_keepActs_19 : decode cX9_keepActs 19 = .ok (.iload_n 1, 1) := by decide +kernel
theorem dX9_keepActs_20 : decode cX9_keepActs 20 = .ok (.iadd, 1) := by decide +kernel
theorem dX9_keepActs_21 : decode cX9_keepActs 21 = .ok (.putfield 157, 3) := by decide +kernel
theorem dX9_keepActs_24 : decode cX9_keepActs 24 = .ok (.return_, 1) := by decide +kernel
theorem dX9_goTo_0 : decode cX9_goTo 0 = .ok (.aload_n 0, 1) := by decide +kernel
theorem dX9_goTo_1 : decode cX9_goTo 1 = .ok (.getfield 51, 3) := by decide +kernel
theorem dX9_goTo_4 : decode cX9_goTo 4 = .ok (.getfield 413, 3) := by decide +kernel
theorem dX9_goTo_7 : decode cX9_goTo 7 = .ok (.iload_n 1, 1) := by decide +kernel
theorem dX9_goTo_8 : decode cX9_goTo 8 = .ok (.if_icmp .le 10, 3) := by decide +kernel
theorem dX9_goTo_11 : decode cX9_goTo 11 = .ok (.aload_n 0, 1) := by decide +kernel
theorem dX9_goTo_12 : decode cX9_goTo 12 = .ok (.getfield 51, 3) := by decide +kernel
theorem dX9_goTo_15 : decode cX9_goTo 15 = .ok (.invokevirtual 416, 3) := by decide +kernel
theorem dX9_goTo_18 : decode cX9_goTo 18 = .ok (.aload_n 0, 1) := by decide +kernel
theorem dX9_goTo_19 : decode cX9_goTo 19 = .ok (.getfield 51, 3) := by decide +kernel
theorem dX9_goTo_22 : decode cX9_goTo 22 = .ok (.getfield 413, 3) := by decide +kernel
theorem dX9_goTo_25 : decode cX9_goTo 25 = .ok (.istore_n 2, 1) := by decide +kernel
theorem dX9_goTo_26 : decode cX9_goTo 26 = .ok (.iload_n 2, 1) := by decide +kernel
theorem dX9_goTo_27 : decode cX9_goTo 27 = .ok (.iload_n 1, 1) := by decide +kernel
theorem dX9_goTo_28 : decode cX9_goTo 28 = .ok (.if_icmp .ge 42, 3) := by decide +kernel
theorem dX9_goTo_31 : decode cX9_goTo 31 = .ok (.aload_n 0, 1) := by decide +kernel
theorem dX9_goTo_32 : decode cX9_goTo 32 = .ok (.getfield 51, 3) := by decide +kernel
theorem dX9_goTo_35 : decode cX9_goTo 35 = .ok (.aload_n 0, 1) := by decide +kernel
theorem dX9_goTo_36 : decode cX9_goTo 36 = .ok (.getfield 44, 3) := by decide +kernel
theorem dX9_goTo_39 : decode cX9_goTo 39 = .ok (.iload_n 2, 1) := by decide +kernel
theorem dX9_goTo_40 : decode cX9_goTo 40 = .ok (.iconst 0, 1) := by decide +kernel
theorem dX9_goTo_41 : decode cX9_goTo 41 = .ok (.invokevirtual 140, 3) := by decide +kernel
theorem dX9_goTo_44 : decode cX9_goTo 44 = .ok (.invokevirtual 358, 3) := by decide +kernel
theorem dX9_goTo_47 : decode cX9_goTo 47 = .ok (.pop, 1) := by decide +kernel
theorem dX9_goTo_48 : decode cX9_goTo 48 = .ok (.aload_n 0, 1) := by decide +kernel
theorem dX9_goTo_49 : decode cX9_goTo 49 = .ok (.getfield 51, 3) := by decide +kernel
theorem dX9_goTo_52 : decode cX9_goTo 52 = .ok (.aload_n 0, 1) := by decide +kernel
theorem dX9_goTo_53 : decode cX9_goTo 53 = .ok (.getfield 44, 3) := by decide +kernel
theorem dX9_goTo_56 : decode cX9_goTo 56 = .ok (.iload_n 2, 1) := by decide +kernel
theorem dX9_goTo_57 : decode cX9_goTo 57 = .ok (.iconst 1, 1) := by decide +kernel
theorem dX9_goTo_58 : decode cX9_goTo 58 = .ok (.invokevirtual 140, 3) := by decide +kernel
theorem dX9_goTo_61 : decode cX9_goTo 61 = .ok (.invokevirtual 361, 3) := by decide +kernel
theorem dX9_goTo_64 : decode cX9_goTo 64 = .ok (.iinc 2 1, 3) := by decide +kernel
theorem dX9_goTo_67 : decode cX9_goTo 67 = .ok (.goto (-41), 3) := by decide +kernel
theorem dX9_goTo_70 : decode cX9_goTo 70 = .ok (.return_, 1) := by decide +kernel
theorem dX9_askedAt_0 : decode cX9_askedAt 0 = .ok (.aload_n 0, 1) := by decide +kernel
theorem dX9_askedAt_1 : decode cX9_askedAt 1 = .ok (.iload_n 2, 1) := by decide +kernel
theorem dX9_askedAt_2 : decode cX9_askedAt 2 = .ok (.invokevirtual 144, 3) := by decide +kernel
theorem dX9_askedAt_5 : decode cX9_askedAt 5 = .ok (.ifCond .eq 10, 3) := by decide +kernel
