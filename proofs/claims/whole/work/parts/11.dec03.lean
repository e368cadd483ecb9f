theorem dX9_askedAt_8 : decode cX9_askedAt 8 = .ok (.iload_n 1, 1) := by decide +kernel
theorem dX9_askedAt_9 : decode cX9_askedAt 9 = .ok (.invokestatic 150, 3) := by decide +kernel
theorem dX9_askedAt_12 : decode cX9_askedAt 12 = .ok (.ifCond .ne 5, 3) := by decide +kernel
theorem dX9_askedAt_15 : decode cX9_askedAt 15 = .ok (.iconst 0, 1) := by decide +kernel
theorem dX9_askedAt_16 : decode cX9_askedAt 16 = .ok (.ireturn, 1) := by decide +kernel
theorem dX9_askedAt_17 : decode cX9_askedAt 17 = .ok (.aload_n 0, 1) := by decide +kernel
theorem dX9_askedAt_18 : decode cX9_askedAt 18 = .ok (.iload_n 2, 1) := by decide +kernel
theorem dX9_askedAt_19 : decode cX9_askedAt 19 = .ok (.invokevirtual 176, 3) := by decide +kernel
theorem dX9_askedAt_22 : decode cX9_askedAt 22 = .ok (.aload_n 0, 1) := by decide +kernel
theorem dX9_askedAt_23 : decode cX9_askedAt 23 = .ok (.getfield 51, 3) := by decide +kernel
theorem dX9_askedAt_26 : decode cX9_askedAt 26 = .ok (.iload_n 1, 1) := by decide +kernel
theorem dX9_askedAt_27 : decode cX9_askedAt 27 = .ok (.invokevirtual 358, 3) := by decide +kernel
theorem dX9_askedAt_30 : decode cX9_askedAt 30 = .ok (.pop, 1) := by decide +kernel
theorem dX9_askedAt_31 : decode cX9_askedAt 31 = .ok (.iconst 1, 1) := by decide +kernel
theorem dX9_askedAt_32 : decode cX9_askedAt 32 = .ok (.ireturn, 1) := by decide +kernel
theorem dX9_wander_0 : decode cX9_wander 0 = .ok (.aload_n 0, 1) := by decide +kernel
theorem dX9_wander_1 : decode cX9_wander 1 = .ok (.getfield 37, 3) := by decide +kernel
theorem dX9_wander_4 : decode cX9_wander 4 = .ok (.aload_n 0, 1) := by decide +kernel
theorem dX9_wander_5 : decode cX9_wander 5 = .ok (.getfield 23, 3) := by decide +kernel
theorem dX9_wander_8 : decode cX9_wander 8 = .ok (.aload_n 0, 1) := by decide +kernel
theorem dX9_wander_9 : decode cX9_wander 9 = .ok (.getfield 44, 3) := by decide +kernel
theorem dX9_wander_12 : decode cX9_wander 12 = .ok (.iload_n 1, 1) := by decide +kernel
theorem dX9_wander_13 : decode cX9_wander 13 = .ok (.bipush 8, 2) := by decide +kernel
theorem dX9_wander_15 : decode cX9_wander 15 = .ok (.invokevirtual 140, 3) := by decide +kernel
theorem dX9_wander_18 : decode cX9_wander 18 = .ok (.aload_n 0, 1) := by decide +kernel
theorem dX9_wander_19 : decode cX9_wander 19 = .ok (.getfield 44, 3) := by decide +kernel
theorem dX9_wander_22 : decode cX9_wander 22 = .ok (.iload_n 1, 1) := by decide +kernel
theorem dX9_wander_23 : decode cX9_wander 23 = .ok (.iconst 1, 1) := by decide +kernel
theorem dX9_wander_24 : decode cX9_wander 24 = .ok (.invokevirtual 140, 3) := by decide +kernel
theorem dX9_wander_27 : decode cX9_wander 27 = .ok (.invokevirtual 417, 3) := by decide +kernel
theorem dX9_wander_30 : decode cX9_wander 30 = .ok (.ireturn, 1) := by decide +kernel
theorem dX9_setRivalBy_0 : decode cX9_setRivalBy 0 = .ok (.aload_n 0, 1) := by decide +kernel
theorem dX9_setRivalBy_1 : decode cX9_setRivalBy 1 = .ok (.getfield 55, 3) := by decide +kernel
theorem dX9_setRivalBy_4 : decode cX9_setRivalBy 4 = .ok (.aload_n 0, 1) := by decide +kernel
theorem dX9_setRivalBy_5 : decode cX9_setRivalBy 5 = .ok (.getfield 23, 3) := by decide +kernel
theorem dX9_setRivalBy_8 : decode cX9_setRivalBy 8 = .ok (.invokevirtual 350, 3) := by decide +kernel
theorem dX9_setRivalBy_11 : decode cX9_setRivalBy 11 = .ok (.aload_n 0, 1) := by decide +kernel
theorem dX9_setRivalBy_12 : decode cX9_setRivalBy 12 = .ok (.getfield 55, 3) := by decide +kernel
theorem dX9_setRivalBy_15 : decode cX9_setRivalBy 15 = .ok (.iload_n 1, 1) := by decide +kernel
theorem dX9_setRivalBy_16 : decode cX9_setRivalBy 16 = .ok (.putfield 420, 3) := by decide +kernel
theorem dX9_setRivalBy_19 : decode cX9_setRivalBy 19 = .ok (.return_, 1) := by decide +kernel
theorem dX9_setRivalWithout_0 : decode cX9_setRivalWithout 0 = .ok (.aload_n 0, 1) := by decide +kernel
theorem dX9_setRivalWithout_1 : decode cX9_setRivalWithout 1 = .ok (.getfield 55, 3) := by decide +kernel
theorem dX9_setRivalWithout_4 : decode cX9_setRivalWithout 4 = .ok (.aload_n 0, 1) := by decide +kernel
theorem dX9_setRivalWithout_5 : decode cX9_setRivalWithout 5 = .ok (.getfield 23, 3) := by decide +kernel
theorem dX9_setRivalWithout_8 : decode cX9_setRivalWithout 8 = .ok (.invokevirtual 350, 3) := by decide +kernel
theorem dX9_setRivalWithout_11 : decode cX9_setRivalWithout 11 = .ok (.aload_n 0, 1) := by decide +kernel
theorem dX9_setRivalWithout_12 : decode cX9_setRivalWithout 12 = .ok (.getfield 55, 3) := by decide +kernel
theorem dX9_setRivalWithout_15 : decode cX9_setRivalWithout 15 = .ok (.getfield 197, 3) := by decide +kernel
theorem dX9_setRivalWithout_18 : decode cX9_setRivalWithout 18 = .ok (.iload_n 1, 1) := by decide +kernel
theorem dX9_setRivalWithout_19 : decode cX9_setRivalWithout 19 = .ok (.putfield 423, 3) := by decide +kernel
theorem dX9_setRivalWithout_22 : decode cX9_setRivalWithout 22 = .ok (.return_, 1) := by decide +kernel
theorem dX9_setRivalSpanned_0 : decode cX9_setRivalSpanned 0 = .ok (.aload_n 0, 1) := by decide +kernel
theorem dX9_setRivalSpanned_1 : decode cX9_setRivalSpanned 1 = .ok (.getfield 55, 3) := by decide +kernel
theorem dX9_setRivalSpanned_4 : decode cX9_setRivalSpanned 4 = .ok (.aload_n 0, 1) := by decide +kernel
theorem dX9_setRivalSpanned_5 : decode cX9_setRivalSpanned 5 = .ok (.getfield 23, 3) := by decide +kernel
theorem dX9_setRivalSpanned_8 : decode cX9_setRivalSpanned 8 = .ok (.invokevirtual 350, 3) := by decide +kernel
theorem dX9_setRivalSpanned_11 : decode cX9_setRivalSpanned 11 = .ok (.aload_n 0, 1) := by decide +kernel
theorem dX9_setRivalSpanned_12 : decode cX9_setRivalSpanned 12 = .ok (.getfield 55, 3) := by decide +kernel
theorem dX9_setRivalSpanned_15 : decode cX9_setRivalSpanned 15 = .ok (.getfield 197, 3) := by decide +kernel
theorem dX9_setRivalSpanned_18 : decode cX9_setRivalSpanned 18 = .ok (.getfield 426, 3) := by decide +kernel
theorem dX9_setRivalSpanned_21 : decode cX9_setRivalSpanned 21 = .ok (.iload_n 1, 1) := by decide +kernel
theorem dX9_setRivalSpanned_22 : decode cX9_setRivalSpanned 22 = .ok (.iload_n 2, 1) := by decide +kernel
theorem dX9_setRivalSpanned_23 : decode cX9_setRivalSpanned 23 = .ok (.iastore, 1) := by decide +kernel
theorem dX9_setRivalSpanned_24 : decode cX9_setRivalSpanned 24 = .ok (.return_, 1) := by decide +kernel
theorem dX9_rivalWrongs_0 : decode cX9_rivalWrongs 0 = .ok (.iconst 0, 1) := by decide +kernel
theorem dX9_rivalWrongs_1 : decode cX9_rivalWrongs 1 = .ok (.istore_n 1, 1) := by decide +kernel
theorem dX9_rivalWrongs_2 : decode cX9_rivalWrongs 2 = .ok (.iconst 0, 1) := by decide +kernel
theorem dX9_rivalWrongs_3 : decode cX9_rivalWrongs 3 = .ok (.istore_n 2, 1) := by decide +kernel
theorem dX9_rivalWrongs_4 : decode cX9_rivalWrongs 4 = .ok (.iload_n 2, 1) := by decide +kernel
theorem dX9_rivalWrongs_5 : decode cX9_rivalWrongs 5 = .ok (.aload_n 0, 1) := by decide +kernel
theorem dX9_rivalWrongs_6 : decode cX9_rivalWrongs 6 = .ok (.getfield 44, 3) := by decide +kernel
theorem dX9_rivalWrongs_9 : decode cX9_rivalWrongs 9 = .ok (.getfield 157, 3) := by decide +kernel
theorem dX9_rivalWrongs_12 : decode cX9_rivalWrongs 12 = .ok (.if_icmp .ge 56, 3) := by decide +kernel
theorem dX9_rivalWrongs_15 : decode cX9_rivalWrongs 15 = .ok (.aload_n 0, 1) := by decide +kernel
theorem dX9_rivalWrongs_16 : decode cX9_rivalWrongs 16 = .ok (.getfield 55, 3) := by decide +kernel
theorem dX9_rivalWrongs_19 : decode cX9_rivalWrongs 19 = .ok (.aload_n 0, 1) := by decide +kernel
theorem dX9_rivalWrongs_20 : decode cX9_rivalWrongs 20 = .ok (.getfield 44, 3) := by decide +kernel
theorem dX9_rivalWrongs_23 : decode cX9_rivalWrongs 23 = .ok (.iload_n 2, 1) := by decide +kernel
theorem dX9_rivalWrongs_24 : decode cX9_rivalWrongs 24 = .ok (.iconst 0, 1) := by decide +kernel
theorem dX9_rivalWrongs_25 : decode cX9_rivalWrongs 25 = .ok (.invokevirtual 140, 3) := by decide +kernel
theorem dX9_rivalWrongs_28 : decode cX9_rivalWrongs 28 = .ok (.invokevirtual 358, 3) := by decide +kernel
theorem dX9_rivalWrongs_31 : decode cX9_rivalWrongs 31 = .ok (.aload_n 0, 1) := by decide +kernel
theorem dX9_rivalWrongs_32 : decode cX9_rivalWrongs 32 = .ok (.getfield 44, 3) := by decide +kernel
theorem dX9_rivalWrongs_35 : decode cX9_rivalWrongs 35 = .ok (.iload_n 2, 1) := by decide +kernel
theorem dX9_rivalWrongs_36 : decode cX9_rivalWrongs 36 = .ok (.iconst 1, 1) := by decide +kernel
theorem dX9_rivalWrongs_37 : decode cX9_rivalWrongs 37 = .ok (.invokevirtual 140, 3) := by decide +kernel
theorem dX9_rivalWrongs_40 : decode cX9_rivalWrongs 40 = .ok (.if_icmp .eq 6, 3) := by decide +kernel
theorem dX9_rivalWrongs_43 : decode cX9_rivalWrongs 43 = .ok (.iinc 1 1, 3) := by decide +kernel
theorem dX9_rivalWrongs_46 : decode cX9_rivalWrongs 46 = .ok (.aload_n 0, 1) := by decide +kernel
theorem dX9_rivalWrongs_47 : decode cX9_rivalWrongs 47 = .ok (.getfield 55, 3) := by decide +kernel
theorem dX9_rivalWrongs_50 : decode cX9_rivalWrongs 50 = .ok (.aload_n 0, 1) := by decide +kernel
theorem dX9_rivalWrongs_51 : decode cX9_rivalWrongs 51 = .ok (.getfield 44, 3) := by decide +kernel
theorem dX9_rivalWrongs_54 : decode cX9_rivalWrongs 54 = .ok (.iload_n 2, 1) := by decide +kernel
theorem dX9_rivalWrongs_55 : decode cX9_rivalWrongs 55 = .ok (.iconst 1, 1) := by decide +kernel
theorem dX9_rivalWrongs_56 : decode cX9_rivalWrongs 56 = .ok (.invokevirtual 140, 3) := by decide +kernel
theorem dX9_rivalWrongs_59 : decode cX9_rivalWrongs 59 = .ok (.invokevirtual 361, 3) := by decide +kernel
theorem dX9_rivalWrongs_62 : decode cX9_rivalWrongs 62 = .ok (.iinc 2 1, 3) := by decide +kernel
theorem dX9_rivalWrongs_65 : decode cX9_rivalWrongs 65 = .ok (.goto (-61), 3) := by decide +kernel
theorem dX9_rivalWrongs_68 : decode cX9_rivalWrongs 68 = .ok (.iload_n 1, 1) := by decide +kernel
theorem dX9_rivalWrongs_69 : decode cX9_rivalWrongs 69 = .ok (.ireturn, 1) := by decide +kernel
theorem dX9_costBy_0 : decode cX9_costBy 0 = .ok (.aload_n 0, 1) := by decide +kernel
theorem dX9_costBy_1 : decode cX9_costBy 1 = .ok (.iload_n 1, 1) := by decide +kernel
theorem dX9_costBy_2 : decode cX9_costBy 2 = .ok (.invokevirtual 306, 3) := by decide +kernel
theorem dX9_costBy_5 : decode cX9_costBy 5 = .ok (.aload_n 0, 1) := by decide +kernel
theorem dX9_costBy_6 : decode cX9_costBy 6 = .ok (.getfield 37, 3) := by decide +kernel
theorem dX9_costBy_9 : decode cX9_costBy 9 = .ok (.getfield 117, 3) := by decide +kernel
theorem dX9_costBy_12 : decode cX9_costBy 12 = .ok (.istore_n 2, 1) := by decide +kernel
theorem dX9_costBy_13 : decode cX9_costBy 13 = .ok (.iconst 0, 1) := by decide +kernel
theorem dX9_costBy_14 : decode cX9_costBy 14 = .ok (.istore_n 3, 1) := by decide +kernel
theorem dX9_costBy_15 : decode cX9_costBy 15 = .ok (.iload_n 3, 1) := by decide +kernel
theorem dX9_costBy_16 : decode cX9_costBy 16 = .ok (.aload_n 0, 1) := by decide +kernel
theorem dX9_costBy_17 : decode cX9_costBy 17 = .ok (.getfield 44, 3) := by decide +kernel
theorem dX9_costBy_20 : decode cX9_costBy 20 = .ok (.getfield 291, 3) := by decide +kernel
theorem dX9_costBy_23 : decode cX9_costBy 23 = .ok (.if_icmp .ge 71, 3) := by decide +kernel
theorem dX9_costBy_26 : decode cX9_costBy 26 = .ok (.aload_n 0, 1) := by decide +kernel
theorem dX9_costBy_27 : decode cX9_costBy 27 = .ok (.getfield 55, 3) := by decide +kernel
theorem dX9_costBy_30 : decode cX9_costBy 30 = .ok (.aload_n 0, 1) := by decide +kernel
theorem dX9_costBy_31 : decode cX9_costBy 31 = .ok (.getfield 44, 3) := by decide +kernel
theorem dX9_costBy_34 : decode cX9_costBy 34 = .ok (.iload_n 3, 1) := by decide +kernel
theorem dX9_costBy_35 : decode cX9_costBy 35 = .ok (.iconst 0, 1) := by decide +kernel
theorem dX9_costBy_36 : decode cX9_costBy 36 = .ok (.invokevirtual 140, 3) := by decide +kernel
theorem dX9_costBy_39 : decode cX9_costBy 39 = .ok (.invokevirtual 358, 3) := by decide +kernel
theorem dX9_costBy_42 : decode cX9_costBy 42 = .ok (.aload_n 0, 1) := by decide +kernel
theorem dX9_costBy_43 : decode cX9_costBy 43 = .ok (.getfield 44, 3) := by decide +kernel
theorem dX9_costBy_46 : decode cX9_costBy 46 = .ok (.iload_n 3, 1) := by decide +kernel
theorem dX9_costBy_47 : decode cX9_costBy 47 = .ok (.iconst 1, 1) := by decide +kernel
theorem dX9_costBy_48 : decode cX9_costBy 48 = .ok (.invokevirtual 140, 3) := by decide +kernel
theorem dX9_costBy_51 : decode cX9_costBy 51 = .ok (.if_icmp .eq 21, 3) := by decide +kernel
theorem dX9_costBy_54 : decode cX9_costBy 54 = .ok (.iload_n 2, 1) := by decide +kernel
theorem dX9_costBy_55 : decode cX9_costBy 55 = .ok (.aload_n 0, 1) := by decide +kernel
theorem dX9_costBy_56 : decode cX9_costBy 56 = .ok (.getfield 23, 3) := by decide +kernel
theorem dX9_costBy_59 : decode cX9_costBy 59 = .ok (.getfield 231, 3) := by decide +kernel
theorem dX9_costBy_62 : decode cX9_costBy 62 = .ok (.iconst 3, 1) := by decide +kernel
theorem dX9_costBy_63 : decode cX9_costBy 63 = .ok (.iaload, 1) := by decide +kernel
theorem dX9_costBy_64 : decode cX9_costBy 64 = .ok (.aload_n 0, 1) := by decide +kernel
theorem dX9_costBy_65 : decode cX9_costBy 65 = .ok (.iload_n 3, 1) := by decide +kernel
theorem dX9_costBy_66 : decode cX9_costBy 66 = .ok (.invokevirtual 294, 3) := by decide +kernel
theorem dX9_costBy_69 : decode cX9_costBy 69 = .ok (.iadd, 1) := by decide +kernel
theorem dX9_costBy_70 : decode cX9_costBy 70 = .ok (.iadd, 1) := by decide +kernel
theorem dX9_costBy_71 : decode cX9_costBy 71 = .ok (.istore_n 2, 1) := by decide +kernel
theorem dX9_costBy_72 : decode cX9_costBy 72 = .ok (.aload_n 0, 1) := by decide +kernel
theorem dX9_costBy_73 : decode cX9_costBy 73 = .ok (.getfield 55, 3) := by decide +kernel
theorem dX9_costBy_76 : decode cX9_costBy 76 = .ok (.aload_n 0, 1) := by decide +kernel
theorem dX9_costBy_77 : decode cX9_costBy 77 = .ok (.getfield 44, 3) := by decide +kernel
theorem dX9_costBy_80 : decode cX9_costBy 80 = .ok (.iload_n 3, 1) := by decide +kernel
theorem dX9_costBy_81 : decode cX9_costBy 81 = .ok (.iconst 1, 1) := by decide +kernel
theorem dX9_costBy_82 : decode cX9_costBy 82 = .ok (.invokevirtual 140, 3) := by decide +kernel
theorem dX9_costBy_85 : decode cX9_costBy 85 = .ok (.invokevirtual 361, 3) := by decide +kernel
theorem dX9_costBy_88 : decode cX9_costBy 88 = .ok (.iinc 3 1, 3) := by decide +kernel
theorem dX9_costBy_91 : decode cX9_costBy 91 = .ok (.goto (-76), 3) := by decide +kernel
theorem dX9_costBy_94 : decode cX9_costBy 94 = .ok (.iload_n 2, 1) := by decide +kernel
theorem dX9_costBy_95 : decode cX9_costBy 95 = .ok (.ireturn, 1) := by decide +kernel
theorem dX9_rivalGuessesAs_0 : decode cX9_rivalGuessesAs 0 = .ok (.iconst 0, 1) := by decide +kernel
theorem dX9_rivalGuessesAs_1 : decode cX9_rivalGuessesAs 1 = .ok (.istore_n 2, 1) := by decide +kernel
theorem dX9_rivalGuessesAs_2 : decode cX9_rivalGuessesAs 2 = .ok (.iload_n 2, 1) := by decide +kernel
theorem dX9_rivalGuessesAs_3 : decode cX9_rivalGuessesAs 3 = .ok (.aload_n 0, 1) := by decide +kernel
theorem dX9_rivalGuessesAs_4 : decode cX9_rivalGuessesAs 4 = .ok (.getfield 65, 3) := by decide +kernel
theorem dX9_rivalGuessesAs_7 : decode cX9_rivalGuessesAs 7 = .ok (.getfield 353, 3) := by decide +kernel
theorem dX9_rivalGuessesAs_10 : decode cX9_rivalGuessesAs 10 = .ok (.iload_n 1, 1) := by decide +kernel
theorem dX9_rivalGuessesAs_11 : decode cX9_rivalGuessesAs 11 = .ok (.iaload, 1) := by decide +kernel
theorem dX9_rivalGuessesAs_12 : decode cX9_rivalGuessesAs 12 = .ok (.if_icmp .ge 57, 3) := by decide +kernel
theorem dX9_rivalGuessesAs_15 : decode cX9_rivalGuessesAs 15 = .ok (.aload_n 0, 1) := by decide +kernel
theorem dX9_rivalGuessesAs_16 : decode cX9_rivalGuessesAs 16 = .ok (.getfield 55, 3) := by decide +kernel
theorem dX9_rivalGuessesAs_19 : decode cX9_rivalGuessesAs 19 = .ok (.aload_n 0, 1) := by decide +kernel
theorem dX9_rivalGuessesAs_20 : decode cX9_rivalGuessesAs 20 = .ok (.getfield 44, 3) := by decide +kernel
theorem dX9_rivalGuessesAs_23 : decode cX9_rivalGuessesAs 23 = .ok (.iload_n 2, 1) := by decide +kernel
theorem dX9_rivalGuessesAs_24 : decode cX9_rivalGuessesAs 24 = .ok (.iconst 0, 1) := by decide +kernel
theorem dX9_rivalGuessesAs_25 : decode cX9_rivalGuessesAs 25 = .ok (.invokevirtual 140, 3) := by decide +kernel
theorem dX9_rivalGuessesAs_28 : decode cX9_rivalGuessesAs 28 = .ok (.invokevirtual 358, 3) := by decide +kernel
theorem dX9_rivalGuessesAs_31 : decode cX9_rivalGuessesAs 31 = .ok (.i2l, 1) := by decide +kernel
theorem dX9_rivalGuessesAs_32 : decode cX9_rivalGuessesAs 32 = .ok (.aload_n 0, 1) := by decide +kernel
theorem dX9_rivalGuessesAs_33 : decode cX9_rivalGuessesAs 33 = .ok (.getfield 65, 3) := by decide +kernel
theorem dX9_rivalGuessesAs_36 : decode cX9_rivalGuessesAs 36 = .ok (.iload_n 1, 1) := by decide +kernel
theorem dX9_rivalGuessesAs_37 : decode cX9_rivalGuessesAs 37 = .ok (.iload_n 2, 1) := by decide +kernel
theorem dX9_rivalGuessesAs_38 : decode cX9_rivalGuessesAs 38 = .ok (.invokevirtual 354, 3) := by decide +kernel
theorem dX9_rivalGuessesAs_41 : decode cX9_rivalGuessesAs 41 = .ok (.lcmp, 1) := by decide +kernel
theorem dX9_rivalGuessesAs_42 : decode cX9_rivalGuessesAs 42 = .ok (.ifCond .eq 5, 3) := by decide +kernel
theorem dX9_rivalGuessesAs_45 : decode cX9_rivalGuessesAs 45 = .ok (.iconst 0, 1) := by decide +kernel
theorem dX9_rivalGuessesAs_46 : decode cX9_rivalGuessesAs 46 = .ok (.ireturn, 1) := by decide +kernel
theorem dX9_rivalGuessesAs_47 : decode cX9_rivalGuessesAs 47 = .ok (.aload_n 0, 1) := by decide +kernel
theorem dX9_rivalGuessesAs_48 : decode cX9_rivalGuessesAs 48 = .ok (.getfield 55, 3) := by decide +kernel
theorem dX9_rivalGuessesAs_51 : decode cX9_rivalGuessesAs 51 = .ok (.aload_n 0, 1) := by decide +kernel
theorem dX9_rivalGuessesAs_52 : decode cX9_rivalGuessesAs 52 = .ok (.getfield 44, 3) := by decide +kernel
theorem dX9_rivalGuessesAs_55 : decode cX9_rivalGuessesAs 55 = .ok (.iload_n 2, 1) := by decide +kernel
theorem dX9_rivalGuessesAs_56 : decode cX9_rivalGuessesAs 56 = .ok (.iconst 1, 1) := by decide +kernel
theorem dX9_rivalGuessesAs_57 : decode cX9_rivalGuessesAs 57 = .ok (.invokevirtual 140, 3) := by decide +kernel
theorem dX9_rivalGuessesAs_60 : decode cX9_rivalGuessesAs 60 = .ok (.invokevirtual 361, 3) := by decide +kernel
theorem dX9_rivalGuessesAs_63 : decode cX9_rivalGuessesAs 63 = .ok (.iinc 2 1, 3) := by decide +kernel
theorem dX9_rivalGuessesAs_66 : decode cX9_rivalGuessesAs 66 = .ok (.goto (-64), 3) := by decide +kernel
theorem dX9_rivalGuessesAs_69 : decode cX9_rivalGuessesAs 69 = .ok (.iconst 1, 1) := by decide +kernel
theorem dX9_rivalGuessesAs_70 : decode cX9_rivalGuessesAs 70 = .ok (.ireturn, 1) := by decide +kernel
theorem dX9_leastSpan_0 : decode cX9_leastSpan 0 = .ok (.aload_n 0, 1) := by decide +kernel
theorem dX9_leastSpan_1 : decode cX9_leastSpan 1 = .ok (.getfield 23, 3) := by decide +kernel
theorem dX9_leastSpan_4 : decode cX9_leastSpan 4 = .ok (.getfield 429, 3) := by decide +kernel
theorem dX9_leastSpan_7 : decode cX9_leastSpan 7 = .ok (.iload_n 1, 1) := by decide +kernel
theorem dX9_leastSpan_8 : decode cX9_leastSpan 8 = .ok (.iconst 1, 1) := by decide +kernel
theorem dX9_leastSpan_9 : decode cX9_leastSpan 9 = .ok (.isub, 1) := by decide +kernel
theorem dX9_leastSpan_10 : decode cX9_leastSpan 10 = .ok (.iaload, 1) := by decide +kernel
theorem dX9_leastSpan_11 : decode cX9_leastSpan 11 = .ok (.iconst 1, 1) := by decide +kernel
theorem dX9_leastSpan_12 : decode cX9_leastSpan 12 = .ok (.iadd, 1) := by decide +kernel
theorem dX9_leastSpan_13 : decode cX9_leastSpan 13 = .ok (.ireturn, 1) := by decide +kernel
theorem dX9_mostSpan_0 : decode cX9_mostSpan 0 = .ok (.iload_n 1, 1) := by decide +kernel
theorem dX9_mostSpan_1 : decode cX9_mostSpan 1 = .ok (.aload_n 0, 1) := by decide +kernel
theorem dX9_mostSpan_2 : decode cX9_mostSpan 2 = .ok (.getfield 23, 3) := by decide +kernel
theorem dX9_mostSpan_5 : decode cX9_mostSpan 5 = .ok (.getfield 171, 3) := by decide +kernel
theorem dX9_mostSpan_8 : decode cX9_mostSpan 8 = .ok (.if_icmp .ge 19, 3) := by decide +kernel
theorem dX9_mostSpan_11 : decode cX9_mostSpan 11 = .ok (.aload_n 0, 1) := by decide +kernel
theorem dX9_mostSpan_12 : decode cX9_mostSpan 12 = .ok (.getfield 23, 3) := by decide +kernel
theorem dX9_mostSpan_15 : decode cX9_mostSpan 15 = .ok (.getfield 429, 3) := by decide +kernel
theorem dX9_mostSpan_18 : decode cX9_mostSpan 18 = .ok (.iload_n 1, 1) := by decide +kernel
theorem dX9_mostSpan_19 : decode cX9_mostSpan 19 = .ok (.iconst 1, 1) := by decide +kernel
theorem dX9_mostSpan_20 : decode cX9_mostSpan 20 = .ok (.iadd, 1) := by decide +kernel
theorem dX9_mostSpan_21 : decode cX9_mostSpan 21 = .ok (.iaload, 1) := by decide +kernel
theorem dX9_mostSpan_22 : decode cX9_mostSpan 22 = .ok (.iconst 1, 1) := by decide +kernel
theorem dX9_mostSpan_23 : decode cX9_mostSpan 23 = .ok (.isub, 1) := by decide +kernel
theorem dX9_mostSpan_24 : decode cX9_mostSpan 24 = .ok (.goto 5, 3) := by decide +kernel
theorem dX9_mostSpan_27 : decode cX9_mostSpan 27 = .ok (.bipush 40, 2) := by decide +kernel
theorem dX9_mostSpan_29 : decode cX9_mostSpan 29 = .ok (.ireturn, 1) := by decide +kernel
theorem dX9_playRounds_0 : decode cX9_playRounds 0 = .ok (.aload_n 0, 1) := by decide +kernel
theorem dX9_playRounds_1 : decode cX9_playRounds 1 = .ok (.getfield 55, 3) := by decide +kernel
theorem dX9_playRounds_4 : decode cX9_playRounds 4 = .ok (.aload_n 0, 1) := by decide +kernel
theorem dX9_playRounds_5 : decode cX9_playRounds 5 = .ok (.getfield 23, 3) := by decide +kernel
theorem dX9_playRounds_8 : decode cX9_playRounds 8 = .ok (.invokevirtual 350, 3) := by decide +kernel
theorem dX9_playRounds_11 : decode cX9_playRounds 11 = .ok (.iconst 0, 1) := by decide +kernel
theorem dX9_playRounds_12 : decode cX9_playRounds 12 = .ok (.istore 5, 2) := by decide +kernel
theorem dX9_playRounds_14 : decode cX9_playRounds 14 = .ok (.iload 5, 2) := by decide +kernel
theorem dX9_playRounds_16 : decode cX9_playRounds 16 = .ok (.iload 4, 2) := by decide +kernel
theorem dX9_playRounds_18 : decode cX9_playRounds 18 = .ok (.if_icmp .ge 73, 3) := by decide +kernel
theorem dX9_playRounds_21 : decode cX9_playRounds 21 = .ok (.aload_n 0, 1) := by decide +kernel
theorem dX9_playRounds_22 : decode cX9_playRounds 22 = .ok (.getfield 58, 3) := by decide +kernel
theorem dX9_playRounds_25 : decode cX9_playRounds 25 = .ok (.iload 5, 2) := by decide +kernel
theorem dX9_playRounds_27 : decode cX9_playRounds 27 = .ok (.iconst 0, 1) := by decide +kernel
theorem dX9_playRounds_28 : decode cX9_playRounds 28 = .ok (.iastore, 1) := by decide +kernel
theorem dX9_playRounds_29 : decode cX9_playRounds 29 = .ok (.iconst 0, 1) := by decide +kernel
theorem dX9_playRounds_30 : decode cX9_playRounds 30 = .ok (.istore 6, 2) := by decide +kernel
theorem dX9_playRounds_32 : decode cX9_playRounds 32 = .ok (.iload 6, 2) := by decide +kernel
theorem dX9_playRounds_34 : decode cX9_playRounds 34 = .ok (.iload_n 3, 1) := by decide +kernel
theorem dX9_playRounds_35 : decode cX9_playRounds 35 = .ok (.if_icmp .ge 50, 3) := by decide +kernel
theorem dX9_playRounds_38 : decode cX9_playRounds 38 = .ok (.iload_n 2, 1) := by decide +kernel
theorem dX9_playRounds_39 : decode cX9_playRounds 39 = .ok (.iload 6, 2) := by decide +kernel
theorem dX9_playRounds_41 : decode cX9_playRounds 41 = .ok (.ishr, 1) := by decide +kernel
theorem dX9_playRounds_42 : decode cX9_playRounds 42 = .ok (.iconst 1, 1) := by decide +kernel
theorem dX9_playRounds_43 : decode cX9_playRounds 43 = .ok (.iand, 1) := by decide +kernel
theorem dX9_playRounds_44 : decode cX9_playRounds 44 = .ok (.istore 7, 2) := by decide +kernel
theorem dX9_playRounds_46 : decode cX9_playRounds 46 = .ok (.aload_n 0, 1) := by decide +kernel
theorem dX9_playRounds_47 : decode cX9_playRounds 47 = .ok (.getfield 55, 3) := by decide +kernel
theorem dX9_playRounds_50 : decode cX9_playRounds 50 = .ok (.iload_n 1, 1) := by decide +kernel
theorem dX9_playRounds_51 : decode cX9_playRounds 51 = .ok (.invokevirtual 358, 3) := by decide +kernel
theorem dX9_playRounds_54 : decode cX9_playRounds 54 = .ok (.iload 7, 2) := by decide +kernel
theorem dX9_playRounds_56 : decode cX9_playRounds 56 = .ok (.if_icmp .eq 14, 3) := by decide +kernel
theorem dX9_playRounds_59 : decode cX9_playRounds 59 = .ok (.aload_n 0, 1) := by decide +kernel
theorem dX9_playRounds_60 : decode cX9_playRounds 60 = .ok (.getfield 58, 3) := by decide +kernel
theorem dX9_playRounds_63 : decode cX9_playRounds 63 = .ok (.iload 5, 2) := by decide +kernel
theorem dX9_playRounds_65 : decode cX9_playRounds 65 = .ok (.dup2, 1) := by decide +kernel
theorem dX9_playRounds_66 : decode cX9_playRounds 66 = .ok (.iaload, 1) := by decide +kernel
theorem dX9_playRounds_67 : decode cX9_playRounds 67 = .ok (.iconst 1, 1) := by decide +kernel
theorem dX9_playRounds_68 : decode cX9_playRounds 68 = .ok (.iadd, 1) := by decide +kernel
theorem dX9_playRounds_69 : decode cX9_playRounds 69 = .ok (.iastore, 1) := by decide +kernel
theorem dX9_playRounds_70 : decode cX9_playRounds 70 = .ok (.aload_n 0, 1) := by decide +kernel
theorem dX9_playRounds_71 : decode cX9_playRounds 71 = .ok (.getfield 55, 3) := by decide +kernel
theorem dX9_playRounds_74 : decode cX9_playRounds 74 = .ok (.iload 7, 2) := by decide +kernel
theorem dX9_playRounds_76 : decode cX9_playRounds 76 = .ok (.invokevirtual 361, 3) := by decide +kernel
theorem dX9_playRounds_79 : decode cX9_playRounds 79 = .ok (.iinc 6 1, 3) := by decide +kernel
theorem dX9_playRounds_82 : decode cX9_playRounds 82 = .ok (.goto (-50), 3) := by decide +kernel
theorem dX9_playRounds_85 : decode cX9_playRounds 85 = .ok (.iinc 5 1, 3) := by decide +kernel
theorem dX9_playRounds_88 : decode cX9_playRounds 88 = .ok (.goto (-74), 3) := by decide +kernel
theorem dX9_playRounds_91 : decode cX9_playRounds 91 = .ok (.return_, 1) := by decide +kernel
theorem dX9_firstRightRound_0 : decode cX9_firstRightRound 0 = .ok (.aload_n 0, 1) := by decide +kernel
theorem dX9_firstRightRound_1 : decode cX9_firstRightRound 1 = .ok (.getfield 58, 3) := by decide +kernel
theorem dX9_firstRightRound_4 : decode cX9_firstRightRound 4 = .ok (.bipush 29, 2) := by decide +kernel
theorem dX9_firstRightRound_6 : decode cX9_firstRightRound 6 = .ok (.iaload, 1) := by decide +kernel
theorem dX9_firstRightRound_7 : decode cX9_firstRightRound 7 = .ok (.ifCond .le 5, 3) := by decide +kernel
theorem dX9_firstRightRound_10 : decode cX9_firstRightRound 10 = .ok (.iconst (-1), 1) := by decide +kernel
theorem dX9_firstRightRound_11 : decode cX9_firstRightRound 11 = .ok (.ireturn, 1) := by decide +kernel
theorem dX9_firstRightRound_12 : decode cX9_firstRightRound 12 = .ok (.bipush 29, 2) := by decide +kernel
theorem dX9_firstRightRound_14 : decode cX9_firstRightRound 14 = .ok (.istore_n 1, 1) := by decide +kernel
theorem dX9_firstRightRound_15 : decode cX9_firstRightRound 15 = .ok (.iload_n 1, 1) := by decide +kernel
theorem dX9_firstRightRound_16 : decode cX9_firstRightRound 16 = .ok (.ifCond .le 20, 3) := by decide +kernel
theorem dX9_firstRightRound_19 : decode cX9_firstRightRound 19 = .ok (.aload_n 0, 1) := by decide +kernel
theorem dX9_firstRightRound_20 : decode cX9_firstRightRound 20 = .ok (.getfield 58, 3) := by decide +kernel
theorem dX9_firstRightRound_23 : decode cX9_firstRightRound 23 = .ok (.iload_n 1, 1) := by decide +kernel
theorem dX9_firstRightRound_24 : decode cX9_firstRightRound 24 = .ok (.iconst 1, 1) := by decide +kernel
theorem dX9_firstRightRound_25 : decode cX9_firstRightRound 25 = .ok (.isub, 1) := by decide +kernel
theorem dX9_firstRightRound_26 : decode cX9_firstRightRound 26 = .ok (.iaload, 1) := by decide +kernel
theorem dX9_firstRightRound_27 : decode cX9_firstRightRound 27 = .ok (.ifCond .ne 9, 3) := by decide +kernel
theorem dX9_firstRightRound_30 : decode cX9_firstRightRound 30 = .ok (.iinc 1 (-1), 3) := by decide +kernel
theorem dX9_firstRightRound_33 : decode cX9_firstRightRound 33 = .ok (.goto (-18), 3) := by decide +kernel
theorem dX9_firstRightRound_36 : decode cX9_firstRightRound 36 = .ok (.iload_n 1, 1) := by decide +kernel
theorem dX9_firstRightRound_37 : decode cX9_firstRightRound 37 = .ok (.ireturn, 1) := by decide +kernel
theorem dX10_init_0 : decode cX10_init 0 = .ok (.aload_n 0, 1) := by decide +kernel
theorem dX10_init_1 : decode cX10_init 1 = .ok (.invokespecial 3, 3) := by decide +kernel
theorem dX10_init_4 : decode cX10_init 4 = .ok (.aload_n 0, 1) := by decide +kernel
theorem dX10_init_5 : decode cX10_init 5 = .ok (.sipush 215, 3) := by decide +kernel
theorem dX10_init_8 : decode cX10_init 8 = .ok (.newarray .int, 2) := by decide +kernel
theorem dX10_init_10 : decode cX10_init 10 = .ok (.putfield 9, 3) := by decide +kernel
theorem dX10_init_13 : decode cX10_init 13 = .ok (.aload_n 0, 1) := by decide +kernel
theorem dX10_init_14 : decode cX10_init 14 = .ok (.sipush 645, 3) := by decide +kernel
theorem dX10_init_17 : decode cX10_init 17 = .ok (.newarray .int, 2) := by decide +kernel
theorem dX10_init_19 : decode cX10_init 19 = .ok (.putfield 13, 3) := by decide +kernel
theorem dX10_init_22 : decode cX10_init 22 = .ok (.aload_n 0, 1) := by decide +kernel
theorem dX10_init_23 : decode cX10_init 23 = .ok (.iconst 3, 1) := by decide +kernel
theorem dX10_init_24 : decode cX10_init 24 = .ok (.newarray .boolean, 2) := by decide +kernel
theorem dX10_init_26 : decode cX10_init 26 = .ok (.putfield 16, 3) := by decide +kernel
theorem dX10_init_29 : decode cX10_init 29 = .ok (.aload_n 0, 1) := by decide +kernel
theorem dX10_init_30 : decode cX10_init 30 = .ok (.sipush 800, 3) := by decide +kernel
theorem dX10_init_33 : decode cX10_init 33 = .ok (.newarray .byte, 2) := by decide +kernel
theorem dX10_init_35 : decode cX10_init 35 = .ok (.putfield 20, 3) := by decide +kernel
theorem dX10_init_38 : decode cX10_init 38 = .ok (.aload_n 0, 1) := by decide +kernel
theorem dX10_init_39 : decode cX10_init 39 = .ok (.iconst 5, 1) := by decide +kernel
theorem dX10_init_40 : decode cX10_init 40 = .ok (.newarray .int, 2) := by decide +kernel
theorem dX10_init_42 : decode cX10_init 42 = .ok (.putfield 24, 3) := by decide +kernel
theorem dX10_init_45 : decode cX10_init 45 = .ok (.aload_n 0, 1) := by decide +kernel
theorem dX10_init_46 : decode cX10_init 46 = .ok (.iconst (-1), 1) := by decide +kernel
theorem dX10_init_47 : decode cX10_init 47 = .ok (.putfield 27, 3) := by decide +kernel
theorem dX10_init_50 : decode cX10_init 50 = .ok (.aload_n 0, 1) := by decide +kernel
theorem dX10_init_51 : decode cX10_init 51 = .ok (.sipush 215, 3) := by decide +kernel
theorem dX10_init_54 : decode cX10_init 54 = .ok (.newarray .int, 2) := by decide +kernel
theorem dX10_init_56 : decode cX10_init 56 = .ok (.putfield 31, 3) := by decide +kernel
theorem dX10_init_59 : decode cX10_init 59 = .ok (.aload_n 0, 1) := by decide +kernel
theorem dX10_init_60 : decode cX10_init 60 = .ok (.sipush 1608, 3) := by decide +kernel
theorem dX10_init_63 : decode cX10_init 63 = .ok (.newarray .int, 2) := by decide +kernel
theorem dX10_init_65 : decode cX10_init 65 = .ok (.putfield 34, 3) := by decide +kernel
theorem dX10_init_68 : decode cX10_init 68 = .ok (.aload_n 0, 1) := by decide +kernel
theorem dX10_init_69 : decode cX10_init 69 = .ok (.sipush 201, 3) := by decide +kernel
theorem dX10_init_72 : decode cX10_init 72 = .ok (.newarray .int, 2) := by decide +kernel
theorem dX10_init_74 : decode cX10_init 74 = .ok (.putfield 37, 3) := by decide +kernel
theorem dX10_init_77 : decode cX10_init 77 = .ok (.aload_n 0, 1) := by decide +kernel
theorem dX10_init_78 : decode cX10_init 78 = .ok (.sipush 240, 3) := by decide +kernel
theorem dX10_init_81 : decode cX10_init 81 = .ok (.newarray .int, 2) := by decide +kernel
theorem dX10_init_83 : decode cX10_init 83 = .ok (.putfield 40, 3) := by decide +kernel
theorem dX10_init_86 : decode cX10_init 86 = .ok (.aload_n 0, 1) := by decide +kernel
theorem dX10_init_87 : decode cX10_init 87 = .ok (.sipush 240, 3) := by decide +kernel
theorem dX10_init_90 : decode cX10_init 90 = .ok (.newarray .int, 2) := by decide +kernel
theorem dX10_init_92 : decode cX10_init 92 = .ok (.putfield 43, 3) := by decide +kernel
theorem dX10_init_95 : decode cX10_init 95 = .ok (.aload_n 0, 1) := by decide +kernel
theorem dX10_init_96 : decode cX10_init 96 = .ok (.sipush 240, 3) := by decide +kernel
theorem dX10_init_99 : decode cX10_init 99 = .ok (.newarray .int, 2) := by decide +kernel
theorem dX10_init_101 : decode cX10_init 101 = .ok (.putfield 46, 3) := by decide +kernel
theorem dX10_init_104 : decode cX10_init 104 = .ok (.aload_n 0, 1) := by decide +kernel
theorem dX10_init_105 : decode cX10_init 105 = .ok (.bipush 6, 2) := by decide +kernel
theorem dX10_init_107 : decode cX10_init 107 = .ok (.newarray .int, 2) := by decide +kernel
theorem dX10_init_109 : decode cX10_init 109 = .ok (.putfield 49, 3) := by decide +kernel
theorem dX10_init_112 : decode cX10_init 112 = .ok (.aload_n 0, 1) := by decide +kernel
theorem dX10_init_113 : decode cX10_init 113 = .ok (.bipush 80, 2) := by decide +kernel
theorem dX10_init_115 : decode cX10_init 115 = .ok (.newarray .int, 2) := by decide +kernel
theorem dX10_init_117 : decode cX10_init 117 = .ok (.putfield 52, 3) := by decide +kernel
theorem dX10_init_120 : decode cX10_init 120 = .ok (.aload_n 0, 1) := by decide +kernel
theorem dX10_init_121 : decode cX10_init 121 = .ok (.bipush 80, 2) := by decide +kernel
theorem dX10_init_123 : decode cX10_init 123 = .ok (.newarray .int, 2) := by decide +kernel
theorem dX10_init_125 : decode cX10_init 125 = .ok (.putfield 55, 3) := by decide +kernel
theorem dX10_init_128 : decode cX10_init 128 = .ok (.aload_n 0, 1) := by decide +kernel
theorem dX10_init_129 : decode cX10_init 129 = .ok (.bipush 80, 2) := by decide +kernel
theorem dX10_init_131 : decode cX10_init 131 = .ok (.newarray .int, 2) := by decide +kernel
theorem dX10_init_133 : decode cX10_init 133 = .ok (.putfield 58, 3) := by decide +kernel
theorem dX10_init_136 : decode cX10_init 136 = .ok (.aload_n 0, 1) := by decide +kernel
theorem dX10_init_137 : decode cX10_init 137 = .ok (.bipush 16, 2) := by decide +kernel
theorem dX10_init_139 : decode cX10_init 139 = .ok (.newarray .int, 2) := by decide +kernel
theorem dX10_init_141 : decode cX10_init 141 = .ok (.putfield 61, 3) := by decide +kernel
theorem dX10_init_144 : decode cX10_init 144 = .ok (.aload_n 0, 1) := by decide +kernel
theorem dX10_init_145 : decode cX10_init 145 = .ok (.bipush 8, 2) := by decide +kernel
theorem dX10_init_147 : decode cX10_init 147 = .ok (.newarray .int, 2) := by decide +kernel
theorem dX10_init_149 : decode cX10_init 149 = .ok (.putfield 64, 3) := by decide +kernel
theorem dX10_init_152 : decode cX10_init 152 = .ok (.aload_n 0, 1) := by decide +kernel
theorem dX10_init_153 : decode cX10_init 153 = .ok (.bipush 8, 2) := by decide +kernel
theorem dX10_init_155 : decode cX10_init 155 = .ok (.newarray .int, 2) := by decide +kernel
theorem dX10_init_157 : decode cX10_init 157 = .ok (.putfield 67, 3) := by decide +kernel
theorem dX10_init_160 : decode cX10_init 160 = .ok (.aload_n 0, 1) := by decide +kernel
theorem dX10_init_161 : decode cX10_init 161 = .ok (.bipush 8, 2) := by decide +kernel
theorem dX10_init_163 : decode cX10_init 163 = .ok (.newarray .int, 2) := by decide +kernel
theorem dX10_init_165 : decode cX10_init 165 = .ok (.putfield 70, 3) := by decide +kernel
theorem dX10_init_168 : decode cX10_init 168 = .ok (.aload_n 0, 1) := by decide +kernel
theorem dX10_init_169 : decode cX10_init 169 = .ok (.bipush 8, 2) := by decide +kernel
theorem dX10_init_171 : decode cX10_init 171 = .ok (.newarray .int, 2) := by decide +kernel
theorem dX10_init_173 : decode cX10_init 173 = .ok (.putfield 73, 3) := by decide +kernel
theorem dX10_init_176 : decode cX10_init 176 = .ok (.aload_n 0, 1) := by decide +kernel
theorem dX10_init_177 : decode cX10_init 177 = .ok (.bipush 8, 2) := by decide +kernel
theorem dX10_init_179 : decode cX10_init 179 = .ok (.newarray .int, 2) := by decide +kernel
theorem dX10_init_181 : decode cX10_init 181 = .ok (.putfield 76, 3) := by decide +kernel
theorem dX10_init_184 : decode cX10_init 184 = .ok (.aload_n 0, 1) := by decide +kernel
theorem dX10_init_185 : decode cX10_init 185 = .ok (.bipush 48, 2) := by decide +kernel
theorem dX10_init_187 : decode cX10_init 187 = .ok (.newarray .int, 2) := by decide +kernel
theorem dX10_init_189 : decode cX10_init 189 = .ok (.putfield 79, 3) := by decide +kernel
theorem dX10_init_192 : decode cX10_init 192 = .ok (.aload_n 0, 1) := by decide +kernel
theorem dX10_init_193 : decode cX10_init 193 = .ok (.bipush 6, 2) := by decide +kernel
theorem dX10_init_195 : decode cX10_init 195 = .ok (.newarray .int, 2) := by decide +kernel
theorem dX10_init_197 : decode cX10_init 197 = .ok (.putfield 82, 3) := by decide +kernel
theorem dX10_init_200 : decode cX10_init 200 = .ok (.aload_n 0, 1) := by decide +kernel
theorem dX10_init_201 : decode cX10_init 201 = .ok (.bipush 6, 2) := by decide +kernel
theorem dX10_init_203 : decode cX10_init 203 = .ok (.newarray .int, 2) := by decide +kernel
theorem dX10_init_205 : decode cX10_init 205 = .ok (.putfield 85, 3) := by decide +kernel
theorem dX10_init_208 : decode cX10_init 208 = .ok (.aload_n 0, 1) := by decide +kernel
theorem dX10_init_209 : decode cX10_init 209 = .ok (.iconst 3, 1) := by decide +kernel
theorem dX10_init_210 : decode cX10_init 210 = .ok (.newarray .int, 2) := by decide +kernel
theorem dX10_init_212 : decode cX10_init 212 = .ok (.putfield 88, 3) := by decide +kernel
theorem dX10_init_215 : decode cX10_init 215 = .ok (.aload_n 0, 1) := by decide +kernel
theorem dX10_init_216 : decode cX10_init 216 = .ok (.sipush 240, 3) := by decide +kernel
theorem dX10_init_219 : decode cX10_init 219 = .ok (.newarray .int, 2) := by decide +kernel
theorem dX10_init_221 : decode cX10_init 221 = .ok (.putfield 91, 3) := by decide +kernel
theorem dX10_init_224 : decode cX10_init 224 = .ok (.aload_n 0, 1) := by decide +kernel
theorem dX10_init_225 : decode cX10_init 225 = .ok (.sipush 240, 3) := by decide +kernel
theorem dX10_init_228 : decode cX10_init 228 = .ok (.newarray .int, 2) := by decide +kernel
theorem dX10_init_230 : decode cX10_init 230 = .ok (.putfield 94, 3) := by decide +kernel
theorem dX10_init_233 : decode cX10_init 233 = .ok (.aload_n 0, 1) := by decide +kernel
theorem dX10_init_234 : decode cX10_init 234 = .ok (.sipush 240, 3) := by decide +kernel
theorem dX10_init_237 : decode cX10_init 237 = .ok (.newarray .int, 2) := by decide +kernel
theorem dX10_init_239 : decode cX10_init 239 = .ok (.putfield 97, 3) := by decide +kernel
theorem dX10_init_242 : decode cX10_init 242 = .ok (.aload_n 0, 1) := by decide +kernel
theorem dX10_init_243 : decode cX10_init 243 = .ok (.sipush 240, 3) := by decide +kernel
theorem dX10_init_246 : decode cX10_init 246 = .ok (.newarray .int, 2) := by decide +kernel
theorem dX10_init_248 : decode cX10_init 248 = .ok (.putfield 100, 3) := by decide +kernel
theorem dX10_init_251 : decode cX10_init 251 = .ok (.aload_n 0, 1) := by decide +kernel
theorem dX10_init_252 : decode cX10_init 252 = .ok (.sipush 240, 3) := by decide +kernel
theorem dX10_init_255 : decode cX10_init 255 = .ok (.newarray .int, 2) := by decide +kernel
theorem dX10_init_257 : decode cX10_init 257 = .ok (.putfield 103, 3) := by decide +kernel
theorem dX10_init_260 : decode cX10_init 260 = .ok (.aload_n 0, 1) := by decide +kernel
theorem dX10_init_261 : decode cX10_init 261 = .ok (.sipush 240, 3) := by decide +kernel
theorem dX10_init_264 : decode cX10_init 264 = .ok (.newarray .int, 2) := by decide +kernel
theorem dX10_init_266 : decode cX10_init 266 = .ok (.putfield 106, 3) := by decide +kernel
theorem dX10_init_269 : decode cX10_init 269 = .ok (.aload_n 0, 1) := by decide +kernel
theorem dX10_init_270 : decode cX10_init 270 = .ok (.bipush 8, 2) := by decide +kernel
theorem dX10_init_272 : decode cX10_init 272 = .ok (.newarray .int, 2) := by decide +kernel
theorem dX10_init_274 : decode cX10_init 274 = .ok (.putfield 109, 3) := by decide +kernel
theorem dX10_init_277 : decode cX10_init 277 = .ok (.aload_n 0, 1) := by decide +kernel
theorem dX10_init_278 : decode cX10_init 278 = .ok (.bipush 30, 2) := by decide +kernel
theorem dX10_init_280 : decode cX10_init 280 = .ok (.newarray .int, 2) := by decide +kernel
theorem dX10_init_282 : decode cX10_init 282 = .ok (.putfield 112, 3) := by decide +kernel
theorem dX10_init_285 : decode cX10_init 285 = .ok (.aload_n 0, 1) := by decide +kernel
theorem dX10_init_286 : decode cX10_init 286 = .ok (.iconst 4, 1) := by decide +kernel
theorem dX10_init_287 : decode cX10_init 287 = .ok (.newarray .int, 2) := by decide +kernel
theorem dX10_init_289 : decode cX10_init 289 = .ok (.dup, 1) := by decide +kernel
theorem dX10_init_290 : decode cX10_init 290 = .ok (.iconst 0, 1) := by decide +kernel
theorem dX10_init_291 : decode cX10_init 291 = .ok (.iconst (-1), 1) := by decide +kernel
theorem dX10_init_292 : decode cX10_init 292 = .ok (.iastore, 1) := by decide +kernel
theorem dX10_init_293 : decode cX10_init 293 = .ok (.dup, 1) := by decide +kernel
theorem dX10_init_294 : decode cX10_init 294 = .ok (.iconst 1, 1) := by decide +kernel
theorem dX10_init_295 : decode cX10_init 295 = .ok (.iconst (-1), 1) := by decide +kernel
theorem dX10_init_296 : decode cX10_init 296 = .ok (.iastore, 1) := by decide +kernel
theorem dX10_init_297 : decode cX10_init 297 = .ok (.dup, 1) := by decide +kernel
theorem dX10_init_298 : decode cX10_init 298 = .ok (.iconst 2, 1) := by decide +kernel
theorem dX10_init_299 : decode cX10_init 299 = .ok (.iconst (-1), 1) := by decide +kernel
theorem dX10_init_300 : decode cX10_init 300 = .ok (.iastore, 1) := by decide +kernel
theorem dX10_init_301 : decode cX10_init 301 = .ok (.dup, 1) := by decide +kernel
theorem dX10_init_302 : decode cX10_init 302 = .ok (.iconst 3, 1) := by decide +kernel
theorem dX10_init_303 : decode cX10_init 303 = .ok (.iconst (-1), 1) := by decide +kernel
theorem dX10_init_304 : decode cX10_init 304 = .ok (.iastore, 1) := by decide +kernel
theorem dX10_init_305 : decode cX10_init 305 = .ok (.putfield 115, 3) := by decide +kernel
theorem dX10_init_308 : decode cX10_init 308 = .ok (.aload_n 0, 1) := by decide +kernel
theorem dX10_init_309 : decode cX10_init 309 = .ok (.iconst 4, 1) := by decide +kernel
theorem dX10_init_310 : decode cX10_init 310 = .ok (.newarray .int, 2) := by decide +kernel
theorem dX10_init_312 : decode cX10_init 312 = .ok (.putfield 118, 3) := by decide +kernel
theorem dX10_init_315 : decode cX10_init 315 = .ok (.aload_n 0, 1) := by decide +kernel
theorem dX10_init_316 : decode cX10_init 316 = .ok (.sipush 240, 3) := by decide +kernel
theorem dX10_init_319 : decode cX10_init 319 = .ok (.newarray .long, 2) := by decide +kernel
theorem dX10_init_321 : decode cX10_init 321 = .ok (.putfield 121, 3) := by decide +kernel
theorem dX10_init_324 : decode cX10_init 324 = .ok (.return_, 1) := by decide +kernel
theorem dX10_in_0 : decode cX10_in 0 = .ok (.lload_n 0, 1) := by decide +kernel
theorem dX10_in_1 : decode cX10_in 1 = .ok (.lload_n 2, 1) := by decide +kernel
theorem dX10_in_2 : decode cX10_in 2 = .ok (.lcmp, 1) := by decide +kernel
theorem dX10_in_3 : decode cX10_in 3 = .ok (.ifCond .lt 14, 3) := by decide +kernel
theorem dX10_in_6 : decode cX10_in 6 = .ok (.lload_n 0, 1) := by decide +kernel
theorem dX10_in_7 : decode cX10_in 7 = .ok (.lload 4, 2) := by decide +kernel
theorem dX10_in_9 : decode cX10_in 9 = .ok (.lcmp, 1) := by decide +kernel
theorem dX10_in_10 : decode cX10_in 10 = .ok (.ifCond .gt 7, 3) := by decide +kernel
theorem dX10_in_13 : decode cX10_in 13 = .ok (.iconst 1, 1) := by decide +kernel
theorem dX10_in_14 : decode cX10_in 14 = .ok (.goto 4, 3) := by decide +kernel
theorem dX10_in_17 : decode cX10_in 17 = .ok (.iconst 0, 1) := by decide +kernel
theorem dX10_in_18 : decode cX10_in 18 = .ok (.ireturn, 1) := by decide +kernel
theorem dX10_between_0 : decode cX10_between 0 = .ok (.iload_n 1, 1) := by decide +kernel
theorem dX10_between_1 : decode cX10_between 1 = .ok (.iload_n 2, 1) := by decide +kernel
theorem dX10_between_2 : decode cX10_between 2 = .ok (.iload_n 0, 1) := by decide +kernel
theorem dX10_between_3 : decode cX10_between 3 = .ok (.invokestatic 128, 3) := by decide +kernel
theorem dX10_between_6 : decode cX10_between 6 = .ok (.invokestatic 134, 3) := by decide +kernel
theorem dX10_between_9 : decode cX10_between 9 = .ok (.ireturn, 1) := by decide +kernel
theorem dX10_image_0 : decode cX10_image 0 = .ok (.iload_n 1, 1) := by decide +kernel
theorem dX10_image_1 : decode cX10_image 1 = .ok (.i2l, 1) := by decide +kernel
theorem dX10_image_2 : decode cX10_image 2 = .ok (.lconst 0, 1) := by decide +kernel
theorem dX10_image_3 : decode cX10_image 3 = .ok (.ldc2_w 137, 3) := by decide +kernel
theorem dX10_image_6 : decode cX10_image 6 = .ok (.invokestatic 139, 3) := by decide +kernel
theorem dX10_image_9 : decode cX10_image 9 = .ok (.ifCond .ne 6, 3) := by decide +kernel
theorem dX10_image_12 : decode cX10_image 12 = .ok (.bipush (-2), 2) := by decide +kernel
theorem dX10_image_14 : decode cX10_image 14 = .ok (.ireturn, 1) := by decide +kernel
theorem dX10_image_15 : decode cX10_image 15 = .ok (.iconst 0, 1) := by decide +kernel
theorem dX10_image_16 : decode cX10_image 16 = .ok (.istore_n 2, 1) := by decide +kernel
theorem dX10_image_17 : decode cX10_image 17 = .ok (.iload_n 2, 1) := by decide +kernel
theorem dX10_image_18 : decode cX10_image 18 = .ok (.sipush 215, 3) := by decide +kernel
theorem dX10_image_21 : decode cX10_image 21 = .ok (.if_icmp .ge 27, 3) := by decide +kernel
theorem dX10_image_24 : decode cX10_image 24 = .ok (.aload_n 0, 1) := by decide +kernel
theorem dX10_image_25 : decode cX10_image 25 = .ok (.getfield 13, 3) := by decide +kernel
theorem dX10_image_28 : decode cX10_image 28 = .ok (.sipush 215, 3) := by decide +kernel
theorem dX10_image_31 : decode cX10_image 31 = .ok (.iload_n 1, 1) := by decide +kernel
theorem dX10_image_32 : decode cX10_image 32 = .ok (.imul, 1) := by decide +kernel
theorem dX10_image_33 : decode cX10_image 33 = .ok (.iload_n 2, 1) := by decide +kernel
theorem dX10_image_34 : decode cX10_image 34 = .ok (.iadd, 1) := by decide +kernel
theorem dX10_image_35 : decode cX10_image 35 = .ok (.aload_n 0, 1) := by decide +kernel
theorem dX10_image_36 : decode cX10_image 36 = .ok (.getfield 9, 3) := by decide +kernel
theorem dX10_image_39 : decode cX10_image 39 = .ok (.iload_n 2, 1) := by decide +kernel
theorem dX10_image_40 : decode cX10_image 40 = .ok (.iaload, 1) := by decide +kernel
theorem dX10_image_41 : decode cX10_image 41 = .ok (.iastore, 1) := by decide +kernel
theorem dX10_image_42 : decode cX10_image 42 = .ok (.iinc 2 1, 3) := by decide +kernel
theorem dX10_image_45 : decode cX10_image 45 = .ok (.goto (-28), 3) := by decide +kernel
theorem dX10_image_48 : decode cX10_image 48 = .ok (.aload_n 0, 1) := by decide +kernel
theorem dX10_image_49 : decode cX10_image 49 = .ok (.getfield 16, 3) := by decide +kernel
theorem dX10_image_52 : decode cX10_image 52 = .ok (.iload_n 1, 1) := by decide +kernel
theorem dX10_image_53 : decode cX10_image 53 = .ok (.iconst 1, 1) := by decide +kernel
theorem dX10_image_54 : decode cX10_image 54 = .ok (.bastore, 1) := by decide +kernel
theorem dX10_image_55 : decode cX10_image 55 = .ok (.iconst 0, 1) := by decide +kernel
theorem dX10_image_56 : decode cX10_image 56 = .ok (.ireturn, 1) := by decide +kernel
theorem dX10_back_0 : decode cX10_back 0 = .ok (.iload_n 1, 1) := by decide +kernel
theorem dX10_back_1 : decode cX10_back 1 = .ok (.i2l, 1) := by decide +kernel
theorem dX10_back_2 : decode cX10_back 2 = .ok (.lconst 0, 1) := by decide +kernel
theorem dX10_back_3 : decode cX10_back 3 = .ok (.ldc2_w 137, 3) := by decide +kernel
theorem dX10_back_6 : decode cX10_back 6 = .ok (.invokestatic 139, 3) := by decide +kernel
theorem dX10_back_9 : decode cX10_back 9 = .ok (.ifCond .ne 6, 3) := by decide +kernel
theorem dX10_back_12 : decode cX10_back 12 = .ok (.bipush (-2), 2) := by decide +kernel
theorem dX10_back_14 : decode cX10_back 14 = .ok (.ireturn, 1) := by decide +kernel
theorem dX10_back_15 : decode cX10_back 15 = .ok (.aload_n 0, 1) := by decide +kernel
theorem dX10_back_16 : decode cX10_back 16 = .ok (.getfield 16, 3) := by decide +kernel
theorem dX10_back_19 : decode cX10_back 19 = .ok (.iload_n 1, 1) := by decide +kernel
theorem dX10_back_20 : decode cX10_back 20 = .ok (.baload, 1) := by decide +kernel
theorem dX10_back_21 : decode cX10_back 21 = .ok (.ifCond .ne 6, 3) := by decide +kernel
theorem dX10_back_24 : decode cX10_back 24 = .ok (.bipush (-6), 2) := by decide +kernel
theorem dX10_back_26 : decode cX10_back 26 = .ok (.ireturn, 1) := by decide +kernel
theorem dX10_back_27 : decode cX10_back 27 = .ok (.iconst 0, 1) := by decide +kernel
theorem dX10_back_28 : decode cX10_back 28 = .ok (.istore_n 2, 1) := by decide +kernel
theorem dX10_back_29 : decode cX10_back 29 = .ok (.iload_n 2, 1) := by decide +kernel
theorem dX10_back_30 : decode cX10_back 30 = .ok (.sipush 215, 3) := by decide +kernel
theorem dX10_back_33 : decode cX10_back 33 = .ok (.if_icmp .ge 27, 3) := by decide +kernel
theorem dX10_back_36 : decode cX10_back 36 = .ok (.aload_n 0, 1) := by decide +kernel
theorem dX10_back_37 : decode cX10_back 37 = .ok (.getfield 9, 3) := by decide +kernel
theorem dX10_back_40 : decode cX10_back 40 = .ok (.iload_n 2, 1) := by decide +kernel
theorem dX10_back_41 : decode cX10_back 41 = .ok (.aload_n 0, 1) := by decide +kernel
theorem dX10_back_42 : decode cX10_back 42 = .ok (.getfield 13, 3) := by decide +kernel
theorem dX10_back_45 : decode cX10_back 45 = .ok (.sipush 215, 3) := by decide +kernel
theorem dX10_back_48 : decode cX10_back 48 = .ok (.iload_n 1, 1) := by decide +kernel
theorem dX10_back_49 : decode cX10_back 49 = .ok (.imul, 1) := by decide +kernel
theorem dX10_back_50 : decode cX10_back 50 = .ok (.iload_n 2, 1) := by decide +kernel
theorem dX10_back_51 : decode cX10_back 51 = .ok (.iadd, 1) := by decide +kernel
theorem dX10_back_52 : decode cX10_back 52 = .ok (.iaload, 1) := by decide +kernel
theorem dX10_back_53 : decode cX10_back 53 = .ok (.iastore, 1) := by decide +kernel
theorem dX10_back_54 : decode cX10_back 54 = .ok (.iinc 2 1, 3) := by decide +kernel
theorem dX10_back_57 : decode cX10_back 57 = .ok (.goto (-28), 3) := by decide +kernel
theorem dX10_back_60 : decode cX10_back 60 = .ok (.iconst 0, 1) := by decide +kernel
theorem dX10_back_61 : decode cX10_back 61 = .ok (.ireturn, 1) := by decide +kernel
theorem dX10_isProgram_0 : decode cX10_isProgram 0 = .ok (.aload_n 0, 1) := by decide +kernel
theorem dX10_isProgram_1 : decode cX10_isProgram 1 = .ok (.getfield 9, 3) := by decide +kernel
theorem dX10_isProgram_4 : decode cX10_isProgram 4 = .ok (.bipush 9, 2) := by decide +kernel
theorem dX10_isProgram_6 : decode cX10_isProgram 6 = .ok (.iaload, 1) := by decide +kernel
theorem dX10_isProgram_7 : decode cX10_isProgram 7 = .ok (.ifCond .le 7, 3) := by decide +kernel
theorem dX10_isProgram_10 : decode cX10_isProgram 10 = .ok (.iconst 1, 1) := by decide +kernel
theorem dX10_isProgram_11 : decode cX10_isProgram 11 = .ok (.goto 4, 3) := by decide +kernel
theorem dX10_isProgram_14 : decode cX10_isProgram 14 = .ok (.iconst 0, 1) := by decide +kernel
theorem dX10_isProgram_15 : decode cX10_isProgram 15 = .ok (.ireturn, 1) := by decide +kernel
theorem dX10_isOp_0 : decode cX10_isOp 0 = .ok (.iload_n 1, 1) := by decide +kernel
theorem dX10_isOp_1 : decode cX10_isOp 1 = .ok (.i2l, 1) := by decide +kernel
theorem dX10_isOp_2 : decode cX10_isOp 2 = .ok (.lconst 0, 1) := by decide +kernel
theorem dX10_isOp_3 : decode cX10_isOp 3 = .ok (.aload_n 0, 1) := by decide +kernel
theorem dX10_isOp_4 : decode cX10_isOp 4 = .ok (.getfield 9, 3) := by decide +kernel
theorem dX10_isOp_7 : decode cX10_isOp 7 = .ok (.bipush 7, 2) := by decide +kernel
theorem dX10_isOp_9 : decode cX10_isOp 9 = .ok (.iaload, 1) := by decide +kernel
theorem dX10_isOp_10 : decode cX10_isOp 10 = .ok (.iconst 1, 1) := by decide +kernel
theorem dX10_isOp_11 : decode cX10_isOp 11 = .ok (.isub, 1) := by decide +kernel
theorem dX10_isOp_12 : decode cX10_isOp 12 = .ok (.i2l, 1) := by decide +kernel
theorem dX10_isOp_13 : decode cX10_isOp 13 = .ok (.invokestatic 139, 3) := by decide +kernel
theorem dX10_isOp_16 : decode cX10_isOp 16 = .ok (.ireturn, 1) := by decide +kernel
theorem dX10_kindOf_0 : decode cX10_kindOf 0 = .ok (.aload_n 0, 1) := by decide +kernel
theorem dX10_kindOf_1 : decode cX10_kindOf 1 = .ok (.getfield 9, 3) := by decide +kernel
theorem dX10_kindOf_4 : decode cX10_kindOf 4 = .ok (.bipush 15, 2) := by decide +kernel
theorem dX10_kindOf_6 : decode cX10_kindOf 6 = .ok (.iconst 4, 1) := by decide +kernel
theorem dX10_kindOf_7 : decode cX10_kindOf 7 = .ok (.iload_n 1, 1) := by decide +kernel
theorem dX10_kindOf_8 : decode cX10_kindOf 8 = .ok (.imul, 1) := by decide +kernel
theorem dX10_kindOf_9 : decode cX10_kindOf 9 = .ok (.iadd, 1) := by decide +kernel
theorem dX10_kindOf_10 : decode cX10_kindOf 10 = .ok (.iaload, 1) := by decide +kernel
theorem dX10_kindOf_11 : decode cX10_kindOf 11 = .ok (.ireturn, 1) := by decide +kernel
theorem dX10_numberOf_0 : decode cX10_numberOf 0 = .ok (.aload_n 0, 1) := by decide +kernel
theorem dX10_numberOf_1 : decode cX10_numberOf 1 = .ok (.getfield 9, 3) := by decide +kernel
theorem dX10_numberOf_4 : decode cX10_numberOf 4 = .ok (.bipush 15, 2) := by decide +kernel
theorem dX10_numberOf_6 : decode cX10_numberOf 6 = .ok (.iconst 4, 1) := by decide +kernel
theorem dX10_numberOf_7 : decode cX10_numberOf 7 = .ok (.iload_n 1, 1) := by decide +kernel
theorem dX10_numberOf_8 : decode cX10_numberOf 8 = .ok (.imul, 1) := by decide +kernel
theorem dX10_numberOf_9 : decode cX10_numberOf 9 = .ok (.iadd, 1) := by decide +kernel
theorem dX10_numberOf_10 : decode cX10_numberOf 10 = .ok (.iconst 1, 1) := by decide +kernel
theorem dX10_numberOf_11 : decode cX10_numberOf 11 = .ok (.iadd, 1) := by decide +kernel
theorem dX10_numberOf_12 : decode cX10_numberOf 12 = .ok (.iload_n 2, 1) := by decide +kernel
theorem dX10_numberOf_13 : decode cX10_numberOf 13 = .ok (.iadd, 1) := by decide +kernel
theorem dX10_numberOf_14 : decode cX10_numberOf 14 = .ok (.iaload, 1) := by decide +kernel
theorem dX10_numberOf_15 : decode cX10_numberOf 15 = .ok (.ireturn, 1) := by decide +kernel
theorem dX10_numbersOf_0 : decode cX10_numbersOf 0 = .ok (.iload_n 0, 1) := by decide +kernel
theorem dX10_numbersOf_1 : decode cX10_numbersOf 1 = .ok (.bipush 6, 2) := by decide +kernel
theorem dX10_numbersOf_3 : decode cX10_numbersOf 3 = .ok (.if_icmp .eq 9, 3) := by decide +kernel
theorem dX10_numbersOf_6 : decode cX10_numbersOf 6 = .ok (.iload_n 0, 1) := by decide +kernel
theorem dX10_numbersOf_7 : decode cX10_numbersOf 7 = .ok (.bipush 7, 2) := by decide +kernel
theorem dX10_numbersOf_9 : decode cX10_numbersOf 9 = .ok (.if_icmp .ne 5, 3) := by decide +kernel
theorem dX10_numbersOf_12 : decode cX10_numbersOf 12 = .ok (.iconst 3, 1) := by decide +kernel
theorem dX10_numbersOf_13 : decode cX10_numbersOf 13 = .ok (.ireturn, 1) := by decide +kernel
theorem dX10_numbersOf_14 : decode cX10_numbersOf 14 = .ok (.iload_n 0, 1) := by decide +kernel
theorem dX10_numbersOf_15 : decode cX10_numbersOf 15 = .ok (.bipush 9, 2) := by decide +kernel
theorem dX10_numbersOf_17 : decode cX10_numbersOf 17 = .ok (.if_icmp .ne 7, 3) := by decide +kernel
theorem dX10_numbersOf_20 : decode cX10_numbersOf 20 = .ok (.iconst 1, 1) := by decide +kernel
theorem dX10_numbersOf_21 : decode cX10_numbersOf 21 = .ok (.goto 14, 3) := by decide +kernel
theorem dX10_numbersOf_24 : decode cX10_numbersOf 24 = .ok (.iload_n 0, 1) := by decide +kernel
theorem dX10_numbersOf_25 : decode cX10_numbersOf 25 = .ok (.bipush 10, 2) := by decide +kernel
theorem dX10_numbersOf_27 : decode cX10_numbersOf 27 = .ok (.if_icmp .ne 7, 3) := by decide +kernel
theorem dX10_numbersOf_30 : decode cX10_numbersOf 30 = .ok (.iconst 0, 1) := by decide +kernel
theorem dX10_numbersOf_31 : decode cX10_numbersOf 31 = .ok (.goto 4, 3) := by decide +kernel
theorem dX10_numbersOf_34 : decode cX10_numbersOf 34 = .ok (.iconst 2, 1) := by decide +kernel
theorem dX10_numbersOf_35 : decode cX10_numbersOf 35 = .ok (.ireturn, 1) := by decide +kernel
theorem dX10_highOf_0 : decode cX10_highOf 0 = .ok (.iload_n 1, 1) := by decide +kernel
theorem dX10_highOf_1 : decode cX10_highOf 1 = .ok (.iload_n 0, 1) := by decide +kernel
theorem dX10_highOf_2 : decode cX10_highOf 2 = .ok (.invokestatic 143, 3) := by decide +kernel
theorem dX10_highOf_5 : decode cX10_highOf 5 = .ok (.iconst 1, 1) := by decide +kernel
theorem dX10_highOf_6 : decode cX10_highOf 6 = .ok (.isub, 1) := by decide +kernel
theorem dX10_highOf_7 : decode cX10_highOf 7 = .ok (.if_icmp .ne 12, 3) := by decide +kernel
theorem dX10_highOf_10 : decode cX10_highOf 10 = .ok (.iload_n 0, 1) := by decide +kernel
theorem dX10_highOf_11 : decode cX10_highOf 11 = .ok (.bipush 6, 2) := by decide +kernel
theorem dX10_highOf_13 : decode cX10_highOf 13 = .ok (.if_icmp .lt 6, 3) := by decide +kernel
theorem dX10_highOf_16 : decode cX10_highOf 16 = .ok (.bipush 39, 2) := by decide +kernel
theorem dX10_highOf_18 : decode cX10_highOf 18 = .ok (.ireturn, 1) := by decide +kernel
theorem dX10_highOf_19 : decode cX10_highOf 19 = .ok (.iload_n 1, 1) := by decide +kernel
theorem dX10_highOf_20 : decode cX10_highOf 20 = .ok (.iconst 1, 1) := by decide +kernel
theorem dX10_highOf_21 : decode cX10_highOf 21 = .ok (.if_icmp .ne 14, 3) := by decide +kernel
theorem dX10_highOf_24 : decode cX10_highOf 24 = .ok (.iload_n 0, 1) := by decide +kernel
theorem dX10_highOf_25 : decode cX10_highOf 25 = .ok (.iconst 3, 1) := by decide +kernel
theorem dX10_highOf_26 : decode cX10_highOf 26 = .ok (.if_icmp .ge 9, 3) := by decide +kernel
theorem dX10_highOf_29 : decode cX10_highOf 29 = .ok (.sipush 999, 3) := by decide +kernel
theorem dX10_highOf_32 : decode cX10_highOf 32 = .ok (.goto 5, 3) := by decide +kernel
theorem dX10_highOf_35 : decode cX10_highOf 35 = .ok (.bipush 7, 2) := by decide +kernel
theorem dX10_highOf_37 : decode cX10_highOf 37 = .ok (.ireturn, 1) := by decide +kernel
theorem dX10_wordOf_0 : decode cX10_wordOf 0 = .ok (.iload_n 0, 1) := by decide +kernel
theorem dX10_wordOf_1 : decode cX10_wordOf 1 = .ok (.tableswitch 85 0 9 #[55, 58, 61, 64, 67, 70, 73, 76, 79, 82], 55) := by decide +kernel
theorem dX10_wordOf_56 : decode cX10_wordOf 56 = .ok (.ldc 147, 2) := by decide +kernel
theorem dX10_wordOf_58 : decode cX10_wordOf 58 = .ok (.areturn, 1) := by decide +kernel
theorem dX10_wordOf_59 : decode cX10_wordOf 59 = .ok (.ldc 149, 2) := by decide +kernel
theorem dX10_wordOf_61 : decode cX10_wordOf 61 = .ok (.areturn, 1) := by decide +kernel
theorem dX10_wordOf_62 : decode cX10_wordOf 62 = .ok (.ldc 151, 2) := by decide +kernel
theorem dX10_wordOf_64 : decode cX10_wordOf 64 = .ok (.areturn, 1) := by decide +kernel
theorem dX10_wordOf_65 : decode cX10_wordOf 65 = .ok (.ldc 153, 2) := by decide +kernel
theorem dX10_wordOf_67 : decode cX10_wordOf 67 = .ok (.areturn, 1) := by decide +kernel
theorem dX10_wordOf_68 : decode cX10_wordOf 68 = .ok (.ldc 155, 2) := by decide +kernel
theorem dX10_wordOf_70 : decode cX10_wordOf 70 = .ok (.areturn, 1) := by decide +kernel
theorem dX10_wordOf_71 : decode cX10_wordOf 71 = .ok (.ldc 157, 2) := by decide +kernel
theorem dX10_wordOf_73 : decode cX10_wordOf 73 = .ok (.areturn, 1) := by decide +kernel
theorem dX10_wordOf_74 : decode cX10_wordOf 74 = .ok (.ldc 159, 2) := by decide +kernel
theorem dX10_wordOf_76 : decode cX10_wordOf 76 = .ok (.areturn, 1) := by decide +kernel
theorem dX10_wordOf_77 : decode cX10_wordOf 77 = .ok (.ldc 161, 2) := by decide +kernel
theorem dX10_wordOf_79 : decode cX10_wordOf 79 = .ok (.areturn, 1) := by decide +kernel
theorem dX10_wordOf_80 : decode cX10_wordOf 80 = .ok (.ldc 163, 2) := by decide +kernel
theorem dX10_wordOf_82 : decode cX10_wordOf 82 = .ok (.areturn, 1) := by decide +kernel
theorem dX10_wordOf_83 : decode cX10_wordOf 83 = .ok (.ldc 165, 2) := by decide +kernel
theorem dX10_wordOf_85 : decode cX10_wordOf 85 = .ok (.areturn, 1) := by decide +kernel
theorem dX10_wordOf_86 : decode cX10_wordOf 86 = .ok (.ldc 167, 2) := by decide +kernel
theorem dX10_wordOf_88 : decode cX10_wordOf 88 = .ok (.areturn, 1) := by decide +kernel
theorem dX10_feed_0 : decode cX10_feed 0 = .ok (.aload_n 0, 1) := by decide +kernel
theorem dX10_feed_1 : decode cX10_feed 1 = .ok (.getfield 169, 3) := by decide +kernel
theorem dX10_feed_4 : decode cX10_feed 4 = .ok (.bipush 20, 2) := by decide +kernel
theorem dX10_feed_6 : decode cX10_feed 6 = .ok (.iadd, 1) := by decide +kernel
theorem dX10_feed_7 : decode cX10_feed 7 = .ok (.sipush 800, 3) := by decide +kernel
theorem dX10_feed_10 : decode cX10_feed 10 = .ok (.if_icmp .le 5, 3) := by decide +kernel
theorem dX10_feed_13 : decode cX10_feed 13 = .ok (.iconst (-1), 1) := by decide +kernel
theorem dX10_feed_14 : decode cX10_feed 14 = .ok (.ireturn, 1) := by decide +kernel
theorem dX10_feed_15 : decode cX10_feed 15 = .ok (.aload_n 0, 1) := by decide +kernel
theorem dX10_feed_16 : decode cX10_feed 16 = .ok (.getfield 24, 3) := by decide +kernel
theorem dX10_feed_19 : decode cX10_feed 19 = .ok (.iconst 0, 1) := by decide +kernel
theorem dX10_feed_20 : decode cX10_feed 20 = .ok (.iload_n 1, 1) := by decide +kernel
theorem dX10_feed_21 : decode cX10_feed 21 = .ok (.iastore, 1) := by decide +kernel
theorem dX10_feed_22 : decode cX10_feed 22 = .ok (.aload_n 0, 1) := by decide +kernel
theorem dX10_feed_23 : decode cX10_feed 23 = .ok (.getfield 24, 3) := by decide +kernel
theorem dX10_feed_26 : decode cX10_feed 26 = .ok (.iconst 1, 1) := by decide +kernel
theorem dX10_feed_27 : decode cX10_feed 27 = .ok (.iload_n 2, 1) := by decide +kernel
theorem dX10_feed_28 : decode cX10_feed 28 = .ok (.iastore, 1) := by decide +kernel
theorem dX10_feed_29 : decode cX10_feed 29 = .ok (.aload_n 0, 1) := by decide +kernel
theorem dX10_feed_30 : decode cX10_feed 30 = .ok (.getfield 24, 3) := by decide +kernel
theorem dX10_feed_33 : decode cX10_feed 33 = .ok (.iconst 2, 1) := by decide +kernel
theorem dX10_feed_34 : decode cX10_feed 34 = .ok (.iload_n 3, 1) := by decide +kernel
theorem dX10_feed_35 : decode cX10_feed 35 = .ok (.iastore, 1) := by decide +kernel
theorem dX10_feed_36 : decode cX10_feed 36 = .ok (.aload_n 0, 1) := by decide +kernel
theorem dX10_feed_37 : decode cX10_feed 37 = .ok (.getfield 24, 3) := by decide +kernel
theorem dX10_feed_40 : decode cX10_feed 40 = .ok (.iconst 3, 1) := by decide +kernel
theorem dX10_feed_41 : decode cX10_feed 41 = .ok (.iload 4, 2) := by decide +kernel
theorem dX10_feed_43 : decode cX10_feed 43 = .ok (.iastore, 1) := by decide +kernel
theorem dX10_feed_44 : decode cX10_feed 44 = .ok (.aload_n 0, 1) := by decide +kernel
theorem dX10_feed_45 : decode cX10_feed 45 = .ok (.getfield 24, 3) := by decide +kernel
theorem dX10_feed_48 : decode cX10_feed 48 = .ok (.iconst 4, 1) := by decide +kernel
theorem dX10_feed_49 : decode cX10_feed 49 = .ok (.iload 5, 2) := by decide +kernel
theorem dX10_feed_51 : decode cX10_feed 51 = .ok (.iastore, 1) := by decide +kernel
theorem dX10_feed_52 : decode cX10_feed 52 = .ok (.iconst 0, 1) := by decide +kernel
theorem dX10_feed_53 : decode cX10_feed 53 = .ok (.istore 6, 2) := by decide +kernel
theorem dX10_feed_55 : decode cX10_feed 55 = .ok (.iload 6, 2) := by decide +kernel
theorem dX10_feed_57 : decode cX10_feed 57 = .ok (.bipush 20, 2) := by decide +kernel
theorem dX10_feed_59 : decode cX10_feed 59 = .ok (.if_icmp .ge 42, 3) := by decide +kernel
theorem dX10_feed_62 : decode cX10_feed 62 = .ok (.aload_n 0, 1) := by decide +kernel
theorem dX10_feed_63 : decode cX10_feed 63 = .ok (.getfield 20, 3) := by decide +kernel
theorem dX10_feed_66 : decode cX10_feed 66 = .ok (.aload_n 0, 1) := by decide +kernel
theorem dX10_feed_67 : decode cX10_feed 67 = .ok (.getfield 169, 3) := by decide +kernel
theorem dX10_feed_70 : decode cX10_feed 70 = .ok (.iload 6, 2) := by decide +kernel
theorem dX10_feed_72 : decode cX10_feed 72 = .ok (.iadd, 1) := by decide +kernel
theorem dX10_feed_73 : decode cX10_feed 73 = .ok (.aload_n 0, 1) := by decide +kernel
theorem dX10_feed_74 : decode cX10_feed 74 = .ok (.getfield 24, 3) := by decide +kernel
theorem dX10_feed_77 : decode cX10_feed 77 = .ok (.iload 6, 2) := by decide +kernel
theorem dX10_feed_79 : decode cX10_feed 79 = .ok (.iconst 4, 1) := by decide +kernel
theorem dX10_feed_80 : decode cX10_feed 80 = .ok (.idiv, 1) := by decide +kernel
theorem dX10_feed_81 : decode cX10_feed 81 = .ok (.iaload, 1) := by decide +kernel
theorem dX10_feed_82 : decode cX10_feed 82 = .ok (.bipush 24, 2) := by decide +kernel
theorem dX10_feed_84 : decode cX10_feed 84 = .ok (.bipush 8, 2) := by decide +kernel
theorem dX10_feed_86 : decode cX10_feed 86 = .ok (.iload 6, 2) := by decide +kernel
theorem dX10_feed_88 : decode cX10_feed 88 = .ok (.iconst 4, 1) := by decide +kernel
theorem dX10_feed_89 : decode cX10_feed 89 = .ok (.irem, 1) := by decide +kernel
theorem dX10_feed_90 : decode cX10_feed 90 = .ok (.imul, 1) := by decide +kernel
theorem dX10_feed_91 : decode cX10_feed 91 = .ok (.isub, 1) := by decide +kernel
theorem dX10_feed_92 : decode cX10_feed 92 = .ok (.ishr, 1) := by decide +kernel
theorem dX10_feed_93 : decode cX10_feed 93 = .ok (.i2b, 1) := by decide +kernel
theorem dX10_feed_94 : decode cX10_feed 94 = .ok (.bastore, 1) := by decide +kernel
theorem dX10_feed_95 : decode cX10_feed 95 = .ok (.iinc 6 1, 3) := by decide +kernel
theorem dX10_feed_98 : decode cX10_feed 98 = .ok (.goto (-43), 3) := by decide +kernel
theorem dX10_feed_101 : decode cX10_feed 101 = .ok (.aload_n 0, 1) := by decide +kernel
theorem dX10_feed_102 : decode cX10_feed 102 = .ok (.dup, 1) := by decide +kernel
theorem dX10_feed_103 : decode cX10_feed 103 = .ok (.getfield 169, 3) := by decide +kernel
theorem dX10_feed_106 : decode cX10_feed 106 = .ok (.bipush 20, 2) := by decide +kernel
theorem dX10_feed_108 : decode cX10_feed 108 = .ok (.iadd, 1) := by decide +kernel
theorem dX10_feed_109 : decode cX10_feed 109 = .ok (.putfield 169, 3) := by decide +kernel
theorem dX10_feed_112 : decode cX10_feed 112 = .ok (.aload_n 0, 1) := by decide +kernel
theorem dX10_feed_113 : decode cX10_feed 113 = .ok (.getfield 169, 3) := by decide +kernel
theorem dX10_feed_116 : decode cX10_feed 116 = .ok (.ireturn, 1) := by decide +kernel
theorem dX10_end_0 : decode cX10_end 0 = .ok (.iload_n 1, 1) := by decide +kernel
theorem dX10_end_1 : decode cX10_end 1 = .ok (.i2l, 1) := by decide +kernel
theorem dX10_end_2 : decode cX10_end 2 = .ok (.lconst 0, 1) := by decide +kernel
theorem dX10_end_3 : decode cX10_end 3 = .ok (.aload_n 0, 1) := by decide +kernel
theorem dX10_end_4 : decode cX10_end 4 = .ok (.getfield 169, 3) := by decide +kernel
theorem dX10_end_7 : decode cX10_end 7 = .ok (.i2l, 1) := by decide +kernel
theorem dX10_end_8 : decode cX10_end 8 = .ok (.invokestatic 139, 3) := by decide +kernel
theorem dX10_end_11 : decode cX10_end 11 = .ok (.ifCond .ne 5, 3) := by decide +kernel
theorem dX10_end_14 : decode cX10_end 14 = .ok (.iconst (-1), 1) := by decide +kernel
theorem dX10_end_15 : decode cX10_end 15 = .ok (.ireturn, 1) := by decide +kernel
theorem dX10_end_16 : decode cX10_end 16 = .ok (.aload_n 0, 1) := by decide +kernel
theorem dX10_end_17 : decode cX10_end 17 = .ok (.iload_n 1, 1) := by decide +kernel
theorem dX10_end_18 : decode cX10_end 18 = .ok (.putfield 169, 3) := by decide +kernel
theorem dX10_end_21 : decode cX10_end 21 = .ok (.iload_n 1, 1) := by decide +kernel
theorem dX10_end_22 : decode cX10_end 22 = .ok (.ireturn, 1) := by decide +kernel
theorem dX10_see_0 : decode cX10_see 0 = .ok (.iload_n 1, 1) := by decide +kernel
theorem dX10_see_1 : decode cX10_see 1 = .ok (.aload_n 0, 1) := by decide +kernel
theorem dX10_see_2 : decode cX10_see 2 = .ok (.getfield 172, 3) := by decide +kernel
theorem dX10_see_5 : decode cX10_see 5 = .ok (.if_icmp .ge 16, 3) := by decide +kernel
theorem dX10_see_8 : decode cX10_see 8 = .ok (.aload_n 0, 1) := by decide +kernel
theorem dX10_see_9 : decode cX10_see 9 = .ok (.getfield 20, 3) := by decide +kernel
theorem dX10_see_12 : decode cX10_see 12 = .ok (.iload_n 1, 1) := by decide +kernel
theorem dX10_see_13 : decode cX10_see 13 = .ok (.baload, 1) := by decide +kernel
theorem dX10_see_14 : decode cX10_see 14 = .ok (.sipush 255, 3) := by decide +kernel
theorem dX10_see_17 : decode cX10_see 17 = .ok (.iand, 1) := by decide +kernel
theorem dX10_see_18 : decode cX10_see 18 = .ok (.goto 4, 3) := by decide +kernel
theorem dX10_see_21 : decode cX10_see 21 = .ok (.iconst (-1), 1) := by decide +kernel
theorem dX10_see_22 : decode cX10_see 22 = .ok (.ireturn, 1) := by decide +kernel
theorem dX10_advance_0 : decode cX10_advance 0 = .ok (.aload_n 0, 1) := by decide +kernel
theorem dX10_advance_1 : decode cX10_advance 1 = .ok (.aload_n 0, 1) := by decide +kernel
theorem dX10_advance_2 : decode cX10_advance 2 = .ok (.getfield 175, 3) := by decide +kernel
theorem dX10_advance_5 : decode cX10_advance 5 = .ok (.invokevirtual 178, 3) := by decide +kernel
theorem dX10_advance_8 : decode cX10_advance 8 = .ok (.bipush 32, 2) := by decide +kernel
theorem dX10_advance_10 : decode cX10_advance 10 = .ok (.if_icmp .eq 16, 3) := by decide +kernel
theorem dX10_advance_13 : decode cX10_advance 13 = .ok (.aload_n 0, 1) := by decide +kernel
theorem dX10_advance_14 : decode cX10_advance 14 = .ok (.aload_n 0, 1) := by decide +kernel
theorem dX10_advance_15 : decode cX10_advance 15 = .ok (.getfield 175, 3) := by decide +kernel
theorem dX10_advance_18 : decode cX10_advance 18 = .ok (.invokevirtual 178, 3) := by decide +kernel
theorem dX10_advance_21 : decode cX10_advance 21 = .ok (.bipush 10, 2) := by decide +kernel
theorem dX10_advance_23 : decode cX10_advance 23 = .ok (.if_icmp .ne 16, 3) := by decide +kernel
theorem dX10_advance_26 : decode cX10_advance 26 = .ok (.aload_n 0, 1) := by decide +kernel
theorem dX10_advance_27 : decode cX10_advance 27 = .ok (.dup, 1) := by decide +kernel
theorem dX10_advance_28 : decode cX10_advance 28 = .ok (.getfield 175, 3) := by decide +kernel
theorem dX10_advance_31 : decode cX10_advance 31 = .ok (.iconst 1, 1) := by decide +kernel
theorem dX10_advance_32 : decode cX10_advance 32 = .ok (.iadd, 1) := by decide +kernel
theorem dX10_advance_33 : decode cX10_advance 33 = .ok (.putfield 175, 3) := by decide +kernel
theorem dX10_advance_36 : decode cX10_advance 36 = .ok (.goto (-36), 3) := by decide +kernel
theorem dX10_advance_39 : decode cX10_advance 39 = .ok (.aload_n 0, 1) := by decide +kernel
theorem dX10_advance_40 : decode cX10_advance 40 = .ok (.aload_n 0, 1) := by decide +kernel
theorem dX10_advance_41 : decode cX10_advance 41 = .ok (.getfield 175, 3) := by decide +kernel
theorem dX10_advance_44 : decode cX10_advance 44 = .ok (.putfield 181, 3) := by decide +kernel
theorem dX10_advance_47 : decode cX10_advance 47 = .ok (.aload_n 0, 1) := by decide +kernel
theorem dX10_advance_48 : decode cX10_advance 48 = .ok (.aload_n 0, 1) := by decide +kernel
theorem dX10_advance_49 : decode cX10_advance 49 = .ok (.getfield 175, 3) := by decide +kernel
theorem dX10_advance_52 : decode cX10_advance 52 = .ok (.invokevirtual 178, 3) := by decide +kernel
theorem dX10_advance_55 : decode cX10_advance 55 = .ok (.istore_n 1, 1) := by decide +kernel
theorem dX10_advance_56 : decode cX10_advance 56 = .ok (.iload_n 1, 1) := by decide +kernel
theorem dX10_advance_57 : decode cX10_advance 57 = .ok (.iconst (-1), 1) := by decide +kernel
theorem dX10_advance_58 : decode cX10_advance 58 = .ok (.if_icmp .ne 11, 3) := by decide +kernel
theorem dX10_advance_61 : decode cX10_advance 61 = .ok (.aload_n 0, 1) := by decide +kernel
theorem dX10_advance_62 : decode cX10_advance 62 = .ok (.iconst 0, 1) := by decide +kernel
theorem dX10_advance_63 : decode cX10_advance 63 = .ok (.putfield 184, 3) := by decide +kernel
theorem dX10_advance_66 : decode cX10_advance 66 = .ok (.goto 173, 3) := by decide +kernel
theorem dX10_advance_69 : decode cX10_advance 69 = .ok (.iload_n 1, 1) := by decide +kernel
theorem dX10_advance_70 : decode cX10_advance 70 = .ok (.i2l, 1) := by decide +kernel
theorem dX10_advance_71 : decode cX10_advance 71 = .ok (.ldc2_w 187, 3) := by decide +kernel
theorem dX10_advance_74 : decode cX10_advance 74 = .ok (.ldc2_w 189, 3) := by decide +kernel
theorem dX10_advance_77 : decode cX10_advance 77 = .ok (.invokestatic 139, 3) := by decide +kernel
theorem dX10_advance_80 : decode cX10_advance 80 = .ok (.ifCond .eq 45, 3) := by decide +kernel
theorem dX10_advance_83 : decode cX10_advance 83 = .ok (.aload_n 0, 1) := by decide +kernel
theorem dX10_advance_84 : decode cX10_advance 84 = .ok (.aload_n 0, 1) := by decide +kernel
theorem dX10_advance_85 : decode cX10_advance 85 = .ok (.getfield 175, 3) := by decide +kernel
theorem dX10_advance_88 : decode cX10_advance 88 = .ok (.invokevirtual 178, 3) := by decide +kernel
theorem dX10_advance_91 : decode cX10_advance 91 = .ok (.i2l, 1) := by decide +kernel
theorem dX10_advance_92 : decode cX10_advance 92 = .ok (.ldc2_w 187, 3) := by decide +kernel
theorem dX10_advance_95 : decode cX10_advance 95 = .ok (.ldc2_w 189, 3) := by decide +kernel
theorem dX10_advance_98 : decode cX10_advance 98 = .ok (.invokestatic 139, 3) := by decide +kernel
theorem dX10_advance_101 : decode cX10_advance 101 = .ok (.ifCond .eq 16, 3) := by decide +kernel
theorem dX10_advance_104 : decode cX10_advance 104 = .ok (.aload_n 0, 1) := by decide +kernel
theorem dX10_advance_105 : decode cX10_advance 105 = .ok (.dup, 1) := by decide +kernel
theorem dX10_advance_106 : decode cX10_advance 106 = .ok (.getfield 175, 3) := by decide +kernel
theorem dX10_advance_109 : decode cX10_advance 109 = .ok (.iconst 1, 1) := by decide +kernel
theorem dX10_advance_110 : decode cX10_advance 110 = .ok (.iadd, 1) := by decide +kernel
theorem dX10_advance_111 : decode cX10_advance 111 = .ok (.putfield 175, 3) := by decide +kernel
theorem dX10_advance_114 : decode cX10_advance 114 = .ok (.goto (-31), 3) := by decide +kernel
theorem dX10_advance_117 : decode cX10_advance 117 = .ok (.aload_n 0, 1) := by decide +kernel
theorem dX10_advance_118 : decode cX10_advance 118 = .ok (.iconst 1, 1) := by decide +kernel
theorem dX10_advance_119 : decode cX10_advance 119 = .ok (.putfield 184, 3) := by decide +kernel
theorem dX10_advance_122 : decode cX10_advance 122 = .ok (.goto 117, 3) := by decide +kernel
theorem dX10_advance_125 : decode cX10_advance 125 = .ok (.iload_n 1, 1) := by decide +kernel
theorem dX10_advance_126 : decode cX10_advance 126 = .ok (.i2l, 1) := by decide +kernel
theorem dX10_advance_127 : decode cX10_advance 127 = .ok (.ldc2_w 191, 3) := by decide +kernel
theorem dX10_advance_130 : decode cX10_advance 130 = .ok (.ldc2_w 193, 3) := by decide +kernel
theorem dX10_advance_133 : decode cX10_advance 133 = .ok (.invokestatic 139, 3) := by decide +kernel
theorem dX10_advance_136 : decode cX10_advance 136 = .ok (.ifCond .eq 78, 3) := by decide +kernel
theorem dX10_advance_139 : decode cX10_advance 139 = .ok (.aload_n 0, 1) := by decide +kernel
theorem dX10_advance_140 : decode cX10_advance 140 = .ok (.iconst 0, 1) := by decide +kernel
theorem dX10_advance_141 : decode cX10_advance 141 = .ok (.putfield 195, 3) := by decide +kernel
theorem dX10_advance_144 : decode cX10_advance 144 = .ok (.aload_n 0, 1) := by decide +kernel
theorem dX10_advance_145 : decode cX10_advance 145 = .ok (.aload_n 0, 1) := by decide +kernel
theorem dX10_advance_146 : decode cX10_advance 146 = .ok (.getfield 175, 3) := by decide +kernel
theorem dX10_advance_149 : decode cX10_advance 149 = .ok (.invokevirtual 178, 3) := by decide +kernel
theorem dX10_advance_152 : decode cX10_advance 152 = .ok (.i2l, 1) := by decide +kernel
theorem dX10_advance_153 : decode cX10_advance 153 = .ok (.ldc2_w 191, 3) := by decide +kernel
theorem dX10_advance_156 : decode cX10_advance 156 = .ok (.ldc2_w 193, 3) := by decide +kernel
theorem dX10_advance_159 : decode cX10_advance 159 = .ok (.invokestatic 139, 3) := by decide +kernel
theorem dX10_advance_162 : decode cX10_advance 162 = .ok (.ifCond .eq 44, 3) := by decide +kernel
theorem dX10_advance_165 : decode cX10_advance 165 = .ok (.aload_n 0, 1) := by decide +kernel
theorem dX10_advance_166 : decode cX10_advance 166 = .ok (.ldc 198, 2) := by decide +kernel
theorem dX10_advance_168 : decode cX10_advance 168 = .ok (.bipush 10, 2) := by decide +kernel
theorem dX10_advance_170 : decode cX10_advance 170 = .ok (.aload_n 0, 1) := by decide +kernel
theorem dX10_advance_171 : decode cX10_advance 171 = .ok (.getfield 195, 3) := by decide +kernel
theorem dX10_advance_174 : decode cX10_advance 174 = .ok (.imul, 1) := by decide +kernel
theorem dX10_advance_175 : decode cX10_advance 175 = .ok (.aload_n 0, 1) := by decide +kernel
theorem dX10_advance_176 : decode cX10_advance 176 = .ok (.aload_n 0, 1) := by decide +kernel
theorem dX10_advance_177 : decode cX10_advance 177 = .ok (.getfield 175, 3) := by decide +kernel
theorem dX10_advance_180 : decode cX10_advance 180 = .ok (.invokevirtual 178, 3) := by decide +kernel
theorem dX10_advance_183 : decode cX10_advance 183 = .ok (.iadd, 1) := by decide +kernel
theorem dX10_advance_184 : decode cX10_advance 184 = .ok (.bipush 48, 2) := by decide +kernel
theorem dX10_advance_186 : decode cX10_advance 186 = .ok (.isub, 1) := by decide +kernel
theorem dX10_advance_187 : decode cX10_advance 187 = .ok (.invokestatic 128, 3) := by decide +kernel
theorem dX10_advance_190 : decode cX10_advance 190 = .ok (.putfield 195, 3) := by decide +kernel
theorem dX10_advance_193 : decode cX10_advance 193 = .ok (.aload_n 0, 1) := by decide +kernel
theorem dX10_advance_194 : decode cX10_advance 194 = .ok (.dup, 1) := by decide +kernel
theorem dX10_advance_195 : decode cX10_advance 195 = .ok (.getfield 175, 3) := by decide +kernel
theorem dX10_advance_198 : decode cX10_advance 198 = .ok (.iconst 1, 1) := by decide +kernel
theorem dX10_advance_199 : decode cX10_advance 199 = .ok (.iadd, 1) := by decide +kernel
theorem dX10_advance_200 : decode cX10_advance 200 = .ok (.putfield 175, 3) := by decide +kernel
theorem dX10_advance_203 : decode cX10_advance 203 = .ok (.goto (-59), 3) := by decide +kernel
theorem dX10_advance_206 : decode cX10_advance 206 = .ok (.aload_n 0, 1) := by decide +kernel
theorem dX10_advance_207 : decode cX10_advance 207 = .ok (.iconst 2, 1) := by decide +kernel
theorem dX10_advance_208 : decode cX10_advance 208 = .ok (.putfield 184, 3) := by decide +kernel
theorem dX10_advance_211 : decode cX10_advance 211 = .ok (.goto 28, 3) := by decide +kernel
theorem dX10_advance_214 : decode cX10_advance 214 = .ok (.aload_n 0, 1) := by decide +kernel
theorem dX10_advance_215 : decode cX10_advance 215 = .ok (.iload_n 1, 1) := by decide +kernel
theorem dX10_advance_216 : decode cX10_advance 216 = .ok (.bipush 59, 2) := by decide +kernel
theorem dX10_advance_218 : decode cX10_advance 218 = .ok (.if_icmp .ne 7, 3) := by decide +kernel
theorem dX10_advance_221 : decode cX10_advance 221 = .ok (.iconst 3, 1) := by decide +kernel
theorem dX10_advance_222 : decode cX10_advance 222 = .ok (.goto 4, 3) := by decide +kernel
theorem dX10_advance_225 : decode cX10_advance 225 = .ok (.iconst 4, 1) := by decide +kernel
theorem dX10_advance_226 : decode cX10_advance 226 = .ok (.putfield 184, 3) := by decide +kernel
theorem dX10_advance_229 : decode cX10_advance 229 = .ok (.aload_n 0, 1) := by decide +kernel
theorem dX10_advance_230 : decode cX10_advance 230 = .ok (.dup, 1) := by decide +kernel
theorem dX10_advance_231 : decode cX10_advance 231 = .ok (.getfield 175, 3) := by decide +kernel
theorem dX10_advance_234 : decode cX10_advance 234 = .ok (.iconst 1, 1) := by decide +kernel
theorem dX10_advance_235 : decode cX10_advance 235 = .ok (.iadd, 1) := by decide +kernel
theorem dX10_advance_236 : decode cX10_advance 236 = .ok (.putfield 175, 3) := by decide +kernel
theorem dX10_advance_239 : decode cX10_advance 239 = .ok (.return_, 1) := by decide +kernel
theorem dX10_good_0 : decode cX10_good 0 = .ok (.aload_n 0, 1) := by decide +kernel
theorem dX10_good_1 : decode cX10_good 1 = .ok (.getfield 199, 3) := by decide +kernel
theorem dX10_good_4 : decode cX10_good 4 = .ok (.ifCond .ne 7, 3) := by decide +kernel
theorem dX10_good_7 : decode cX10_good 7 = .ok (.iconst 1, 1) := by decide +kernel
theorem dX10_good_8 : decode cX10_good 8 = .ok (.goto 4, 3) := by decide +kernel
theorem dX10_good_11 : decode cX10_good 11 = .ok (.iconst 0, 1) := by decide +kernel
theorem dX10_good_12 : decode cX10_good 12 = .ok (.ireturn, 1) := by decide +kernel
theorem dX10_errs_0 : decode cX10_errs 0 = .ok (.aload_n 0, 1) := by decide +kernel
theorem dX10_errs_1 : decode cX10_errs 1 = .ok (.invokevirtual 202, 3) := by decide +kernel
theorem dX10_errs_4 : decode cX10_errs 4 = .ok (.ifCond .ne 4, 3) := by decide +kernel
theorem dX10_errs_7 : decode cX10_errs 7 = .ok (.return_, 1) := by decide +kernel
theorem dX10_errs_8 : decode cX10_errs 8 = .ok (.aload_n 0, 1) := by decide +kernel
theorem dX10_errs_9 : decode cX10_errs 9 = .ok (.iload_n 1, 1) := by decide +kernel
theorem dX10_errs_10 : decode cX10_errs 10 = .ok (.putfield 199, 3) := by decide +kernel
theorem dX10_errs_13 : decode cX10_errs 13 = .ok (.aload_n 0, 1) := by decide +kernel
theorem dX10_errs_14 : decode cX10_errs 14 = .ok (.aload_n 0, 1) := by decide +kernel
theorem dX10_errs_15 : decode cX10_errs 15 = .ok (.getfield 181, 3) := by decide +kernel
theorem dX10_errs_18 : decode cX10_errs 18 = .ok (.putfield 27, 3) := by decide +kernel
theorem dX10_errs_21 : decode cX10_errs 21 = .ok (.return_, 1) := by decide +kernel
theorem dX10_is_0 : decode cX10_is 0 = .ok (.aload_n 0, 1) := by decide +kernel
theorem dX10_is_1 : decode cX10_is 1 = .ok (.invokevirtual 202, 3) := by decide +kernel
theorem dX10_is_4 : decode cX10_is 4 = .ok (.ifCond .eq 31, 3) := by decide +kernel
theorem dX10_is_7 : decode cX10_is 7 = .ok (.aload_n 0, 1) := by decide +kernel
theorem dX10_is_8 : decode cX10_is 8 = .ok (.getfield 184, 3) := by decide +kernel
theorem dX10_is_11 : decode cX10_is 11 = .ok (.iconst 1, 1) := by decide +kernel
theorem dX10_is_12 : decode cX10_is 12 = .ok (.if_icmp .ne 23, 3) := by decide +kernel
theorem dX10_is_15 : decode cX10_is 15 = .ok (.aload_n 0, 1) := by decide +kernel
theorem dX10_is_16 : decode cX10_is 16 = .ok (.getfield 175, 3) := by decide +kernel
theorem dX10_is_19 : decode cX10_is 19 = .ok (.aload_n 0, 1) := by decide +kernel
theorem dX10_is_20 : decode cX10_is 20 = .ok (.getfield 181, 3) := by decide +kernel
theorem dX10_is_23 : decode cX10_is 23 = .ok (.isub, 1) := by decide +kernel
theorem dX10_is_24 : decode cX10_is 24 = .ok (.aload_n 1, 1) := by decide +kernel
theorem dX10_is_25 : decode cX10_is 25 = .ok (.invokevirtual 206, 3) := by decide +kernel
theorem dX10_is_28 : decode cX10_is 28 = .ok (.if_icmp .ne 7, 3) := by decide +kernel
theorem dX10_is_31 : decode cX10_is 31 = .ok (.iconst 1, 1) := by decide +kernel
theorem dX10_is_32 : decode cX10_is 32 = .ok (.goto 4, 3) := by decide +kernel
theorem dX10_is_35 : decode cX10_is 35 = .ok (.iconst 0, 1) := by decide +kernel
theorem dX10_is_36 : decode cX10_is 36 = .ok (.istore_n 2, 1) := by decide +kernel
theorem dX10_is_37 : decode cX10_is 37 = .ok (.iconst 0, 1) := by decide +kernel
theorem dX10_is_38 : decode cX10_is 38 = .ok (.istore_n 3, 1) := by decide +kernel
theorem dX10_is_39 : decode cX10_is 39 = .ok (.iload_n 3, 1) := by decide +kernel
theorem dX10_is_40 : decode cX10_is 40 = .ok (.aload_n 1, 1) := by decide +kernel
theorem dX10_is_41 : decode cX10_is 41 = .ok (.invokevirtual 206, 3) := by decide +kernel
theorem dX10_is_44 : decode cX10_is 44 = .ok (.if_icmp .ge 38, 3) := by decide +kernel
theorem dX10_is_47 : decode cX10_is 47 = .ok (.iload_n 2, 1) := by decide +kernel
theorem dX10_is_48 : decode cX10_is 48 = .ok (.ifCond .eq 34, 3) := by decide +kernel
theorem dX10_is_51 : decode cX10_is 51 = .ok (.aload_n 0, 1) := by decide +kernel
theorem dX10_is_52 : decode cX10_is 52 = .ok (.getfield 20, 3) := by decide +kernel
theorem dX10_is_55 : decode cX10_is 55 = .ok (.aload_n 0, 1) := by decide +kernel
theorem dX10_is_56 : decode cX10_is 56 = .ok (.getfield 181, 3) := by decide +kernel
theorem dX10_is_59 : decode cX10_is 59 = .ok (.iload_n 3, 1) := by decide +kernel
theorem dX10_is_60 : decode cX10_is 60 = .ok (.iadd, 1) := by decide +kernel
theorem dX10_is_61 : decode cX10_is 61 = .ok (.baload, 1) := by decide +kernel
theorem dX10_is_62 : decode cX10_is 62 = .ok (.aload_n 1, 1) := by decide +kernel
theorem dX10_is_63 : decode cX10_is 63 = .ok (.iload_n 3, 1) := by decide +kernel
theorem dX10_is_64 : decode cX10_is 64 = .ok (.invokevirtual 212, 3) := by decide +kernel
theorem dX10_is_67 : decode cX10_is 67 = .ok (.if_icmp .ne 7, 3) := by decide +kernel
theorem dX10_is_70 : decode cX10_is 70 = .ok (.iconst 1, 1) := by decide +kernel
theorem dX10_is_71 : decode cX10_is 71 = .ok (.goto 4, 3) := by decide +kernel
theorem dX10_is_74 : decode cX10_is 74 = .ok (.iconst 0, 1) := by decide +kernel
theorem dX10_is_75 : decode cX10_is 75 = .ok (.istore_n 2, 1) := by decide +kernel
theorem dX10_is_76 : decode cX10_is 76 = .ok (.iinc 3 1, 3) := by decide +kernel
theorem dX10_is_79 : decode cX10_is 79 = .ok (.goto (-40), 3) := by decide +kernel
theorem dX10_is_82 : decode cX10_is 82 = .ok (.iload_n 2, 1) := by decide +kernel
theorem dX10_is_83 : decode cX10_is 83 = .ok (.ireturn, 1) := by decide +kernel
theorem dX10_expects_0 : decode cX10_expects 0 = .ok (.aload_n 0, 1) := by decide +kernel
theorem dX10_expects_1 : decode cX10_expects 1 = .ok (.aload_n 1, 1) := by decide +kernel
theorem dX10_expects_2 : decode cX10_expects 2 = .ok (.invokevirtual 216, 3) := by decide +kernel
theorem dX10_expects_5 : decode cX10_expects 5 = .ok (.ifCond .eq 10, 3) := by decide +kernel
theorem dX10_expects_8 : decode cX10_expects 8 = .ok (.aload_n 0, 1) := by decide +kernel
theorem dX10_expects_9 : decode cX10_expects 9 = .ok (.invokevirtual 220, 3) := by decide +kernel
theorem dX10_expects_12 : decode cX10_expects 12 = .ok (.goto 8, 3) := by decide +kernel
theorem dX10_expects_15 : decode cX10_expects 15 = .ok (.aload_n 0, 1) := by decide +kernel
theorem dX10_expects_16 : decode cX10_expects 16 = .ok (.iconst 1, 1) := by decide +kernel
theorem dX10_expects_17 : decode cX10_expects 17 = .ok (.invokevirtual 223, 3) := by decide +kernel
theorem dX10_expects_20 : decode cX10_expects 20 = .ok (.return_, 1) := by decide +kernel
theorem dX10_takes_0 : decode cX10_takes 0 = .ok (.aload_n 0, 1) := by decide +kernel
theorem dX10_takes_1 : decode cX10_takes 1 = .ok (.invokevirtual 202, 3) := by decide +kernel
theorem dX10_takes_4 : decode cX10_takes 4 = .ok (.ifCond .eq 16, 3) := by decide +kernel
theorem dX10_takes_7 : decode cX10_takes 7 = .ok (.aload_n 0, 1) := by decide +kernel
theorem dX10_takes_8 : decode cX10_takes 8 = .ok (.getfield 184, 3) := by decide +kernel
theorem dX10_takes_11 : decode cX10_takes 11 = .ok (.iconst 2, 1) := by decide +kernel
theorem dX10_takes_12 : decode cX10_takes 12 = .ok (.if_icmp .eq 8, 3) := by decide +kernel
theorem dX10_takes_15 : decode cX10_takes 15 = .ok (.aload_n 0, 1) := by decide +kernel
theorem dX10_takes_16 : decode cX10_takes 16 = .ok (.iconst 1, 1) := by decide +kernel
theorem dX10_takes_17 : decode cX10_takes 17 = .ok (.invokevirtual 223, 3) := by decide +kernel
theorem dX10_takes_20 : decode cX10_takes 20 = .ok (.aload_n 0, 1) := by decide +kernel
theorem dX10_takes_21 : decode cX10_takes 21 = .ok (.invokevirtual 202, 3) := by decide +kernel
theorem dX10_takes_24 : decode cX10_takes 24 = .ok (.ifCond .eq 23, 3) := by decide +kernel
theorem dX10_takes_27 : decode cX10_takes 27 = .ok (.aload_n 0, 1) := by decide +kernel
theorem dX10_takes_28 : decode cX10_takes 28 = .ok (.getfield 195, 3) := by decide +kernel
theorem dX10_takes_31 : decode cX10_takes 31 = .ok (.i2l, 1) := by decide +kernel
theorem dX10_takes_32 : decode cX10_takes 32 = .ok (.iload_n 1, 1) := by decide +kernel
theorem dX10_takes_33 : decode cX10_takes 33 = .ok (.i2l, 1) := by decide +kernel
theorem dX10_takes_34 : decode cX10_takes 34 = .ok (.iload_n 2, 1) := by decide +kernel
theorem dX10_takes_35 : decode cX10_takes 35 = .ok (.i2l, 1) := by decide +kernel
theorem dX10_takes_36 : decode cX10_takes 36 = .ok (.invokestatic 139, 3) := by decide +kernel
theorem dX10_takes_39 : decode cX10_takes 39 = .ok (.ifCond .ne 8, 3) := by decide +kernel
theorem dX10_takes_42 : decode cX10_takes 42 = .ok (.aload_n 0, 1) := by decide +kernel
theorem dX10_takes_43 : decode cX10_takes 43 = .ok (.iconst 2, 1) := by decide +kernel
theorem dX10_takes_44 : decode cX10_takes 44 = .ok (.invokevirtual 223, 3) := by decide +kernel
theorem dX10_takes_47 : decode cX10_takes 47 = .ok (.aload_n 0, 1) := by decide +kernel
theorem dX10_takes_48 : decode cX10_takes 48 = .ok (.invokevirtual 202, 3) := by decide +kernel
theorem dX10_takes_51 : decode cX10_takes 51 = .ok (.ifCond .ne 5, 3) := by decide +kernel
theorem dX10_takes_54 : decode cX10_takes 54 = .ok (.iconst 0, 1) := by decide +kernel
theorem dX10_takes_55 : decode cX10_takes 55 = .ok (.ireturn, 1) := by decide +kernel
theorem dX10_takes_56 : decode cX10_takes 56 = .ok (.aload_n 0, 1) := by decide +kernel
theorem dX10_takes_57 : decode cX10_takes 57 = .ok (.getfield 195, 3) := by decide +kernel
theorem dX10_takes_60 : decode cX10_takes 60 = .ok (.istore_n 3, 1) := by decide +kernel
theorem dX10_takes_61 : decode cX10_takes 61 = .ok (.aload_n 0, 1) := by decide +kernel
theorem dX10_takes_62 : decode cX10_takes 62 = .ok (.invokevirtual 220, 3) := by decide +kernel
theorem dX10_takes_65 : decode cX10_takes 65 = .ok (.iload_n 3, 1) := by decide +kernel
theorem dX10_takes_66 : decode cX10_takes 66 = .ok (.ireturn, 1) := by decide +kernel
theorem dX10_toldBy_0 : decode cX10_toldBy 0 = .ok (.aload_n 0, 1) := by decide +kernel
theorem dX10_toldBy_1 : decode cX10_toldBy 1 = .ok (.aload_n 1, 1) := by decide +kernel
theorem dX10_toldBy_2 : decode cX10_toldBy 2 = .ok (.invokevirtual 227, 3) := by decide +kernel
theorem dX10_toldBy_5 : decode cX10_toldBy 5 = .ok (.aload_n 0, 1) := by decide +kernel
theorem dX10_toldBy_6 : decode cX10_toldBy 6 = .ok (.iload_n 2, 1) := by decide +kernel
theorem dX10_toldBy_7 : decode cX10_toldBy 7 = .ok (.iload_n 3, 1) := by decide +kernel
theorem dX10_toldBy_8 : decode cX10_toldBy 8 = .ok (.invokevirtual 231, 3) := by decide +kernel
theorem dX10_toldBy_11 : decode cX10_toldBy 11 = .ok (.ireturn, 1) := by decide +kernel
theorem dX10_fault_0 : decode cX10_fault 0 = .ok (.iload_n 1, 1) := by decide +kernel
theorem dX10_fault_1 : decode cX10_fault 1 = .ok (.ifCond .ne 10, 3) := by decide +kernel
theorem dX10_fault_4 : decode cX10_fault 4 = .ok (.aload_n 0, 1) := by decide +kernel
theorem dX10_fault_5 : decode cX10_fault 5 = .ok (.getfield 199, 3) := by decide +kernel
theorem dX10_fault_8 : decode cX10_fault 8 = .ok (.goto 16, 3) := by decide +kernel
theorem dX10_fault_11 : decode cX10_fault 11 = .ok (.iload_n 1, 1) := by decide +kernel
theorem dX10_fault_12 : decode cX10_fault 12 = .ok (.iconst 1, 1) := by decide +kernel
theorem dX10_fault_13 : decode cX10_fault 13 = .ok (.if_icmp .ne 10, 3) := by decide +kernel
theorem dX10_fault_16 : decode cX10_fault 16 = .ok (.aload_n 0, 1) := by decide +kernel
theorem dX10_fault_17 : decode cX10_fault 17 = .ok (.getfield 27, 3) := by decide +kernel
theorem dX10_fault_20 : decode cX10_fault 20 = .ok (.goto 4, 3) := by decide +kernel
theorem dX10_fault_23 : decode cX10_fault 23 = .ok (.iconst (-1), 1) := by decide +kernel
theorem dX10_fault_24 : decode cX10_fault 24 = .ok (.ireturn, 1) := by decide +kernel
theorem dX10_readFirst_0 : decode cX10_readFirst 0 = .ok (.aload_n 0, 1) := by decide +kernel
theorem dX10_readFirst_1 : decode cX10_readFirst 1 = .ok (.ldc 234, 2) := by decide +kernel
theorem dX10_readFirst_3 : decode cX10_readFirst 3 = .ok (.invokevirtual 227, 3) := by decide +kernel
theorem dX10_readFirst_6 : decode cX10_readFirst 6 = .ok (.aload_n 0, 1) := by decide +kernel
theorem dX10_readFirst_7 : decode cX10_readFirst 7 = .ok (.getfield 31, 3) := by decide +kernel
theorem dX10_readFirst_10 : decode cX10_readFirst 10 = .ok (.iconst 0, 1) := by decide +kernel
theorem dX10_readFirst_11 : decode cX10_readFirst 11 = .ok (.aload_n 0, 1) := by decide +kernel
theorem dX10_readFirst_12 : decode cX10_readFirst 12 = .ok (.ldc 236, 2) := by decide +kernel
theorem dX10_readFirst_14 : decode cX10_readFirst 14 = .ok (.iconst 1, 1) := by decide +kernel
theorem dX10_readFirst_15 : decode cX10_readFirst 15 = .ok (.iconst 4, 1) := by decide +kernel
theorem dX10_readFirst_16 : decode cX10_readFirst 16 = .ok (.invokevirtual 238, 3) := by decide +kernel
theorem dX10_readFirst_19 : decode cX10_readFirst 19 = .ok (.iastore, 1) := by decide +kernel
theorem dX10_readFirst_20 : decode cX10_readFirst 20 = .ok (.aload_n 0, 1) := by decide +kernel
theorem dX10_readFirst_21 : decode cX10_readFirst 21 = .ok (.getfield 31, 3) := by decide +kernel
theorem dX10_readFirst_24 : decode cX10_readFirst 24 = .ok (.iconst 1, 1) := by decide +kernel
theorem dX10_readFirst_25 : decode cX10_readFirst 25 = .ok (.aload_n 0, 1) := by decide +kernel
theorem dX10_readFirst_26 : decode cX10_readFirst 26 = .ok (.ldc 242, 2) := by decide +kernel
theorem dX10_readFirst_28 : decode cX10_readFirst 28 = .ok (.iconst 2, 1) := by decide +kernel
theorem dX10_readFirst_29 : decode cX10_readFirst 29 = .ok (.bipush 6, 2) := by decide +kernel
theorem dX10_readFirst_31 : decode cX10_readFirst 31 = .ok (.invokevirtual 238, 3) := by decide +kernel
theorem dX10_readFirst_34 : decode cX10_readFirst 34 = .ok (.iastore, 1) := by decide +kernel
theorem dX10_readFirst_35 : decode cX10_readFirst 35 = .ok (.aload_n 0, 1) := by decide +kernel
theorem dX10_readFirst_36 : decode cX10_readFirst 36 = .ok (.getfield 31, 3) := by decide +kernel
theorem dX10_readFirst_39 : decode cX10_readFirst 39 = .ok (.iconst 2, 1) := by decide +kernel
theorem dX10_readFirst_40 : decode cX10_readFirst 40 = .ok (.aload_n 0, 1) := by decide +kernel
theorem dX10_readFirst_41 : decode cX10_readFirst 41 = .ok (.ldc 244, 2) := by decide +kernel
theorem dX10_readFirst_43 : decode cX10_readFirst 43 = .ok (.iconst 1, 1) := by decide +kernel
theorem dX10_readFirst_44 : decode cX10_readFirst 44 = .ok (.bipush 9, 2) := by decide +kernel
theorem dX10_readFirst_46 : decode cX10_readFirst 46 = .ok (.invokevirtual 238, 3) := by decide +kernel
theorem dX10_readFirst_49 : decode cX10_readFirst 49 = .ok (.iastore, 1) := by decide +kernel
theorem dX10_readFirst_50 : decode cX10_readFirst 50 = .ok (.aload_n 0, 1) := by decide +kernel
theorem dX10_readFirst_51 : decode cX10_readFirst 51 = .ok (.getfield 31, 3) := by decide +kernel
theorem dX10_readFirst_54 : decode cX10_readFirst 54 = .ok (.iconst 3, 1) := by decide +kernel
theorem dX10_readFirst_55 : decode cX10_readFirst 55 = .ok (.aload_n 0, 1) := by decide +kernel
theorem dX10_readFirst_56 : decode cX10_readFirst 56 = .ok (.ldc 246, 2) := by decide +kernel
theorem dX10_readFirst_58 : decode cX10_readFirst 58 = .ok (.iconst 0, 1) := by decide +kernel
theorem dX10_readFirst_59 : decode cX10_readFirst 59 = .ok (.bipush 20, 2) := by decide +kernel
theorem dX10_readFirst_61 : decode cX10_readFirst 61 = .ok (.invokevirtual 238, 3) := by decide +kernel
theorem dX10_readFirst_64 : decode cX10_readFirst 64 = .ok (.iastore, 1) := by decide +kernel
theorem dX10_readFirst_65 : decode cX10_readFirst 65 = .ok (.aload_n 0, 1) := by decide +kernel
theorem dX10_readFirst_66 : decode cX10_readFirst 66 = .ok (.getfield 31, 3) := by decide +kernel
theorem dX10_readFirst_69 : decode cX10_readFirst 69 = .ok (.iconst 4, 1) := by decide +kernel
theorem dX10_readFirst_70 : decode cX10_readFirst 70 = .ok (.aload_n 0, 1) := by decide +kernel
theorem dX10_readFirst_71 : decode cX10_readFirst 71 = .ok (.ldc 248, 2) := by decide +kernel
theorem dX10_readFirst_73 : decode cX10_readFirst 73 = .ok (.iconst 0, 1) := by decide +kernel
theorem dX10_readFirst_74 : decode cX10_readFirst 74 = .ok (.bipush 9, 2) := by decide +kernel
theorem dX10_readFirst_76 : decode cX10_readFirst 76 = .ok (.invokevirtual 238, 3) := by decide +kernel
theorem dX10_readFirst_79 : decode cX10_readFirst 79 = .ok (.iastore, 1) := by decide +kernel
theorem dX10_readFirst_80 : decode cX10_readFirst 80 = .ok (.aload_n 0, 1) := by decide +kernel
theorem dX10_readFirst_81 : decode cX10_readFirst 81 = .ok (.getfield 31, 3) := by decide +kernel
theorem dX10_readFirst_84 : decode cX10_readFirst 84 = .ok (.iconst 5, 1) := by decide +kernel
theorem dX10_readFirst_85 : decode cX10_readFirst 85 = .ok (.aload_n 0, 1) := by decide +kernel
theorem dX10_readFirst_86 : decode cX10_readFirst 86 = .ok (.ldc 250, 2) := by decide +kernel
theorem dX10_readFirst_88 : decode cX10_readFirst 88 = .ok (.iconst 0, 1) := by decide +kernel
theorem dX10_readFirst_89 : decode cX10_readFirst 89 = .ok (.bipush 7, 2) := by decide +kernel
theorem dX10_readFirst_91 : decode cX10_readFirst 91 = .ok (.invokevirtual 238, 3) := by decide +kernel
theorem dX10_readFirst_94 : decode cX10_readFirst 94 = .ok (.iastore, 1) := by decide +kernel
theorem dX10_readFirst_95 : decode cX10_readFirst 95 = .ok (.return_, 1) := by decide +kernel
theorem dX10_readSpan_0 : decode cX10_readSpan 0 = .ok (.aload_n 0, 1) := by decide +kernel
theorem dX10_readSpan_1 : decode cX10_readSpan 1 = .ok (.getfield 31, 3) := by decide +kernel
theorem dX10_readSpan_4 : decode cX10_readSpan 4 = .ok (.bipush 7, 2) := by decide +kernel
theorem dX10_readSpan_6 : decode cX10_readSpan 6 = .ok (.iaload, 1) := by decide +kernel
theorem dX10_readSpan_7 : decode cX10_readSpan 7 = .ok (.ifCond .le 8, 3) := by decide +kernel
theorem dX10_readSpan_10 : decode cX10_readSpan 10 = .ok (.aload_n 0, 1) := by decide +kernel
theorem dX10_readSpan_11 : decode cX10_readSpan 11 = .ok (.iconst 1, 1) := by decide +kernel
theorem dX10_readSpan_12 : decode cX10_readSpan 12 = .ok (.invokevirtual 223, 3) := by decide +kernel
theorem dX10_readSpan_15 : decode cX10_readSpan 15 = .ok (.aload_n 0, 1) := by decide +kernel
theorem dX10_readSpan_16 : decode cX10_readSpan 16 = .ok (.getfield 31, 3) := by decide +kernel
theorem dX10_readSpan_19 : decode cX10_readSpan 19 = .ok (.bipush 6, 2) := by decide +kernel
theorem dX10_readSpan_21 : decode cX10_readSpan 21 = .ok (.iaload, 1) := by decide +kernel
theorem dX10_readSpan_22 : decode cX10_readSpan 22 = .ok (.iconst 5, 1) := by decide +kernel
theorem dX10_readSpan_23 : decode cX10_readSpan 23 = .ok (.if_icmp .ne 8, 3) := by decide +kernel
theorem dX10_readSpan_26 : decode cX10_readSpan 26 = .ok (.aload_n 0, 1) := by decide +kernel
theorem dX10_readSpan_27 : decode cX10_readSpan 27 = .ok (.iconst 3, 1) := by decide +kernel
theorem dX10_readSpan_28 : decode cX10_readSpan 28 = .ok (.invokevirtual 223, 3) := by decide +kernel
theorem dX10_readSpan_31 : decode cX10_readSpan 31 = .ok (.aload_n 0, 1) := by decide +kernel
theorem dX10_readSpan_32 : decode cX10_readSpan 32 = .ok (.invokevirtual 202, 3) := by decide +kernel
theorem dX10_readSpan_35 : decode cX10_readSpan 35 = .ok (.ifCond .ne 4, 3) := by decide +kernel
theorem dX10_readSpan_38 : decode cX10_readSpan 38 = .ok (.return_, 1) := by decide +kernel
theorem dX10_readSpan_39 : decode cX10_readSpan 39 = .ok (.aload_n 0, 1) := by decide +kernel
theorem dX10_readSpan_40 : decode cX10_readSpan 40 = .ok (.invokevirtual 220, 3) := by decide +kernel
theorem dX10_readSpan_43 : decode cX10_readSpan 43 = .ok (.aload_n 0, 1) := by decide +kernel
theorem dX10_readSpan_44 : decode cX10_readSpan 44 = .ok (.getfield 31, 3) := by decide +kernel
theorem dX10_readSpan_47 : decode cX10_readSpan 47 = .ok (.bipush 6, 2) := by decide +kernel
theorem dX10_readSpan_49 : decode cX10_readSpan 49 = .ok (.iaload, 1) := by decide +kernel
theorem dX10_readSpan_50 : decode cX10_readSpan 50 = .ok (.ifCond .ne 7, 3) := by decide +kernel
theorem dX10_readSpan_53 : decode cX10_readSpan 53 = .ok (.iconst 1, 1) := by decide +kernel
theorem dX10_readSpan_54 : decode cX10_readSpan 54 = .ok (.goto 22, 3) := by decide +kernel
theorem dX10_readSpan_57 : decode cX10_readSpan 57 = .ok (.aload_n 0, 1) := by decide +kernel
theorem dX10_readSpan_58 : decode cX10_readSpan 58 = .ok (.getfield 31, 3) := by decide +kernel
theorem dX10_readSpan_61 : decode cX10_readSpan 61 = .ok (.bipush 10, 2) := by decide +kernel
theorem dX10_readSpan_63 : decode cX10_readSpan 63 = .ok (.aload_n 0, 1) := by decide +kernel
theorem dX10_readSpan_64 : decode cX10_readSpan 64 = .ok (.getfield 31, 3) := by decide +kernel
theorem dX10_readSpan_67 : decode cX10_readSpan 67 = .ok (.bipush 6, 2) := by decide +kernel
theorem dX10_readSpan_69 : decode cX10_readSpan 69 = .ok (.iaload, 1) := by decide +kernel
theorem dX10_readSpan_70 : decode cX10_readSpan 70 = .ok (.iadd, 1) := by decide +kernel
theorem dX10_readSpan_71 : decode cX10_readSpan 71 = .ok (.iconst 1, 1) := by decide +kernel
theorem dX10_readSpan_72 : decode cX10_readSpan 72 = .ok (.isub, 1) := by decide +kernel
theorem dX10_readSpan_73 : decode cX10_readSpan 73 = .ok (.iaload, 1) := by decide +kernel
theorem dX10_readSpan_74 : decode cX10_readSpan 74 = .ok (.iconst 1, 1) := by decide +kernel
theorem dX10_readSpan_75 : decode cX10_readSpan 75 = .ok (.iadd, 1) := by decide +kernel
theorem dX10_readSpan_76 : decode cX10_readSpan 76 = .ok (.istore_n 1, 1) := by decide +kernel
theorem dX10_readSpan_77 : decode cX10_readSpan 77 = .ok (.aload_n 0, 1) := by decide +kernel
theorem dX10_readSpan_78 : decode cX10_readSpan 78 = .ok (.getfield 31, 3) := by decide +kernel
theorem dX10_readSpan_81 : decode cX10_readSpan 81 = .ok (.bipush 10, 2) := by decide +kernel
theorem dX10_readSpan_83 : decode cX10_readSpan 83 = .ok (.aload_n 0, 1) := by decide +kernel
theorem dX10_readSpan_84 : decode cX10_readSpan 84 = .ok (.getfield 31, 3) := by decide +kernel
theorem dX10_readSpan_87 : decode cX10_readSpan 87 = .ok (.bipush 6, 2) := by decide +kernel
theorem dX10_readSpan_89 : decode cX10_readSpan 89 = .ok (.iaload, 1) := by decide +kernel
theorem dX10_readSpan_90 : decode cX10_readSpan 90 = .ok (.iadd, 1) := by decide +kernel
theorem dX10_readSpan_91 : decode cX10_readSpan 91 = .ok (.aload_n 0, 1) := by decide +kernel
theorem dX10_readSpan_92 : decode cX10_readSpan 92 = .ok (.iload_n 1, 1) := by decide +kernel
theorem dX10_readSpan_93 : decode cX10_readSpan 93 = .ok (.bipush 40, 2) := by decide +kernel
theorem dX10_readSpan_95 : decode cX10_readSpan 95 = .ok (.invokevirtual 231, 3) := by decide +kernel
theorem dX10_readSpan_98 : decode cX10_readSpan 98 = .ok (.iastore, 1) := by decide +kernel
theorem dX10_readSpan_99 : decode cX10_readSpan 99 = .ok (.aload_n 0, 1) := by decide +kernel
theorem dX10_readSpan_100 : decode cX10_readSpan 100 = .ok (.getfield 31, 3) := by decide +kernel
theorem dX10_readSpan_103 : decode cX10_readSpan 103 = .ok (.bipush 6, 2) := by decide +kernel
theorem dX10_readSpan_105 : decode cX10_readSpan 105 = .ok (.dup2, 1) := by decide +kernel
theorem dX10_readSpan_106 : decode cX10_readSpan 106 = .ok (.iaload, 1) := by decide +kernel
theorem dX10_readSpan_107 : decode cX10_readSpan 107 = .ok (.iconst 1, 1) := by decide +kernel
theorem dX10_readSpan_108 : decode cX10_readSpan 108 = .ok (.iadd, 1) := by decide +kernel
theorem dX10_readSpan_109 : decode cX10_readSpan 109 = .ok (.iastore, 1) := by decide +kernel
theorem dX10_readSpan_110 : decode cX10_readSpan 110 = .ok (.return_, 1) := by decide +kernel
theorem dX10_kindRead_0 : decode cX10_kindRead 0 = .ok (.iconst 0, 1) := by decide +kernel
theorem dX10_kindRead_1 : decode cX10_kindRead 1 = .ok (.istore_n 1, 1) := by decide +kernel
theorem dX10_kindRead_2 : decode cX10_kindRead 2 = .ok (.iload_n 1, 1) := by decide +kernel
theorem dX10_kindRead_3 : decode cX10_kindRead 3 = .ok (.bipush 10, 2) := by decide +kernel
theorem dX10_kindRead_5 : decode cX10_kindRead 5 = .ok (.if_icmp .gt 22, 3) := by decide +kernel
theorem dX10_kindRead_8 : decode cX10_kindRead 8 = .ok (.aload_n 0, 1) := by decide +kernel
theorem dX10_kindRead_9 : decode cX10_kindRead 9 = .ok (.iload_n 1, 1) := by decide +kernel
theorem dX10_kindRead_10 : decode cX10_kindRead 10 = .ok (.invokestatic 252, 3) := by decide +kernel
theorem dX10_kindRead_13 : decode cX10_kindRead 13 = .ok (.invokevirtual 216, 3) := by decide +kernel
theorem dX10_kindRead_16 : decode cX10_kindRead 16 = .ok (.ifCond .eq 5, 3) := by decide +kernel
theorem dX10_kindRead_19 : decode cX10_kindRead 19 = .ok (.iload_n 1, 1) := by decide +kernel
theorem dX10_kindRead_20 : decode cX10_kindRead 20 = .ok (.ireturn, 1) := by decide +kernel
theorem dX10_kindRead_21 : decode cX10_kindRead 21 = .ok (.iinc 1 1, 3) := by decide +kernel
theorem dX10_kindRead_24 : decode cX10_kindRead 24 = .ok (.goto (-22), 3) := by decide +kernel
theorem dX10_kindRead_27 : decode cX10_kindRead 27 = .ok (.iconst (-1), 1) := by decide +kernel
theorem dX10_kindRead_28 : decode cX10_kindRead 28 = .ok (.ireturn, 1) := by decide +kernel
theorem dX10_readOp_0 : decode cX10_readOp 0 = .ok (.aload_n 0, 1) := by decide +kernel
theorem dX10_readOp_1 : decode cX10_readOp 1 = .ok (.invokevirtual 256, 3) := by decide +kernel
theorem dX10_readOp_4 : decode cX10_readOp 4 = .ok (.istore_n 1, 1) := by decide +kernel
theorem dX10_readOp_5 : decode cX10_readOp 5 = .ok (.iload_n 1, 1) := by decide +kernel
theorem dX10_readOp_6 : decode cX10_readOp 6 = .ok (.iconst (-1), 1) := by decide +kernel
theorem dX10_readOp_7 : decode cX10_readOp 7 = .ok (.if_icmp .ne 8, 3) := by decide +kernel
theorem dX10_readOp_10 : decode cX10_readOp 10 = .ok (.aload_n 0, 1) := by decide +kernel
theorem dX10_readOp_11 : decode cX10_readOp 11 = .ok (.iconst 1, 1) := by decide +kernel
theorem dX10_readOp_12 : decode cX10_readOp 12 = .ok (.invokevirtual 223, 3) := by decide +kernel
theorem dX10_readOp_15 : decode cX10_readOp 15 = .ok (.aload_n 0, 1) := by decide +kernel
theorem dX10_readOp_16 : decode cX10_readOp 16 = .ok (.getfield 31, 3) := by decide +kernel
theorem dX10_readOp_19 : decode cX10_readOp 19 = .ok (.bipush 7, 2) := by decide +kernel
theorem dX10_readOp_21 : decode cX10_readOp 21 = .ok (.iaload, 1) := by decide +kernel
theorem dX10_readOp_22 : decode cX10_readOp 22 = .ok (.bipush 40, 2) := by decide +kernel
theorem dX10_readOp_24 : decode cX10_readOp 24 = .ok (.if_icmp .ne 8, 3) := by decide +kernel
theorem dX10_readOp_27 : decode cX10_readOp 27 = .ok (.aload_n 0, 1) := by decide +kernel
theorem dX10_readOp_28 : decode cX10_readOp 28 = .ok (.iconst 3, 1) := by decide +kernel
theorem dX10_readOp_29 : decode cX10_readOp 29 = .ok (.invokevirtual 223, 3) := by decide +kernel
theorem dX10_readOp_32 : decode cX10_readOp 32 = .ok (.aload_n 0, 1) := by decide +kernel
theorem dX10_readOp_33 : decode cX10_readOp 33 = .ok (.invokevirtual 202, 3) := by decide +kernel
theorem dX10_readOp_36 : decode cX10_readOp 36 = .ok (.ifCond .ne 4, 3) := by decide +kernel
theorem dX10_readOp_39 : decode cX10_readOp 39 = .ok (.return_, 1) := by decide +kernel
theorem dX10_readOp_40 : decode cX10_readOp 40 = .ok (.aload_n 0, 1) := by decide +kernel
theorem dX10_readOp_41 : decode cX10_readOp 41 = .ok (.invokevirtual 220, 3) := by decide +kernel
theorem dX10_readOp_44 : decode cX10_readOp 44 = .ok (.bipush 15, 2) := by decide +kernel
theorem dX10_readOp_46 : decode cX10_readOp 46 = .ok (.iconst 4, 1) := by decide +kernel
theorem dX10_readOp_47 : decode cX10_readOp 47 = .ok (.aload_n 0, 1) := by decide +kernel
theorem dX10_readOp_48 : decode cX10_readOp 48 = .ok (.getfield 31, 3) := by decide +kernel
theorem dX10_readOp_51 : decode cX10_readOp 51 = .ok (.bipush 7, 2) := by decide +kernel
theorem dX10_readOp_53 : decode cX10_readOp 53 = .ok (.iaload, 1) := by decide +kernel
theorem dX10_readOp_54 : decode cX10_readOp 54 = .ok (.imul, 1) := by decide +kernel
theorem dX10_readOp_55 : decode cX10_readOp 55 = .ok (.iadd, 1) := by decide +kernel
theorem dX10_readOp_56 : decode cX10_readOp 56 = .ok (.istore_n 2, 1) := by decide +kernel
theorem dX10_readOp_57 : decode cX10_readOp 57 = .ok (.aload_n 0, 1) := by decide +kernel
theorem dX10_readOp_58 : decode cX10_readOp 58 = .ok (.getfield 31, 3) := by decide +kernel
theorem dX10_readOp_61 : decode cX10_readOp 61 = .ok (.iload_n 2, 1) := by decide +kernel
theorem dX10_readOp_62 : decode cX10_readOp 62 = .ok (.iload_n 1, 1) := by decide +kernel
theorem dX10_readOp_63 : decode cX10_readOp 63 = .ok (.iastore, 1) := by decide +kernel
theorem dX10_readOp_64 : decode cX10_readOp 64 = .ok (.iconst 0, 1) := by decide +kernel
theorem dX10_readOp_65 : decode cX10_readOp 65 = .ok (.istore_n 3, 1) := by decide +kernel
theorem dX10_readOp_66 : decode cX10_readOp 66 = .ok (.iload_n 3, 1) := by decide +kernel
theorem dX10_readOp_67 : decode cX10_readOp 67 = .ok (.iconst 3, 1) := by decide +kernel
theorem dX10_readOp_68 : decode cX10_readOp 68 = .ok (.if_icmp .ge 41, 3) := by decide +kernel
theorem dX10_readOp_71 : decode cX10_readOp 71 = .ok (.aload_n 0, 1) := by decide +kernel
theorem dX10_readOp_72 : decode cX10_readOp 72 = .ok (.getfield 31, 3) := by decide +kernel
theorem dX10_readOp_75 : decode cX10_readOp 75 = .ok (.iload_n 2, 1) := by decide +kernel
theorem dX10_readOp_76 : decode cX10_readOp 76 = .ok (.iconst 1, 1) := by decide +kernel
theorem dX10_readOp_77 : decode cX10_readOp 77 = .ok (.iadd, 1) := by decide +kernel
theorem dX10_readOp_78 : decode cX10_readOp 78 = .ok (.iload_n 3, 1) := by decide +kernel
theorem dX10_readOp_79 : decode cX10_readOp 79 = .ok (.iadd, 1) := by decide +kernel
theorem dX10_readOp_80 : decode cX10_readOp 80 = .ok (.iload_n 3, 1) := by decide +kernel
theorem dX10_readOp_81 : decode cX10_readOp 81 = .ok (.iload_n 1, 1) := by decide +kernel
theorem dX10_readOp_82 : decode cX10_readOp 82 = .ok (.invokestatic 143, 3) := by decide +kernel
theorem dX10_readOp_85 : decode cX10_readOp 85 = .ok (.if_icmp .ge 16, 3) := by decide +kernel
theorem dX10_readOp_88 : decode cX10_readOp 88 = .ok (.aload_n 0, 1) := by decide +kernel
theorem dX10_readOp_89 : decode cX10_readOp 89 = .ok (.iconst 0, 1) := by decide +kernel
theorem dX10_readOp_90 : decode cX10_readOp 90 = .ok (.iload_n 1, 1) := by decide +kernel
theorem dX10_readOp_91 : decode cX10_readOp 91 = .ok (.iload_n 3, 1) := by decide +kernel
theorem dX10_readOp_92 : decode cX10_readOp 92 = .ok (.invokestatic 259, 3) := by decide +kernel
theorem dX10_readOp_95 : decode cX10_readOp 95 = .ok (.invokevirtual 231, 3) := by decide +kernel
theorem dX10_readOp_98 : decode cX10_readOp 98 = .ok (.goto 4, 3) := by decide +kernel
theorem dX10_readOp_101 : decode cX10_readOp 101 = .ok (.iconst (-1), 1) := by decide +kernel
theorem dX10_readOp_102 : decode cX10_readOp 102 = .ok (.iastore, 1) := by decide +kernel
theorem dX10_readOp_103 : decode cX10_readOp 103 = .ok (.iinc 3 1, 3) := by decide +kernel
theorem dX10_readOp_106 : decode cX10_readOp 106 = .ok (.goto (-40), 3) := by decide +kernel
theorem dX10_readOp_109 : decode cX10_readOp 109 = .ok (.aload_n 0, 1) := by decide +kernel
theorem dX10_readOp_110 : decode cX10_readOp 110 = .ok (.getfield 31, 3) := by decide +kernel
theorem dX10_readOp_113 : decode cX10_readOp 113 = .ok (.bipush 7, 2) := by decide +kernel
theorem dX10_readOp_115 : decode cX10_readOp 115 = .ok (.dup2, 1) := by decide +kernel
theorem dX10_readOp_116 : decode cX10_readOp 116 = .ok (.iaload, 1) := by decide +kernel
theorem dX10_readOp_117 : decode cX10_readOp 117 = .ok (.iconst 1, 1) := by decide +kernel
theorem dX10_readOp_118 : decode cX10_readOp 118 = .ok (.iadd, 1) := by decide +kernel
theorem dX10_readOp_119 : decode cX10_readOp 119 = .ok (.iastore, 1) := by decide +kernel
theorem dX10_readOp_120 : decode cX10_readOp 120 = .ok (.return_, 1) := by decide +kernel
theorem dX10_readText_0 : decode cX10_readText 0 = .ok (.aload_n 0, 1) := by decide +kernel
theorem dX10_readText_1 : decode cX10_readText 1 = .ok (.getfield 31, 3) := by decide +kernel
theorem dX10_readText_4 : decode cX10_readText 4 = .ok (.bipush 9, 2) := by decide +kernel
theorem dX10_readText_6 : decode cX10_readText 6 = .ok (.iaload, 1) := by decide +kernel
theorem dX10_readText_7 : decode cX10_readText 7 = .ok (.ifCond .ne 10, 3) := by decide +kernel
theorem dX10_readText_10 : decode cX10_readText 10 = .ok (.aload_n 0, 1) := by decide +kernel
theorem dX10_readText_11 : decode cX10_readText 11 = .ok (.invokevirtual 262, 3) := by decide +kernel
theorem dX10_readText_14 : decode cX10_readText 14 = .ok (.goto 24, 3) := by decide +kernel
theorem dX10_readText_17 : decode cX10_readText 17 = .ok (.aload_n 0, 1) := by decide +kernel
theorem dX10_readText_18 : decode cX10_readText 18 = .ok (.ldc_w 265, 3) := by decide +kernel
theorem dX10_readText_21 : decode cX10_readText 21 = .ok (.invokevirtual 216, 3) := by decide +kernel
theorem dX10_readText_24 : decode cX10_readText 24 = .ok (.ifCond .eq 10, 3) := by decide +kernel
theorem dX10_readText_27 : decode cX10_readText 27 = .ok (.aload_n 0, 1) := by decide +kernel
theorem dX10_readText_28 : decode cX10_readText 28 = .ok (.invokevirtual 267, 3) := by decide +kernel
theorem dX10_readText_31 : decode cX10_readText 31 = .ok (.goto 7, 3) := by decide +kernel
theorem dX10_readText_34 : decode cX10_readText 34 = .ok (.aload_n 0, 1) := by decide +kernel
theorem dX10_readText_35 : decode cX10_readText 35 = .ok (.invokevirtual 270, 3) := by decide +kernel
theorem dX10_readText_38 : decode cX10_readText 38 = .ok (.aload_n 0, 1) := by decide +kernel
theorem dX10_readText_39 : decode cX10_readText 39 = .ok (.invokevirtual 202, 3) := by decide +kernel
theorem dX10_readText_42 : decode cX10_readText 42 = .ok (.ifCond .eq 16, 3) := by decide +kernel
theorem dX10_readText_45 : decode cX10_readText 45 = .ok (.aload_n 0, 1) := by decide +kernel
theorem dX10_readText_46 : decode cX10_readText 46 = .ok (.getfield 184, 3) := by decide +kernel
theorem dX10_readText_49 : decode cX10_readText 49 = .ok (.iconst 3, 1) := by decide +kernel
theorem dX10_readText_50 : decode cX10_readText 50 = .ok (.if_icmp .eq 8, 3) := by decide +kernel
theorem dX10_readText_53 : decode cX10_readText 53 = .ok (.aload_n 0, 1) := by decide +kernel
theorem dX10_readText_54 : decode cX10_readText 54 = .ok (.iconst 1, 1) := by decide +kernel
theorem dX10_readText_55 : decode cX10_readText 55 = .ok (.invokevirtual 223, 3) := by decide +kernel
theorem dX10_readText_58 : decode cX10_readText 58 = .ok (.aload_n 0, 1) := by decide +kernel
theorem dX10_readText_59 : decode cX10_readText 59 = .ok (.invokevirtual 202, 3) := by decide +kernel
theorem dX10_readText_62 : decode cX10_readText 62 = .ok (.ifCond .eq 7, 3) := by decide +kernel
theorem dX10_readText_65 : decode cX10_readText 65 = .ok (.aload_n 0, 1) := by decide +kernel
theorem dX10_readText_66 : decode cX10_readText 66 = .ok (.invokevirtual 220, 3) := by decide +kernel
theorem dX10_readText_69 : decode cX10_readText 69 = .ok (.aload_n 0, 1) := by decide +kernel
theorem dX10_readText_70 : decode cX10_readText 70 = .ok (.getfield 31, 3) := by decide +kernel
theorem dX10_readText_73 : decode cX10_readText 73 = .ok (.bipush 9, 2) := by decide +kernel
theorem dX10_readText_75 : decode cX10_readText 75 = .ok (.dup2, 1) := by decide +kernel
theorem dX10_readText_76 : decode cX10_readText 76 = .ok (.iaload, 1) := by decide +kernel
theorem dX10_readText_77 : decode cX10_readText 77 = .ok (.iconst 1, 1) := by decide +kernel
theorem dX10_readText_78 : decode cX10_readText 78 = .ok (.iadd, 1) := by decide +kernel
theorem dX10_readText_79 : decode cX10_readText 79 = .ok (.iastore, 1) := by decide +kernel
theorem dX10_readText_80 : decode cX10_readText 80 = .ok (.return_, 1) := by decide +kernel
theorem dX10_program_0 : decode cX10_program 0 = .ok (.aload_n 0, 1) := by decide +kernel
theorem dX10_program_1 : decode cX10_program 1 = .ok (.aload_n 0, 1) := by decide +kernel
theorem dX10_program_2 : decode cX10_program 2 = .ok (.getfield 169, 3) := by decide +kernel
theorem dX10_program_5 : decode cX10_program 5 = .ok (.putfield 172, 3) := by decide +kernel
theorem dX10_program_8 : decode cX10_program 8 = .ok (.aload_n 0, 1) := by decide +kernel
theorem dX10_program_9 : decode cX10_program 9 = .ok (.iconst 0, 1) := by decide +kernel
theorem dX10_program_10 : decode cX10_program 10 = .ok (.putfield 169, 3) := by decide +kernel
theorem dX10_program_13 : decode cX10_program 13 = .ok (.aload_n 0, 1) := by decide +kernel
theorem dX10_program_14 : decode cX10_program 14 = .ok (.iconst 0, 1) := by decide +kernel
theorem dX10_program_15 : decode cX10_program 15 = .ok (.putfield 175, 3) := by decide +kernel
theorem dX10_program_18 : decode cX10_program 18 = .ok (.aload_n 0, 1) := by decide +kernel
theorem dX10_program_19 : decode cX10_program 19 = .ok (.iconst 0, 1) := by decide +kernel
theorem dX10_program_20 : decode cX10_program 20 = .ok (.putfield 199, 3) := by decide +kernel
theorem dX10_program_23 : decode cX10_program 23 = .ok (.aload_n 0, 1) := by decide +kernel
theorem dX10_program_24 : decode cX10_program 24 = .ok (.iconst (-1), 1) := by decide +kernel
theorem dX10_program_25 : decode cX10_program 25 = .ok (.putfield 27, 3) := by decide +kernel
theorem dX10_program_28 : decode cX10_program 28 = .ok (.iconst 0, 1) := by decide +kernel
theorem dX10_program_29 : decode cX10_program 29 = .ok (.istore_n 1, 1) := by decide +kernel
theorem dX10_program_30 : decode cX10_program 30 = .ok (.iload_n 1, 1) := by decide +kernel
theorem dX10_program_31 : decode cX10_program 31 = .ok (.sipush 215, 3) := by decide +kernel
theorem dX10_program_34 : decode cX10_program 34 = .ok (.if_icmp .ge 16, 3) := by decide +kernel
theorem dX10_program_37 : decode cX10_program 37 = .ok (.aload_n 0, 1) := by decide +kernel
theorem dX10_program_38 : decode cX10_program 38 = .ok (.getfield 31, 3) := by decide +kernel
theorem dX10_program_41 : decode cX10_program 41 = .ok (.iload_n 1, 1) := by decide +kernel
theorem dX10_program_42 : decode cX10_program 42 = .ok (.iconst 0, 1) := by decide +kernel
theorem dX10_program_43 : decode cX10_program 43 = .ok (.iastore, 1) := by decide +kernel
theorem dX10_program_44 : decode cX10_program 44 = .ok (.iinc 1 1, 3) := by decide +kernel
theorem dX10_program_47 : decode cX10_program 47 = .ok (.goto (-17), 3) := by decide +kernel
theorem dX10_program_50 : decode cX10_program 50 = .ok (.aload_n 0, 1) := by decide +kernel
theorem dX10_program_51 : decode cX10_program 51 = .ok (.invokevirtual 220, 3) := by decide +kernel
theorem dX10_program_54 : decode cX10_program 54 = .ok (.aload_n 0, 1) := by decide +kernel
theorem dX10_program_55 : decode cX10_program 55 = .ok (.invokevirtual 202, 3) := by decide +kernel
theorem dX10_program_58 : decode cX10_program 58 = .ok (.ifCond .eq 17, 3) := by decide +kernel
theorem dX10_program_61 : decode cX10_program 61 = .ok (.aload_n 0, 1) := by decide +kernel
theorem dX10_program_62 : decode cX10_program 62 = .ok (.getfield 184, 3) := by decide +kernel
theorem dX10_program_65 : decode cX10_program 65 = .ok (.ifCond .eq 10, 3) := by decide +kernel
theorem dX10_program_68 : decode cX10_program 68 = .ok (.aload_n 0, 1) := by decide +kernel
theorem dX10_program_69 : decode cX10_program 69 = .ok (.invokevirtual 273, 3) := by decide +kernel
theorem dX10_program_72 : decode cX10_program 72 = .ok (.goto (-18), 3) := by decide +kernel
theorem dX10_program_75 : decode cX10_program 75 = .ok (.aload_n 0, 1) := by decide +kernel
theorem dX10_program_76 : decode cX10_program 76 = .ok (.invokevirtual 202, 3) := by decide +kernel
theorem dX10_program_79 : decode cX10_program 79 = .ok (.ifCond .ne 6, 3) := by decide +kernel
theorem dX10_program_82 : decode cX10_program 82 = .ok (.bipush (-4), 2) := by decide +kernel
theorem dX10_program_84 : decode cX10_program 84 = .ok (.ireturn, 1) := by decide +kernel
theorem dX10_program_85 : decode cX10_program 85 = .ok (.iconst 0, 1) := by decide +kernel
theorem dX10_program_86 : decode cX10_program 86 = .ok (.istore_n 1, 1) := by decide +kernel
theorem dX10_program_87 : decode cX10_program 87 = .ok (.iload_n 1, 1) := by decide +kernel
theorem dX10_program_88 : decode cX10_program 88 = .ok (.sipush 215, 3) := by decide +kernel
theorem dX10_program_91 : decode cX10_program 91 = .ok (.if_icmp .ge 21, 3) := by decide +kernel
theorem dX10_program_94 : decode cX10_program 94 = .ok (.aload_n 0, 1) := by decide +kernel
theorem dX10_program_95 : decode cX10_program 95 = .ok (.getfield 9, 3) := by decide +kernel
theorem dX10_program_98 : decode cX10_program 98 = .ok (.iload_n 1, 1) := by decide +kernel
theorem dX10_program_99 : decode cX10_program 99 = .ok (.aload_n 0, 1) := by decide +kernel
theorem dX10_program_100 : decode cX10_program 100 = .ok (.getfield 31, 3) := by decide +kernel
theorem dX10_program_103 : decode cX10_program 103 = .ok (.iload_n 1, 1) := by decide +kernel
theorem dX10_program_104 : decode cX10_program 104 = .ok (.iaload, 1) := by decide +kernel
theorem dX10_program_105 : decode cX10_program 105 = .ok (.iastore, 1) := by decide +kernel
theorem dX10_program_106 : decode cX10_program 106 = .ok (.iinc 1 1, 3) := by decide +kernel
theorem dX10_program_109 : decode cX10_program 109 = .ok (.goto (-22), 3) := by decide +kernel
theorem dX10_program_112 : decode cX10_program 112 = .ok (.aload_n 0, 1) := by decide +kernel
theorem dX10_program_113 : decode cX10_program 113 = .ok (.getfield 9, 3) := by decide +kernel
theorem dX10_program_116 : decode cX10_program 116 = .ok (.bipush 9, 2) := by decide +kernel
theorem dX10_program_118 : decode cX10_program 118 = .ok (.iaload, 1) := by decide +kernel
theorem dX10_program_119 : decode cX10_program 119 = .ok (.ireturn, 1) := by decide +kernel
theorem dX10_modulo_0 : decode cX10_modulo 0 = .ok (.iload_n 0, 1) := by decide +kernel
theorem dX10_modulo_1 : decode cX10_modulo 1 = .ok (.sipush 1000, 3) := by decide +kernel
theorem dX10_modulo_4 : decode cX10_modulo 4 = .ok (.iadd, 1) := by decide +kernel
theorem dX10_modulo_5 : decode cX10_modulo 5 = .ok (.sipush 1000, 3) := by decide +kernel
theorem dX10_modulo_8 : decode cX10_modulo 8 = .ok (.irem, 1) := by decide +kernel
theorem dX10_modulo_9 : decode cX10_modulo 9 = .ok (.ireturn, 1) := by decide +kernel
theorem dX10_obey_0 : decode cX10_obey 0 = .ok (.iload_n 0, 1) := by decide +kernel
theorem dX10_obey_1 : decode cX10_obey 1 = .ok (.tableswitch 125 0 4 #[35, 45, 65, 85, 100], 35) := by decide +kernel
theorem dX10_obey_36 : decode cX10_obey 36 = .ok (.aload_n 3, 1) := by decide +kernel
theorem dX10_obey_37 : decode cX10_obey 37 = .ok (.iload 4, 2) := by decide +kernel
theorem dX10_obey_39 : decode cX10_obey 39 = .ok (.iload_n 1, 1) := by decide +kernel
theorem dX10_obey_40 : decode cX10_obey 40 = .ok (.iadd, 1) := by decide +kernel
theorem dX10_obey_41 : decode cX10_obey 41 = .ok (.iload_n 2, 1) := by decide +kernel
theorem dX10_obey_42 : decode cX10_obey 42 = .ok (.iastore, 1) := by decide +kernel
theorem dX10_obey_43 : decode cX10_obey 43 = .ok (.goto 105, 3) := by decide +kernel
theorem dX10_obey_46 : decode cX10_obey 46 = .ok (.aload_n 3, 1) := by decide +kernel
theorem dX10_obey_47 : decode cX10_obey 47 = .ok (.iload 4, 2) := by decide +kernel
theorem dX10_obey_49 : decode cX10_obey 49 = .ok (.iload_n 1, 1) := by decide +kernel
theorem dX10_obey_50 : decode cX10_obey 50 = .ok (.iadd, 1) := by decide +kernel
theorem dX10_obey_51 : decode cX10_obey 51 = .ok (.aload_n 3, 1) := by decide +kernel
theorem dX10_obey_52 : decode cX10_obey 52 = .ok (.iload 4, 2) := by decide +kernel
theorem dX10_obey_54 : decode cX10_obey 54 = .ok (.iload_n 1, 1) := by decide +kernel
theorem dX10_obey_55 : decode cX10_obey 55 = .ok (.iadd, 1) := by decide +kernel
theorem dX10_obey_56 : decode cX10_obey 56 = .ok (.iaload, 1) := by decide +kernel
theorem dX10_obey_57 : decode cX10_obey 57 = .ok (.iload_n 2, 1) := by decide +kernel
theorem dX10_obey_58 : decode cX10_obey 58 = .ok (.iadd, 1) := by decide +kernel
theorem dX10_obey_59 : decode cX10_obey 59 = .ok (.invokestatic 276, 3) := by decide +kernel
theorem dX10_obey_62 : decode cX10_obey 62 = .ok (.iastore, 1) := by decide +kernel
theorem dX10_obey_63 : decode cX10_obey 63 = .ok (.goto 85, 3) := by decide +kernel
theorem dX10_obey_66 : decode cX10_obey 66 = .ok (.aload_n 3, 1) := by decide +kernel
theorem dX10_obey_67 : decode cX10_obey 67 = .ok (.iload 4, 2) := by decide +kernel
theorem dX10_obey_69 : decode cX10_obey 69 = .ok (.iload_n 1, 1) := by decide +kernel
theorem dX10_obey_70 : decode cX10_obey 70 = .ok (.iadd, 1) := by decide +kernel
theorem dX10_obey_71 : decode cX10_obey 71 = .ok (.aload_n 3, 1) := by decide +kernel
theorem dX10_obey_72 : decode cX10_obey 72 = .ok (.iload 4, 2) := by decide +kernel
theorem dX10_obey_74 : decode cX10_obey 74 = .ok (.iload_n 1, 1) := by decide +kernel
theorem dX10_obey_75 : decode cX10_obey 75 = .ok (.iadd, 1) := by decide +kernel
theorem dX10_obey_76 : decode cX10_obey 76 = .ok (.iaload, 1) := by decide +kernel
theorem dX10_obey_77 : decode cX10_obey 77 = .ok (.iload_n 2, 1) := by decide +kernel
theorem dX10_obey_78 : decode cX10_obey 78 = .ok (.isub, 1) := by decide +kernel
theorem dX10_obey_79 : decode cX10_obey 79 = .ok (.invokestatic 276, 3) := by decide +kernel
theorem dX10_obey_82 : decode cX10_obey 82 = .ok (.iastore, 1) := by decide +kernel
theorem dX10_obey_83 : decode cX10_obey 83 = .ok (.goto 65, 3) := by decide +kernel
theorem dX10_obey_86 : decode cX10_obey 86 = .ok (.aload_n 3, 1) := by decide +kernel
theorem dX10_obey_87 : decode cX10_obey 87 = .ok (.iload 4, 2) := by decide +kernel
theorem dX10_obey_89 : decode cX10_obey 89 = .ok (.iload_n 1, 1) := by decide +kernel
theorem dX10_obey_90 : decode cX10_obey 90 = .ok (.iadd, 1) := by decide +kernel
theorem dX10_obey_91 : decode cX10_obey 91 = .ok (.aload_n 3, 1) := by decide +kernel
theorem dX10_obey_92 : decode cX10_obey 92 = .ok (.iload 4, 2) := by decide +kernel
theorem dX10_obey_94 : decode cX10_obey 94 = .ok (.iload_n 2, 1) := by decide +kernel
theorem dX10_obey_95 : decode cX10_obey 95 = .ok (.iadd, 1) := by decide +kernel
theorem dX10_obey_96 : decode cX10_obey 96 = .ok (.iaload, 1) := by decide +kernel
theorem dX10_obey_97 : decode cX10_obey 97 = .ok (.iastore, 1) := by decide +kernel
theorem dX10_obey_98 : decode cX10_obey 98 = .ok (.goto 50, 3) := by decide +kernel
theorem dX10_obey_101 : decode cX10_obey 101 = .ok (.aload_n 3, 1) := by decide +kernel
theorem dX10_obey_102 : decode cX10_obey 102 = .ok (.iload 4, 2) := by decide +kernel
theorem dX10_obey_104 : decode cX10_obey 104 = .ok (.iload_n 1, 1) := by decide +kernel
theorem dX10_obey_105 : decode cX10_obey 105 = .ok (.iadd, 1) := by decide +kernel
theorem dX10_obey_106 : decode cX10_obey 106 = .ok (.aload_n 3, 1) := by decide +kernel
theorem dX10_obey_107 : decode cX10_obey 107 = .ok (.iload 4, 2) := by decide +kernel
theorem dX10_obey_109 : decode cX10_obey 109 = .ok (.iload_n 1, 1) := by decide +kernel
theorem dX10_obey_110 : decode cX10_obey 110 = .ok (.iadd, 1) := by decide +kernel
theorem dX10_obey_111 : decode cX10_obey 111 = .ok (.iaload, 1) := by decide +kernel
theorem dX10_obey_112 : decode cX10_obey 112 = .ok (.aload_n 3, 1) := by decide +kernel
theorem dX10_obey_113 : decode cX10_obey 113 = .ok (.iload 4, 2) := by decide +kernel
theorem dX10_obey_115 : decode cX10_obey 115 = .ok (.iload_n 2, 1) := by decide +kernel
theorem dX10_obey_116 : decode cX10_obey 116 = .ok (.iadd, 1) := by decide +kernel
theorem dX10_obey_117 : decode cX10_obey 117 = .ok (.iaload, 1) := by decide +kernel
theorem dX10_obey_118 : decode cX10_obey 118 = .ok (.iadd, 1) := by decide +kernel
theorem dX10_obey_119 : decode cX10_obey 119 = .ok (.invokestatic 276, 3) := by decide +kernel
theorem dX10_obey_122 : decode cX10_obey 122 = .ok (.iastore, 1) := by decide +kernel
theorem dX10_obey_123 : decode cX10_obey 123 = .ok (.goto 25, 3) := by decide +kernel
theorem dX10_obey_126 : decode cX10_obey 126 = .ok (.aload_n 3, 1) := by decide +kernel
theorem dX10_obey_127 : decode cX10_obey 127 = .ok (.iload 4, 2) := by decide +kernel
theorem dX10_obey_129 : decode cX10_obey 129 = .ok (.iload_n 1, 1) := by decide +kernel
theorem dX10_obey_130 : decode cX10_obey 130 = .ok (.iadd, 1) := by decide +kernel
theorem dX10_obey_131 : decode cX10_obey 131 = .ok (.aload_n 3, 1) := by decide +kernel
theorem dX10_obey_132 : decode cX10_obey 132 = .ok (.iload 4, 2) := by decide +kernel
theorem dX10_obey_134 : decode cX10_obey 134 = .ok (.iload_n 1, 1) := by decide +kernel
theorem dX10_obey_135 : decode cX10_obey 135 = .ok (.iadd, 1) := by decide +kernel
theorem dX10_obey_136 : decode cX10_obey 136 = .ok (.iaload, 1) := by decide +kernel
theorem dX10_obey_137 : decode cX10_obey 137 = .ok (.aload_n 3, 1) := by decide +kernel
theorem dX10_obey_138 : decode cX10_obey 138 = .ok (.iload 4, 2) := by decide +kernel
theorem dX10_obey_140 : decode cX10_obey 140 = .ok (.iload_n 2, 1) := by decide +kernel
theorem dX10_obey_141 : decode cX10_obey 141 = .ok (.iadd, 1) := by decide +kernel
theorem dX10_obey_142 : decode cX10_obey 142 = .ok (.iaload, 1) := by decide +kernel
theorem dX10_obey_143 : decode cX10_obey 143 = .ok (.isub, 1) := by decide +kernel
theorem dX10_obey_144 : decode cX10_obey 144 = .ok (.invokestatic 276, 3) := by decide +kernel
theorem dX10_obey_147 : decode cX10_obey 147 = .ok (.iastore, 1) := by decide +kernel
theorem dX10_obey_148 : decode cX10_obey 148 = .ok (.return_, 1) := by decide +kernel
theorem dX10_isBranch_0 : decode cX10_isBranch 0 = .ok (.iload_n 0, 1) := by decide +kernel
theorem dX10_isBranch_1 : decode cX10_isBranch 1 = .ok (.i2l, 1) := by decide +kernel
theorem dX10_isBranch_2 : decode cX10_isBranch 2 = .ok (.ldc2_w 279, 3) := by decide +kernel
theorem dX10_isBranch_5 : decode cX10_isBranch 5 = .ok (.ldc2_w 281, 3) := by decide +kernel
theorem dX10_isBranch_8 : decode cX10_isBranch 8 = .ok (.invokestatic 139, 3) := by decide +kernel
theorem dX10_isBranch_11 : decode cX10_isBranch 11 = .ok (.ireturn, 1) := by decide +kernel
theorem dX10_goalOf_0 : decode cX10_goalOf 0 = .ok (.aload_n 0, 1) := by decide +kernel
theorem dX10_goalOf_1 : decode cX10_goalOf 1 = .ok (.iload_n 1, 1) := by decide +kernel
theorem dX10_goalOf_2 : decode cX10_goalOf 2 = .ok (.aload_n 0, 1) := by decide +kernel
theorem dX10_goalOf_3 : decode cX10_goalOf 3 = .ok (.iload_n 1, 1) := by decide +kernel
theorem dX10_goalOf_4 : decode cX10_goalOf 4 = .ok (.invokevirtual 283, 3) := by decide +kernel
theorem dX10_goalOf_7 : decode cX10_goalOf 7 = .ok (.invokestatic 143, 3) := by decide +kernel
theorem dX10_goalOf_10 : decode cX10_goalOf 10 = .ok (.iconst 1, 1) := by decide +kernel
theorem dX10_goalOf_11 : decode cX10_goalOf 11 = .ok (.isub, 1) := by decide +kernel
theorem dX10_goalOf_12 : decode cX10_goalOf 12 = .ok (.invokevirtual 286, 3) := by decide +kernel
theorem dX10_goalOf_15 : decode cX10_goalOf 15 = .ok (.ireturn, 1) := by decide +kernel
theorem dX10_isTaken_0 : decode cX10_isTaken 0 = .ok (.aload_n 0, 1) := by decide +kernel
theorem dX10_isTaken_1 : decode cX10_isTaken 1 = .ok (.getfield 34, 3) := by decide +kernel
theorem dX10_isTaken_4 : decode cX10_isTaken 4 = .ok (.iload_n 2, 1) := by decide +kernel
theorem dX10_isTaken_5 : decode cX10_isTaken 5 = .ok (.aload_n 0, 1) := by decide +kernel
theorem dX10_isTaken_6 : decode cX10_isTaken 6 = .ok (.iload_n 1, 1) := by decide +kernel
theorem dX10_isTaken_7 : decode cX10_isTaken 7 = .ok (.iconst 0, 1) := by decide +kernel
theorem dX10_isTaken_8 : decode cX10_isTaken 8 = .ok (.invokevirtual 286, 3) := by decide +kernel
theorem dX10_isTaken_11 : decode cX10_isTaken 11 = .ok (.iadd, 1) := by decide +kernel
theorem dX10_isTaken_12 : decode cX10_isTaken 12 = .ok (.iaload, 1) := by decide +kernel
theorem dX10_isTaken_13 : decode cX10_isTaken 13 = .ok (.istore_n 3, 1) := by decide +kernel
theorem dX10_isTaken_14 : decode cX10_isTaken 14 = .ok (.aload_n 0, 1) := by decide +kernel
theorem dX10_isTaken_15 : decode cX10_isTaken 15 = .ok (.iload_n 1, 1) := by decide +kernel
theorem dX10_isTaken_16 : decode cX10_isTaken 16 = .ok (.invokevirtual 283, 3) := by decide +kernel
theorem dX10_isTaken_19 : decode cX10_isTaken 19 = .ok (.bipush 8, 2) := by decide +kernel
theorem dX10_isTaken_21 : decode cX10_isTaken 21 = .ok (.if_icmp .ne 16, 3) := by decide +kernel
theorem dX10_isTaken_24 : decode cX10_isTaken 24 = .ok (.iload_n 3, 1) := by decide +kernel
theorem dX10_isTaken_25 : decode cX10_isTaken 25 = .ok (.iconst 2, 1) := by decide +kernel
theorem dX10_isTaken_26 : decode cX10_isTaken 26 = .ok (.irem, 1) := by decide +kernel
theorem dX10_isTaken_27 : decode cX10_isTaken 27 = .ok (.iconst 1, 1) := by decide +kernel
theorem dX10_isTaken_28 : decode cX10_isTaken 28 = .ok (.if_icmp .ne 7, 3) := by decide +kernel
theorem dX10_isTaken_31 : decode cX10_isTaken 31 = .ok (.iconst 1, 1) := by decide +kernel
theorem dX10_isTaken_32 : decode cX10_isTaken 32 = .ok (.goto 4, 3) := by decide +kernel
theorem dX10_isTaken_35 : decode cX10_isTaken 35 = .ok (.iconst 0, 1) := by decide +kernel
theorem dX10_isTaken_36 : decode cX10_isTaken 36 = .ok (.ireturn, 1) := by decide +kernel
theorem dX10_isTaken_37 : decode cX10_isTaken 37 = .ok (.aload_n 0, 1) := by decide +kernel
theorem dX10_isTaken_38 : decode cX10_isTaken 38 = .ok (.getfield 34, 3) := by decide +kernel
theorem dX10_isTaken_41 : decode cX10_isTaken 41 = .ok (.iload_n 2, 1) := by decide +kernel
theorem dX10_isTaken_42 : decode cX10_isTaken 42 = .ok (.aload_n 0, 1) := by decide +kernel
theorem dX10_isTaken_43 : decode cX10_isTaken 43 = .ok (.iload_n 1, 1) := by decide +kernel
theorem dX10_isTaken_44 : decode cX10_isTaken 44 = .ok (.iconst 1, 1) := by decide +kernel
theorem dX10_isTaken_45 : decode cX10_isTaken 45 = .ok (.invokevirtual 286, 3) := by decide +kernel
theorem dX10_isTaken_48 : decode cX10_isTaken 48 = .ok (.iadd, 1) := by decide +kernel
theorem dX10_isTaken_49 : decode cX10_isTaken 49 = .ok (.iaload, 1) := by decide +kernel
theorem dX10_isTaken_50 : decode cX10_isTaken 50 = .ok (.istore 4, 2) := by decide +kernel
theorem dX10_isTaken_52 : decode cX10_isTaken 52 = .ok (.aload_n 0, 1) := by decide +kernel
theorem dX10_isTaken_53 : decode cX10_isTaken 53 = .ok (.iload_n 1, 1) := by decide +kernel
theorem dX10_isTaken_54 : decode cX10_isTaken 54 = .ok (.invokevirtual 283, 3) := by decide +kernel
theorem dX10_isTaken_57 : decode cX10_isTaken 57 = .ok (.bipush 6, 2) := by decide +kernel
theorem dX10_isTaken_59 : decode cX10_isTaken 59 = .ok (.if_icmp .ne 17, 3) := by decide +kernel
theorem dX10_isTaken_62 : decode cX10_isTaken 62 = .ok (.iload_n 3, 1) := by decide +kernel
theorem dX10_isTaken_63 : decode cX10_isTaken 63 = .ok (.iload 4, 2) := by decide +kernel
theorem dX10_isTaken_65 : decode cX10_isTaken 65 = .ok (.if_icmp .ge 7, 3) := by decide +kernel
theorem dX10_isTaken_68 : decode cX10_isTaken 68 = .ok (.iconst 1, 1) := by decide +kernel
theorem dX10_isTaken_69 : decode cX10_isTaken 69 = .ok (.goto 18, 3) := by decide +kernel
theorem dX10_isTaken_72 : decode cX10_isTaken 72 = .ok (.iconst 0, 1) := by decide +kernel
theorem dX10_isTaken_73 : decode cX10_isTaken 73 = .ok (.goto 14, 3) := by decide +kernel
theorem dX10_isTaken_76 : decode cX10_isTaken 76 = .ok (.iload_n 3, 1) := by decide +kernel
theorem dX10_isTaken_77 : decode cX10_isTaken 77 = .ok (.iload 4, 2) := by decide +kernel
theorem dX10_isTaken_79 : decode cX10_isTaken 79 = .ok (.if_icmp .ne 7, 3) := by decide +kernel
theorem dX10_isTaken_82 : decode cX10_isTaken 82 = .ok (.iconst 1, 1) := by decide +kernel
theorem dX10_isTaken_83 : decode cX10_isTaken 83 = .ok (.goto 4, 3) := by decide +kernel
theorem dX10_isTaken_86 : decode cX10_isTaken 86 = .ok (.iconst 0, 1) := by decide +kernel
theorem dX10_isTaken_87 : decode cX10_isTaken 87 = .ok (.ireturn, 1) := by decide +kernel
theorem dX10_branches_0 : decode cX10_branches 0 = .ok (.aload_n 0, 1) := by decide +kernel
theorem dX10_branches_1 : decode cX10_branches 1 = .ok (.getfield 40, 3) := by decide +kernel
theorem dX10_branches_4 : decode cX10_branches 4 = .ok (.aload_n 0, 1) := by decide +kernel
theorem dX10_branches_5 : decode cX10_branches 5 = .ok (.getfield 289, 3) := by decide +kernel
theorem dX10_branches_8 : decode cX10_branches 8 = .ok (.iload_n 1, 1) := by decide +kernel
theorem dX10_branches_9 : decode cX10_branches 9 = .ok (.iastore, 1) := by decide +kernel
theorem dX10_branches_10 : decode cX10_branches 10 = .ok (.aload_n 0, 1) := by decide +kernel
theorem dX10_branches_11 : decode cX10_branches 11 = .ok (.getfield 43, 3) := by decide +kernel
theorem dX10_branches_14 : decode cX10_branches 14 = .ok (.aload_n 0, 1) := by decide +kernel
theorem dX10_branches_15 : decode cX10_branches 15 = .ok (.getfield 289, 3) := by decide +kernel
theorem dX10_branches_18 : decode cX10_branches 18 = .ok (.iload_n 2, 1) := by decide +kernel
theorem dX10_branches_19 : decode cX10_branches 19 = .ok (.iastore, 1) := by decide +kernel
theorem dX10_branches_20 : decode cX10_branches 20 = .ok (.aload_n 0, 1) := by decide +kernel
theorem dX10_branches_21 : decode cX10_branches 21 = .ok (.getfield 46, 3) := by decide +kernel
theorem dX10_branches_24 : decode cX10_branches 24 = .ok (.aload_n 0, 1) := by decide +kernel
theorem dX10_branches_25 : decode cX10_branches 25 = .ok (.getfield 289, 3) := by decide +kernel
theorem dX10_branches_28 : decode cX10_branches 28 = .ok (.iload_n 3, 1) := by decide +kernel
