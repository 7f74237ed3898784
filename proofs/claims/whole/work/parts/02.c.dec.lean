theorem dX4_beginAct_0 : decode cX4_beginAct 0 = .ok (.aload_n 0, 1) := by decide +kernel
theorem dX4_beginAct_1 : decode cX4_beginAct 1 = .ok (.getfield 18, 3) := by decide +kernel
theorem dX4_beginAct_4 : decode cX4_beginAct 4 = .ok (.iconst 1, 1) := by decide +kernel
theorem dX4_beginAct_5 : decode cX4_beginAct 5 = .ok (.iadd, 1) := by decide +kernel
theorem dX4_beginAct_6 : decode cX4_beginAct 6 = .ok (.i2l, 1) := by decide +kernel
theorem dX4_beginAct_7 : decode cX4_beginAct 7 = .ok (.bipush 21, 2) := by decide +kernel
theorem dX4_beginAct_9 : decode cX4_beginAct 9 = .ok (.invokestatic 49, 3) := by decide +kernel
theorem dX4_beginAct_12 : decode cX4_beginAct 12 = .ok (.istore_n 1, 1) := by decide +kernel
theorem dX4_beginAct_13 : decode cX4_beginAct 13 = .ok (.aload_n 0, 1) := by decide +kernel
theorem dX4_beginAct_14 : decode cX4_beginAct 14 = .ok (.getfield 11, 3) := by decide +kernel
theorem dX4_beginAct_17 : decode cX4_beginAct 17 = .ok (.aload_n 0, 1) := by decide +kernel
theorem dX4_beginAct_18 : decode cX4_beginAct 18 = .ok (.getfield 18, 3) := by decide +kernel
theorem dX4_beginAct_21 : decode cX4_beginAct 21 = .ok (.aload_n 0, 1) := by decide +kernel
theorem dX4_beginAct_22 : decode cX4_beginAct 22 = .ok (.getfield 11, 3) := by decide +kernel
theorem dX4_beginAct_25 : decode cX4_beginAct 25 = .ok (.iload_n 1, 1) := by decide +kernel
theorem dX4_beginAct_26 : decode cX4_beginAct 26 = .ok (.invokestatic 53, 3) := by decide +kernel
theorem dX4_beginAct_29 : decode cX4_beginAct 29 = .ok (.aload_n 0, 1) := by decide +kernel
theorem dX4_beginAct_30 : decode cX4_beginAct 30 = .ok (.iload_n 1, 1) := by decide +kernel
theorem dX4_beginAct_31 : decode cX4_beginAct 31 = .ok (.putfield 18, 3) := by decide +kernel
theorem dX4_beginAct_34 : decode cX4_beginAct 34 = .ok (.aload_n 0, 1) := by decide +kernel
theorem dX4_beginAct_35 : decode cX4_beginAct 35 = .ok (.aload_n 0, 1) := by decide +kernel
theorem dX4_beginAct_36 : decode cX4_beginAct 36 = .ok (.getfield 22, 3) := by decide +kernel
theorem dX4_beginAct_39 : decode cX4_beginAct 39 = .ok (.iconst 1, 1) := by decide +kernel
theorem dX4_beginAct_40 : decode cX4_beginAct 40 = .ok (.iadd, 1) := by decide +kernel
theorem dX4_beginAct_41 : decode cX4_beginAct 41 = .ok (.bipush 20, 2) := by decide +kernel
theorem dX4_beginAct_43 : decode cX4_beginAct 43 = .ok (.invokestatic 57, 3) := by decide +kernel
theorem dX4_beginAct_46 : decode cX4_beginAct 46 = .ok (.putfield 22, 3) := by decide +kernel
theorem dX4_beginAct_49 : decode cX4_beginAct 49 = .ok (.aload_n 0, 1) := by decide +kernel
theorem dX4_beginAct_50 : decode cX4_beginAct 50 = .ok (.iconst 0, 1) := by decide +kernel
theorem dX4_beginAct_51 : decode cX4_beginAct 51 = .ok (.putfield 25, 3) := by decide +kernel
theorem dX4_beginAct_54 : decode cX4_beginAct 54 = .ok (.return_, 1) := by decide +kernel
theorem dX4_stepBack_0 : decode cX4_stepBack 0 = .ok (.aload_n 0, 1) := by decide +kernel
theorem dX4_stepBack_1 : decode cX4_stepBack 1 = .ok (.getfield 22, 3) := by decide +kernel
theorem dX4_stepBack_4 : decode cX4_stepBack 4 = .ok (.ifCond .ne 5, 3) := by decide +kernel
theorem dX4_stepBack_7 : decode cX4_stepBack 7 = .ok (.iconst 0, 1) := by decide +kernel
theorem dX4_stepBack_8 : decode cX4_stepBack 8 = .ok (.ireturn, 1) := by decide +kernel
theorem dX4_stepBack_9 : decode cX4_stepBack 9 = .ok (.aload_n 0, 1) := by decide +kernel
theorem dX4_stepBack_10 : decode cX4_stepBack 10 = .ok (.aload_n 0, 1) := by decide +kernel
theorem dX4_stepBack_11 : decode cX4_stepBack 11 = .ok (.getfield 18, 3) := by decide +kernel
theorem dX4_stepBack_14 : decode cX4_stepBack 14 = .ok (.iconst 1, 1) := by decide +kernel
theorem dX4_stepBack_15 : decode cX4_stepBack 15 = .ok (.isub, 1) := by decide +kernel
theorem dX4_stepBack_16 : decode cX4_stepBack 16 = .ok (.i2l, 1) := by decide +kernel
theorem dX4_stepBack_17 : decode cX4_stepBack 17 = .ok (.bipush 21, 2) := by decide +kernel
theorem dX4_stepBack_19 : decode cX4_stepBack 19 = .ok (.invokestatic 49, 3) := by decide +kernel
theorem dX4_stepBack_22 : decode cX4_stepBack 22 = .ok (.putfield 18, 3) := by decide +kernel
theorem dX4_stepBack_25 : decode cX4_stepBack 25 = .ok (.aload_n 0, 1) := by decide +kernel
theorem dX4_stepBack_26 : decode cX4_stepBack 26 = .ok (.dup, 1) := by decide +kernel
theorem dX4_stepBack_27 : decode cX4_stepBack 27 = .ok (.getfield 22, 3) := by decide +kernel
theorem dX4_stepBack_30 : decode cX4_stepBack 30 = .ok (.iconst 1, 1) := by decide +kernel
theorem dX4_stepBack_31 : decode cX4_stepBack 31 = .ok (.isub, 1) := by decide +kernel
theorem dX4_stepBack_32 : decode cX4_stepBack 32 = .ok (.putfield 22, 3) := by decide +kernel
theorem dX4_stepBack_35 : decode cX4_stepBack 35 = .ok (.aload_n 0, 1) := by decide +kernel
theorem dX4_stepBack_36 : decode cX4_stepBack 36 = .ok (.dup, 1) := by decide +kernel
theorem dX4_stepBack_37 : decode cX4_stepBack 37 = .ok (.getfield 25, 3) := by decide +kernel
theorem dX4_stepBack_40 : decode cX4_stepBack 40 = .ok (.iconst 1, 1) := by decide +kernel
theorem dX4_stepBack_41 : decode cX4_stepBack 41 = .ok (.iadd, 1) := by decide +kernel
theorem dX4_stepBack_42 : decode cX4_stepBack 42 = .ok (.putfield 25, 3) := by decide +kernel
theorem dX4_stepBack_45 : decode cX4_stepBack 45 = .ok (.iconst 1, 1) := by decide +kernel
theorem dX4_stepBack_46 : decode cX4_stepBack 46 = .ok (.ireturn, 1) := by decide +kernel
theorem dX4_stepOn_0 : decode cX4_stepOn 0 = .ok (.aload_n 0, 1) := by decide +kernel
theorem dX4_stepOn_1 : decode cX4_stepOn 1 = .ok (.getfield 25, 3) := by decide +kernel
theorem dX4_stepOn_4 : decode cX4_stepOn 4 = .ok (.ifCond .ne 5, 3) := by decide +kernel
theorem dX4_stepOn_7 : decode cX4_stepOn 7 = .ok (.iconst 0, 1) := by decide +kernel
theorem dX4_stepOn_8 : decode cX4_stepOn 8 = .ok (.ireturn, 1) := by decide +kernel
theorem dX4_stepOn_9 : decode cX4_stepOn 9 = .ok (.aload_n 0, 1) := by decide +kernel
theorem dX4_stepOn_10 : decode cX4_stepOn 10 = .ok (.aload_n 0, 1) := by decide +kernel
theorem dX4_stepOn_11 : decode cX4_stepOn 11 = .ok (.getfield 18, 3) := by decide +kernel
theorem dX4_stepOn_14 : decode cX4_stepOn 14 = .ok (.iconst 1, 1) := by decide +kernel
theorem dX4_stepOn_15 : decode cX4_stepOn 15 = .ok (.iadd, 1) := by decide +kernel
theorem dX4_stepOn_16 : decode cX4_stepOn 16 = .ok (.i2l, 1) := by decide +kernel
theorem dX4_stepOn_17 : decode cX4_stepOn 17 = .ok (.bipush 21, 2) := by decide +kernel
theorem dX4_stepOn_19 : decode cX4_stepOn 19 = .ok (.invokestatic 49, 3) := by decide +kernel
theorem dX4_stepOn_22 : decode cX4_stepOn 22 = .ok (.putfield 18, 3) := by decide +kernel
theorem dX4_stepOn_25 : decode cX4_stepOn 25 = .ok (.aload_n 0, 1) := by decide +kernel
theorem dX4_stepOn_26 : decode cX4_stepOn 26 = .ok (.dup, 1) := by decide +kernel
theorem dX4_stepOn_27 : decode cX4_stepOn 27 = .ok (.getfield 22, 3) := by decide +kernel
theorem dX4_stepOn_30 : decode cX4_stepOn 30 = .ok (.iconst 1, 1) := by decide +kernel
theorem dX4_stepOn_31 : decode cX4_stepOn 31 = .ok (.iadd, 1) := by decide +kernel
theorem dX4_stepOn_32 : decode cX4_stepOn 32 = .ok (.putfield 22, 3) := by decide +kernel
theorem dX4_stepOn_35 : decode cX4_stepOn 35 = .ok (.aload_n 0, 1) := by decide +kernel
theorem dX4_stepOn_36 : decode cX4_stepOn 36 = .ok (.dup, 1) := by decide +kernel
theorem dX4_stepOn_37 : decode cX4_stepOn 37 = .ok (.getfield 25, 3) := by decide +kernel
theorem dX4_stepOn_40 : decode cX4_stepOn 40 = .ok (.iconst 1, 1) := by decide +kernel
theorem dX4_stepOn_41 : decode cX4_stepOn 41 = .ok (.isub, 1) := by decide +kernel
theorem dX4_stepOn_42 : decode cX4_stepOn 42 = .ok (.putfield 25, 3) := by decide +kernel
theorem dX4_stepOn_45 : decode cX4_stepOn 45 = .ok (.iconst 1, 1) := by decide +kernel
theorem dX4_stepOn_46 : decode cX4_stepOn 46 = .ok (.ireturn, 1) := by decide +kernel
theorem dX4_keepImage_0 : decode cX4_keepImage 0 = .ok (.aload_n 0, 1) := by decide +kernel
theorem dX4_keepImage_1 : decode cX4_keepImage 1 = .ok (.getfield 28, 3) := by decide +kernel
theorem dX4_keepImage_4 : decode cX4_keepImage 4 = .ok (.iconst 4, 1) := by decide +kernel
theorem dX4_keepImage_5 : decode cX4_keepImage 5 = .ok (.if_icmp .lt 5, 3) := by decide +kernel
theorem dX4_keepImage_8 : decode cX4_keepImage 8 = .ok (.iconst 0, 1) := by decide +kernel
theorem dX4_keepImage_9 : decode cX4_keepImage 9 = .ok (.ireturn, 1) := by decide +kernel
theorem dX4_keepImage_10 : decode cX4_keepImage 10 = .ok (.aload_n 0, 1) := by decide +kernel
theorem dX4_keepImage_11 : decode cX4_keepImage 11 = .ok (.getfield 11, 3) := by decide +kernel
theorem dX4_keepImage_14 : decode cX4_keepImage 14 = .ok (.aload_n 0, 1) := by decide +kernel
theorem dX4_keepImage_15 : decode cX4_keepImage 15 = .ok (.getfield 18, 3) := by decide +kernel
theorem dX4_keepImage_18 : decode cX4_keepImage 18 = .ok (.aload_n 0, 1) := by decide +kernel
theorem dX4_keepImage_19 : decode cX4_keepImage 19 = .ok (.getfield 15, 3) := by decide +kernel
theorem dX4_keepImage_22 : decode cX4_keepImage 22 = .ok (.aload_n 0, 1) := by decide +kernel
theorem dX4_keepImage_23 : decode cX4_keepImage 23 = .ok (.getfield 28, 3) := by decide +kernel
theorem dX4_keepImage_26 : decode cX4_keepImage 26 = .ok (.invokestatic 53, 3) := by decide +kernel
theorem dX4_keepImage_29 : decode cX4_keepImage 29 = .ok (.aload_n 0, 1) := by decide +kernel
theorem dX4_keepImage_30 : decode cX4_keepImage 30 = .ok (.dup, 1) := by decide +kernel
theorem dX4_keepImage_31 : decode cX4_keepImage 31 = .ok (.getfield 28, 3) := by decide +kernel
theorem dX4_keepImage_34 : decode cX4_keepImage 34 = .ok (.iconst 1, 1) := by decide +kernel
theorem dX4_keepImage_35 : decode cX4_keepImage 35 = .ok (.iadd, 1) := by decide +kernel
theorem dX4_keepImage_36 : decode cX4_keepImage 36 = .ok (.putfield 28, 3) := by decide +kernel
theorem dX4_keepImage_39 : decode cX4_keepImage 39 = .ok (.iconst 1, 1) := by decide +kernel
theorem dX4_keepImage_40 : decode cX4_keepImage 40 = .ok (.ireturn, 1) := by decide +kernel
theorem dX4_bringBack_0 : decode cX4_bringBack 0 = .ok (.aload_n 0, 1) := by decide +kernel
theorem dX4_bringBack_1 : decode cX4_bringBack 1 = .ok (.getfield 15, 3) := by decide +kernel
theorem dX4_bringBack_4 : decode cX4_bringBack 4 = .ok (.iload_n 1, 1) := by decide +kernel
theorem dX4_bringBack_5 : decode cX4_bringBack 5 = .ok (.aload_n 0, 1) := by decide +kernel
theorem dX4_bringBack_6 : decode cX4_bringBack 6 = .ok (.getfield 11, 3) := by decide +kernel
theorem dX4_bringBack_9 : decode cX4_bringBack 9 = .ok (.aload_n 0, 1) := by decide +kernel
theorem dX4_bringBack_10 : decode cX4_bringBack 10 = .ok (.getfield 18, 3) := by decide +kernel
theorem dX4_bringBack_13 : decode cX4_bringBack 13 = .ok (.invokestatic 53, 3) := by decide +kernel
theorem dX4_bringBack_16 : decode cX4_bringBack 16 = .ok (.return_, 1) := by decide +kernel
theorem dX5_init_0 : decode cX5_init 0 = .ok (.aload_n 0, 1) := by decide +kernel
theorem dX5_init_1 : decode cX5_init 1 = .ok (.invokespecial 3, 3) := by decide +kernel
theorem dX5_init_4 : decode cX5_init 4 = .ok (.aload_n 0, 1) := by decide +kernel
theorem dX5_init_5 : decode cX5_init 5 = .ok (.bipush 12, 2) := by decide +kernel
theorem dX5_init_7 : decode cX5_init 7 = .ok (.newarray .long, 2) := by decide +kernel
theorem dX5_init_9 : decode cX5_init 9 = .ok (.putfield 11, 3) := by decide +kernel
theorem dX5_init_12 : decode cX5_init 12 = .ok (.return_, 1) := by decide +kernel
theorem dX5_lengthOf_0 : decode cX5_lengthOf 0 = .ok (.iload_n 0, 1) := by decide +kernel
theorem dX5_lengthOf_1 : decode cX5_lengthOf 1 = .ok (.ifCond .lt 19, 3) := by decide +kernel
theorem dX5_lengthOf_4 : decode cX5_lengthOf 4 = .ok (.iload_n 0, 1) := by decide +kernel
theorem dX5_lengthOf_5 : decode cX5_lengthOf 5 = .ok (.getstatic 15, 3) := by decide +kernel
theorem dX5_lengthOf_8 : decode cX5_lengthOf 8 = .ok (.arraylength, 1) := by decide +kernel
theorem dX5_lengthOf_9 : decode cX5_lengthOf 9 = .ok (.if_icmp .ge 11, 3) := by decide +kernel
theorem dX5_lengthOf_12 : decode cX5_lengthOf 12 = .ok (.getstatic 15, 3) := by decide +kernel
theorem dX5_lengthOf_15 : decode cX5_lengthOf 15 = .ok (.iload_n 0, 1) := by decide +kernel
theorem dX5_lengthOf_16 : decode cX5_lengthOf 16 = .ok (.iaload, 1) := by decide +kernel
theorem dX5_lengthOf_17 : decode cX5_lengthOf 17 = .ok (.goto 4, 3) := by decide +kernel
theorem dX5_lengthOf_20 : decode cX5_lengthOf 20 = .ok (.iconst 0, 1) := by decide +kernel
theorem dX5_lengthOf_21 : decode cX5_lengthOf 21 = .ok (.ireturn, 1) := by decide +kernel
theorem dX5_clear_0 : decode cX5_clear 0 = .ok (.aload_n 0, 1) := by decide +kernel
theorem dX5_clear_1 : decode cX5_clear 1 = .ok (.getfield 11, 3) := by decide +kernel
theorem dX5_clear_4 : decode cX5_clear 4 = .ok (.lconst 0, 1) := by decide +kernel
theorem dX5_clear_5 : decode cX5_clear 5 = .ok (.invokestatic 19, 3) := by decide +kernel
theorem dX5_clear_8 : decode cX5_clear 8 = .ok (.return_, 1) := by decide +kernel
theorem dX5_collect_0 : decode cX5_collect 0 = .ok (.iload 4, 2) := by decide +kernel
theorem dX5_collect_2 : decode cX5_collect 2 = .ok (.iconst 1, 1) := by decide +kernel
theorem dX5_collect_3 : decode cX5_collect 3 = .ok (.if_icmp .ge 7, 3) := by decide +kernel
theorem dX5_collect_6 : decode cX5_collect 6 = .ok (.iconst (-1), 1) := by decide +kernel
theorem dX5_collect_7 : decode cX5_collect 7 = .ok (.goto 9, 3) := by decide +kernel
theorem dX5_collect_10 : decode cX5_collect 10 = .ok (.iload_n 1, 1) := by decide +kernel
theorem dX5_collect_11 : decode cX5_collect 11 = .ok (.iload 4, 2) := by decide +kernel
theorem dX5_collect_13 : decode cX5_collect 13 = .ok (.invokestatic 25, 3) := by decide +kernel
theorem dX5_collect_16 : decode cX5_collect 16 = .ok (.istore 5, 2) := by decide +kernel
theorem dX5_collect_18 : decode cX5_collect 18 = .ok (.iload 5, 2) := by decide +kernel
theorem dX5_collect_20 : decode cX5_collect 20 = .ok (.ifCond .lt 24, 3) := by decide +kernel
theorem dX5_collect_23 : decode cX5_collect 23 = .ok (.iload 5, 2) := by decide +kernel
theorem dX5_collect_25 : decode cX5_collect 25 = .ok (.aload_n 0, 1) := by decide +kernel
theorem dX5_collect_26 : decode cX5_collect 26 = .ok (.getfield 11, 3) := by decide +kernel
theorem dX5_collect_29 : decode cX5_collect 29 = .ok (.arraylength, 1) := by decide +kernel
theorem dX5_collect_30 : decode cX5_collect 30 = .ok (.if_icmp .ge 14, 3) := by decide +kernel
theorem dX5_collect_33 : decode cX5_collect 33 = .ok (.aload_n 0, 1) := by decide +kernel
theorem dX5_collect_34 : decode cX5_collect 34 = .ok (.getfield 11, 3) := by decide +kernel
theorem dX5_collect_37 : decode cX5_collect 37 = .ok (.iload 5, 2) := by decide +kernel
theorem dX5_collect_39 : decode cX5_collect 39 = .ok (.dup2, 1) := by decide +kernel
theorem dX5_collect_40 : decode cX5_collect 40 = .ok (.laload, 1) := by decide +kernel
theorem dX5_collect_41 : decode cX5_collect 41 = .ok (.lload_n 2, 1) := by decide +kernel
theorem dX5_collect_42 : decode cX5_collect 42 = .ok (.ladd, 1) := by decide +kernel
theorem dX5_collect_43 : decode cX5_collect 43 = .ok (.lastore, 1) := by decide +kernel
theorem dX5_collect_44 : decode cX5_collect 44 = .ok (.return_, 1) := by decide +kernel
theorem dX5_settle_0 : decode cX5_settle 0 = .ok (.iload_n 2, 1) := by decide +kernel
theorem dX5_settle_1 : decode cX5_settle 1 = .ok (.invokestatic 31, 3) := by decide +kernel
theorem dX5_settle_4 : decode cX5_settle 4 = .ok (.istore_n 3, 1) := by decide +kernel
theorem dX5_settle_5 : decode cX5_settle 5 = .ok (.iload_n 2, 1) := by decide +kernel
theorem dX5_settle_6 : decode cX5_settle 6 = .ok (.iconst 1, 1) := by decide +kernel
theorem dX5_settle_7 : decode cX5_settle 7 = .ok (.isub, 1) := by decide +kernel
theorem dX5_settle_8 : decode cX5_settle 8 = .ok (.istore 4, 2) := by decide +kernel
theorem dX5_settle_10 : decode cX5_settle 10 = .ok (.iload 4, 2) := by decide +kernel
theorem dX5_settle_12 : decode cX5_settle 12 = .ok (.iload_n 3, 1) := by decide +kernel
theorem dX5_settle_13 : decode cX5_settle 13 = .ok (.if_icmp .lt 80, 3) := by decide +kernel
theorem dX5_settle_16 : decode cX5_settle 16 = .ok (.aload_n 0, 1) := by decide +kernel
theorem dX5_settle_17 : decode cX5_settle 17 = .ok (.getfield 11, 3) := by decide +kernel
theorem dX5_settle_20 : decode cX5_settle 20 = .ok (.iload 4, 2) := by decide +kernel
theorem dX5_settle_22 : decode cX5_settle 22 = .ok (.invokestatic 35, 3) := by decide +kernel
theorem dX5_settle_25 : decode cX5_settle 25 = .ok (.lstore 5, 2) := by decide +kernel
theorem dX5_settle_27 : decode cX5_settle 27 = .ok (.iconst 0, 1) := by decide +kernel
theorem dX5_settle_28 : decode cX5_settle 28 = .ok (.istore 7, 2) := by decide +kernel
theorem dX5_settle_30 : decode cX5_settle 30 = .ok (.iload 7, 2) := by decide +kernel
theorem dX5_settle_32 : decode cX5_settle 32 = .ok (.iload_n 3, 1) := by decide +kernel
theorem dX5_settle_33 : decode cX5_settle 33 = .ok (.if_icmp .gt 54, 3) := by decide +kernel
theorem dX5_settle_36 : decode cX5_settle 36 = .ok (.iload 4, 2) := by decide +kernel
theorem dX5_settle_38 : decode cX5_settle 38 = .ok (.iload_n 3, 1) := by decide +kernel
theorem dX5_settle_39 : decode cX5_settle 39 = .ok (.isub, 1) := by decide +kernel
theorem dX5_settle_40 : decode cX5_settle 40 = .ok (.iload 7, 2) := by decide +kernel
theorem dX5_settle_42 : decode cX5_settle 42 = .ok (.iadd, 1) := by decide +kernel
theorem dX5_settle_43 : decode cX5_settle 43 = .ok (.istore 8, 2) := by decide +kernel
theorem dX5_settle_45 : decode cX5_settle 45 = .ok (.aload_n 0, 1) := by decide +kernel
theorem dX5_settle_46 : decode cX5_settle 46 = .ok (.getfield 11, 3) := by decide +kernel
theorem dX5_settle_49 : decode cX5_settle 49 = .ok (.iload 8, 2) := by decide +kernel
theorem dX5_settle_51 : decode cX5_settle 51 = .ok (.aload_n 0, 1) := by decide +kernel
theorem dX5_settle_52 : decode cX5_settle 52 = .ok (.getfield 11, 3) := by decide +kernel
theorem dX5_settle_55 : decode cX5_settle 55 = .ok (.iload 8, 2) := by decide +kernel
theorem dX5_settle_57 : decode cX5_settle 57 = .ok (.invokestatic 35, 3) := by decide +kernel
theorem dX5_settle_60 : decode cX5_settle 60 = .ok (.lload 5, 2) := by decide +kernel
theorem dX5_settle_62 : decode cX5_settle 62 = .ok (.getstatic 39, 3) := by decide +kernel
theorem dX5_settle_65 : decode cX5_settle 65 = .ok (.iload_n 2, 1) := by decide +kernel
theorem dX5_settle_66 : decode cX5_settle 66 = .ok (.bipush 11, 2) := by decide +kernel
theorem dX5_settle_68 : decode cX5_settle 68 = .ok (.imul, 1) := by decide +kernel
theorem dX5_settle_69 : decode cX5_settle 69 = .ok (.iload 7, 2) := by decide +kernel
theorem dX5_settle_71 : decode cX5_settle 71 = .ok (.iadd, 1) := by decide +kernel
theorem dX5_settle_72 : decode cX5_settle 72 = .ok (.invokestatic 42, 3) := by decide +kernel
theorem dX5_settle_75 : decode cX5_settle 75 = .ok (.i2l, 1) := by decide +kernel
theorem dX5_settle_76 : decode cX5_settle 76 = .ok (.lmul, 1) := by decide +kernel
theorem dX5_settle_77 : decode cX5_settle 77 = .ok (.lsub, 1) := by decide +kernel
theorem dX5_settle_78 : decode cX5_settle 78 = .ok (.invokestatic 46, 3) := by decide +kernel
theorem dX5_settle_81 : decode cX5_settle 81 = .ok (.iinc 7 1, 3) := by decide +kernel
theorem dX5_settle_84 : decode cX5_settle 84 = .ok (.goto (-54), 3) := by decide +kernel
theorem dX5_settle_87 : decode cX5_settle 87 = .ok (.iinc 4 (-1), 3) := by decide +kernel
theorem dX5_settle_90 : decode cX5_settle 90 = .ok (.goto (-80), 3) := by decide +kernel
theorem dX5_settle_93 : decode cX5_settle 93 = .ok (.aload_n 0, 1) := by decide +kernel
theorem dX5_settle_94 : decode cX5_settle 94 = .ok (.getfield 11, 3) := by decide +kernel
theorem dX5_settle_97 : decode cX5_settle 97 = .ok (.aload_n 1, 1) := by decide +kernel
theorem dX5_settle_98 : decode cX5_settle 98 = .ok (.invokestatic 50, 3) := by decide +kernel
theorem dX5_settle_101 : decode cX5_settle 101 = .ok (.return_, 1) := by decide +kernel
theorem dX5_multiply_0 : decode cX5_multiply 0 = .ok (.iload 4, 2) := by decide +kernel
theorem dX5_multiply_2 : decode cX5_multiply 2 = .ok (.invokestatic 31, 3) := by decide +kernel
theorem dX5_multiply_5 : decode cX5_multiply 5 = .ok (.istore 5, 2) := by decide +kernel
theorem dX5_multiply_7 : decode cX5_multiply 7 = .ok (.aload_n 0, 1) := by decide +kernel
theorem dX5_multiply_8 : decode cX5_multiply 8 = .ok (.invokevirtual 54, 3) := by decide +kernel
theorem dX5_multiply_11 : decode cX5_multiply 11 = .ok (.iconst 0, 1) := by decide +kernel
theorem dX5_multiply_12 : decode cX5_multiply 12 = .ok (.istore 6, 2) := by decide +kernel
theorem dX5_multiply_14 : decode cX5_multiply 14 = .ok (.iload 6, 2) := by decide +kernel
theorem dX5_multiply_16 : decode cX5_multiply 16 = .ok (.iload 5, 2) := by decide +kernel
theorem dX5_multiply_18 : decode cX5_multiply 18 = .ok (.if_icmp .ge 49, 3) := by decide +kernel
theorem dX5_multiply_21 : decode cX5_multiply 21 = .ok (.iconst 0, 1) := by decide +kernel
theorem dX5_multiply_22 : decode cX5_multiply 22 = .ok (.istore 7, 2) := by decide +kernel
theorem dX5_multiply_24 : decode cX5_multiply 24 = .ok (.iload 7, 2) := by decide +kernel
theorem dX5_multiply_26 : decode cX5_multiply 26 = .ok (.iload 5, 2) := by decide +kernel
theorem dX5_multiply_28 : decode cX5_multiply 28 = .ok (.if_icmp .ge 33, 3) := by decide +kernel
theorem dX5_multiply_31 : decode cX5_multiply 31 = .ok (.aload_n 0, 1) := by decide +kernel
theorem dX5_multiply_32 : decode cX5_multiply 32 = .ok (.iload 6, 2) := by decide +kernel
theorem dX5_multiply_34 : decode cX5_multiply 34 = .ok (.iload 7, 2) := by decide +kernel
theorem dX5_multiply_36 : decode cX5_multiply 36 = .ok (.iadd, 1) := by decide +kernel
theorem dX5_multiply_37 : decode cX5_multiply 37 = .ok (.aload_n 1, 1) := by decide +kernel
theorem dX5_multiply_38 : decode cX5_multiply 38 = .ok (.iload 6, 2) := by decide +kernel
theorem dX5_multiply_40 : decode cX5_multiply 40 = .ok (.invokestatic 35, 3) := by decide +kernel
theorem dX5_multiply_43 : decode cX5_multiply 43 = .ok (.aload_n 2, 1) := by decide +kernel
theorem dX5_multiply_44 : decode cX5_multiply 44 = .ok (.iload 7, 2) := by decide +kernel
theorem dX5_multiply_46 : decode cX5_multiply 46 = .ok (.invokestatic 35, 3) := by decide +kernel
theorem dX5_multiply_49 : decode cX5_multiply 49 = .ok (.lmul, 1) := by decide +kernel
theorem dX5_multiply_50 : decode cX5_multiply 50 = .ok (.iload 4, 2) := by decide +kernel
theorem dX5_multiply_52 : decode cX5_multiply 52 = .ok (.invokevirtual 57, 3) := by decide +kernel
theorem dX5_multiply_55 : decode cX5_multiply 55 = .ok (.iinc 7 1, 3) := by decide +kernel
theorem dX5_multiply_58 : decode cX5_multiply 58 = .ok (.goto (-34), 3) := by decide +kernel
theorem dX5_multiply_61 : decode cX5_multiply 61 = .ok (.iinc 6 1, 3) := by decide +kernel
theorem dX5_multiply_64 : decode cX5_multiply 64 = .ok (.goto (-50), 3) := by decide +kernel
theorem dX5_multiply_67 : decode cX5_multiply 67 = .ok (.aload_n 0, 1) := by decide +kernel
theorem dX5_multiply_68 : decode cX5_multiply 68 = .ok (.aload_n 3, 1) := by decide +kernel
theorem dX5_multiply_69 : decode cX5_multiply 69 = .ok (.iload 4, 2) := by decide +kernel
theorem dX5_multiply_71 : decode cX5_multiply 71 = .ok (.invokevirtual 61, 3) := by decide +kernel
theorem dX5_multiply_74 : decode cX5_multiply 74 = .ok (.return_, 1) := by decide +kernel
theorem dX5_turnRow_0 : decode cX5_turnRow 0 = .ok (.iload 4, 2) := by decide +kernel
theorem dX5_turnRow_2 : decode cX5_turnRow 2 = .ok (.invokestatic 31, 3) := by decide +kernel
theorem dX5_turnRow_5 : decode cX5_turnRow 5 = .ok (.istore 5, 2) := by decide +kernel
theorem dX5_turnRow_7 : decode cX5_turnRow 7 = .ok (.aload_n 0, 1) := by decide +kernel
theorem dX5_turnRow_8 : decode cX5_turnRow 8 = .ok (.invokevirtual 54, 3) := by decide +kernel
theorem dX5_turnRow_11 : decode cX5_turnRow 11 = .ok (.iconst 0, 1) := by decide +kernel
theorem dX5_turnRow_12 : decode cX5_turnRow 12 = .ok (.istore 6, 2) := by decide +kernel
theorem dX5_turnRow_14 : decode cX5_turnRow 14 = .ok (.iload 6, 2) := by decide +kernel
theorem dX5_turnRow_16 : decode cX5_turnRow 16 = .ok (.iload 5, 2) := by decide +kernel
theorem dX5_turnRow_18 : decode cX5_turnRow 18 = .ok (.if_icmp .ge 25, 3) := by decide +kernel
theorem dX5_turnRow_21 : decode cX5_turnRow 21 = .ok (.aload_n 0, 1) := by decide +kernel
theorem dX5_turnRow_22 : decode cX5_turnRow 22 = .ok (.iload 6, 2) := by decide +kernel
theorem dX5_turnRow_24 : decode cX5_turnRow 24 = .ok (.iload_n 2, 1) := by decide +kernel
theorem dX5_turnRow_25 : decode cX5_turnRow 25 = .ok (.imul, 1) := by decide +kernel
theorem dX5_turnRow_26 : decode cX5_turnRow 26 = .ok (.aload_n 1, 1) := by decide +kernel
theorem dX5_turnRow_27 : decode cX5_turnRow 27 = .ok (.iload 6, 2) := by decide +kernel
theorem dX5_turnRow_29 : decode cX5_turnRow 29 = .ok (.invokestatic 35, 3) := by decide +kernel
theorem dX5_turnRow_32 : decode cX5_turnRow 32 = .ok (.iload 4, 2) := by decide +kernel
theorem dX5_turnRow_34 : decode cX5_turnRow 34 = .ok (.invokevirtual 57, 3) := by decide +kernel
theorem dX5_turnRow_37 : decode cX5_turnRow 37 = .ok (.iinc 6 1, 3) := by decide +kernel
theorem dX5_turnRow_40 : decode cX5_turnRow 40 = .ok (.goto (-26), 3) := by decide +kernel
theorem dX5_turnRow_43 : decode cX5_turnRow 43 = .ok (.aload_n 0, 1) := by decide +kernel
theorem dX5_turnRow_44 : decode cX5_turnRow 44 = .ok (.aload_n 3, 1) := by decide +kernel
theorem dX5_turnRow_45 : decode cX5_turnRow 45 = .ok (.iload 4, 2) := by decide +kernel
theorem dX5_turnRow_47 : decode cX5_turnRow 47 = .ok (.invokevirtual 61, 3) := by decide +kernel
theorem dX5_turnRow_50 : decode cX5_turnRow 50 = .ok (.return_, 1) := by decide +kernel
theorem dX5_powerOfZ_0 : decode cX5_powerOfZ 0 = .ok (.aload_n 0, 1) := by decide +kernel
theorem dX5_powerOfZ_1 : decode cX5_powerOfZ 1 = .ok (.invokevirtual 54, 3) := by decide +kernel
theorem dX5_powerOfZ_4 : decode cX5_powerOfZ 4 = .ok (.aload_n 0, 1) := by decide +kernel
theorem dX5_powerOfZ_5 : decode cX5_powerOfZ 5 = .ok (.iload_n 1, 1) := by decide +kernel
theorem dX5_powerOfZ_6 : decode cX5_powerOfZ 6 = .ok (.lconst 1, 1) := by decide +kernel
theorem dX5_powerOfZ_7 : decode cX5_powerOfZ 7 = .ok (.iload_n 3, 1) := by decide +kernel
theorem dX5_powerOfZ_8 : decode cX5_powerOfZ 8 = .ok (.invokevirtual 57, 3) := by decide +kernel
theorem dX5_powerOfZ_11 : decode cX5_powerOfZ 11 = .ok (.aload_n 0, 1) := by decide +kernel
theorem dX5_powerOfZ_12 : decode cX5_powerOfZ 12 = .ok (.aload_n 2, 1) := by decide +kernel
theorem dX5_powerOfZ_13 : decode cX5_powerOfZ 13 = .ok (.iload_n 3, 1) := by decide +kernel
theorem dX5_powerOfZ_14 : decode cX5_powerOfZ 14 = .ok (.invokevirtual 61, 3) := by decide +kernel
theorem dX5_powerOfZ_17 : decode cX5_powerOfZ 17 = .ok (.return_, 1) := by decide +kernel
theorem dX6_at_0 : decode cX6_at 0 = .ok (.aload_n 0, 1) := by decide +kernel
theorem dX6_at_1 : decode cX6_at 1 = .ok (.ifnull 19, 3) := by decide +kernel
theorem dX6_at_4 : decode cX6_at 4 = .ok (.iload_n 1, 1) := by decide +kernel
theorem dX6_at_5 : decode cX6_at 5 = .ok (.ifCond .lt 15, 3) := by decide +kernel
theorem dX6_at_8 : decode cX6_at 8 = .ok (.iload_n 1, 1) := by decide +kernel
theorem dX6_at_9 : decode cX6_at 9 = .ok (.aload_n 0, 1) := by decide +kernel
theorem dX6_at_10 : decode cX6_at 10 = .ok (.arraylength, 1) := by decide +kernel
theorem dX6_at_11 : decode cX6_at 11 = .ok (.if_icmp .ge 9, 3) := by decide +kernel
theorem dX6_at_14 : decode cX6_at 14 = .ok (.aload_n 0, 1) := by decide +kernel
theorem dX6_at_15 : decode cX6_at 15 = .ok (.iload_n 1, 1) := by decide +kernel
theorem dX6_at_16 : decode cX6_at 16 = .ok (.laload, 1) := by decide +kernel
theorem dX6_at_17 : decode cX6_at 17 = .ok (.goto 4, 3) := by decide +kernel
theorem dX6_at_20 : decode cX6_at 20 = .ok (.lconst 0, 1) := by decide +kernel
theorem dX6_at_21 : decode cX6_at 21 = .ok (.lreturn, 1) := by decide +kernel
theorem dX6_put_0 : decode cX6_put 0 = .ok (.aload_n 0, 1) := by decide +kernel
theorem dX6_put_1 : decode cX6_put 1 = .ok (.ifnull 17, 3) := by decide +kernel
theorem dX6_put_4 : decode cX6_put 4 = .ok (.iload_n 1, 1) := by decide +kernel
theorem dX6_put_5 : decode cX6_put 5 = .ok (.ifCond .lt 13, 3) := by decide +kernel
theorem dX6_put_8 : decode cX6_put 8 = .ok (.iload_n 1, 1) := by decide +kernel
theorem dX6_put_9 : decode cX6_put 9 = .ok (.aload_n 0, 1) := by decide +kernel
theorem dX6_put_10 : decode cX6_put 10 = .ok (.arraylength, 1) := by decide +kernel
theorem dX6_put_11 : decode cX6_put 11 = .ok (.if_icmp .ge 7, 3) := by decide +kernel
theorem dX6_put_14 : decode cX6_put 14 = .ok (.aload_n 0, 1) := by decide +kernel
theorem dX6_put_15 : decode cX6_put 15 = .ok (.iload_n 1, 1) := by decide +kernel
theorem dX6_put_16 : decode cX6_put 16 = .ok (.lload_n 2, 1) := by decide +kernel
theorem dX6_put_17 : decode cX6_put 17 = .ok (.lastore, 1) := by decide +kernel
theorem dX6_put_18 : decode cX6_put 18 = .ok (.return_, 1) := by decide +kernel
theorem dX6_cell_0 : decode cX6_cell 0 = .ok (.aload_n 0, 1) := by decide +kernel
theorem dX6_cell_1 : decode cX6_cell 1 = .ok (.ifnull 19, 3) := by decide +kernel
theorem dX6_cell_4 : decode cX6_cell 4 = .ok (.iload_n 1, 1) := by decide +kernel
theorem dX6_cell_5 : decode cX6_cell 5 = .ok (.ifCond .lt 15, 3) := by decide +kernel
theorem dX6_cell_8 : decode cX6_cell 8 = .ok (.iload_n 1, 1) := by decide +kernel
theorem dX6_cell_9 : decode cX6_cell 9 = .ok (.aload_n 0, 1) := by decide +kernel
theorem dX6_cell_10 : decode cX6_cell 10 = .ok (.arraylength, 1) := by decide +kernel
theorem dX6_cell_11 : decode cX6_cell 11 = .ok (.if_icmp .ge 9, 3) := by decide +kernel
theorem dX6_cell_14 : decode cX6_cell 14 = .ok (.aload_n 0, 1) := by decide +kernel
theorem dX6_cell_15 : decode cX6_cell 15 = .ok (.iload_n 1, 1) := by decide +kernel
theorem dX6_cell_16 : decode cX6_cell 16 = .ok (.iaload, 1) := by decide +kernel
theorem dX6_cell_17 : decode cX6_cell 17 = .ok (.goto 4, 3) := by decide +kernel
theorem dX6_cell_20 : decode cX6_cell 20 = .ok (.iconst 0, 1) := by decide +kernel
theorem dX6_cell_21 : decode cX6_cell 21 = .ok (.ireturn, 1) := by decide +kernel
theorem dX6_mark_0 : decode cX6_mark 0 = .ok (.aload_n 0, 1) := by decide +kernel
theorem dX6_mark_1 : decode cX6_mark 1 = .ok (.ifnull 17, 3) := by decide +kernel
theorem dX6_mark_4 : decode cX6_mark 4 = .ok (.iload_n 1, 1) := by decide +kernel
theorem dX6_mark_5 : decode cX6_mark 5 = .ok (.ifCond .lt 13, 3) := by decide +kernel
theorem dX6_mark_8 : decode cX6_mark 8 = .ok (.iload_n 1, 1) := by decide +kernel
theorem dX6_mark_9 : decode cX6_mark 9 = .ok (.aload_n 0, 1) := by decide +kernel
theorem dX6_mark_10 : decode cX6_mark 10 = .ok (.arraylength, 1) := by decide +kernel
theorem dX6_mark_11 : decode cX6_mark 11 = .ok (.if_icmp .ge 7, 3) := by decide +kernel
theorem dX6_mark_14 : decode cX6_mark 14 = .ok (.aload_n 0, 1) := by decide +kernel
theorem dX6_mark_15 : decode cX6_mark 15 = .ok (.iload_n 1, 1) := by decide +kernel
theorem dX6_mark_16 : decode cX6_mark 16 = .ok (.iload_n 2, 1) := by decide +kernel
theorem dX6_mark_17 : decode cX6_mark 17 = .ok (.iastore, 1) := by decide +kernel
theorem dX6_mark_18 : decode cX6_mark 18 = .ok (.return_, 1) := by decide +kernel
theorem dX6_rowAt_0 : decode cX6_rowAt 0 = .ok (.aload_n 0, 1) := by decide +kernel
theorem dX6_rowAt_1 : decode cX6_rowAt 1 = .ok (.ifnull 19, 3) := by decide +kernel
theorem dX6_rowAt_4 : decode cX6_rowAt 4 = .ok (.iload_n 1, 1) := by decide +kernel
theorem dX6_rowAt_5 : decode cX6_rowAt 5 = .ok (.ifCond .lt 15, 3) := by decide +kernel
theorem dX6_rowAt_8 : decode cX6_rowAt 8 = .ok (.iload_n 1, 1) := by decide +kernel
theorem dX6_rowAt_9 : decode cX6_rowAt 9 = .ok (.aload_n 0, 1) := by decide +kernel
theorem dX6_rowAt_10 : decode cX6_rowAt 10 = .ok (.arraylength, 1) := by decide +kernel
theorem dX6_rowAt_11 : decode cX6_rowAt 11 = .ok (.if_icmp .ge 9, 3) := by decide +kernel
theorem dX6_rowAt_14 : decode cX6_rowAt 14 = .ok (.aload_n 0, 1) := by decide +kernel
theorem dX6_rowAt_15 : decode cX6_rowAt 15 = .ok (.iload_n 1, 1) := by decide +kernel
theorem dX6_rowAt_16 : decode cX6_rowAt 16 = .ok (.aaload, 1) := by decide +kernel
theorem dX6_rowAt_17 : decode cX6_rowAt 17 = .ok (.goto 4, 3) := by decide +kernel
theorem dX6_rowAt_20 : decode cX6_rowAt 20 = .ok (.aconst_null, 1) := by decide +kernel
theorem dX6_rowAt_21 : decode cX6_rowAt 21 = .ok (.areturn, 1) := by decide +kernel
theorem dX6_mod_0 : decode cX6_mod 0 = .ok (.iload_n 2, 1) := by decide +kernel
theorem dX6_mod_1 : decode cX6_mod 1 = .ok (.iconst 1, 1) := by decide +kernel
theorem dX6_mod_2 : decode cX6_mod 2 = .ok (.if_icmp .ge 5, 3) := by decide +kernel
theorem dX6_mod_5 : decode cX6_mod 5 = .ok (.iconst 0, 1) := by decide +kernel
theorem dX6_mod_6 : decode cX6_mod 6 = .ok (.ireturn, 1) := by decide +kernel
theorem dX6_mod_7 : decode cX6_mod 7 = .ok (.lload_n 0, 1) := by decide +kernel
theorem dX6_mod_8 : decode cX6_mod 8 = .ok (.iload_n 2, 1) := by decide +kernel
theorem dX6_mod_9 : decode cX6_mod 9 = .ok (.i2l, 1) := by decide +kernel
theorem dX6_mod_10 : decode cX6_mod 10 = .ok (.lrem, 1) := by decide +kernel
theorem dX6_mod_11 : decode cX6_mod 11 = .ok (.l2i, 1) := by decide +kernel
theorem dX6_mod_12 : decode cX6_mod 12 = .ok (.istore_n 3, 1) := by decide +kernel
theorem dX6_mod_13 : decode cX6_mod 13 = .ok (.iload_n 3, 1) := by decide +kernel
theorem dX6_mod_14 : decode cX6_mod 14 = .ok (.ifCond .ge 9, 3) := by decide +kernel
theorem dX6_mod_17 : decode cX6_mod 17 = .ok (.iload_n 3, 1) := by decide +kernel
theorem dX6_mod_18 : decode cX6_mod 18 = .ok (.iload_n 2, 1) := by decide +kernel
theorem dX6_mod_19 : decode cX6_mod 19 = .ok (.iadd, 1) := by decide +kernel
theorem dX6_mod_20 : decode cX6_mod 20 = .ok (.goto 4, 3) := by decide +kernel
theorem dX6_mod_23 : decode cX6_mod 23 = .ok (.iload_n 3, 1) := by decide +kernel
theorem dX6_mod_24 : decode cX6_mod 24 = .ok (.ireturn, 1) := by decide +kernel
theorem dX6_setWhole_0 : decode cX6_setWhole 0 = .ok (.iconst 0, 1) := by decide +kernel
theorem dX6_setWhole_1 : decode cX6_setWhole 1 = .ok (.istore_n 3, 1) := by decide +kernel
theorem dX6_setWhole_2 : decode cX6_setWhole 2 = .ok (.aload_n 0, 1) := by decide +kernel
theorem dX6_setWhole_3 : decode cX6_setWhole 3 = .ok (.ifnull 27, 3) := by decide +kernel
theorem dX6_setWhole_6 : decode cX6_setWhole 6 = .ok (.iload_n 3, 1) := by decide +kernel
theorem dX6_setWhole_7 : decode cX6_setWhole 7 = .ok (.aload_n 0, 1) := by decide +kernel
theorem dX6_setWhole_8 : decode cX6_setWhole 8 = .ok (.arraylength, 1) := by decide +kernel
theorem dX6_setWhole_9 : decode cX6_setWhole 9 = .ok (.if_icmp .ge 21, 3) := by decide +kernel
theorem dX6_setWhole_12 : decode cX6_setWhole 12 = .ok (.aload_n 0, 1) := by decide +kernel
theorem dX6_setWhole_13 : decode cX6_setWhole 13 = .ok (.iload_n 3, 1) := by decide +kernel
theorem dX6_setWhole_14 : decode cX6_setWhole 14 = .ok (.iload_n 3, 1) := by decide +kernel
theorem dX6_setWhole_15 : decode cX6_setWhole 15 = .ok (.ifCond .ne 7, 3) := by decide +kernel
theorem dX6_setWhole_18 : decode cX6_setWhole 18 = .ok (.lload_n 1, 1) := by decide +kernel
theorem dX6_setWhole_19 : decode cX6_setWhole 19 = .ok (.goto 4, 3) := by decide +kernel
theorem dX6_setWhole_22 : decode cX6_setWhole 22 = .ok (.lconst 0, 1) := by decide +kernel
theorem dX6_setWhole_23 : decode cX6_setWhole 23 = .ok (.lastore, 1) := by decide +kernel
theorem dX6_setWhole_24 : decode cX6_setWhole 24 = .ok (.iinc 3 1, 3) := by decide +kernel
theorem dX6_setWhole_27 : decode cX6_setWhole 27 = .ok (.goto (-25), 3) := by decide +kernel
theorem dX6_setWhole_30 : decode cX6_setWhole 30 = .ok (.return_, 1) := by decide +kernel
theorem dX6_copy_0 : decode cX6_copy 0 = .ok (.iconst 0, 1) := by decide +kernel
theorem dX6_copy_1 : decode cX6_copy 1 = .ok (.istore_n 2, 1) := by decide +kernel
theorem dX6_copy_2 : decode cX6_copy 2 = .ok (.aload_n 1, 1) := by decide +kernel
theorem dX6_copy_3 : decode cX6_copy 3 = .ok (.ifnull 35, 3) := by decide +kernel
theorem dX6_copy_6 : decode cX6_copy 6 = .ok (.iload_n 2, 1) := by decide +kernel
theorem dX6_copy_7 : decode cX6_copy 7 = .ok (.aload_n 1, 1) := by decide +kernel
theorem dX6_copy_8 : decode cX6_copy 8 = .ok (.arraylength, 1) := by decide +kernel
theorem dX6_copy_9 : decode cX6_copy 9 = .ok (.if_icmp .ge 29, 3) := by decide +kernel
theorem dX6_copy_12 : decode cX6_copy 12 = .ok (.aload_n 1, 1) := by decide +kernel
theorem dX6_copy_13 : decode cX6_copy 13 = .ok (.iload_n 2, 1) := by decide +kernel
theorem dX6_copy_14 : decode cX6_copy 14 = .ok (.aload_n 0, 1) := by decide +kernel
theorem dX6_copy_15 : decode cX6_copy 15 = .ok (.ifnull 15, 3) := by decide +kernel
theorem dX6_copy_18 : decode cX6_copy 18 = .ok (.iload_n 2, 1) := by decide +kernel
theorem dX6_copy_19 : decode cX6_copy 19 = .ok (.aload_n 0, 1) := by decide +kernel
theorem dX6_copy_20 : decode cX6_copy 20 = .ok (.arraylength, 1) := by decide +kernel
theorem dX6_copy_21 : decode cX6_copy 21 = .ok (.if_icmp .ge 9, 3) := by decide +kernel
theorem dX6_copy_24 : decode cX6_copy 24 = .ok (.aload_n 0, 1) := by decide +kernel
theorem dX6_copy_25 : decode cX6_copy 25 = .ok (.iload_n 2, 1) := by decide +kernel
theorem dX6_copy_26 : decode cX6_copy 26 = .ok (.laload, 1) := by decide +kernel
theorem dX6_copy_27 : decode cX6_copy 27 = .ok (.goto 4, 3) := by decide +kernel
theorem dX6_copy_30 : decode cX6_copy 30 = .ok (.lconst 0, 1) := by decide +kernel
theorem dX6_copy_31 : decode cX6_copy 31 = .ok (.lastore, 1) := by decide +kernel
theorem dX6_copy_32 : decode cX6_copy 32 = .ok (.iinc 2 1, 3) := by decide +kernel
theorem dX6_copy_35 : decode cX6_copy 35 = .ok (.goto (-33), 3) := by decide +kernel
theorem dX6_copy_38 : decode cX6_copy 38 = .ok (.return_, 1) := by decide +kernel
theorem dX6_addTimes_0 : decode cX6_addTimes 0 = .ok (.iconst 0, 1) := by decide +kernel
theorem dX6_addTimes_1 : decode cX6_addTimes 1 = .ok (.istore 4, 2) := by decide +kernel
theorem dX6_addTimes_3 : decode cX6_addTimes 3 = .ok (.aload_n 0, 1) := by decide +kernel
theorem dX6_addTimes_4 : decode cX6_addTimes 4 = .ok (.ifnull 44, 3) := by decide +kernel
theorem dX6_addTimes_7 : decode cX6_addTimes 7 = .ok (.iload 4, 2) := by decide +kernel
theorem dX6_addTimes_9 : decode cX6_addTimes 9 = .ok (.aload_n 0, 1) := by decide +kernel
theorem dX6_addTimes_10 : decode cX6_addTimes 10 = .ok (.arraylength, 1) := by decide +kernel
theorem dX6_addTimes_11 : decode cX6_addTimes 11 = .ok (.if_icmp .ge 37, 3) := by decide +kernel
theorem dX6_addTimes_14 : decode cX6_addTimes 14 = .ok (.aload_n 0, 1) := by decide +kernel
theorem dX6_addTimes_15 : decode cX6_addTimes 15 = .ok (.iload 4, 2) := by decide +kernel
theorem dX6_addTimes_17 : decode cX6_addTimes 17 = .ok (.dup2, 1) := by decide +kernel
theorem dX6_addTimes_18 : decode cX6_addTimes 18 = .ok (.laload, 1) := by decide +kernel
theorem dX6_addTimes_19 : decode cX6_addTimes 19 = .ok (.aload_n 1, 1) := by decide +kernel
theorem dX6_addTimes_20 : decode cX6_addTimes 20 = .ok (.ifnull 19, 3) := by decide +kernel
theorem dX6_addTimes_23 : decode cX6_addTimes 23 = .ok (.iload 4, 2) := by decide +kernel
theorem dX6_addTimes_25 : decode cX6_addTimes 25 = .ok (.aload_n 1, 1) := by decide +kernel
theorem dX6_addTimes_26 : decode cX6_addTimes 26 = .ok (.arraylength, 1) := by decide +kernel
theorem dX6_addTimes_27 : decode cX6_addTimes 27 = .ok (.if_icmp .ge 12, 3) := by decide +kernel
theorem dX6_addTimes_30 : decode cX6_addTimes 30 = .ok (.lload_n 2, 1) := by decide +kernel
theorem dX6_addTimes_31 : decode cX6_addTimes 31 = .ok (.aload_n 1, 1) := by decide +kernel
theorem dX6_addTimes_32 : decode cX6_addTimes 32 = .ok (.iload 4, 2) := by decide +kernel
theorem dX6_addTimes_34 : decode cX6_addTimes 34 = .ok (.laload, 1) := by decide +kernel
theorem dX6_addTimes_35 : decode cX6_addTimes 35 = .ok (.lmul, 1) := by decide +kernel
theorem dX6_addTimes_36 : decode cX6_addTimes 36 = .ok (.goto 4, 3) := by decide +kernel
theorem dX6_addTimes_39 : decode cX6_addTimes 39 = .ok (.lconst 0, 1) := by decide +kernel
theorem dX6_addTimes_40 : decode cX6_addTimes 40 = .ok (.ladd, 1) := by decide +kernel
theorem dX6_addTimes_41 : decode cX6_addTimes 41 = .ok (.lastore, 1) := by decide +kernel
theorem dX6_addTimes_42 : decode cX6_addTimes 42 = .ok (.iinc 4 1, 3) := by decide +kernel
theorem dX6_addTimes_45 : decode cX6_addTimes 45 = .ok (.goto (-42), 3) := by decide +kernel
theorem dX6_addTimes_48 : decode cX6_addTimes 48 = .ok (.return_, 1) := by decide +kernel
theorem dX6_same_0 : decode cX6_same 0 = .ok (.aload_n 0, 1) := by decide +kernel
theorem dX6_same_1 : decode cX6_same 1 = .ok (.ifnull 14, 3) := by decide +kernel
theorem dX6_same_4 : decode cX6_same 4 = .ok (.aload_n 1, 1) := by decide +kernel
theorem dX6_same_5 : decode cX6_same 5 = .ok (.ifnull 10, 3) := by decide +kernel
theorem dX6_same_8 : decode cX6_same 8 = .ok (.aload_n 0, 1) := by decide +kernel
theorem dX6_same_9 : decode cX6_same 9 = .ok (.arraylength, 1) := by decide +kernel
theorem dX6_same_10 : decode cX6_same 10 = .ok (.aload_n 1, 1) := by decide +kernel
theorem dX6_same_11 : decode cX6_same 11 = .ok (.arraylength, 1) := by decide +kernel
theorem dX6_same_12 : decode cX6_same 12 = .ok (.if_icmp .eq 5, 3) := by decide +kernel
theorem dX6_same_15 : decode cX6_same 15 = .ok (.iconst 0, 1) := by decide +kernel
theorem dX6_same_16 : decode cX6_same 16 = .ok (.ireturn, 1) := by decide +kernel
theorem dX6_same_17 : decode cX6_same 17 = .ok (.iconst 0, 1) := by decide +kernel
theorem dX6_same_18 : decode cX6_same 18 = .ok (.istore_n 2, 1) := by decide +kernel
theorem dX6_same_19 : decode cX6_same 19 = .ok (.iload_n 2, 1) := by decide +kernel
theorem dX6_same_20 : decode cX6_same 20 = .ok (.aload_n 0, 1) := by decide +kernel
theorem dX6_same_21 : decode cX6_same 21 = .ok (.arraylength, 1) := by decide +kernel
theorem dX6_same_22 : decode cX6_same 22 = .ok (.if_icmp .ge 21, 3) := by decide +kernel
theorem dX6_same_25 : decode cX6_same 25 = .ok (.aload_n 0, 1) := by decide +kernel
theorem dX6_same_26 : decode cX6_same 26 = .ok (.iload_n 2, 1) := by decide +kernel
theorem dX6_same_27 : decode cX6_same 27 = .ok (.laload, 1) := by decide +kernel
theorem dX6_same_28 : decode cX6_same 28 = .ok (.aload_n 1, 1) := by decide +kernel
theorem dX6_same_29 : decode cX6_same 29 = .ok (.iload_n 2, 1) := by decide +kernel
theorem dX6_same_30 : decode cX6_same 30 = .ok (.laload, 1) := by decide +kernel
theorem dX6_same_31 : decode cX6_same 31 = .ok (.lcmp, 1) := by decide +kernel
theorem dX6_same_32 : decode cX6_same 32 = .ok (.ifCond .eq 5, 3) := by decide +kernel
theorem dX6_same_35 : decode cX6_same 35 = .ok (.iconst 0, 1) := by decide +kernel
theorem dX6_same_36 : decode cX6_same 36 = .ok (.ireturn, 1) := by decide +kernel
theorem dX6_same_37 : decode cX6_same 37 = .ok (.iinc 2 1, 3) := by decide +kernel
theorem dX6_same_40 : decode cX6_same 40 = .ok (.goto (-21), 3) := by decide +kernel
theorem dX6_same_43 : decode cX6_same 43 = .ok (.iconst 1, 1) := by decide +kernel
theorem dX6_same_44 : decode cX6_same 44 = .ok (.ireturn, 1) := by decide +kernel
theorem dX6_isWhole_0 : decode cX6_isWhole 0 = .ok (.iconst 1, 1) := by decide +kernel
theorem dX6_isWhole_1 : decode cX6_isWhole 1 = .ok (.istore_n 1, 1) := by decide +kernel
theorem dX6_isWhole_2 : decode cX6_isWhole 2 = .ok (.aload_n 0, 1) := by decide +kernel
theorem dX6_isWhole_3 : decode cX6_isWhole 3 = .ok (.ifnull 25, 3) := by decide +kernel
theorem dX6_isWhole_6 : decode cX6_isWhole 6 = .ok (.iload_n 1, 1) := by decide +kernel
theorem dX6_isWhole_7 : decode cX6_isWhole 7 = .ok (.aload_n 0, 1) := by decide +kernel
theorem dX6_isWhole_8 : decode cX6_isWhole 8 = .ok (.arraylength, 1) := by decide +kernel
theorem dX6_isWhole_9 : decode cX6_isWhole 9 = .ok (.if_icmp .ge 19, 3) := by decide +kernel
theorem dX6_isWhole_12 : decode cX6_isWhole 12 = .ok (.aload_n 0, 1) := by decide +kernel
theorem dX6_isWhole_13 : decode cX6_isWhole 13 = .ok (.iload_n 1, 1) := by decide +kernel
theorem dX6_isWhole_14 : decode cX6_isWhole 14 = .ok (.laload, 1) := by decide +kernel
theorem dX6_isWhole_15 : decode cX6_isWhole 15 = .ok (.lconst 0, 1) := by decide +kernel
theorem dX6_isWhole_16 : decode cX6_isWhole 16 = .ok (.lcmp, 1) := by decide +kernel
theorem dX6_isWhole_17 : decode cX6_isWhole 17 = .ok (.ifCond .eq 5, 3) := by decide +kernel
theorem dX6_isWhole_20 : decode cX6_isWhole 20 = .ok (.iconst 0, 1) := by decide +kernel
theorem dX6_isWhole_21 : decode cX6_isWhole 21 = .ok (.ireturn, 1) := by decide +kernel
theorem dX6_isWhole_22 : decode cX6_isWhole 22 = .ok (.iinc 1 1, 3) := by decide +kernel
theorem dX6_isWhole_25 : decode cX6_isWhole 25 = .ok (.goto (-23), 3) := by decide +kernel
theorem dX6_isWhole_28 : decode cX6_isWhole 28 = .ok (.iconst 1, 1) := by decide +kernel
theorem dX6_isWhole_29 : decode cX6_isWhole 29 = .ok (.ireturn, 1) := by decide +kernel
theorem dX6_isHuge_0 : decode cX6_isHuge 0 = .ok (.iconst 0, 1) := by decide +kernel
theorem dX6_isHuge_1 : decode cX6_isHuge 1 = .ok (.istore_n 1, 1) := by decide +kernel
theorem dX6_isHuge_2 : decode cX6_isHuge 2 = .ok (.aload_n 0, 1) := by decide +kernel
theorem dX6_isHuge_3 : decode cX6_isHuge 3 = .ok (.ifnull 37, 3) := by decide +kernel
theorem dX6_isHuge_6 : decode cX6_isHuge 6 = .ok (.iload_n 1, 1) := by decide +kernel
theorem dX6_isHuge_7 : decode cX6_isHuge 7 = .ok (.aload_n 0, 1) := by decide +kernel
theorem dX6_isHuge_8 : decode cX6_isHuge 8 = .ok (.arraylength, 1) := by decide +kernel
theorem dX6_isHuge_9 : decode cX6_isHuge 9 = .ok (.if_icmp .ge 31, 3) := by decide +kernel
theorem dX6_isHuge_12 : decode cX6_isHuge 12 = .ok (.aload_n 0, 1) := by decide +kernel
theorem dX6_isHuge_13 : decode cX6_isHuge 13 = .ok (.iload_n 1, 1) := by decide +kernel
theorem dX6_isHuge_14 : decode cX6_isHuge 14 = .ok (.laload, 1) := by decide +kernel
theorem dX6_isHuge_15 : decode cX6_isHuge 15 = .ok (.ldc2_w 9, 3) := by decide +kernel
theorem dX6_isHuge_18 : decode cX6_isHuge 18 = .ok (.lcmp, 1) := by decide +kernel
theorem dX6_isHuge_19 : decode cX6_isHuge 19 = .ok (.ifCond .gt 13, 3) := by decide +kernel
theorem dX6_isHuge_22 : decode cX6_isHuge 22 = .ok (.aload_n 0, 1) := by decide +kernel
theorem dX6_isHuge_23 : decode cX6_isHuge 23 = .ok (.iload_n 1, 1) := by decide +kernel
theorem dX6_isHuge_24 : decode cX6_isHuge 24 = .ok (.laload, 1) := by decide +kernel
theorem dX6_isHuge_25 : decode cX6_isHuge 25 = .ok (.ldc2_w 11, 3) := by decide +kernel
theorem dX6_isHuge_28 : decode cX6_isHuge 28 = .ok (.lcmp, 1) := by decide +kernel
theorem dX6_isHuge_29 : decode cX6_isHuge 29 = .ok (.ifCond .ge 5, 3) := by decide +kernel
theorem dX6_isHuge_32 : decode cX6_isHuge 32 = .ok (.iconst 1, 1) := by decide +kernel
theorem dX6_isHuge_33 : decode cX6_isHuge 33 = .ok (.ireturn, 1) := by decide +kernel
theorem dX6_isHuge_34 : decode cX6_isHuge 34 = .ok (.iinc 1 1, 3) := by decide +kernel
theorem dX6_isHuge_37 : decode cX6_isHuge 37 = .ok (.goto (-35), 3) := by decide +kernel
theorem dX6_isHuge_40 : decode cX6_isHuge 40 = .ok (.iconst 0, 1) := by decide +kernel
theorem dX6_isHuge_41 : decode cX6_isHuge 41 = .ok (.ireturn, 1) := by decide +kernel
theorem dX7_init_0 : decode cX7_init 0 = .ok (.aload_n 0, 1) := by decide +kernel
theorem dX7_init_1 : decode cX7_init 1 = .ok (.invokespecial 1, 3) := by decide +kernel
theorem dX7_init_4 : decode cX7_init 4 = .ok (.aload_n 0, 1) := by decide +kernel
theorem dX7_init_5 : decode cX7_init 5 = .ok (.sipush 199, 3) := by decide +kernel
theorem dX7_init_8 : decode cX7_init 8 = .ok (.newarray .int, 2) := by decide +kernel
theorem dX7_init_10 : decode cX7_init 10 = .ok (.putfield 9, 3) := by decide +kernel
theorem dX7_init_13 : decode cX7_init 13 = .ok (.aload_n 0, 1) := by decide +kernel
theorem dX7_init_14 : decode cX7_init 14 = .ok (.sipush 199, 3) := by decide +kernel
theorem dX7_init_17 : decode cX7_init 17 = .ok (.newarray .int, 2) := by decide +kernel
theorem dX7_init_19 : decode cX7_init 19 = .ok (.putfield 15, 3) := by decide +kernel
theorem dX7_init_22 : decode cX7_init 22 = .ok (.aload_n 0, 1) := by decide +kernel
theorem dX7_init_23 : decode cX7_init 23 = .ok (.iconst 0, 1) := by decide +kernel
theorem dX7_init_24 : decode cX7_init 24 = .ok (.putfield 18, 3) := by decide +kernel
theorem dX7_init_27 : decode cX7_init 27 = .ok (.return_, 1) := by decide +kernel
theorem dX7_become_0 : decode cX7_become 0 = .ok (.aload_n 0, 1) := by decide +kernel
theorem dX7_become_1 : decode cX7_become 1 = .ok (.aload_n 1, 1) := by decide +kernel
theorem dX7_become_2 : decode cX7_become 2 = .ok (.ifnonnull 7, 3) := by decide +kernel
theorem dX7_become_5 : decode cX7_become 5 = .ok (.iconst 0, 1) := by decide +kernel
theorem dX7_become_6 : decode cX7_become 6 = .ok (.goto 7, 3) := by decide +kernel
theorem dX7_become_9 : decode cX7_become 9 = .ok (.aload_n 1, 1) := by decide +kernel
theorem dX7_become_10 : decode cX7_become 10 = .ok (.invokevirtual 22, 3) := by decide +kernel
theorem dX7_become_13 : decode cX7_become 13 = .ok (.putfield 18, 3) := by decide +kernel
theorem dX7_become_16 : decode cX7_become 16 = .ok (.aload_n 0, 1) := by decide +kernel
theorem dX7_become_17 : decode cX7_become 17 = .ok (.getfield 9, 3) := by decide +kernel
theorem dX7_become_20 : decode cX7_become 20 = .ok (.iconst 0, 1) := by decide +kernel
theorem dX7_become_21 : decode cX7_become 21 = .ok (.iconst 1, 1) := by decide +kernel
theorem dX7_become_22 : decode cX7_become 22 = .ok (.invokestatic 26, 3) := by decide +kernel
theorem dX7_become_25 : decode cX7_become 25 = .ok (.iconst 1, 1) := by decide +kernel
theorem dX7_become_26 : decode cX7_become 26 = .ok (.istore_n 2, 1) := by decide +kernel
theorem dX7_become_27 : decode cX7_become 27 = .ok (.iload_n 2, 1) := by decide +kernel
theorem dX7_become_28 : decode cX7_become 28 = .ok (.aload_n 0, 1) := by decide +kernel
theorem dX7_become_29 : decode cX7_become 29 = .ok (.getfield 18, 3) := by decide +kernel
theorem dX7_become_32 : decode cX7_become 32 = .ok (.if_icmp .ge 32, 3) := by decide +kernel
theorem dX7_become_35 : decode cX7_become 35 = .ok (.aload_n 0, 1) := by decide +kernel
theorem dX7_become_36 : decode cX7_become 36 = .ok (.getfield 9, 3) := by decide +kernel
theorem dX7_become_39 : decode cX7_become 39 = .ok (.iload_n 2, 1) := by decide +kernel
theorem dX7_become_40 : decode cX7_become 40 = .ok (.aload_n 1, 1) := by decide +kernel
theorem dX7_become_41 : decode cX7_become 41 = .ok (.iload_n 2, 1) := by decide +kernel
theorem dX7_become_42 : decode cX7_become 42 = .ok (.invokevirtual 32, 3) := by decide +kernel
theorem dX7_become_45 : decode cX7_become 45 = .ok (.iconst 2, 1) := by decide +kernel
theorem dX7_become_46 : decode cX7_become 46 = .ok (.irem, 1) := by decide +kernel
theorem dX7_become_47 : decode cX7_become 47 = .ok (.ifCond .ne 7, 3) := by decide +kernel
theorem dX7_become_50 : decode cX7_become 50 = .ok (.iconst 1, 1) := by decide +kernel
theorem dX7_become_51 : decode cX7_become 51 = .ok (.goto 4, 3) := by decide +kernel
theorem dX7_become_54 : decode cX7_become 54 = .ok (.iconst (-1), 1) := by decide +kernel
theorem dX7_become_55 : decode cX7_become 55 = .ok (.invokestatic 26, 3) := by decide +kernel
theorem dX7_become_58 : decode cX7_become 58 = .ok (.iinc 2 1, 3) := by decide +kernel
theorem dX7_become_61 : decode cX7_become 61 = .ok (.goto (-34), 3) := by decide +kernel
theorem dX7_become_64 : decode cX7_become 64 = .ok (.return_, 1) := by decide +kernel
theorem dX7_signAt_0 : decode cX7_signAt 0 = .ok (.aload_n 0, 1) := by decide +kernel
theorem dX7_signAt_1 : decode cX7_signAt 1 = .ok (.getfield 9, 3) := by decide +kernel
theorem dX7_signAt_4 : decode cX7_signAt 4 = .ok (.iload_n 1, 1) := by decide +kernel
theorem dX7_signAt_5 : decode cX7_signAt 5 = .ok (.aload_n 0, 1) := by decide +kernel
theorem dX7_signAt_6 : decode cX7_signAt 6 = .ok (.getfield 18, 3) := by decide +kernel
theorem dX7_signAt_9 : decode cX7_signAt 9 = .ok (.if_icmp .ge 7, 3) := by decide +kernel
theorem dX7_signAt_12 : decode cX7_signAt 12 = .ok (.iload_n 1, 1) := by decide +kernel
theorem dX7_signAt_13 : decode cX7_signAt 13 = .ok (.goto 9, 3) := by decide +kernel
theorem dX7_signAt_16 : decode cX7_signAt 16 = .ok (.iload_n 1, 1) := by decide +kernel
theorem dX7_signAt_17 : decode cX7_signAt 17 = .ok (.aload_n 0, 1) := by decide +kernel
theorem dX7_signAt_18 : decode cX7_signAt 18 = .ok (.getfield 18, 3) := by decide +kernel
theorem dX7_signAt_21 : decode cX7_signAt 21 = .ok (.isub, 1) := by decide +kernel
theorem dX7_signAt_22 : decode cX7_signAt 22 = .ok (.invokestatic 36, 3) := by decide +kernel
theorem dX7_signAt_25 : decode cX7_signAt 25 = .ok (.ireturn, 1) := by decide +kernel
theorem dX7_echoAt_0 : decode cX7_echoAt 0 = .ok (.iconst 0, 1) := by decide +kernel
theorem dX7_echoAt_1 : decode cX7_echoAt 1 = .ok (.istore_n 3, 1) := by decide +kernel
theorem dX7_echoAt_2 : decode cX7_echoAt 2 = .ok (.iconst 0, 1) := by decide +kernel
theorem dX7_echoAt_3 : decode cX7_echoAt 3 = .ok (.istore 4, 2) := by decide +kernel
theorem dX7_echoAt_5 : decode cX7_echoAt 5 = .ok (.iload 4, 2) := by decide +kernel
theorem dX7_echoAt_7 : decode cX7_echoAt 7 = .ok (.iload_n 2, 1) := by decide +kernel
theorem dX7_echoAt_8 : decode cX7_echoAt 8 = .ok (.iadd, 1) := by decide +kernel
theorem dX7_echoAt_9 : decode cX7_echoAt 9 = .ok (.aload_n 0, 1) := by decide +kernel
theorem dX7_echoAt_10 : decode cX7_echoAt 10 = .ok (.getfield 18, 3) := by decide +kernel
theorem dX7_echoAt_13 : decode cX7_echoAt 13 = .ok (.if_icmp .ge 47, 3) := by decide +kernel
theorem dX7_echoAt_16 : decode cX7_echoAt 16 = .ok (.iload_n 3, 1) := by decide +kernel
theorem dX7_echoAt_17 : decode cX7_echoAt 17 = .ok (.aload_n 0, 1) := by decide +kernel
theorem dX7_echoAt_18 : decode cX7_echoAt 18 = .ok (.iload_n 1, 1) := by decide +kernel
theorem dX7_echoAt_19 : decode cX7_echoAt 19 = .ok (.iload 4, 2) := by decide +kernel
theorem dX7_echoAt_21 : decode cX7_echoAt 21 = .ok (.iadd, 1) := by decide +kernel
theorem dX7_echoAt_22 : decode cX7_echoAt 22 = .ok (.i2l, 1) := by decide +kernel
theorem dX7_echoAt_23 : decode cX7_echoAt 23 = .ok (.aload_n 0, 1) := by decide +kernel
theorem dX7_echoAt_24 : decode cX7_echoAt 24 = .ok (.getfield 18, 3) := by decide +kernel
theorem dX7_echoAt_27 : decode cX7_echoAt 27 = .ok (.invokestatic 40, 3) := by decide +kernel
theorem dX7_echoAt_30 : decode cX7_echoAt 30 = .ok (.invokevirtual 44, 3) := by decide +kernel
theorem dX7_echoAt_33 : decode cX7_echoAt 33 = .ok (.aload_n 0, 1) := by decide +kernel
theorem dX7_echoAt_34 : decode cX7_echoAt 34 = .ok (.iload_n 1, 1) := by decide +kernel
theorem dX7_echoAt_35 : decode cX7_echoAt 35 = .ok (.iload 4, 2) := by decide +kernel
theorem dX7_echoAt_37 : decode cX7_echoAt 37 = .ok (.iadd, 1) := by decide +kernel
theorem dX7_echoAt_38 : decode cX7_echoAt 38 = .ok (.iload_n 2, 1) := by decide +kernel
theorem dX7_echoAt_39 : decode cX7_echoAt 39 = .ok (.iadd, 1) := by decide +kernel
theorem dX7_echoAt_40 : decode cX7_echoAt 40 = .ok (.i2l, 1) := by decide +kernel
theorem dX7_echoAt_41 : decode cX7_echoAt 41 = .ok (.aload_n 0, 1) := by decide +kernel
theorem dX7_echoAt_42 : decode cX7_echoAt 42 = .ok (.getfield 18, 3) := by decide +kernel
theorem dX7_echoAt_45 : decode cX7_echoAt 45 = .ok (.invokestatic 40, 3) := by decide +kernel
theorem dX7_echoAt_48 : decode cX7_echoAt 48 = .ok (.invokevirtual 44, 3) := by decide +kernel
theorem dX7_echoAt_51 : decode cX7_echoAt 51 = .ok (.imul, 1) := by decide +kernel
theorem dX7_echoAt_52 : decode cX7_echoAt 52 = .ok (.iadd, 1) := by decide +kernel
theorem dX7_echoAt_53 : decode cX7_echoAt 53 = .ok (.istore_n 3, 1) := by decide +kernel
theorem dX7_echoAt_54 : decode cX7_echoAt 54 = .ok (.iinc 4 1, 3) := by decide +kernel
theorem dX7_echoAt_57 : decode cX7_echoAt 57 = .ok (.goto (-52), 3) := by decide +kernel
theorem dX7_echoAt_60 : decode cX7_echoAt 60 = .ok (.iload_n 3, 1) := by decide +kernel
theorem dX7_echoAt_61 : decode cX7_echoAt 61 = .ok (.ireturn, 1) := by decide +kernel
theorem dX7_noiseAt_0 : decode cX7_noiseAt 0 = .ok (.lconst 0, 1) := by decide +kernel
theorem dX7_noiseAt_1 : decode cX7_noiseAt 1 = .ok (.lstore_n 2, 1) := by decide +kernel
theorem dX7_noiseAt_2 : decode cX7_noiseAt 2 = .ok (.iconst 1, 1) := by decide +kernel
theorem dX7_noiseAt_3 : decode cX7_noiseAt 3 = .ok (.istore 4, 2) := by decide +kernel
theorem dX7_noiseAt_5 : decode cX7_noiseAt 5 = .ok (.iload 4, 2) := by decide +kernel
theorem dX7_noiseAt_7 : decode cX7_noiseAt 7 = .ok (.aload_n 0, 1) := by decide +kernel
theorem dX7_noiseAt_8 : decode cX7_noiseAt 8 = .ok (.getfield 18, 3) := by decide +kernel
theorem dX7_noiseAt_11 : decode cX7_noiseAt 11 = .ok (.if_icmp .ge 27, 3) := by decide +kernel
theorem dX7_noiseAt_14 : decode cX7_noiseAt 14 = .ok (.aload_n 0, 1) := by decide +kernel
theorem dX7_noiseAt_15 : decode cX7_noiseAt 15 = .ok (.iload_n 1, 1) := by decide +kernel
theorem dX7_noiseAt_16 : decode cX7_noiseAt 16 = .ok (.iload 4, 2) := by decide +kernel
theorem dX7_noiseAt_18 : decode cX7_noiseAt 18 = .ok (.invokevirtual 47, 3) := by decide +kernel
theorem dX7_noiseAt_21 : decode cX7_noiseAt 21 = .ok (.i2l, 1) := by decide +kernel
theorem dX7_noiseAt_22 : decode cX7_noiseAt 22 = .ok (.lstore 5, 2) := by decide +kernel
theorem dX7_noiseAt_24 : decode cX7_noiseAt 24 = .ok (.lload_n 2, 1) := by decide +kernel
theorem dX7_noiseAt_25 : decode cX7_noiseAt 25 = .ok (.lload 5, 2) := by decide +kernel
theorem dX7_noiseAt_27 : decode cX7_noiseAt 27 = .ok (.lload 5, 2) := by decide +kernel
theorem dX7_noiseAt_29 : decode cX7_noiseAt 29 = .ok (.lmul, 1) := by decide +kernel
theorem dX7_noiseAt_30 : decode cX7_noiseAt 30 = .ok (.ladd, 1) := by decide +kernel
theorem dX7_noiseAt_31 : decode cX7_noiseAt 31 = .ok (.lstore_n 2, 1) := by decide +kernel
theorem dX7_noiseAt_32 : decode cX7_noiseAt 32 = .ok (.iinc 4 1, 3) := by decide +kernel
theorem dX7_noiseAt_35 : decode cX7_noiseAt 35 = .ok (.goto (-30), 3) := by decide +kernel
theorem dX7_noiseAt_38 : decode cX7_noiseAt 38 = .ok (.lload_n 2, 1) := by decide +kernel
theorem dX7_noiseAt_39 : decode cX7_noiseAt 39 = .ok (.lreturn, 1) := by decide +kernel
theorem dX7_leastNoisy_0 : decode cX7_leastNoisy 0 = .ok (.iconst 1, 1) := by decide +kernel
theorem dX7_leastNoisy_1 : decode cX7_leastNoisy 1 = .ok (.istore_n 1, 1) := by decide +kernel
theorem dX7_leastNoisy_2 : decode cX7_leastNoisy 2 = .ok (.iload_n 1, 1) := by decide +kernel
theorem dX7_leastNoisy_3 : decode cX7_leastNoisy 3 = .ok (.aload_n 0, 1) := by decide +kernel
theorem dX7_leastNoisy_4 : decode cX7_leastNoisy 4 = .ok (.getfield 18, 3) := by decide +kernel
theorem dX7_leastNoisy_7 : decode cX7_leastNoisy 7 = .ok (.if_icmp .ge 23, 3) := by decide +kernel
theorem dX7_leastNoisy_10 : decode cX7_leastNoisy 10 = .ok (.aload_n 0, 1) := by decide +kernel
theorem dX7_leastNoisy_11 : decode cX7_leastNoisy 11 = .ok (.getfield 15, 3) := by decide +kernel
theorem dX7_leastNoisy_14 : decode cX7_leastNoisy 14 = .ok (.iload_n 1, 1) := by decide +kernel
theorem dX7_leastNoisy_15 : decode cX7_leastNoisy 15 = .ok (.aload_n 0, 1) := by decide +kernel
theorem dX7_leastNoisy_16 : decode cX7_leastNoisy 16 = .ok (.iconst 0, 1) := by decide +kernel
theorem dX7_leastNoisy_17 : decode cX7_leastNoisy 17 = .ok (.iload_n 1, 1) := by decide +kernel
theorem dX7_leastNoisy_18 : decode cX7_leastNoisy 18 = .ok (.invokevirtual 47, 3) := by decide +kernel
theorem dX7_leastNoisy_21 : decode cX7_leastNoisy 21 = .ok (.invokestatic 26, 3) := by decide +kernel
theorem dX7_leastNoisy_24 : decode cX7_leastNoisy 24 = .ok (.iinc 1 1, 3) := by decide +kernel
theorem dX7_leastNoisy_27 : decode cX7_leastNoisy 27 = .ok (.goto (-25), 3) := by decide +kernel
theorem dX7_leastNoisy_30 : decode cX7_leastNoisy 30 = .ok (.aload_n 0, 1) := by decide +kernel
theorem dX7_leastNoisy_31 : decode cX7_leastNoisy 31 = .ok (.invokevirtual 51, 3) := by decide +kernel
theorem dX7_leastNoisy_34 : decode cX7_leastNoisy 34 = .ok (.lstore_n 1, 1) := by decide +kernel
theorem dX7_leastNoisy_35 : decode cX7_leastNoisy 35 = .ok (.iconst 0, 1) := by decide +kernel
theorem dX7_leastNoisy_36 : decode cX7_leastNoisy 36 = .ok (.istore_n 3, 1) := by decide +kernel
theorem dX7_leastNoisy_37 : decode cX7_leastNoisy 37 = .ok (.iconst 1, 1) := by decide +kernel
theorem dX7_leastNoisy_38 : decode cX7_leastNoisy 38 = .ok (.istore 4, 2) := by decide +kernel
theorem dX7_leastNoisy_40 : decode cX7_leastNoisy 40 = .ok (.iload 4, 2) := by decide +kernel
theorem dX7_leastNoisy_42 : decode cX7_leastNoisy 42 = .ok (.aload_n 0, 1) := by decide +kernel
theorem dX7_leastNoisy_43 : decode cX7_leastNoisy 43 = .ok (.getfield 18, 3) := by decide +kernel
theorem dX7_leastNoisy_46 : decode cX7_leastNoisy 46 = .ok (.if_icmp .ge 36, 3) := by decide +kernel
theorem dX7_leastNoisy_49 : decode cX7_leastNoisy 49 = .ok (.aload_n 0, 1) := by decide +kernel
theorem dX7_leastNoisy_50 : decode cX7_leastNoisy 50 = .ok (.iload 4, 2) := by decide +kernel
theorem dX7_leastNoisy_52 : decode cX7_leastNoisy 52 = .ok (.iconst 1, 1) := by decide +kernel
theorem dX7_leastNoisy_53 : decode cX7_leastNoisy 53 = .ok (.isub, 1) := by decide +kernel
theorem dX7_leastNoisy_54 : decode cX7_leastNoisy 54 = .ok (.invokevirtual 55, 3) := by decide +kernel
theorem dX7_leastNoisy_57 : decode cX7_leastNoisy 57 = .ok (.aload_n 0, 1) := by decide +kernel
theorem dX7_leastNoisy_58 : decode cX7_leastNoisy 58 = .ok (.invokevirtual 51, 3) := by decide +kernel
theorem dX7_leastNoisy_61 : decode cX7_leastNoisy 61 = .ok (.lstore 5, 2) := by decide +kernel
theorem dX7_leastNoisy_63 : decode cX7_leastNoisy 63 = .ok (.lload 5, 2) := by decide +kernel
theorem dX7_leastNoisy_65 : decode cX7_leastNoisy 65 = .ok (.lload_n 1, 1) := by decide +kernel
theorem dX7_leastNoisy_66 : decode cX7_leastNoisy 66 = .ok (.lcmp, 1) := by decide +kernel
theorem dX7_leastNoisy_67 : decode cX7_leastNoisy 67 = .ok (.ifCond .ge 9, 3) := by decide +kernel
theorem dX7_leastNoisy_70 : decode cX7_leastNoisy 70 = .ok (.lload 5, 2) := by decide +kernel
theorem dX7_leastNoisy_72 : decode cX7_leastNoisy 72 = .ok (.lstore_n 1, 1) := by decide +kernel
theorem dX7_leastNoisy_73 : decode cX7_leastNoisy 73 = .ok (.iload 4, 2) := by decide +kernel
theorem dX7_leastNoisy_75 : decode cX7_leastNoisy 75 = .ok (.istore_n 3, 1) := by decide +kernel
theorem dX7_leastNoisy_76 : decode cX7_leastNoisy 76 = .ok (.iinc 4 1, 3) := by decide +kernel
theorem dX7_leastNoisy_79 : decode cX7_leastNoisy 79 = .ok (.goto (-39), 3) := by decide +kernel
theorem dX7_leastNoisy_82 : decode cX7_leastNoisy 82 = .ok (.iload_n 3, 1) := by decide +kernel
theorem dX7_leastNoisy_83 : decode cX7_leastNoisy 83 = .ok (.ireturn, 1) := by decide +kernel
theorem dX7_passOn_0 : decode cX7_passOn 0 = .ok (.iconst 1, 1) := by decide +kernel
theorem dX7_passOn_1 : decode cX7_passOn 1 = .ok (.istore_n 2, 1) := by decide +kernel
theorem dX7_passOn_2 : decode cX7_passOn 2 = .ok (.iload_n 2, 1) := by decide +kernel
theorem dX7_passOn_3 : decode cX7_passOn 3 = .ok (.aload_n 0, 1) := by decide +kernel
theorem dX7_passOn_4 : decode cX7_passOn 4 = .ok (.getfield 18, 3) := by decide +kernel
theorem dX7_passOn_7 : decode cX7_passOn 7 = .ok (.if_icmp .ge 54, 3) := by decide +kernel
theorem dX7_passOn_10 : decode cX7_passOn 10 = .ok (.aload_n 0, 1) := by decide +kernel
theorem dX7_passOn_11 : decode cX7_passOn 11 = .ok (.iload_n 1, 1) := by decide +kernel
theorem dX7_passOn_12 : decode cX7_passOn 12 = .ok (.invokevirtual 44, 3) := by decide +kernel
theorem dX7_passOn_15 : decode cX7_passOn 15 = .ok (.aload_n 0, 1) := by decide +kernel
theorem dX7_passOn_16 : decode cX7_passOn 16 = .ok (.iload_n 1, 1) := by decide +kernel
theorem dX7_passOn_17 : decode cX7_passOn 17 = .ok (.aload_n 0, 1) := by decide +kernel
theorem dX7_passOn_18 : decode cX7_passOn 18 = .ok (.getfield 18, 3) := by decide +kernel
theorem dX7_passOn_21 : decode cX7_passOn 21 = .ok (.iadd, 1) := by decide +kernel
theorem dX7_passOn_22 : decode cX7_passOn 22 = .ok (.iload_n 2, 1) := by decide +kernel
theorem dX7_passOn_23 : decode cX7_passOn 23 = .ok (.isub, 1) := by decide +kernel
theorem dX7_passOn_24 : decode cX7_passOn 24 = .ok (.invokevirtual 44, 3) := by decide +kernel
theorem dX7_passOn_27 : decode cX7_passOn 27 = .ok (.aload_n 0, 1) := by decide +kernel
theorem dX7_passOn_28 : decode cX7_passOn 28 = .ok (.iload_n 1, 1) := by decide +kernel
theorem dX7_passOn_29 : decode cX7_passOn 29 = .ok (.iload_n 2, 1) := by decide +kernel
theorem dX7_passOn_30 : decode cX7_passOn 30 = .ok (.iadd, 1) := by decide +kernel
theorem dX7_passOn_31 : decode cX7_passOn 31 = .ok (.invokevirtual 44, 3) := by decide +kernel
theorem dX7_passOn_34 : decode cX7_passOn 34 = .ok (.isub, 1) := by decide +kernel
theorem dX7_passOn_35 : decode cX7_passOn 35 = .ok (.imul, 1) := by decide +kernel
theorem dX7_passOn_36 : decode cX7_passOn 36 = .ok (.istore_n 3, 1) := by decide +kernel
theorem dX7_passOn_37 : decode cX7_passOn 37 = .ok (.aload_n 0, 1) := by decide +kernel
theorem dX7_passOn_38 : decode cX7_passOn 38 = .ok (.getfield 15, 3) := by decide +kernel
theorem dX7_passOn_41 : decode cX7_passOn 41 = .ok (.iload_n 2, 1) := by decide +kernel
theorem dX7_passOn_42 : decode cX7_passOn 42 = .ok (.aload_n 0, 1) := by decide +kernel
theorem dX7_passOn_43 : decode cX7_passOn 43 = .ok (.getfield 15, 3) := by decide +kernel
theorem dX7_passOn_46 : decode cX7_passOn 46 = .ok (.iload_n 2, 1) := by decide +kernel
theorem dX7_passOn_47 : decode cX7_passOn 47 = .ok (.invokestatic 36, 3) := by decide +kernel
theorem dX7_passOn_50 : decode cX7_passOn 50 = .ok (.iload_n 3, 1) := by decide +kernel
theorem dX7_passOn_51 : decode cX7_passOn 51 = .ok (.iadd, 1) := by decide +kernel
theorem dX7_passOn_52 : decode cX7_passOn 52 = .ok (.invokestatic 26, 3) := by decide +kernel
theorem dX7_passOn_55 : decode cX7_passOn 55 = .ok (.iinc 2 1, 3) := by decide +kernel
theorem dX7_passOn_58 : decode cX7_passOn 58 = .ok (.goto (-56), 3) := by decide +kernel
theorem dX7_passOn_61 : decode cX7_passOn 61 = .ok (.return_, 1) := by decide +kernel
theorem dX7_noiseOfEchoes_0 : decode cX7_noiseOfEchoes 0 = .ok (.lconst 0, 1) := by decide +kernel
theorem dX7_noiseOfEchoes_1 : decode cX7_noiseOfEchoes 1 = .ok (.lstore_n 1, 1) := by decide +kernel
theorem dX7_noiseOfEchoes_2 : decode cX7_noiseOfEchoes 2 = .ok (.iconst 1, 1) := by decide +kernel
theorem dX7_noiseOfEchoes_3 : decode cX7_noiseOfEchoes 3 = .ok (.istore_n 3, 1) := by decide +kernel
theorem dX7_noiseOfEchoes_4 : decode cX7_noiseOfEchoes 4 = .ok (.iload_n 3, 1) := by decide +kernel
theorem dX7_noiseOfEchoes_5 : decode cX7_noiseOfEchoes 5 = .ok (.aload_n 0, 1) := by decide +kernel
theorem dX7_noiseOfEchoes_6 : decode cX7_noiseOfEchoes 6 = .ok (.getfield 18, 3) := by decide +kernel
theorem dX7_noiseOfEchoes_9 : decode cX7_noiseOfEchoes 9 = .ok (.if_icmp .ge 28, 3) := by decide +kernel
theorem dX7_noiseOfEchoes_12 : decode cX7_noiseOfEchoes 12 = .ok (.aload_n 0, 1) := by decide +kernel
theorem dX7_noiseOfEchoes_13 : decode cX7_noiseOfEchoes 13 = .ok (.getfield 15, 3) := by decide +kernel
theorem dX7_noiseOfEchoes_16 : decode cX7_noiseOfEchoes 16 = .ok (.iload_n 3, 1) := by decide +kernel
theorem dX7_noiseOfEchoes_17 : decode cX7_noiseOfEchoes 17 = .ok (.invokestatic 36, 3) := by decide +kernel
theorem dX7_noiseOfEchoes_20 : decode cX7_noiseOfEchoes 20 = .ok (.i2l, 1) := by decide +kernel
theorem dX7_noiseOfEchoes_21 : decode cX7_noiseOfEchoes 21 = .ok (.lstore 4, 2) := by decide +kernel
theorem dX7_noiseOfEchoes_23 : decode cX7_noiseOfEchoes 23 = .ok (.lload_n 1, 1) := by decide +kernel
theorem dX7_noiseOfEchoes_24 : decode cX7_noiseOfEchoes 24 = .ok (.lload 4, 2) := by decide +kernel
theorem dX7_noiseOfEchoes_26 : decode cX7_noiseOfEchoes 26 = .ok (.lload 4, 2) := by decide +kernel
theorem dX7_noiseOfEchoes_28 : decode cX7_noiseOfEchoes 28 = .ok (.lmul, 1) := by decide +kernel
theorem dX7_noiseOfEchoes_29 : decode cX7_noiseOfEchoes 29 = .ok (.ladd, 1) := by decide +kernel
theorem dX7_noiseOfEchoes_30 : decode cX7_noiseOfEchoes 30 = .ok (.lstore_n 1, 1) := by decide +kernel
theorem dX7_noiseOfEchoes_31 : decode cX7_noiseOfEchoes 31 = .ok (.iinc 3 1, 3) := by decide +kernel
theorem dX7_noiseOfEchoes_34 : decode cX7_noiseOfEchoes 34 = .ok (.goto (-30), 3) := by decide +kernel
theorem dX7_noiseOfEchoes_37 : decode cX7_noiseOfEchoes 37 = .ok (.lload_n 1, 1) := by decide +kernel
theorem dX7_noiseOfEchoes_38 : decode cX7_noiseOfEchoes 38 = .ok (.lreturn, 1) := by decide +kernel
theorem dX8_isOddPrime_0 : decode cX8_isOddPrime 0 = .ok (.iload_n 0, 1) := by decide +kernel
theorem dX8_isOddPrime_1 : decode cX8_isOddPrime 1 = .ok (.iconst 3, 1) := by decide +kernel
theorem dX8_isOddPrime_2 : decode cX8_isOddPrime 2 = .ok (.if_icmp .lt 10, 3) := by decide +kernel
theorem dX8_isOddPrime_5 : decode cX8_isOddPrime 5 = .ok (.iload_n 0, 1) := by decide +kernel
theorem dX8_isOddPrime_6 : decode cX8_isOddPrime 6 = .ok (.sipush 199, 3) := by decide +kernel
theorem dX8_isOddPrime_9 : decode cX8_isOddPrime 9 = .ok (.if_icmp .le 5, 3) := by decide +kernel
theorem dX8_isOddPrime_12 : decode cX8_isOddPrime 12 = .ok (.iconst 0, 1) := by decide +kernel
theorem dX8_isOddPrime_13 : decode cX8_isOddPrime 13 = .ok (.ireturn, 1) := by decide +kernel
theorem dX8_isOddPrime_14 : decode cX8_isOddPrime 14 = .ok (.iconst 2, 1) := by decide +kernel
theorem dX8_isOddPrime_15 : decode cX8_isOddPrime 15 = .ok (.istore_n 1, 1) := by decide +kernel
theorem dX8_isOddPrime_16 : decode cX8_isOddPrime 16 = .ok (.iload_n 1, 1) := by decide +kernel
theorem dX8_isOddPrime_17 : decode cX8_isOddPrime 17 = .ok (.iload_n 0, 1) := by decide +kernel
theorem dX8_isOddPrime_18 : decode cX8_isOddPrime 18 = .ok (.if_icmp .ge 17, 3) := by decide +kernel
theorem dX8_isOddPrime_21 : decode cX8_isOddPrime 21 = .ok (.iload_n 0, 1) := by decide +kernel
theorem dX8_isOddPrime_22 : decode cX8_isOddPrime 22 = .ok (.iload_n 1, 1) := by decide +kernel
theorem dX8_isOddPrime_23 : decode cX8_isOddPrime 23 = .ok (.irem, 1) := by decide +kernel
theorem dX8_isOddPrime_24 : decode cX8_isOddPrime 24 = .ok (.ifCond .ne 5, 3) := by decide +kernel
theorem dX8_isOddPrime_27 : decode cX8_isOddPrime 27 = .ok (.iconst 0, 1) := by decide +kernel
theorem dX8_isOddPrime_28 : decode cX8_isOddPrime 28 = .ok (.ireturn, 1) := by decide +kernel
theorem dX8_isOddPrime_29 : decode cX8_isOddPrime 29 = .ok (.iinc 1 1, 3) := by decide +kernel
theorem dX8_isOddPrime_32 : decode cX8_isOddPrime 32 = .ok (.goto (-16), 3) := by decide +kernel
theorem dX8_isOddPrime_35 : decode cX8_isOddPrime 35 = .ok (.iconst 1, 1) := by decide +kernel
theorem dX8_isOddPrime_36 : decode cX8_isOddPrime 36 = .ok (.ireturn, 1) := by decide +kernel
theorem dX8_commonPart_0 : decode cX8_commonPart 0 = .ok (.iload_n 0, 1) := by decide +kernel
theorem dX8_commonPart_1 : decode cX8_commonPart 1 = .ok (.istore_n 2, 1) := by decide +kernel
theorem dX8_commonPart_2 : decode cX8_commonPart 2 = .ok (.iload_n 2, 1) := by decide +kernel
theorem dX8_commonPart_3 : decode cX8_commonPart 3 = .ok (.iconst 1, 1) := by decide +kernel
theorem dX8_commonPart_4 : decode cX8_commonPart 4 = .ok (.if_icmp .le 23, 3) := by decide +kernel
theorem dX8_commonPart_7 : decode cX8_commonPart 7 = .ok (.iload_n 0, 1) := by decide +kernel
theorem dX8_commonPart_8 : decode cX8_commonPart 8 = .ok (.iload_n 2, 1) := by decide +kernel
theorem dX8_commonPart_9 : decode cX8_commonPart 9 = .ok (.irem, 1) := by decide +kernel
theorem dX8_commonPart_10 : decode cX8_commonPart 10 = .ok (.ifCond .ne 11, 3) := by decide +kernel
theorem dX8_commonPart_13 : decode cX8_commonPart 13 = .ok (.iload_n 1, 1) := by decide +kernel
theorem dX8_commonPart_14 : decode cX8_commonPart 14 = .ok (.iload_n 2, 1) := by decide +kernel
theorem dX8_commonPart_15 : decode cX8_commonPart 15 = .ok (.irem, 1) := by decide +kernel
theorem dX8_commonPart_16 : decode cX8_commonPart 16 = .ok (.ifCond .ne 5, 3) := by decide +kernel
theorem dX8_commonPart_19 : decode cX8_commonPart 19 = .ok (.iload_n 2, 1) := by decide +kernel
theorem dX8_commonPart_20 : decode cX8_commonPart 20 = .ok (.ireturn, 1) := by decide +kernel
theorem dX8_commonPart_21 : decode cX8_commonPart 21 = .ok (.iinc 2 (-1), 3) := by decide +kernel
theorem dX8_commonPart_24 : decode cX8_commonPart 24 = .ok (.goto (-22), 3) := by decide +kernel
theorem dX8_commonPart_27 : decode cX8_commonPart 27 = .ok (.iconst 1, 1) := by decide +kernel
theorem dX8_commonPart_28 : decode cX8_commonPart 28 = .ok (.ireturn, 1) := by decide +kernel
theorem dX8_signOf_0 : decode cX8_signOf 0 = .ok (.iload_n 0, 1) := by decide +kernel
theorem dX8_signOf_1 : decode cX8_signOf 1 = .ok (.i2l, 1) := by decide +kernel
theorem dX8_signOf_2 : decode cX8_signOf 2 = .ok (.iload_n 1, 1) := by decide +kernel
theorem dX8_signOf_3 : decode cX8_signOf 3 = .ok (.invokestatic 11, 3) := by decide +kernel
theorem dX8_signOf_6 : decode cX8_signOf 6 = .ok (.istore_n 2, 1) := by decide +kernel
theorem dX8_signOf_7 : decode cX8_signOf 7 = .ok (.iload_n 2, 1) := by decide +kernel
theorem dX8_signOf_8 : decode cX8_signOf 8 = .ok (.ifCond .ne 5, 3) := by decide +kernel
theorem dX8_signOf_11 : decode cX8_signOf 11 = .ok (.iconst 0, 1) := by decide +kernel
theorem dX8_signOf_12 : decode cX8_signOf 12 = .ok (.ireturn, 1) := by decide +kernel
theorem dX8_signOf_13 : decode cX8_signOf 13 = .ok (.iconst 1, 1) := by decide +kernel
theorem dX8_signOf_14 : decode cX8_signOf 14 = .ok (.istore_n 3, 1) := by decide +kernel
theorem dX8_signOf_15 : decode cX8_signOf 15 = .ok (.iload_n 3, 1) := by decide +kernel
theorem dX8_signOf_16 : decode cX8_signOf 16 = .ok (.iload_n 1, 1) := by decide +kernel
theorem dX8_signOf_17 : decode cX8_signOf 17 = .ok (.if_icmp .ge 23, 3) := by decide +kernel
theorem dX8_signOf_20 : decode cX8_signOf 20 = .ok (.iload_n 3, 1) := by decide +kernel
theorem dX8_signOf_21 : decode cX8_signOf 21 = .ok (.iload_n 3, 1) := by decide +kernel
theorem dX8_signOf_22 : decode cX8_signOf 22 = .ok (.imul, 1) := by decide +kernel
theorem dX8_signOf_23 : decode cX8_signOf 23 = .ok (.i2l, 1) := by decide +kernel
theorem dX8_signOf_24 : decode cX8_signOf 24 = .ok (.iload_n 1, 1) := by decide +kernel
theorem dX8_signOf_25 : decode cX8_signOf 25 = .ok (.invokestatic 11, 3) := by decide +kernel
theorem dX8_signOf_28 : decode cX8_signOf 28 = .ok (.iload_n 2, 1) := by decide +kernel
theorem dX8_signOf_29 : decode cX8_signOf 29 = .ok (.if_icmp .ne 5, 3) := by decide +kernel
theorem dX8_signOf_32 : decode cX8_signOf 32 = .ok (.iconst 1, 1) := by decide +kernel
theorem dX8_signOf_33 : decode cX8_signOf 33 = .ok (.ireturn, 1) := by decide +kernel
theorem dX8_signOf_34 : decode cX8_signOf 34 = .ok (.iinc 3 1, 3) := by decide +kernel
theorem dX8_signOf_37 : decode cX8_signOf 37 = .ok (.goto (-22), 3) := by decide +kernel
theorem dX8_signOf_40 : decode cX8_signOf 40 = .ok (.iconst (-1), 1) := by decide +kernel
theorem dX8_signOf_41 : decode cX8_signOf 41 = .ok (.ireturn, 1) := by decide +kernel
theorem dX8_isSquare_0 : decode cX8_isSquare 0 = .ok (.iconst 0, 1) := by decide +kernel
theorem dX8_isSquare_1 : decode cX8_isSquare 1 = .ok (.istore_n 1, 1) := by decide +kernel
theorem dX8_isSquare_2 : decode cX8_isSquare 2 = .ok (.iload_n 1, 1) := by decide +kernel
theorem dX8_isSquare_3 : decode cX8_isSquare 3 = .ok (.iload_n 1, 1) := by decide +kernel
theorem dX8_isSquare_4 : decode cX8_isSquare 4 = .ok (.imul, 1) := by decide +kernel
theorem dX8_isSquare_5 : decode cX8_isSquare 5 = .ok (.iload_n 0, 1) := by decide +kernel
theorem dX8_isSquare_6 : decode cX8_isSquare 6 = .ok (.if_icmp .gt 25, 3) := by decide +kernel
theorem dX8_isSquare_9 : decode cX8_isSquare 9 = .ok (.iload_n 1, 1) := by decide +kernel
theorem dX8_isSquare_10 : decode cX8_isSquare 10 = .ok (.sipush 199, 3) := by decide +kernel
theorem dX8_isSquare_13 : decode cX8_isSquare 13 = .ok (.if_icmp .gt 18, 3) := by decide +kernel
theorem dX8_isSquare_16 : decode cX8_isSquare 16 = .ok (.iload_n 1, 1) := by decide +kernel
theorem dX8_isSquare_17 : decode cX8_isSquare 17 = .ok (.iload_n 1, 1) := by decide +kernel
theorem dX8_isSquare_18 : decode cX8_isSquare 18 = .ok (.imul, 1) := by decide +kernel
theorem dX8_isSquare_19 : decode cX8_isSquare 19 = .ok (.iload_n 0, 1) := by decide +kernel
theorem dX8_isSquare_20 : decode cX8_isSquare 20 = .ok (.if_icmp .ne 5, 3) := by decide +kernel
theorem dX8_isSquare_23 : decode cX8_isSquare 23 = .ok (.iconst 1, 1) := by decide +kernel
theorem dX8_isSquare_24 : decode cX8_isSquare 24 = .ok (.ireturn, 1) := by decide +kernel
theorem dX8_isSquare_25 : decode cX8_isSquare 25 = .ok (.iinc 1 1, 3) := by decide +kernel
theorem dX8_isSquare_28 : decode cX8_isSquare 28 = .ok (.goto (-26), 3) := by decide +kernel
theorem dX8_isSquare_31 : decode cX8_isSquare 31 = .ok (.iconst 0, 1) := by decide +kernel
theorem dX8_isSquare_32 : decode cX8_isSquare 32 = .ok (.ireturn, 1) := by decide +kernel
theorem dX8_leastForm_0 : decode cX8_leastForm 0 = .ok (.iconst 0, 1) := by decide +kernel
theorem dX8_leastForm_1 : decode cX8_leastForm 1 = .ok (.istore_n 2, 1) := by decide +kernel
theorem dX8_leastForm_2 : decode cX8_leastForm 2 = .ok (.iload_n 2, 1) := by decide +kernel
theorem dX8_leastForm_3 : decode cX8_leastForm 3 = .ok (.iload_n 0, 1) := by decide +kernel
theorem dX8_leastForm_4 : decode cX8_leastForm 4 = .ok (.if_icmp .gt 33, 3) := by decide +kernel
theorem dX8_leastForm_7 : decode cX8_leastForm 7 = .ok (.iload_n 1, 1) := by decide +kernel
theorem dX8_leastForm_8 : decode cX8_leastForm 8 = .ok (.iload_n 2, 1) := by decide +kernel
theorem dX8_leastForm_9 : decode cX8_leastForm 9 = .ok (.imul, 1) := by decide +kernel
theorem dX8_leastForm_10 : decode cX8_leastForm 10 = .ok (.iload_n 2, 1) := by decide +kernel
theorem dX8_leastForm_11 : decode cX8_leastForm 11 = .ok (.imul, 1) := by decide +kernel
theorem dX8_leastForm_12 : decode cX8_leastForm 12 = .ok (.iload_n 0, 1) := by decide +kernel
theorem dX8_leastForm_13 : decode cX8_leastForm 13 = .ok (.if_icmp .gt 24, 3) := by decide +kernel
theorem dX8_leastForm_16 : decode cX8_leastForm 16 = .ok (.iload_n 0, 1) := by decide +kernel
theorem dX8_leastForm_17 : decode cX8_leastForm 17 = .ok (.iload_n 1, 1) := by decide +kernel
theorem dX8_leastForm_18 : decode cX8_leastForm 18 = .ok (.iload_n 2, 1) := by decide +kernel
theorem dX8_leastForm_19 : decode cX8_leastForm 19 = .ok (.imul, 1) := by decide +kernel
theorem dX8_leastForm_20 : decode cX8_leastForm 20 = .ok (.iload_n 2, 1) := by decide +kernel
theorem dX8_leastForm_21 : decode cX8_leastForm 21 = .ok (.imul, 1) := by decide +kernel
theorem dX8_leastForm_22 : decode cX8_leastForm 22 = .ok (.isub, 1) := by decide +kernel
theorem dX8_leastForm_23 : decode cX8_leastForm 23 = .ok (.invokestatic 17, 3) := by decide +kernel
theorem dX8_leastForm_26 : decode cX8_leastForm 26 = .ok (.ifCond .eq 5, 3) := by decide +kernel
theorem dX8_leastForm_29 : decode cX8_leastForm 29 = .ok (.iload_n 2, 1) := by decide +kernel
theorem dX8_leastForm_30 : decode cX8_leastForm 30 = .ok (.ireturn, 1) := by decide +kernel
theorem dX8_leastForm_31 : decode cX8_leastForm 31 = .ok (.iinc 2 1, 3) := by decide +kernel
theorem dX8_leastForm_34 : decode cX8_leastForm 34 = .ok (.goto (-32), 3) := by decide +kernel
theorem dX8_leastForm_37 : decode cX8_leastForm 37 = .ok (.bipush (-2), 2) := by decide +kernel
theorem dX8_leastForm_39 : decode cX8_leastForm 39 = .ok (.ireturn, 1) := by decide +kernel
theorem dX8_classBySums_0 : decode cX8_classBySums 0 = .ok (.iconst 0, 1) := by decide +kernel
theorem dX8_classBySums_1 : decode cX8_classBySums 1 = .ok (.istore_n 1, 1) := by decide +kernel
theorem dX8_classBySums_2 : decode cX8_classBySums 2 = .ok (.iconst 1, 1) := by decide +kernel
theorem dX8_classBySums_3 : decode cX8_classBySums 3 = .ok (.istore_n 2, 1) := by decide +kernel
theorem dX8_classBySums_4 : decode cX8_classBySums 4 = .ok (.iload_n 2, 1) := by decide +kernel
theorem dX8_classBySums_5 : decode cX8_classBySums 5 = .ok (.iload_n 0, 1) := by decide +kernel
theorem dX8_classBySums_6 : decode cX8_classBySums 6 = .ok (.if_icmp .ge 19, 3) := by decide +kernel
theorem dX8_classBySums_9 : decode cX8_classBySums 9 = .ok (.iload_n 1, 1) := by decide +kernel
theorem dX8_classBySums_10 : decode cX8_classBySums 10 = .ok (.iload_n 2, 1) := by decide +kernel
theorem dX8_classBySums_11 : decode cX8_classBySums 11 = .ok (.iload_n 2, 1) := by decide +kernel
theorem dX8_classBySums_12 : decode cX8_classBySums 12 = .ok (.iload_n 0, 1) := by decide +kernel
theorem dX8_classBySums_13 : decode cX8_classBySums 13 = .ok (.invokestatic 23, 3) := by decide +kernel
theorem dX8_classBySums_16 : decode cX8_classBySums 16 = .ok (.imul, 1) := by decide +kernel
theorem dX8_classBySums_17 : decode cX8_classBySums 17 = .ok (.iadd, 1) := by decide +kernel
theorem dX8_classBySums_18 : decode cX8_classBySums 18 = .ok (.istore_n 1, 1) := by decide +kernel
theorem dX8_classBySums_19 : decode cX8_classBySums 19 = .ok (.iinc 2 1, 3) := by decide +kernel
theorem dX8_classBySums_22 : decode cX8_classBySums 22 = .ok (.goto (-18), 3) := by decide +kernel
theorem dX8_classBySums_25 : decode cX8_classBySums 25 = .ok (.iload_n 0, 1) := by decide +kernel
theorem dX8_classBySums_26 : decode cX8_classBySums 26 = .ok (.iconst 1, 1) := by decide +kernel
theorem dX8_classBySums_27 : decode cX8_classBySums 27 = .ok (.if_icmp .ge 7, 3) := by decide +kernel
theorem dX8_classBySums_30 : decode cX8_classBySums 30 = .ok (.iconst 0, 1) := by decide +kernel
theorem dX8_classBySums_31 : decode cX8_classBySums 31 = .ok (.goto 7, 3) := by decide +kernel
theorem dX8_classBySums_34 : decode cX8_classBySums 34 = .ok (.iload_n 1, 1) := by decide +kernel
theorem dX8_classBySums_35 : decode cX8_classBySums 35 = .ok (.ineg, 1) := by decide +kernel
theorem dX8_classBySums_36 : decode cX8_classBySums 36 = .ok (.iload_n 0, 1) := by decide +kernel
theorem dX8_classBySums_37 : decode cX8_classBySums 37 = .ok (.idiv, 1) := by decide +kernel
theorem dX8_classBySums_38 : decode cX8_classBySums 38 = .ok (.ireturn, 1) := by decide +kernel
theorem dX8_classByForms_0 : decode cX8_classByForms 0 = .ok (.iconst 0, 1) := by decide +kernel
theorem dX8_classByForms_1 : decode cX8_classByForms 1 = .ok (.istore_n 1, 1) := by decide +kernel
theorem dX8_classByForms_2 : decode cX8_classByForms 2 = .ok (.iconst 1, 1) := by decide +kernel
theorem dX8_classByForms_3 : decode cX8_classByForms 3 = .ok (.istore_n 2, 1) := by decide +kernel
theorem dX8_classByForms_4 : decode cX8_classByForms 4 = .ok (.iconst 3, 1) := by decide +kernel
theorem dX8_classByForms_5 : decode cX8_classByForms 5 = .ok (.iload_n 2, 1) := by decide +kernel
theorem dX8_classByForms_6 : decode cX8_classByForms 6 = .ok (.imul, 1) := by decide +kernel
theorem dX8_classByForms_7 : decode cX8_classByForms 7 = .ok (.iload_n 2, 1) := by decide +kernel
theorem dX8_classByForms_8 : decode cX8_classByForms 8 = .ok (.imul, 1) := by decide +kernel
theorem dX8_classByForms_9 : decode cX8_classByForms 9 = .ok (.iload_n 0, 1) := by decide +kernel
theorem dX8_classByForms_10 : decode cX8_classByForms 10 = .ok (.if_icmp .gt 45, 3) := by decide +kernel
theorem dX8_classByForms_13 : decode cX8_classByForms 13 = .ok (.iload_n 2, 1) := by decide +kernel
theorem dX8_classByForms_14 : decode cX8_classByForms 14 = .ok (.iload_n 0, 1) := by decide +kernel
theorem dX8_classByForms_15 : decode cX8_classByForms 15 = .ok (.if_icmp .gt 40, 3) := by decide +kernel
theorem dX8_classByForms_18 : decode cX8_classByForms 18 = .ok (.iconst 1, 1) := by decide +kernel
theorem dX8_classByForms_19 : decode cX8_classByForms 19 = .ok (.iload_n 2, 1) := by decide +kernel
theorem dX8_classByForms_20 : decode cX8_classByForms 20 = .ok (.isub, 1) := by decide +kernel
theorem dX8_classByForms_21 : decode cX8_classByForms 21 = .ok (.istore_n 3, 1) := by decide +kernel
theorem dX8_classByForms_22 : decode cX8_classByForms 22 = .ok (.iload_n 3, 1) := by decide +kernel
theorem dX8_classByForms_23 : decode cX8_classByForms 23 = .ok (.iload_n 2, 1) := by decide +kernel
theorem dX8_classByForms_24 : decode cX8_classByForms 24 = .ok (.if_icmp .gt 25, 3) := by decide +kernel
theorem dX8_classByForms_27 : decode cX8_classByForms 27 = .ok (.iload_n 2, 1) := by decide +kernel
theorem dX8_classByForms_28 : decode cX8_classByForms 28 = .ok (.iload_n 3, 1) := by decide +kernel
theorem dX8_classByForms_29 : decode cX8_classByForms 29 = .ok (.iload_n 3, 1) := by decide +kernel
theorem dX8_classByForms_30 : decode cX8_classByForms 30 = .ok (.iload_n 3, 1) := by decide +kernel
theorem dX8_classByForms_31 : decode cX8_classByForms 31 = .ok (.imul, 1) := by decide +kernel
theorem dX8_classByForms_32 : decode cX8_classByForms 32 = .ok (.iload_n 0, 1) := by decide +kernel
theorem dX8_classByForms_33 : decode cX8_classByForms 33 = .ok (.iadd, 1) := by decide +kernel
theorem dX8_classByForms_34 : decode cX8_classByForms 34 = .ok (.invokestatic 27, 3) := by decide +kernel
theorem dX8_classByForms_37 : decode cX8_classByForms 37 = .ok (.ifCond .eq 6, 3) := by decide +kernel
theorem dX8_classByForms_40 : decode cX8_classByForms 40 = .ok (.iinc 1 1, 3) := by decide +kernel
theorem dX8_classByForms_43 : decode cX8_classByForms 43 = .ok (.iinc 3 1, 3) := by decide +kernel
theorem dX8_classByForms_46 : decode cX8_classByForms 46 = .ok (.goto (-24), 3) := by decide +kernel
theorem dX8_classByForms_49 : decode cX8_classByForms 49 = .ok (.iinc 2 1, 3) := by decide +kernel
theorem dX8_classByForms_52 : decode cX8_classByForms 52 = .ok (.goto (-48), 3) := by decide +kernel
theorem dX8_classByForms_55 : decode cX8_classByForms 55 = .ok (.iload_n 1, 1) := by decide +kernel
theorem dX8_classByForms_56 : decode cX8_classByForms 56 = .ok (.ireturn, 1) := by decide +kernel
theorem dX8_isReducedForm_0 : decode cX8_isReducedForm 0 = .ok (.iload_n 0, 1) := by decide +kernel
theorem dX8_isReducedForm_1 : decode cX8_isReducedForm 1 = .ok (.iconst 1, 1) := by decide +kernel
theorem dX8_isReducedForm_2 : decode cX8_isReducedForm 2 = .ok (.if_icmp .lt 11, 3) := by decide +kernel
theorem dX8_isReducedForm_5 : decode cX8_isReducedForm 5 = .ok (.iload_n 2, 1) := by decide +kernel
theorem dX8_isReducedForm_6 : decode cX8_isReducedForm 6 = .ok (.iconst 4, 1) := by decide +kernel
theorem dX8_isReducedForm_7 : decode cX8_isReducedForm 7 = .ok (.iload_n 0, 1) := by decide +kernel
theorem dX8_isReducedForm_8 : decode cX8_isReducedForm 8 = .ok (.imul, 1) := by decide +kernel
theorem dX8_isReducedForm_9 : decode cX8_isReducedForm 9 = .ok (.irem, 1) := by decide +kernel
theorem dX8_isReducedForm_10 : decode cX8_isReducedForm 10 = .ok (.ifCond .eq 5, 3) := by decide +kernel
theorem dX8_isReducedForm_13 : decode cX8_isReducedForm 13 = .ok (.iconst 0, 1) := by decide +kernel
theorem dX8_isReducedForm_14 : decode cX8_isReducedForm 14 = .ok (.ireturn, 1) := by decide +kernel
theorem dX8_isReducedForm_15 : decode cX8_isReducedForm 15 = .ok (.iload_n 2, 1) := by decide +kernel
theorem dX8_isReducedForm_16 : decode cX8_isReducedForm 16 = .ok (.iconst 4, 1) := by decide +kernel
theorem dX8_isReducedForm_17 : decode cX8_isReducedForm 17 = .ok (.iload_n 0, 1) := by decide +kernel
theorem dX8_isReducedForm_18 : decode cX8_isReducedForm 18 = .ok (.imul, 1) := by decide +kernel
theorem dX8_isReducedForm_19 : decode cX8_isReducedForm 19 = .ok (.idiv, 1) := by decide +kernel
theorem dX8_isReducedForm_20 : decode cX8_isReducedForm 20 = .ok (.istore_n 3, 1) := by decide +kernel
theorem dX8_isReducedForm_21 : decode cX8_isReducedForm 21 = .ok (.iload_n 3, 1) := by decide +kernel
theorem dX8_isReducedForm_22 : decode cX8_isReducedForm 22 = .ok (.iload_n 0, 1) := by decide +kernel
theorem dX8_isReducedForm_23 : decode cX8_isReducedForm 23 = .ok (.if_icmp .lt 12, 3) := by decide +kernel
theorem dX8_isReducedForm_26 : decode cX8_isReducedForm 26 = .ok (.iload_n 3, 1) := by decide +kernel
theorem dX8_isReducedForm_27 : decode cX8_isReducedForm 27 = .ok (.iload_n 0, 1) := by decide +kernel
theorem dX8_isReducedForm_28 : decode cX8_isReducedForm 28 = .ok (.if_icmp .ne 9, 3) := by decide +kernel
theorem dX8_isReducedForm_31 : decode cX8_isReducedForm 31 = .ok (.iload_n 1, 1) := by decide +kernel
theorem dX8_isReducedForm_32 : decode cX8_isReducedForm 32 = .ok (.ifCond .ge 5, 3) := by decide +kernel
theorem dX8_isReducedForm_35 : decode cX8_isReducedForm 35 = .ok (.iconst 0, 1) := by decide +kernel
theorem dX8_isReducedForm_36 : decode cX8_isReducedForm 36 = .ok (.ireturn, 1) := by decide +kernel
theorem dX8_isReducedForm_37 : decode cX8_isReducedForm 37 = .ok (.iload_n 0, 1) := by decide +kernel
theorem dX8_isReducedForm_38 : decode cX8_isReducedForm 38 = .ok (.iload_n 1, 1) := by decide +kernel
theorem dX8_isReducedForm_39 : decode cX8_isReducedForm 39 = .ok (.invokestatic 31, 3) := by decide +kernel
theorem dX8_isReducedForm_42 : decode cX8_isReducedForm 42 = .ok (.iload_n 3, 1) := by decide +kernel
theorem dX8_isReducedForm_43 : decode cX8_isReducedForm 43 = .ok (.invokestatic 31, 3) := by decide +kernel
theorem dX8_isReducedForm_46 : decode cX8_isReducedForm 46 = .ok (.iconst 1, 1) := by decide +kernel
theorem dX8_isReducedForm_47 : decode cX8_isReducedForm 47 = .ok (.if_icmp .ne 7, 3) := by decide +kernel
theorem dX8_isReducedForm_50 : decode cX8_isReducedForm 50 = .ok (.iconst 1, 1) := by decide +kernel
theorem dX8_isReducedForm_51 : decode cX8_isReducedForm 51 = .ok (.goto 4, 3) := by decide +kernel
theorem dX8_isReducedForm_54 : decode cX8_isReducedForm 54 = .ok (.iconst 0, 1) := by decide +kernel
theorem dX8_isReducedForm_55 : decode cX8_isReducedForm 55 = .ok (.ireturn, 1) := by decide +kernel
theorem dX9_init_0 : decode cX9_init 0 = .ok (.aload_n 0, 1) := by decide +kernel
theorem dX9_init_1 : decode cX9_init 1 = .ok (.invokespecial 3, 3) := by decide +kernel
theorem dX9_init_4 : decode cX9_init 4 = .ok (.aload_n 0, 1) := by decide +kernel
theorem dX9_init_5 : decode cX9_init 5 = .ok (.sipush 900, 3) := by decide +kernel
theorem dX9_init_8 : decode cX9_init 8 = .ok (.newarray .int, 2) := by decide +kernel
theorem dX9_init_10 : decode cX9_init 10 = .ok (.putfield 11, 3) := by decide +kernel
theorem dX9_init_13 : decode cX9_init 13 = .ok (.aload_n 0, 1) := by decide +kernel
theorem dX9_init_14 : decode cX9_init 14 = .ok (.bipush 13, 2) := by decide +kernel
theorem dX9_init_16 : decode cX9_init 16 = .ok (.newarray .long, 2) := by decide +kernel
theorem dX9_init_18 : decode cX9_init 18 = .ok (.putfield 15, 3) := by decide +kernel
theorem dX9_init_21 : decode cX9_init 21 = .ok (.aload_n 0, 1) := by decide +kernel
theorem dX9_init_22 : decode cX9_init 22 = .ok (.sipush 900, 3) := by decide +kernel
theorem dX9_init_25 : decode cX9_init 25 = .ok (.newarray .int, 2) := by decide +kernel
theorem dX9_init_27 : decode cX9_init 27 = .ok (.putfield 19, 3) := by decide +kernel
theorem dX9_init_30 : decode cX9_init 30 = .ok (.aload_n 0, 1) := by decide +kernel
theorem dX9_init_31 : decode cX9_init 31 = .ok (.sipush 900, 3) := by decide +kernel
theorem dX9_init_34 : decode cX9_init 34 = .ok (.newarray .long, 2) := by decide +kernel
theorem dX9_init_36 : decode cX9_init 36 = .ok (.putfield 22, 3) := by decide +kernel
theorem dX9_init_39 : decode cX9_init 39 = .ok (.aload_n 0, 1) := by decide +kernel
theorem dX9_init_40 : decode cX9_init 40 = .ok (.sipush 900, 3) := by decide +kernel
theorem dX9_init_43 : decode cX9_init 43 = .ok (.newarray .int, 2) := by decide +kernel
theorem dX9_init_45 : decode cX9_init 45 = .ok (.putfield 25, 3) := by decide +kernel
theorem dX9_init_48 : decode cX9_init 48 = .ok (.aload_n 0, 1) := by decide +kernel
theorem dX9_init_49 : decode cX9_init 49 = .ok (.iconst 0, 1) := by decide +kernel
theorem dX9_init_50 : decode cX9_init 50 = .ok (.putfield 28, 3) := by decide +kernel
theorem dX9_init_53 : decode cX9_init 53 = .ok (.aload_n 0, 1) := by decide +kernel
theorem dX9_init_54 : decode cX9_init 54 = .ok (.iconst 0, 1) := by decide +kernel
theorem dX9_init_55 : decode cX9_init 55 = .ok (.putfield 32, 3) := by decide +kernel
theorem dX9_init_58 : decode cX9_init 58 = .ok (.aload_n 0, 1) := by decide +kernel
theorem dX9_init_59 : decode cX9_init 59 = .ok (.iconst 0, 1) := by decide +kernel
theorem dX9_init_60 : decode cX9_init 60 = .ok (.putfield 35, 3) := by decide +kernel
theorem dX9_init_63 : decode cX9_init 63 = .ok (.aload_n 0, 1) := by decide +kernel
theorem dX9_init_64 : decode cX9_init 64 = .ok (.iconst 0, 1) := by decide +kernel
theorem dX9_init_65 : decode cX9_init 65 = .ok (.putfield 38, 3) := by decide +kernel
theorem dX9_init_68 : decode cX9_init 68 = .ok (.aload_n 0, 1) := by decide +kernel
theorem dX9_init_69 : decode cX9_init 69 = .ok (.iconst 0, 1) := by decide +kernel
theorem dX9_init_70 : decode cX9_init 70 = .ok (.putfield 41, 3) := by decide +kernel
theorem dX9_init_73 : decode cX9_init 73 = .ok (.aload_n 0, 1) := by decide +kernel
theorem dX9_init_74 : decode cX9_init 74 = .ok (.lconst 0, 1) := by decide +kernel
theorem dX9_init_75 : decode cX9_init 75 = .ok (.putfield 44, 3) := by decide +kernel
theorem dX9_init_78 : decode cX9_init 78 = .ok (.iconst 0, 1) := by decide +kernel
theorem dX9_init_79 : decode cX9_init 79 = .ok (.istore_n 1, 1) := by decide +kernel
theorem dX9_init_80 : decode cX9_init 80 = .ok (.iconst 0, 1) := by decide +kernel
theorem dX9_init_81 : decode cX9_init 81 = .ok (.istore_n 2, 1) := by decide +kernel
theorem dX9_init_82 : decode cX9_init 82 = .ok (.iload_n 2, 1) := by decide +kernel
theorem dX9_init_83 : decode cX9_init 83 = .ok (.ldc 48, 2) := by decide +kernel
theorem dX9_init_85 : decode cX9_init 85 = .ok (.invokevirtual 50, 3) := by decide +kernel
theorem dX9_init_88 : decode cX9_init 88 = .ok (.if_icmp .ge 48, 3) := by decide +kernel
theorem dX9_init_91 : decode cX9_init 91 = .ok (.ldc 48, 2) := by decide +kernel
theorem dX9_init_93 : decode cX9_init 93 = .ok (.iload_n 2, 1) := by decide +kernel
theorem dX9_init_94 : decode cX9_init 94 = .ok (.invokevirtual 56, 3) := by decide +kernel
theorem dX9_init_97 : decode cX9_init 97 = .ok (.istore_n 3, 1) := by decide +kernel
theorem dX9_init_98 : decode cX9_init 98 = .ok (.iload_n 3, 1) := by decide +kernel
theorem dX9_init_99 : decode cX9_init 99 = .ok (.bipush 32, 2) := by decide +kernel
theorem dX9_init_101 : decode cX9_init 101 = .ok (.if_icmp .ne 9, 3) := by decide +kernel
theorem dX9_init_104 : decode cX9_init 104 = .ok (.iinc 1 1, 3) := by decide +kernel
theorem dX9_init_107 : decode cX9_init 107 = .ok (.goto 23, 3) := by decide +kernel
theorem dX9_init_110 : decode cX9_init 110 = .ok (.aload_n 0, 1) := by decide +kernel
theorem dX9_init_111 : decode cX9_init 111 = .ok (.getfield 15, 3) := by decide +kernel
theorem dX9_init_114 : decode cX9_init 114 = .ok (.iload_n 1, 1) := by decide +kernel
theorem dX9_init_115 : decode cX9_init 115 = .ok (.aload_n 0, 1) := by decide +kernel
theorem dX9_init_116 : decode cX9_init 116 = .ok (.getfield 15, 3) := by decide +kernel
theorem dX9_init_119 : decode cX9_init 119 = .ok (.iload_n 1, 1) := by decide +kernel
theorem dX9_init_120 : decode cX9_init 120 = .ok (.invokestatic 60, 3) := by decide +kernel
theorem dX9_init_123 : decode cX9_init 123 = .ok (.iload_n 3, 1) := by decide +kernel
theorem dX9_init_124 : decode cX9_init 124 = .ok (.invokestatic 65, 3) := by decide +kernel
theorem dX9_init_127 : decode cX9_init 127 = .ok (.invokestatic 69, 3) := by decide +kernel
theorem dX9_init_130 : decode cX9_init 130 = .ok (.iinc 2 1, 3) := by decide +kernel
theorem dX9_init_133 : decode cX9_init 133 = .ok (.goto (-51), 3) := by decide +kernel
theorem dX9_init_136 : decode cX9_init 136 = .ok (.return_, 1) := by decide +kernel
theorem dX9_withLetter_0 : decode cX9_withLetter 0 = .ok (.lload_n 0, 1) := by decide +kernel
theorem dX9_withLetter_1 : decode cX9_withLetter 1 = .ok (.ldc2_w 73, 3) := by decide +kernel
theorem dX9_withLetter_4 : decode cX9_withLetter 4 = .ok (.lmul, 1) := by decide +kernel
theorem dX9_withLetter_5 : decode cX9_withLetter 5 = .ok (.iload_n 2, 1) := by decide +kernel
theorem dX9_withLetter_6 : decode cX9_withLetter 6 = .ok (.bipush 97, 2) := by decide +kernel
theorem dX9_withLetter_8 : decode cX9_withLetter 8 = .ok (.isub, 1) := by decide +kernel
theorem dX9_withLetter_9 : decode cX9_withLetter 9 = .ok (.iconst 1, 1) := by decide +kernel
theorem dX9_withLetter_10 : decode cX9_withLetter 10 = .ok (.iadd, 1) := by decide +kernel
theorem dX9_withLetter_11 : decode cX9_withLetter 11 = .ok (.i2l, 1) := by decide +kernel
theorem dX9_withLetter_12 : decode cX9_withLetter 12 = .ok (.ladd, 1) := by decide +kernel
theorem dX9_withLetter_13 : decode cX9_withLetter 13 = .ok (.lreturn, 1) := by decide +kernel
theorem dX9_bytesHeld_0 : decode cX9_bytesHeld 0 = .ok (.aload_n 0, 1) := by decide +kernel
theorem dX9_bytesHeld_1 : decode cX9_bytesHeld 1 = .ok (.getfield 28, 3) := by decide +kernel
theorem dX9_bytesHeld_4 : decode cX9_bytesHeld 4 = .ok (.ireturn, 1) := by decide +kernel
theorem dX9_hasRoom_0 : decode cX9_hasRoom 0 = .ok (.aload_n 0, 1) := by decide +kernel
theorem dX9_hasRoom_1 : decode cX9_hasRoom 1 = .ok (.getfield 28, 3) := by decide +kernel
theorem dX9_hasRoom_4 : decode cX9_hasRoom 4 = .ok (.iload_n 1, 1) := by decide +kernel
theorem dX9_hasRoom_5 : decode cX9_hasRoom 5 = .ok (.iadd, 1) := by decide +kernel
theorem dX9_hasRoom_6 : decode cX9_hasRoom 6 = .ok (.sipush 900, 3) := by decide +kernel
theorem dX9_hasRoom_9 : decode cX9_hasRoom 9 = .ok (.if_icmp .gt 7, 3) := by decide +kernel
theorem dX9_hasRoom_12 : decode cX9_hasRoom 12 = .ok (.iconst 1, 1) := by decide +kernel
theorem dX9_hasRoom_13 : decode cX9_hasRoom 13 = .ok (.goto 4, 3) := by decide +kernel
theorem dX9_hasRoom_16 : decode cX9_hasRoom 16 = .ok (.iconst 0, 1) := by decide +kernel
theorem dX9_hasRoom_17 : decode cX9_hasRoom 17 = .ok (.ireturn, 1) := by decide +kernel
theorem dX9_append_0 : decode cX9_append 0 = .ok (.bipush 24, 2) := by decide +kernel
theorem dX9_append_2 : decode cX9_append 2 = .ok (.istore_n 2, 1) := by decide +kernel
theorem dX9_append_3 : decode cX9_append 3 = .ok (.iload_n 2, 1) := by decide +kernel
theorem dX9_append_4 : decode cX9_append 4 = .ok (.ifCond .lt 37, 3) := by decide +kernel
theorem dX9_append_7 : decode cX9_append 7 = .ok (.aload_n 0, 1) := by decide +kernel
theorem dX9_append_8 : decode cX9_append 8 = .ok (.getfield 11, 3) := by decide +kernel
theorem dX9_append_11 : decode cX9_append 11 = .ok (.aload_n 0, 1) := by decide +kernel
theorem dX9_append_12 : decode cX9_append 12 = .ok (.getfield 28, 3) := by decide +kernel
theorem dX9_append_15 : decode cX9_append 15 = .ok (.iload_n 1, 1) := by decide +kernel
theorem dX9_append_16 : decode cX9_append 16 = .ok (.iload_n 2, 1) := by decide +kernel
theorem dX9_append_17 : decode cX9_append 17 = .ok (.ishr, 1) := by decide +kernel
theorem dX9_append_18 : decode cX9_append 18 = .ok (.sipush 255, 3) := by decide +kernel
theorem dX9_append_21 : decode cX9_append 21 = .ok (.iand, 1) := by decide +kernel
theorem dX9_append_22 : decode cX9_append 22 = .ok (.invokestatic 75, 3) := by decide +kernel
theorem dX9_append_25 : decode cX9_append 25 = .ok (.aload_n 0, 1) := by decide +kernel
theorem dX9_append_26 : decode cX9_append 26 = .ok (.dup, 1) := by decide +kernel
theorem dX9_append_27 : decode cX9_append 27 = .ok (.getfield 28, 3) := by decide +kernel
theorem dX9_append_30 : decode cX9_append 30 = .ok (.iconst 1, 1) := by decide +kernel
theorem dX9_append_31 : decode cX9_append 31 = .ok (.iadd, 1) := by decide +kernel
theorem dX9_append_32 : decode cX9_append 32 = .ok (.putfield 28, 3) := by decide +kernel
theorem dX9_append_35 : decode cX9_append 35 = .ok (.iinc 2 (-8), 3) := by decide +kernel
theorem dX9_append_38 : decode cX9_append 38 = .ok (.goto (-35), 3) := by decide +kernel
theorem dX9_append_41 : decode cX9_append 41 = .ok (.return_, 1) := by decide +kernel
theorem dX9_empty_0 : decode cX9_empty 0 = .ok (.aload_n 0, 1) := by decide +kernel
theorem dX9_empty_1 : decode cX9_empty 1 = .ok (.iconst 0, 1) := by decide +kernel
theorem dX9_empty_2 : decode cX9_empty 2 = .ok (.putfield 28, 3) := by decide +kernel
theorem dX9_empty_5 : decode cX9_empty 5 = .ok (.return_, 1) := by decide +kernel
theorem dX9_split_0 : decode cX9_split 0 = .ok (.aload_n 0, 1) := by decide +kernel
theorem dX9_split_1 : decode cX9_split 1 = .ok (.iload_n 1, 1) := by decide +kernel
theorem dX9_split_2 : decode cX9_split 2 = .ok (.aload_n 0, 1) := by decide +kernel
theorem dX9_split_3 : decode cX9_split 3 = .ok (.getfield 28, 3) := by decide +kernel
theorem dX9_split_6 : decode cX9_split 6 = .ok (.invokestatic 79, 3) := by decide +kernel
theorem dX9_split_9 : decode cX9_split 9 = .ok (.putfield 35, 3) := by decide +kernel
theorem dX9_split_12 : decode cX9_split 12 = .ok (.aload_n 0, 1) := by decide +kernel
theorem dX9_split_13 : decode cX9_split 13 = .ok (.iconst 0, 1) := by decide +kernel
theorem dX9_split_14 : decode cX9_split 14 = .ok (.putfield 32, 3) := by decide +kernel
theorem dX9_split_17 : decode cX9_split 17 = .ok (.iconst 0, 1) := by decide +kernel
theorem dX9_split_18 : decode cX9_split 18 = .ok (.istore_n 2, 1) := by decide +kernel
theorem dX9_split_19 : decode cX9_split 19 = .ok (.iconst 0, 1) := by decide +kernel
theorem dX9_split_20 : decode cX9_split 20 = .ok (.istore_n 3, 1) := by decide +kernel
theorem dX9_split_21 : decode cX9_split 21 = .ok (.iload_n 3, 1) := by decide +kernel
theorem dX9_split_22 : decode cX9_split 22 = .ok (.sipush 900, 3) := by decide +kernel
theorem dX9_split_25 : decode cX9_split 25 = .ok (.if_icmp .ge 101, 3) := by decide +kernel
theorem dX9_split_28 : decode cX9_split 28 = .ok (.iload_n 2, 1) := by decide +kernel
theorem dX9_split_29 : decode cX9_split 29 = .ok (.aload_n 0, 1) := by decide +kernel
theorem dX9_split_30 : decode cX9_split 30 = .ok (.getfield 35, 3) := by decide +kernel
theorem dX9_split_33 : decode cX9_split 33 = .ok (.if_icmp .ge 93, 3) := by decide +kernel
theorem dX9_split_36 : decode cX9_split 36 = .ok (.aload_n 0, 1) := by decide +kernel
theorem dX9_split_37 : decode cX9_split 37 = .ok (.getfield 11, 3) := by decide +kernel
theorem dX9_split_40 : decode cX9_split 40 = .ok (.iload_n 2, 1) := by decide +kernel
theorem dX9_split_41 : decode cX9_split 41 = .ok (.invokestatic 85, 3) := by decide +kernel
theorem dX9_split_44 : decode cX9_split 44 = .ok (.istore 4, 2) := by decide +kernel
theorem dX9_split_46 : decode cX9_split 46 = .ok (.iload 4, 2) := by decide +kernel
theorem dX9_split_48 : decode cX9_split 48 = .ok (.bipush 32, 2) := by decide +kernel
theorem dX9_split_50 : decode cX9_split 50 = .ok (.if_icmp .ne 9, 3) := by decide +kernel
theorem dX9_split_53 : decode cX9_split 53 = .ok (.iinc 2 1, 3) := by decide +kernel
theorem dX9_split_56 : decode cX9_split 56 = .ok (.goto 64, 3) := by decide +kernel
theorem dX9_split_59 : decode cX9_split 59 = .ok (.iload 4, 2) := by decide +kernel
theorem dX9_split_61 : decode cX9_split 61 = .ok (.invokestatic 89, 3) := by decide +kernel
theorem dX9_split_64 : decode cX9_split 64 = .ok (.ifCond .eq 12, 3) := by decide +kernel
theorem dX9_split_67 : decode cX9_split 67 = .ok (.aload_n 0, 1) := by decide +kernel
theorem dX9_split_68 : decode cX9_split 68 = .ok (.iload_n 2, 1) := by decide +kernel
theorem dX9_split_69 : decode cX9_split 69 = .ok (.invokevirtual 93, 3) := by decide +kernel
theorem dX9_split_72 : decode cX9_split 72 = .ok (.istore_n 2, 1) := by decide +kernel
theorem dX9_split_73 : decode cX9_split 73 = .ok (.goto 47, 3) := by decide +kernel
theorem dX9_split_76 : decode cX9_split 76 = .ok (.iload 4, 2) := by decide +kernel
theorem dX9_split_78 : decode cX9_split 78 = .ok (.invokestatic 97, 3) := by decide +kernel
theorem dX9_split_81 : decode cX9_split 81 = .ok (.ifCond .eq 12, 3) := by decide +kernel
theorem dX9_split_84 : decode cX9_split 84 = .ok (.aload_n 0, 1) := by decide +kernel
theorem dX9_split_85 : decode cX9_split 85 = .ok (.iload_n 2, 1) := by decide +kernel
theorem dX9_split_86 : decode cX9_split 86 = .ok (.invokevirtual 100, 3) := by decide +kernel
theorem dX9_split_89 : decode cX9_split 89 = .ok (.istore_n 2, 1) := by decide +kernel
theorem dX9_split_90 : decode cX9_split 90 = .ok (.goto 30, 3) := by decide +kernel
theorem dX9_split_93 : decode cX9_split 93 = .ok (.aload_n 0, 1) := by decide +kernel
theorem dX9_split_94 : decode cX9_split 94 = .ok (.ldc 103, 2) := by decide +kernel
theorem dX9_split_96 : decode cX9_split 96 = .ok (.iload 4, 2) := by decide +kernel
theorem dX9_split_98 : decode cX9_split 98 = .ok (.i2c, 1) := by decide +kernel
theorem dX9_split_99 : decode cX9_split 99 = .ok (.invokevirtual 105, 3) := by decide +kernel
theorem dX9_split_102 : decode cX9_split 102 = .ok (.ifCond .lt 7, 3) := by decide +kernel
theorem dX9_split_105 : decode cX9_split 105 = .ok (.iconst 3, 1) := by decide +kernel
theorem dX9_split_106 : decode cX9_split 106 = .ok (.goto 4, 3) := by decide +kernel
theorem dX9_split_109 : decode cX9_split 109 = .ok (.iconst 1, 1) := by decide +kernel
theorem dX9_split_110 : decode cX9_split 110 = .ok (.iload 4, 2) := by decide +kernel
theorem dX9_split_112 : decode cX9_split 112 = .ok (.i2l, 1) := by decide +kernel
theorem dX9_split_113 : decode cX9_split 113 = .ok (.iload_n 2, 1) := by decide +kernel
theorem dX9_split_114 : decode cX9_split 114 = .ok (.invokevirtual 108, 3) := by decide +kernel
theorem dX9_split_117 : decode cX9_split 117 = .ok (.iinc 2 1, 3) := by decide +kernel
theorem dX9_split_120 : decode cX9_split 120 = .ok (.iinc 3 1, 3) := by decide +kernel
theorem dX9_split_123 : decode cX9_split 123 = .ok (.goto (-102), 3) := by decide +kernel
theorem dX9_split_126 : decode cX9_split 126 = .ok (.aload_n 0, 1) := by decide +kernel
theorem dX9_split_127 : decode cX9_split 127 = .ok (.iconst (-1), 1) := by decide +kernel
theorem dX9_split_128 : decode cX9_split 128 = .ok (.putfield 38, 3) := by decide +kernel
theorem dX9_split_131 : decode cX9_split 131 = .ok (.aload_n 0, 1) := by decide +kernel
theorem dX9_split_132 : decode cX9_split 132 = .ok (.invokevirtual 112, 3) := by decide +kernel
theorem dX9_split_135 : decode cX9_split 135 = .ok (.return_, 1) := by decide +kernel
theorem dX9_splitWord_0 : decode cX9_splitWord 0 = .ok (.iload_n 1, 1) := by decide +kernel
theorem dX9_splitWord_1 : decode cX9_splitWord 1 = .ok (.istore_n 2, 1) := by decide +kernel
theorem dX9_splitWord_2 : decode cX9_splitWord 2 = .ok (.lconst 0, 1) := by decide +kernel
theorem dX9_splitWord_3 : decode cX9_splitWord 3 = .ok (.lstore_n 3, 1) := by decide +kernel
theorem dX9_splitWord_4 : decode cX9_splitWord 4 = .ok (.iload_n 2, 1) := by decide +kernel
theorem dX9_splitWord_5 : decode cX9_splitWord 5 = .ok (.aload_n 0, 1) := by decide +kernel
theorem dX9_splitWord_6 : decode cX9_splitWord 6 = .ok (.getfield 35, 3) := by decide +kernel
theorem dX9_splitWord_9 : decode cX9_splitWord 9 = .ok (.if_icmp .ge 36, 3) := by decide +kernel
theorem dX9_splitWord_12 : decode cX9_splitWord 12 = .ok (.aload_n 0, 1) := by decide +kernel
theorem dX9_splitWord_13 : decode cX9_splitWord 13 = .ok (.getfield 11, 3) := by decide +kernel
theorem dX9_splitWord_16 : decode cX9_splitWord 16 = .ok (.iload_n 2, 1) := by decide +kernel
theorem dX9_splitWord_17 : decode cX9_splitWord 17 = .ok (.invokestatic 85, 3) := by decide +kernel
theorem dX9_splitWord_20 : decode cX9_splitWord 20 = .ok (.invokestatic 89, 3) := by decide +kernel
theorem dX9_splitWord_23 : decode cX9_splitWord 23 = .ok (.ifCond .eq 22, 3) := by decide +kernel
theorem dX9_splitWord_26 : decode cX9_splitWord 26 = .ok (.lload_n 3, 1) := by decide +kernel
theorem dX9_splitWord_27 : decode cX9_splitWord 27 = .ok (.aload_n 0, 1) := by decide +kernel
theorem dX9_splitWord_28 : decode cX9_splitWord 28 = .ok (.getfield 11, 3) := by decide +kernel
theorem dX9_splitWord_31 : decode cX9_splitWord 31 = .ok (.iload_n 2, 1) := by decide +kernel
theorem dX9_splitWord_32 : decode cX9_splitWord 32 = .ok (.invokestatic 85, 3) := by decide +kernel
theorem dX9_splitWord_35 : decode cX9_splitWord 35 = .ok (.invokestatic 65, 3) := by decide +kernel
theorem dX9_splitWord_38 : decode cX9_splitWord 38 = .ok (.lstore_n 3, 1) := by decide +kernel
theorem dX9_splitWord_39 : decode cX9_splitWord 39 = .ok (.iinc 2 1, 3) := by decide +kernel
theorem dX9_splitWord_42 : decode cX9_splitWord 42 = .ok (.goto (-38), 3) := by decide +kernel
theorem dX9_splitWord_45 : decode cX9_splitWord 45 = .ok (.aload_n 0, 1) := by decide +kernel
theorem dX9_splitWord_46 : decode cX9_splitWord 46 = .ok (.lload_n 3, 1) := by decide +kernel
theorem dX9_splitWord_47 : decode cX9_splitWord 47 = .ok (.invokevirtual 115, 3) := by decide +kernel
theorem dX9_splitWord_50 : decode cX9_splitWord 50 = .ok (.istore 5, 2) := by decide +kernel
theorem dX9_splitWord_52 : decode cX9_splitWord 52 = .ok (.iload_n 2, 1) := by decide +kernel
theorem dX9_splitWord_53 : decode cX9_splitWord 53 = .ok (.iload_n 1, 1) := by decide +kernel
theorem dX9_splitWord_54 : decode cX9_splitWord 54 = .ok (.isub, 1) := by decide +kernel
theorem dX9_splitWord_55 : decode cX9_splitWord 55 = .ok (.bipush 8, 2) := by decide +kernel
theorem dX9_splitWord_57 : decode cX9_splitWord 57 = .ok (.if_icmp .le 13, 3) := by decide +kernel
theorem dX9_splitWord_60 : decode cX9_splitWord 60 = .ok (.aload_n 0, 1) := by decide +kernel
theorem dX9_splitWord_61 : decode cX9_splitWord 61 = .ok (.iconst 1, 1) := by decide +kernel
theorem dX9_splitWord_62 : decode cX9_splitWord 62 = .ok (.lconst 0, 1) := by decide +kernel
theorem dX9_splitWord_63 : decode cX9_splitWord 63 = .ok (.iload_n 1, 1) := by decide +kernel
theorem dX9_splitWord_64 : decode cX9_splitWord 64 = .ok (.invokevirtual 108, 3) := by decide +kernel
theorem dX9_splitWord_67 : decode cX9_splitWord 67 = .ok (.goto 27, 3) := by decide +kernel
theorem dX9_splitWord_70 : decode cX9_splitWord 70 = .ok (.iload 5, 2) := by decide +kernel
theorem dX9_splitWord_72 : decode cX9_splitWord 72 = .ok (.ifCond .lt 15, 3) := by decide +kernel
theorem dX9_splitWord_75 : decode cX9_splitWord 75 = .ok (.aload_n 0, 1) := by decide +kernel
theorem dX9_splitWord_76 : decode cX9_splitWord 76 = .ok (.iconst 4, 1) := by decide +kernel
theorem dX9_splitWord_77 : decode cX9_splitWord 77 = .ok (.iload 5, 2) := by decide +kernel
theorem dX9_splitWord_79 : decode cX9_splitWord 79 = .ok (.i2l, 1) := by decide +kernel
theorem dX9_splitWord_80 : decode cX9_splitWord 80 = .ok (.iload_n 1, 1) := by decide +kernel
theorem dX9_splitWord_81 : decode cX9_splitWord 81 = .ok (.invokevirtual 108, 3) := by decide +kernel
theorem dX9_splitWord_84 : decode cX9_splitWord 84 = .ok (.goto 10, 3) := by decide +kernel
theorem dX9_splitWord_87 : decode cX9_splitWord 87 = .ok (.aload_n 0, 1) := by decide +kernel
theorem dX9_splitWord_88 : decode cX9_splitWord 88 = .ok (.iconst 5, 1) := by decide +kernel
theorem dX9_splitWord_89 : decode cX9_splitWord 89 = .ok (.lload_n 3, 1) := by decide +kernel
theorem dX9_splitWord_90 : decode cX9_splitWord 90 = .ok (.iload_n 1, 1) := by decide +kernel
theorem dX9_splitWord_91 : decode cX9_splitWord 91 = .ok (.invokevirtual 108, 3) := by decide +kernel
theorem dX9_splitWord_94 : decode cX9_splitWord 94 = .ok (.iload_n 2, 1) := by decide +kernel
theorem dX9_splitWord_95 : decode cX9_splitWord 95 = .ok (.ireturn, 1) := by decide +kernel
theorem dX9_keptNumber_0 : decode cX9_keptNumber 0 = .ok (.iconst 0, 1) := by decide +kernel
theorem dX9_keptNumber_1 : decode cX9_keptNumber 1 = .ok (.istore_n 3, 1) := by decide +kernel
theorem dX9_keptNumber_2 : decode cX9_keptNumber 2 = .ok (.iload_n 3, 1) := by decide +kernel
theorem dX9_keptNumber_3 : decode cX9_keptNumber 3 = .ok (.aload_n 0, 1) := by decide +kernel
theorem dX9_keptNumber_4 : decode cX9_keptNumber 4 = .ok (.getfield 15, 3) := by decide +kernel
theorem dX9_keptNumber_7 : decode cX9_keptNumber 7 = .ok (.arraylength, 1) := by decide +kernel
theorem dX9_keptNumber_8 : decode cX9_keptNumber 8 = .ok (.if_icmp .ge 22, 3) := by decide +kernel
theorem dX9_keptNumber_11 : decode cX9_keptNumber 11 = .ok (.aload_n 0, 1) := by decide +kernel
theorem dX9_keptNumber_12 : decode cX9_keptNumber 12 = .ok (.getfield 15, 3) := by decide +kernel
theorem dX9_keptNumber_15 : decode cX9_keptNumber 15 = .ok (.iload_n 3, 1) := by decide +kernel
theorem dX9_keptNumber_16 : decode cX9_keptNumber 16 = .ok (.laload, 1) := by decide +kernel
theorem dX9_keptNumber_17 : decode cX9_keptNumber 17 = .ok (.lload_n 1, 1) := by decide +kernel
theorem dX9_keptNumber_18 : decode cX9_keptNumber 18 = .ok (.lcmp, 1) := by decide +kernel
theorem dX9_keptNumber_19 : decode cX9_keptNumber 19 = .ok (.ifCond .ne 5, 3) := by decide +kernel
theorem dX9_keptNumber_22 : decode cX9_keptNumber 22 = .ok (.iload_n 3, 1) := by decide +kernel
theorem dX9_keptNumber_23 : decode cX9_keptNumber 23 = .ok (.ireturn, 1) := by decide +kernel
theorem dX9_keptNumber_24 : decode cX9_keptNumber 24 = .ok (.iinc 3 1, 3) := by decide +kernel
theorem dX9_keptNumber_27 : decode cX9_keptNumber 27 = .ok (.goto (-25), 3) := by decide +kernel
theorem dX9_keptNumber_30 : decode cX9_keptNumber 30 = .ok (.iconst (-1), 1) := by decide +kernel
theorem dX9_keptNumber_31 : decode cX9_keptNumber 31 = .ok (.ireturn, 1) := by decide +kernel
theorem dX9_splitWhole_0 : decode cX9_splitWhole 0 = .ok (.iload_n 1, 1) := by decide +kernel
theorem dX9_splitWhole_1 : decode cX9_splitWhole 1 = .ok (.istore_n 2, 1) := by decide +kernel
theorem dX9_splitWhole_2 : decode cX9_splitWhole 2 = .ok (.iconst 0, 1) := by decide +kernel
theorem dX9_splitWhole_3 : decode cX9_splitWhole 3 = .ok (.istore_n 3, 1) := by decide +kernel
theorem dX9_splitWhole_4 : decode cX9_splitWhole 4 = .ok (.iload_n 2, 1) := by decide +kernel
theorem dX9_splitWhole_5 : decode cX9_splitWhole 5 = .ok (.aload_n 0, 1) := by decide +kernel
theorem dX9_splitWhole_6 : decode cX9_splitWhole 6 = .ok (.getfield 35, 3) := by decide +kernel
theorem dX9_splitWhole_9 : decode cX9_splitWhole 9 = .ok (.if_icmp .ge 40, 3) := by decide +kernel
theorem dX9_splitWhole_12 : decode cX9_splitWhole 12 = .ok (.aload_n 0, 1) := by decide +kernel
theorem dX9_splitWhole_13 : decode cX9_splitWhole 13 = .ok (.getfield 11, 3) := by decide +kernel
theorem dX9_splitWhole_16 : decode cX9_splitWhole 16 = .ok (.iload_n 2, 1) := by decide +kernel
theorem dX9_splitWhole_17 : decode cX9_splitWhole 17 = .ok (.invokestatic 85, 3) := by decide +kernel
theorem dX9_splitWhole_20 : decode cX9_splitWhole 20 = .ok (.invokestatic 97, 3) := by decide +kernel
theorem dX9_splitWhole_23 : decode cX9_splitWhole 23 = .ok (.ifCond .eq 26, 3) := by decide +kernel
theorem dX9_splitWhole_26 : decode cX9_splitWhole 26 = .ok (.iload_n 3, 1) := by decide +kernel
theorem dX9_splitWhole_27 : decode cX9_splitWhole 27 = .ok (.bipush 10, 2) := by decide +kernel
theorem dX9_splitWhole_29 : decode cX9_splitWhole 29 = .ok (.imul, 1) := by decide +kernel
theorem dX9_splitWhole_30 : decode cX9_splitWhole 30 = .ok (.aload_n 0, 1) := by decide +kernel
theorem dX9_splitWhole_31 : decode cX9_splitWhole 31 = .ok (.getfield 11, 3) := by decide +kernel
theorem dX9_splitWhole_34 : decode cX9_splitWhole 34 = .ok (.iload_n 2, 1) := by decide +kernel
theorem dX9_splitWhole_35 : decode cX9_splitWhole 35 = .ok (.invokestatic 85, 3) := by decide +kernel
theorem dX9_splitWhole_38 : decode cX9_splitWhole 38 = .ok (.bipush 48, 2) := by decide +kernel
theorem dX9_splitWhole_40 : decode cX9_splitWhole 40 = .ok (.isub, 1) := by decide +kernel
theorem dX9_splitWhole_41 : decode cX9_splitWhole 41 = .ok (.iadd, 1) := by decide +kernel
theorem dX9_splitWhole_42 : decode cX9_splitWhole 42 = .ok (.istore_n 3, 1) := by decide +kernel
theorem dX9_splitWhole_43 : decode cX9_splitWhole 43 = .ok (.iinc 2 1, 3) := by decide +kernel
theorem dX9_splitWhole_46 : decode cX9_splitWhole 46 = .ok (.goto (-42), 3) := by decide +kernel
theorem dX9_splitWhole_49 : decode cX9_splitWhole 49 = .ok (.aload_n 0, 1) := by decide +kernel
theorem dX9_splitWhole_50 : decode cX9_splitWhole 50 = .ok (.iload_n 2, 1) := by decide +kernel
theorem dX9_splitWhole_51 : decode cX9_splitWhole 51 = .ok (.iload_n 1, 1) := by decide +kernel
theorem dX9_splitWhole_52 : decode cX9_splitWhole 52 = .ok (.isub, 1) := by decide +kernel
theorem dX9_splitWhole_53 : decode cX9_splitWhole 53 = .ok (.iconst 3, 1) := by decide +kernel
theorem dX9_splitWhole_54 : decode cX9_splitWhole 54 = .ok (.if_icmp .le 7, 3) := by decide +kernel
theorem dX9_splitWhole_57 : decode cX9_splitWhole 57 = .ok (.iconst 1, 1) := by decide +kernel
theorem dX9_splitWhole_58 : decode cX9_splitWhole 58 = .ok (.goto 4, 3) := by decide +kernel
theorem dX9_splitWhole_61 : decode cX9_splitWhole 61 = .ok (.iconst 2, 1) := by decide +kernel
theorem dX9_splitWhole_62 : decode cX9_splitWhole 62 = .ok (.iload_n 3, 1) := by decide +kernel
theorem dX9_splitWhole_63 : decode cX9_splitWhole 63 = .ok (.i2l, 1) := by decide +kernel
theorem dX9_splitWhole_64 : decode cX9_splitWhole 64 = .ok (.iload_n 1, 1) := by decide +kernel
theorem dX9_splitWhole_65 : decode cX9_splitWhole 65 = .ok (.invokevirtual 108, 3) := by decide +kernel
theorem dX9_splitWhole_68 : decode cX9_splitWhole 68 = .ok (.iload_n 2, 1) := by decide +kernel
theorem dX9_splitWhole_69 : decode cX9_splitWhole 69 = .ok (.ireturn, 1) := by decide +kernel
theorem dX9_keepToken_0 : decode cX9_keepToken 0 = .ok (.aload_n 0, 1) := by decide +kernel
theorem dX9_keepToken_1 : decode cX9_keepToken 1 = .ok (.getfield 19, 3) := by decide +kernel
theorem dX9_keepToken_4 : decode cX9_keepToken 4 = .ok (.aload_n 0, 1) := by decide +kernel
theorem dX9_keepToken_5 : decode cX9_keepToken 5 = .ok (.getfield 32, 3) := by decide +kernel
theorem dX9_keepToken_8 : decode cX9_keepToken 8 = .ok (.iload_n 1, 1) := by decide +kernel
theorem dX9_keepToken_9 : decode cX9_keepToken 9 = .ok (.invokestatic 75, 3) := by decide +kernel
theorem dX9_keepToken_12 : decode cX9_keepToken 12 = .ok (.aload_n 0, 1) := by decide +kernel
theorem dX9_keepToken_13 : decode cX9_keepToken 13 = .ok (.getfield 22, 3) := by decide +kernel
theorem dX9_keepToken_16 : decode cX9_keepToken 16 = .ok (.aload_n 0, 1) := by decide +kernel
theorem dX9_keepToken_17 : decode cX9_keepToken 17 = .ok (.getfield 32, 3) := by decide +kernel
theorem dX9_keepToken_20 : decode cX9_keepToken 20 = .ok (.lload_n 2, 1) := by decide +kernel
theorem dX9_keepToken_21 : decode cX9_keepToken 21 = .ok (.invokestatic 69, 3) := by decide +kernel
theorem dX9_keepToken_24 : decode cX9_keepToken 24 = .ok (.aload_n 0, 1) := by decide +kernel
theorem dX9_keepToken_25 : decode cX9_keepToken 25 = .ok (.getfield 25, 3) := by decide +kernel
theorem dX9_keepToken_28 : decode cX9_keepToken 28 = .ok (.aload_n 0, 1) := by decide +kernel
theorem dX9_keepToken_29 : decode cX9_keepToken 29 = .ok (.getfield 32, 3) := by decide +kernel
theorem dX9_keepToken_32 : decode cX9_keepToken 32 = .ok (.iload 4, 2) := by decide +kernel
theorem dX9_keepToken_34 : decode cX9_keepToken 34 = .ok (.invokestatic 75, 3) := by decide +kernel
theorem dX9_keepToken_37 : decode cX9_keepToken 37 = .ok (.aload_n 0, 1) := by decide +kernel
theorem dX9_keepToken_38 : decode cX9_keepToken 38 = .ok (.dup, 1) := by decide +kernel
theorem dX9_keepToken_39 : decode cX9_keepToken 39 = .ok (.getfield 32, 3) := by decide +kernel
theorem dX9_keepToken_42 : decode cX9_keepToken 42 = .ok (.iconst 1, 1) := by decide +kernel
theorem dX9_keepToken_43 : decode cX9_keepToken 43 = .ok (.iadd, 1) := by decide +kernel
theorem dX9_keepToken_44 : decode cX9_keepToken 44 = .ok (.putfield 32, 3) := by decide +kernel
theorem dX9_keepToken_47 : decode cX9_keepToken 47 = .ok (.return_, 1) := by decide +kernel
theorem dX9_isLetter_0 : decode cX9_isLetter 0 = .ok (.iload_n 0, 1) := by decide +kernel
theorem dX9_isLetter_1 : decode cX9_isLetter 1 = .ok (.bipush 97, 2) := by decide +kernel
theorem dX9_isLetter_3 : decode cX9_isLetter 3 = .ok (.if_icmp .lt 13, 3) := by decide +kernel
theorem dX9_isLetter_6 : decode cX9_isLetter 6 = .ok (.iload_n 0, 1) := by decide +kernel
theorem dX9_isLetter_7 : decode cX9_isLetter 7 = .ok (.bipush 122, 2) := by decide +kernel
theorem dX9_isLetter_9 : decode cX9_isLetter 9 = .ok (.if_icmp .gt 7, 3) := by decide +kernel
theorem dX9_isLetter_12 : decode cX9_isLetter 12 = .ok (.iconst 1, 1) := by decide +kernel
theorem dX9_isLetter_13 : decode cX9_isLetter 13 = .ok (.goto 4, 3) := by decide +kernel
theorem dX9_isLetter_16 : decode cX9_isLetter 16 = .ok (.iconst 0, 1) := by decide +kernel
theorem dX9_isLetter_17 : decode cX9_isLetter 17 = .ok (.ireturn, 1) := by decide +kernel
theorem dX9_isDigit_0 : decode cX9_isDigit 0 = .ok (.iload_n 0, 1) := by decide +kernel
theorem dX9_isDigit_1 : decode cX9_isDigit 1 = .ok (.bipush 48, 2) := by decide +kernel
theorem dX9_isDigit_3 : decode cX9_isDigit 3 = .ok (.if_icmp .lt 13, 3) := by decide +kernel
theorem dX9_isDigit_6 : decode cX9_isDigit 6 = .ok (.iload_n 0, 1) := by decide +kernel
theorem dX9_isDigit_7 : decode cX9_isDigit 7 = .ok (.bipush 57, 2) := by decide +kernel
theorem dX9_isDigit_9 : decode cX9_isDigit 9 = .ok (.if_icmp .gt 7, 3) := by decide +kernel
theorem dX9_isDigit_12 : decode cX9_isDigit 12 = .ok (.iconst 1, 1) := by decide +kernel
theorem dX9_isDigit_13 : decode cX9_isDigit 13 = .ok (.goto 4, 3) := by decide +kernel
theorem dX9_isDigit_16 : decode cX9_isDigit 16 = .ok (.iconst 0, 1) := by decide +kernel
theorem dX9_isDigit_17 : decode cX9_isDigit 17 = .ok (.ireturn, 1) := by decide +kernel
theorem dX9_step_0 : decode cX9_step 0 = .ok (.aload_n 0, 1) := by decide +kernel
theorem dX9_step_1 : decode cX9_step 1 = .ok (.dup, 1) := by decide +kernel
theorem dX9_step_2 : decode cX9_step 2 = .ok (.getfield 38, 3) := by decide +kernel
theorem dX9_step_5 : decode cX9_step 5 = .ok (.iconst 1, 1) := by decide +kernel
theorem dX9_step_6 : decode cX9_step 6 = .ok (.iadd, 1) := by decide +kernel
theorem dX9_step_7 : decode cX9_step 7 = .ok (.putfield 38, 3) := by decide +kernel
theorem dX9_step_10 : decode cX9_step 10 = .ok (.aload_n 0, 1) := by decide +kernel
theorem dX9_step_11 : decode cX9_step 11 = .ok (.getfield 38, 3) := by decide +kernel
theorem dX9_step_14 : decode cX9_step 14 = .ok (.ifCond .lt 42, 3) := by decide +kernel
theorem dX9_step_17 : decode cX9_step 17 = .ok (.aload_n 0, 1) := by decide +kernel
theorem dX9_step_18 : decode cX9_step 18 = .ok (.getfield 38, 3) := by decide +kernel
theorem dX9_step_21 : decode cX9_step 21 = .ok (.aload_n 0, 1) := by decide +kernel
theorem dX9_step_22 : decode cX9_step 22 = .ok (.getfield 32, 3) := by decide +kernel
theorem dX9_step_25 : decode cX9_step 25 = .ok (.if_icmp .ge 31, 3) := by decide +kernel
theorem dX9_step_28 : decode cX9_step 28 = .ok (.aload_n 0, 1) := by decide +kernel
theorem dX9_step_29 : decode cX9_step 29 = .ok (.getfield 38, 3) := by decide +kernel
theorem dX9_step_32 : decode cX9_step 32 = .ok (.aload_n 0, 1) := by decide +kernel
theorem dX9_step_33 : decode cX9_step 33 = .ok (.getfield 19, 3) := by decide +kernel
theorem dX9_step_36 : decode cX9_step 36 = .ok (.arraylength, 1) := by decide +kernel
theorem dX9_step_37 : decode cX9_step 37 = .ok (.if_icmp .ge 19, 3) := by decide +kernel
theorem dX9_step_40 : decode cX9_step 40 = .ok (.aload_n 0, 1) := by decide +kernel
theorem dX9_step_41 : decode cX9_step 41 = .ok (.getfield 38, 3) := by decide +kernel
theorem dX9_step_44 : decode cX9_step 44 = .ok (.aload_n 0, 1) := by decide +kernel
theorem dX9_step_45 : decode cX9_step 45 = .ok (.getfield 22, 3) := by decide +kernel
theorem dX9_step_48 : decode cX9_step 48 = .ok (.arraylength, 1) := by decide +kernel
theorem dX9_step_49 : decode cX9_step 49 = .ok (.if_icmp .ge 7, 3) := by decide +kernel
theorem dX9_step_52 : decode cX9_step 52 = .ok (.iconst 1, 1) := by decide +kernel
theorem dX9_step_53 : decode cX9_step 53 = .ok (.goto 4, 3) := by decide +kernel
theorem dX9_step_56 : decode cX9_step 56 = .ok (.iconst 0, 1) := by decide +kernel
theorem dX9_step_57 : decode cX9_step 57 = .ok (.istore_n 1, 1) := by decide +kernel
theorem dX9_step_58 : decode cX9_step 58 = .ok (.aload_n 0, 1) := by decide +kernel
theorem dX9_step_59 : decode cX9_step 59 = .ok (.iload_n 1, 1) := by decide +kernel
theorem dX9_step_60 : decode cX9_step 60 = .ok (.ifCond .eq 15, 3) := by decide +kernel
theorem dX9_step_63 : decode cX9_step 63 = .ok (.aload_n 0, 1) := by decide +kernel
theorem dX9_step_64 : decode cX9_step 64 = .ok (.getfield 19, 3) := by decide +kernel
theorem dX9_step_67 : decode cX9_step 67 = .ok (.aload_n 0, 1) := by decide +kernel
theorem dX9_step_68 : decode cX9_step 68 = .ok (.getfield 38, 3) := by decide +kernel
theorem dX9_step_71 : decode cX9_step 71 = .ok (.iaload, 1) := by decide +kernel
theorem dX9_step_72 : decode cX9_step 72 = .ok (.goto 4, 3) := by decide +kernel
theorem dX9_step_75 : decode cX9_step 75 = .ok (.iconst 0, 1) := by decide +kernel
theorem dX9_step_76 : decode cX9_step 76 = .ok (.putfield 41, 3) := by decide +kernel
theorem dX9_step_79 : decode cX9_step 79 = .ok (.aload_n 0, 1) := by decide +kernel
theorem dX9_step_80 : decode cX9_step 80 = .ok (.iload_n 1, 1) := by decide +kernel
theorem dX9_step_81 : decode cX9_step 81 = .ok (.ifCond .eq 15, 3) := by decide +kernel
theorem dX9_step_84 : decode cX9_step 84 = .ok (.aload_n 0, 1) := by decide +kernel
theorem dX9_step_85 : decode cX9_step 85 = .ok (.getfield 22, 3) := by decide +kernel
theorem dX9_step_88 : decode cX9_step 88 = .ok (.aload_n 0, 1) := by decide +kernel
theorem dX9_step_89 : decode cX9_step 89 = .ok (.getfield 38, 3) := by decide +kernel
theorem dX9_step_92 : decode cX9_step 92 = .ok (.laload, 1) := by decide +kernel
theorem dX9_step_93 : decode cX9_step 93 = .ok (.goto 4, 3) := by decide +kernel
theorem dX9_step_96 : decode cX9_step 96 = .ok (.lconst 0, 1) := by decide +kernel
theorem dX9_step_97 : decode cX9_step 97 = .ok (.putfield 44, 3) := by decide +kernel
theorem dX9_step_100 : decode cX9_step 100 = .ok (.return_, 1) := by decide +kernel
theorem dX9_placeNow_0 : decode cX9_placeNow 0 = .ok (.aload_n 0, 1) := by decide +kernel
theorem dX9_placeNow_1 : decode cX9_placeNow 1 = .ok (.getfield 38, 3) := by decide +kernel
theorem dX9_placeNow_4 : decode cX9_placeNow 4 = .ok (.aload_n 0, 1) := by decide +kernel
theorem dX9_placeNow_5 : decode cX9_placeNow 5 = .ok (.getfield 32, 3) := by decide +kernel
theorem dX9_placeNow_8 : decode cX9_placeNow 8 = .ok (.if_icmp .ge 17, 3) := by decide +kernel
theorem dX9_placeNow_11 : decode cX9_placeNow 11 = .ok (.aload_n 0, 1) := by decide +kernel
theorem dX9_placeNow_12 : decode cX9_placeNow 12 = .ok (.getfield 25, 3) := by decide +kernel
theorem dX9_placeNow_15 : decode cX9_placeNow 15 = .ok (.aload_n 0, 1) := by decide +kernel
theorem dX9_placeNow_16 : decode cX9_placeNow 16 = .ok (.getfield 38, 3) := by decide +kernel
theorem dX9_placeNow_19 : decode cX9_placeNow 19 = .ok (.invokestatic 85, 3) := by decide +kernel
theorem dX9_placeNow_22 : decode cX9_placeNow 22 = .ok (.goto 7, 3) := by decide +kernel
theorem dX9_placeNow_25 : decode cX9_placeNow 25 = .ok (.aload_n 0, 1) := by decide +kernel
theorem dX9_placeNow_26 : decode cX9_placeNow 26 = .ok (.getfield 35, 3) := by decide +kernel
theorem dX9_placeNow_29 : decode cX9_placeNow 29 = .ok (.ireturn, 1) := by decide +kernel
theorem dX9_atEnd_0 : decode cX9_atEnd 0 = .ok (.aload_n 0, 1) := by decide +kernel
theorem dX9_atEnd_1 : decode cX9_atEnd 1 = .ok (.getfield 41, 3) := by decide +kernel
theorem dX9_atEnd_4 : decode cX9_atEnd 4 = .ok (.ifCond .ne 7, 3) := by decide +kernel
theorem dX9_atEnd_7 : decode cX9_atEnd 7 = .ok (.iconst 1, 1) := by decide +kernel
theorem dX9_atEnd_8 : decode cX9_atEnd 8 = .ok (.goto 4, 3) := by decide +kernel
theorem dX9_atEnd_11 : decode cX9_atEnd 11 = .ok (.iconst 0, 1) := by decide +kernel
theorem dX9_atEnd_12 : decode cX9_atEnd 12 = .ok (.ireturn, 1) := by decide +kernel
theorem dX9_atWhole_0 : decode cX9_atWhole 0 = .ok (.aload_n 0, 1) := by decide +kernel
theorem dX9_atWhole_1 : decode cX9_atWhole 1 = .ok (.getfield 41, 3) := by decide +kernel
theorem dX9_atWhole_4 : decode cX9_atWhole 4 = .ok (.iconst 2, 1) := by decide +kernel
theorem dX9_atWhole_5 : decode cX9_atWhole 5 = .ok (.if_icmp .ne 7, 3) := by decide +kernel
theorem dX9_atWhole_8 : decode cX9_atWhole 8 = .ok (.iconst 1, 1) := by decide +kernel
theorem dX9_atWhole_9 : decode cX9_atWhole 9 = .ok (.goto 4, 3) := by decide +kernel
theorem dX9_atWhole_12 : decode cX9_atWhole 12 = .ok (.iconst 0, 1) := by decide +kernel
theorem dX9_atWhole_13 : decode cX9_atWhole 13 = .ok (.ireturn, 1) := by decide +kernel
theorem dX9_atWholeWithin_0 : decode cX9_atWholeWithin 0 = .ok (.aload_n 0, 1) := by decide +kernel
theorem dX9_atWholeWithin_1 : decode cX9_atWholeWithin 1 = .ok (.getfield 41, 3) := by decide +kernel
theorem dX9_atWholeWithin_4 : decode cX9_atWholeWithin 4 = .ok (.iconst 2, 1) := by decide +kernel
theorem dX9_atWholeWithin_5 : decode cX9_atWholeWithin 5 = .ok (.if_icmp .ne 27, 3) := by decide +kernel
theorem dX9_atWholeWithin_8 : decode cX9_atWholeWithin 8 = .ok (.aload_n 0, 1) := by decide +kernel
theorem dX9_atWholeWithin_9 : decode cX9_atWholeWithin 9 = .ok (.getfield 44, 3) := by decide +kernel
theorem dX9_atWholeWithin_12 : decode cX9_atWholeWithin 12 = .ok (.iload_n 1, 1) := by decide +kernel
theorem dX9_atWholeWithin_13 : decode cX9_atWholeWithin 13 = .ok (.i2l, 1) := by decide +kernel
theorem dX9_atWholeWithin_14 : decode cX9_atWholeWithin 14 = .ok (.lcmp, 1) := by decide +kernel
theorem dX9_atWholeWithin_15 : decode cX9_atWholeWithin 15 = .ok (.ifCond .lt 17, 3) := by decide +kernel
theorem dX9_atWholeWithin_18 : decode cX9_atWholeWithin 18 = .ok (.aload_n 0, 1) := by decide +kernel
theorem dX9_atWholeWithin_19 : decode cX9_atWholeWithin 19 = .ok (.getfield 44, 3) := by decide +kernel
theorem dX9_atWholeWithin_22 : decode cX9_atWholeWithin 22 = .ok (.iload_n 2, 1) := by decide +kernel
theorem dX9_atWholeWithin_23 : decode cX9_atWholeWithin 23 = .ok (.i2l, 1) := by decide +kernel
theorem dX9_atWholeWithin_24 : decode cX9_atWholeWithin 24 = .ok (.lcmp, 1) := by decide +kernel
theorem dX9_atWholeWithin_25 : decode cX9_atWholeWithin 25 = .ok (.ifCond .gt 7, 3) := by decide +kernel
theorem dX9_atWholeWithin_28 : decode cX9_atWholeWithin 28 = .ok (.iconst 1, 1) := by decide +kernel
theorem dX9_atWholeWithin_29 : decode cX9_atWholeWithin 29 = .ok (.goto 4, 3) := by decide +kernel
theorem dX9_atWholeWithin_32 : decode cX9_atWholeWithin 32 = .ok (.iconst 0, 1) := by decide +kernel
theorem dX9_atWholeWithin_33 : decode cX9_atWholeWithin 33 = .ok (.ireturn, 1) := by decide +kernel
theorem dX9_atName_0 : decode cX9_atName 0 = .ok (.aload_n 0, 1) := by decide +kernel
theorem dX9_atName_1 : decode cX9_atName 1 = .ok (.getfield 41, 3) := by decide +kernel
theorem dX9_atName_4 : decode cX9_atName 4 = .ok (.iconst 5, 1) := by decide +kernel
theorem dX9_atName_5 : decode cX9_atName 5 = .ok (.if_icmp .ne 7, 3) := by decide +kernel
theorem dX9_atName_8 : decode cX9_atName 8 = .ok (.iconst 1, 1) := by decide +kernel
theorem dX9_atName_9 : decode cX9_atName 9 = .ok (.goto 4, 3) := by decide +kernel
theorem dX9_atName_12 : decode cX9_atName 12 = .ok (.iconst 0, 1) := by decide +kernel
theorem dX9_atName_13 : decode cX9_atName 13 = .ok (.ireturn, 1) := by decide +kernel
theorem dX9_atWord_0 : decode cX9_atWord 0 = .ok (.aload_n 0, 1) := by decide +kernel
theorem dX9_atWord_1 : decode cX9_atWord 1 = .ok (.getfield 41, 3) := by decide +kernel
theorem dX9_atWord_4 : decode cX9_atWord 4 = .ok (.iconst 4, 1) := by decide +kernel
theorem dX9_atWord_5 : decode cX9_atWord 5 = .ok (.if_icmp .ne 17, 3) := by decide +kernel
theorem dX9_atWord_8 : decode cX9_atWord 8 = .ok (.aload_n 0, 1) := by decide +kernel
theorem dX9_atWord_9 : decode cX9_atWord 9 = .ok (.getfield 44, 3) := by decide +kernel
theorem dX9_atWord_12 : decode cX9_atWord 12 = .ok (.iload_n 1, 1) := by decide +kernel
theorem dX9_atWord_13 : decode cX9_atWord 13 = .ok (.i2l, 1) := by decide +kernel
theorem dX9_atWord_14 : decode cX9_atWord 14 = .ok (.lcmp, 1) := by decide +kernel
theorem dX9_atWord_15 : decode cX9_atWord 15 = .ok (.ifCond .ne 7, 3) := by decide +kernel
theorem dX9_atWord_18 : decode cX9_atWord 18 = .ok (.iconst 1, 1) := by decide +kernel
theorem dX9_atWord_19 : decode cX9_atWord 19 = .ok (.goto 4, 3) := by decide +kernel
theorem dX9_atWord_22 : decode cX9_atWord 22 = .ok (.iconst 0, 1) := by decide +kernel
theorem dX9_atWord_23 : decode cX9_atWord 23 = .ok (.ireturn, 1) := by decide +kernel
theorem dX9_atSign_0 : decode cX9_atSign 0 = .ok (.aload_n 0, 1) := by decide +kernel
theorem dX9_atSign_1 : decode cX9_atSign 1 = .ok (.getfield 41, 3) := by decide +kernel
theorem dX9_atSign_4 : decode cX9_atSign 4 = .ok (.iconst 3, 1) := by decide +kernel
theorem dX9_atSign_5 : decode cX9_atSign 5 = .ok (.if_icmp .ne 17, 3) := by decide +kernel
theorem dX9_atSign_8 : decode cX9_atSign 8 = .ok (.aload_n 0, 1) := by decide +kernel
theorem dX9_atSign_9 : decode cX9_atSign 9 = .ok (.getfield 44, 3) := by decide +kernel
theorem dX9_atSign_12 : decode cX9_atSign 12 = .ok (.iload_n 1, 1) := by decide +kernel
theorem dX9_atSign_13 : decode cX9_atSign 13 = .ok (.i2l, 1) := by decide +kernel
theorem dX9_atSign_14 : decode cX9_atSign 14 = .ok (.lcmp, 1) := by decide +kernel
theorem dX9_atSign_15 : decode cX9_atSign 15 = .ok (.ifCond .ne 7, 3) := by decide +kernel
theorem dX9_atSign_18 : decode cX9_atSign 18 = .ok (.iconst 1, 1) := by decide +kernel
theorem dX9_atSign_19 : decode cX9_atSign 19 = .ok (.goto 4, 3) := by decide +kernel
theorem dX9_atSign_22 : decode cX9_atSign 22 = .ok (.iconst 0, 1) := by decide +kernel
theorem dX9_atSign_23 : decode cX9_atSign 23 = .ok (.ireturn, 1) := by decide +kernel
theorem dX9_wholeNow_0 : decode cX9_wholeNow 0 = .ok (.aload_n 0, 1) := by decide +kernel
theorem dX9_wholeNow_1 : decode cX9_wholeNow 1 = .ok (.getfield 41, 3) := by decide +kernel
theorem dX9_wholeNow_4 : decode cX9_wholeNow 4 = .ok (.iconst 2, 1) := by decide +kernel
theorem dX9_wholeNow_5 : decode cX9_wholeNow 5 = .ok (.if_icmp .ne 11, 3) := by decide +kernel
theorem dX9_wholeNow_8 : decode cX9_wholeNow 8 = .ok (.aload_n 0, 1) := by decide +kernel
theorem dX9_wholeNow_9 : decode cX9_wholeNow 9 = .ok (.getfield 44, 3) := by decide +kernel
theorem dX9_wholeNow_12 : decode cX9_wholeNow 12 = .ok (.l2i, 1) := by decide +kernel
theorem dX9_wholeNow_13 : decode cX9_wholeNow 13 = .ok (.goto 4, 3) := by decide +kernel
theorem dX9_wholeNow_16 : decode cX9_wholeNow 16 = .ok (.iconst (-1), 1) := by decide +kernel
theorem dX9_wholeNow_17 : decode cX9_wholeNow 17 = .ok (.ireturn, 1) := by decide +kernel
theorem dX9_nameNow_0 : decode cX9_nameNow 0 = .ok (.aload_n 0, 1) := by decide +kernel
theorem dX9_nameNow_1 : decode cX9_nameNow 1 = .ok (.getfield 41, 3) := by decide +kernel
theorem dX9_nameNow_4 : decode cX9_nameNow 4 = .ok (.iconst 5, 1) := by decide +kernel
theorem dX9_nameNow_5 : decode cX9_nameNow 5 = .ok (.if_icmp .ne 10, 3) := by decide +kernel
theorem dX9_nameNow_8 : decode cX9_nameNow 8 = .ok (.aload_n 0, 1) := by decide +kernel
theorem dX9_nameNow_9 : decode cX9_nameNow 9 = .ok (.getfield 44, 3) := by decide +kernel
theorem dX9_nameNow_12 : decode cX9_nameNow 12 = .ok (.goto 4, 3) := by decide +kernel
theorem dX9_nameNow_15 : decode cX9_nameNow 15 = .ok (.lconst 0, 1) := by decide +kernel
theorem dX9_nameNow_16 : decode cX9_nameNow 16 = .ok (.lreturn, 1) := by decide +kernel
theorem dX10_init_0 : decode cX10_init 0 = .ok (.aload_n 0, 1) := by decide +kernel
theorem dX10_init_1 : decode cX10_init 1 = .ok (.invokespecial 1, 3) := by decide +kernel
theorem dX10_init_4 : decode cX10_init 4 = .ok (.aload_n 0, 1) := by decide +kernel
theorem dX10_init_5 : decode cX10_init 5 = .ok (.new 7, 3) := by decide +kernel
theorem dX10_init_8 : decode cX10_init 8 = .ok (.dup, 1) := by decide +kernel
theorem dX10_init_9 : decode cX10_init 9 = .ok (.invokespecial 9, 3) := by decide +kernel
theorem dX10_init_12 : decode cX10_init 12 = .ok (.putfield 10, 3) := by decide +kernel
theorem dX10_init_15 : decode cX10_init 15 = .ok (.aload_n 0, 1) := by decide +kernel
theorem dX10_init_16 : decode cX10_init 16 = .ok (.new 16, 3) := by decide +kernel
theorem dX10_init_19 : decode cX10_init 19 = .ok (.dup, 1) := by decide +kernel
theorem dX10_init_20 : decode cX10_init 20 = .ok (.invokespecial 18, 3) := by decide +kernel
theorem dX10_init_23 : decode cX10_init 23 = .ok (.putfield 19, 3) := by decide +kernel
theorem dX10_init_26 : decode cX10_init 26 = .ok (.aload_n 0, 1) := by decide +kernel
theorem dX10_init_27 : decode cX10_init 27 = .ok (.new 23, 3) := by decide +kernel
theorem dX10_init_30 : decode cX10_init 30 = .ok (.dup, 1) := by decide +kernel
theorem dX10_init_31 : decode cX10_init 31 = .ok (.invokespecial 25, 3) := by decide +kernel
theorem dX10_init_34 : decode cX10_init 34 = .ok (.putfield 26, 3) := by decide +kernel
theorem dX10_init_37 : decode cX10_init 37 = .ok (.aload_n 0, 1) := by decide +kernel
theorem dX10_init_38 : decode cX10_init 38 = .ok (.new 30, 3) := by decide +kernel
theorem dX10_init_41 : decode cX10_init 41 = .ok (.dup, 1) := by decide +kernel
theorem dX10_init_42 : decode cX10_init 42 = .ok (.invokespecial 32, 3) := by decide +kernel
theorem dX10_init_45 : decode cX10_init 45 = .ok (.putfield 33, 3) := by decide +kernel
theorem dX10_init_48 : decode cX10_init 48 = .ok (.aload_n 0, 1) := by decide +kernel
theorem dX10_init_49 : decode cX10_init 49 = .ok (.bipush 10, 2) := by decide +kernel
theorem dX10_init_51 : decode cX10_init 51 = .ok (.newarray .long, 2) := by decide +kernel
theorem dX10_init_53 : decode cX10_init 53 = .ok (.putfield 37, 3) := by decide +kernel
theorem dX10_init_56 : decode cX10_init 56 = .ok (.aload_n 0, 1) := by decide +kernel
theorem dX10_init_57 : decode cX10_init 57 = .ok (.bipush 10, 2) := by decide +kernel
theorem dX10_init_59 : decode cX10_init 59 = .ok (.newarray .long, 2) := by decide +kernel
theorem dX10_init_61 : decode cX10_init 61 = .ok (.putfield 41, 3) := by decide +kernel
theorem dX10_init_64 : decode cX10_init 64 = .ok (.aload_n 0, 1) := by decide +kernel
theorem dX10_init_65 : decode cX10_init 65 = .ok (.bipush 10, 2) := by decide +kernel
theorem dX10_init_67 : decode cX10_init 67 = .ok (.newarray .long, 2) := by decide +kernel
theorem dX10_init_69 : decode cX10_init 69 = .ok (.putfield 44, 3) := by decide +kernel
theorem dX10_init_72 : decode cX10_init 72 = .ok (.aload_n 0, 1) := by decide +kernel
theorem dX10_init_73 : decode cX10_init 73 = .ok (.bipush 10, 2) := by decide +kernel
theorem dX10_init_75 : decode cX10_init 75 = .ok (.newarray .long, 2) := by decide +kernel
theorem dX10_init_77 : decode cX10_init 77 = .ok (.putfield 47, 3) := by decide +kernel
theorem dX10_init_80 : decode cX10_init 80 = .ok (.aload_n 0, 1) := by decide +kernel
theorem dX10_init_81 : decode cX10_init 81 = .ok (.new 50, 3) := by decide +kernel
theorem dX10_init_84 : decode cX10_init 84 = .ok (.dup, 1) := by decide +kernel
theorem dX10_init_85 : decode cX10_init 85 = .ok (.invokespecial 52, 3) := by decide +kernel
theorem dX10_init_88 : decode cX10_init 88 = .ok (.putfield 53, 3) := by decide +kernel
theorem dX10_init_91 : decode cX10_init 91 = .ok (.aload_n 0, 1) := by decide +kernel
theorem dX10_init_92 : decode cX10_init 92 = .ok (.iconst 0, 1) := by decide +kernel
theorem dX10_init_93 : decode cX10_init 93 = .ok (.putfield 57, 3) := by decide +kernel
theorem dX10_init_96 : decode cX10_init 96 = .ok (.aload_n 0, 1) := by decide +kernel
theorem dX10_init_97 : decode cX10_init 97 = .ok (.iconst (-1), 1) := by decide +kernel
theorem dX10_init_98 : decode cX10_init 98 = .ok (.putfield 61, 3) := by decide +kernel
theorem dX10_init_101 : decode cX10_init 101 = .ok (.aload_n 0, 1) := by decide +kernel
theorem dX10_init_102 : decode cX10_init 102 = .ok (.iconst 0, 1) := by decide +kernel
theorem dX10_init_103 : decode cX10_init 103 = .ok (.putfield 64, 3) := by decide +kernel
theorem dX10_init_106 : decode cX10_init 106 = .ok (.return_, 1) := by decide +kernel
theorem dX10_feed_0 : decode cX10_feed 0 = .ok (.aload_n 0, 1) := by decide +kernel
theorem dX10_feed_1 : decode cX10_feed 1 = .ok (.getfield 10, 3) := by decide +kernel
theorem dX10_feed_4 : decode cX10_feed 4 = .ok (.invokevirtual 67, 3) := by decide +kernel
theorem dX10_feed_7 : decode cX10_feed 7 = .ok (.astore 6, 2) := by decide +kernel
theorem dX10_feed_9 : decode cX10_feed 9 = .ok (.aload 6, 2) := by decide +kernel
theorem dX10_feed_11 : decode cX10_feed 11 = .ok (.bipush 20, 2) := by decide +kernel
theorem dX10_feed_13 : decode cX10_feed 13 = .ok (.invokevirtual 71, 3) := by decide +kernel
theorem dX10_feed_16 : decode cX10_feed 16 = .ok (.ifCond .ne 5, 3) := by decide +kernel
theorem dX10_feed_19 : decode cX10_feed 19 = .ok (.iconst (-1), 1) := by decide +kernel
theorem dX10_feed_20 : decode cX10_feed 20 = .ok (.ireturn, 1) := by decide +kernel
theorem dX10_feed_21 : decode cX10_feed 21 = .ok (.aload 6, 2) := by decide +kernel
theorem dX10_feed_23 : decode cX10_feed 23 = .ok (.iload_n 1, 1) := by decide +kernel
theorem dX10_feed_24 : decode cX10_feed 24 = .ok (.invokevirtual 77, 3) := by decide +kernel
theorem dX10_feed_27 : decode cX10_feed 27 = .ok (.aload 6, 2) := by decide +kernel
theorem dX10_feed_29 : decode cX10_feed 29 = .ok (.iload_n 2, 1) := by decide +kernel
theorem dX10_feed_30 : decode cX10_feed 30 = .ok (.invokevirtual 77, 3) := by decide +kernel
theorem dX10_feed_33 : decode cX10_feed 33 = .ok (.aload 6, 2) := by decide +kernel
theorem dX10_feed_35 : decode cX10_feed 35 = .ok (.iload_n 3, 1) := by decide +kernel
theorem dX10_feed_36 : decode cX10_feed 36 = .ok (.invokevirtual 77, 3) := by decide +kernel
theorem dX10_feed_39 : decode cX10_feed 39 = .ok (.aload 6, 2) := by decide +kernel
theorem dX10_feed_41 : decode cX10_feed 41 = .ok (.iload 4, 2) := by decide +kernel
theorem dX10_feed_43 : decode cX10_feed 43 = .ok (.invokevirtual 77, 3) := by decide +kernel
theorem dX10_feed_46 : decode cX10_feed 46 = .ok (.aload 6, 2) := by decide +kernel
theorem dX10_feed_48 : decode cX10_feed 48 = .ok (.iload 5, 2) := by decide +kernel
theorem dX10_feed_50 : decode cX10_feed 50 = .ok (.invokevirtual 77, 3) := by decide +kernel
theorem dX10_feed_53 : decode cX10_feed 53 = .ok (.aload 6, 2) := by decide +kernel
theorem dX10_feed_55 : decode cX10_feed 55 = .ok (.invokevirtual 81, 3) := by decide +kernel
theorem dX10_feed_58 : decode cX10_feed 58 = .ok (.ireturn, 1) := by decide +kernel
theorem dX10_book_0 : decode cX10_book 0 = .ok (.iload_n 1, 1) := by decide +kernel
theorem dX10_book_1 : decode cX10_book 1 = .ok (.ifCond .lt 17, 3) := by decide +kernel
theorem dX10_book_4 : decode cX10_book 4 = .ok (.iload_n 1, 1) := by decide +kernel
theorem dX10_book_5 : decode cX10_book 5 = .ok (.aload_n 0, 1) := by decide +kernel
theorem dX10_book_6 : decode cX10_book 6 = .ok (.getfield 10, 3) := by decide +kernel
theorem dX10_book_9 : decode cX10_book 9 = .ok (.invokevirtual 67, 3) := by decide +kernel
theorem dX10_book_12 : decode cX10_book 12 = .ok (.invokevirtual 81, 3) := by decide +kernel
theorem dX10_book_15 : decode cX10_book 15 = .ok (.if_icmp .le 10, 3) := by decide +kernel
theorem dX10_book_18 : decode cX10_book 18 = .ok (.aload_n 0, 1) := by decide +kernel
theorem dX10_book_19 : decode cX10_book 19 = .ok (.iconst 2, 1) := by decide +kernel
theorem dX10_book_20 : decode cX10_book 20 = .ok (.iconst (-1), 1) := by decide +kernel
theorem dX10_book_21 : decode cX10_book 21 = .ok (.invokevirtual 85, 3) := by decide +kernel
theorem dX10_book_24 : decode cX10_book 24 = .ok (.ireturn, 1) := by decide +kernel
theorem dX10_book_25 : decode cX10_book 25 = .ok (.aload_n 0, 1) := by decide +kernel
theorem dX10_book_26 : decode cX10_book 26 = .ok (.aload_n 0, 1) := by decide +kernel
theorem dX10_book_27 : decode cX10_book 27 = .ok (.getfield 10, 3) := by decide +kernel
theorem dX10_book_30 : decode cX10_book 30 = .ok (.iload_n 1, 1) := by decide +kernel
theorem dX10_book_31 : decode cX10_book 31 = .ok (.invokevirtual 89, 3) := by decide +kernel
theorem dX10_book_34 : decode cX10_book 34 = .ok (.putfield 57, 3) := by decide +kernel
theorem dX10_book_37 : decode cX10_book 37 = .ok (.aload_n 0, 1) := by decide +kernel
theorem dX10_book_38 : decode cX10_book 38 = .ok (.aload_n 0, 1) := by decide +kernel
theorem dX10_book_39 : decode cX10_book 39 = .ok (.getfield 10, 3) := by decide +kernel
theorem dX10_book_42 : decode cX10_book 42 = .ok (.invokevirtual 93, 3) := by decide +kernel
theorem dX10_book_45 : decode cX10_book 45 = .ok (.putfield 61, 3) := by decide +kernel
theorem dX10_book_48 : decode cX10_book 48 = .ok (.aload_n 0, 1) := by decide +kernel
theorem dX10_book_49 : decode cX10_book 49 = .ok (.getfield 10, 3) := by decide +kernel
theorem dX10_book_52 : decode cX10_book 52 = .ok (.invokevirtual 67, 3) := by decide +kernel
theorem dX10_book_55 : decode cX10_book 55 = .ok (.invokevirtual 95, 3) := by decide +kernel
theorem dX10_book_58 : decode cX10_book 58 = .ok (.aload_n 0, 1) := by decide +kernel
theorem dX10_book_59 : decode cX10_book 59 = .ok (.getfield 57, 3) := by decide +kernel
theorem dX10_book_62 : decode cX10_book 62 = .ok (.ifCond .eq 10, 3) := by decide +kernel
theorem dX10_book_65 : decode cX10_book 65 = .ok (.aload_n 0, 1) := by decide +kernel
theorem dX10_book_66 : decode cX10_book 66 = .ok (.iconst 4, 1) := by decide +kernel
theorem dX10_book_67 : decode cX10_book 67 = .ok (.iconst (-1), 1) := by decide +kernel
theorem dX10_book_68 : decode cX10_book 68 = .ok (.invokevirtual 85, 3) := by decide +kernel
theorem dX10_book_71 : decode cX10_book 71 = .ok (.ireturn, 1) := by decide +kernel
theorem dX10_book_72 : decode cX10_book 72 = .ok (.aload_n 0, 1) := by decide +kernel
theorem dX10_book_73 : decode cX10_book 73 = .ok (.aload_n 0, 1) := by decide +kernel
theorem dX10_book_74 : decode cX10_book 74 = .ok (.getfield 10, 3) := by decide +kernel
theorem dX10_book_77 : decode cX10_book 77 = .ok (.aload_n 0, 1) := by decide +kernel
theorem dX10_book_78 : decode cX10_book 78 = .ok (.getfield 53, 3) := by decide +kernel
theorem dX10_book_81 : decode cX10_book 81 = .ok (.invokevirtual 98, 3) := by decide +kernel
theorem dX10_book_84 : decode cX10_book 84 = .ok (.putfield 53, 3) := by decide +kernel
theorem dX10_book_87 : decode cX10_book 87 = .ok (.aload_n 0, 1) := by decide +kernel
theorem dX10_book_88 : decode cX10_book 88 = .ok (.getfield 26, 3) := by decide +kernel
theorem dX10_book_91 : decode cX10_book 91 = .ok (.invokevirtual 102, 3) := by decide +kernel
theorem dX10_book_94 : decode cX10_book 94 = .ok (.aload_n 0, 1) := by decide +kernel
theorem dX10_book_95 : decode cX10_book 95 = .ok (.aload_n 0, 1) := by decide +kernel
theorem dX10_book_96 : decode cX10_book 96 = .ok (.getfield 53, 3) := by decide +kernel
theorem dX10_book_99 : decode cX10_book 99 = .ok (.invokevirtual 105, 3) := by decide +kernel
theorem dX10_book_102 : decode cX10_book 102 = .ok (.invokevirtual 108, 3) := by decide +kernel
theorem dX10_book_105 : decode cX10_book 105 = .ok (.ireturn, 1) := by decide +kernel
theorem dX10_fault_0 : decode cX10_fault 0 = .ok (.aload_n 0, 1) := by decide +kernel
theorem dX10_fault_1 : decode cX10_fault 1 = .ok (.getfield 57, 3) := by decide +kernel
theorem dX10_fault_4 : decode cX10_fault 4 = .ok (.ireturn, 1) := by decide +kernel
theorem dX10_where_0 : decode cX10_where 0 = .ok (.aload_n 0, 1) := by decide +kernel
theorem dX10_where_1 : decode cX10_where 1 = .ok (.getfield 64, 3) := by decide +kernel
theorem dX10_where_4 : decode cX10_where 4 = .ok (.iconst 4, 1) := by decide +kernel
theorem dX10_where_5 : decode cX10_where 5 = .ok (.if_icmp .ne 10, 3) := by decide +kernel
theorem dX10_where_8 : decode cX10_where 8 = .ok (.aload_n 0, 1) := by decide +kernel
theorem dX10_where_9 : decode cX10_where 9 = .ok (.getfield 61, 3) := by decide +kernel
theorem dX10_where_12 : decode cX10_where 12 = .ok (.goto 4, 3) := by decide +kernel
theorem dX10_where_15 : decode cX10_where 15 = .ok (.iconst (-1), 1) := by decide +kernel
theorem dX10_where_16 : decode cX10_where 16 = .ok (.ireturn, 1) := by decide +kernel
theorem dX10_field_0 : decode cX10_field 0 = .ok (.aload_n 0, 1) := by decide +kernel
theorem dX10_field_1 : decode cX10_field 1 = .ok (.getfield 53, 3) := by decide +kernel
theorem dX10_field_4 : decode cX10_field 4 = .ok (.iload_n 1, 1) := by decide +kernel
theorem dX10_field_5 : decode cX10_field 5 = .ok (.invokevirtual 111, 3) := by decide +kernel
theorem dX10_field_8 : decode cX10_field 8 = .ok (.astore_n 3, 1) := by decide +kernel
theorem dX10_field_9 : decode cX10_field 9 = .ok (.aload_n 3, 1) := by decide +kernel
theorem dX10_field_10 : decode cX10_field 10 = .ok (.ifnull 12, 3) := by decide +kernel
theorem dX10_field_13 : decode cX10_field 13 = .ok (.iload_n 2, 1) := by decide +kernel
theorem dX10_field_14 : decode cX10_field 14 = .ok (.ifCond .lt 8, 3) := by decide +kernel
theorem dX10_field_17 : decode cX10_field 17 = .ok (.iload_n 2, 1) := by decide +kernel
theorem dX10_field_18 : decode cX10_field 18 = .ok (.iconst 3, 1) := by decide +kernel
theorem dX10_field_19 : decode cX10_field 19 = .ok (.if_icmp .le 10, 3) := by decide +kernel
theorem dX10_field_22 : decode cX10_field 22 = .ok (.aload_n 0, 1) := by decide +kernel
theorem dX10_field_23 : decode cX10_field 23 = .ok (.iconst 1, 1) := by decide +kernel
theorem dX10_field_24 : decode cX10_field 24 = .ok (.iconst (-1), 1) := by decide +kernel
theorem dX10_field_25 : decode cX10_field 25 = .ok (.invokevirtual 85, 3) := by decide +kernel
theorem dX10_field_28 : decode cX10_field 28 = .ok (.ireturn, 1) := by decide +kernel
theorem dX10_field_29 : decode cX10_field 29 = .ok (.iload_n 2, 1) := by decide +kernel
theorem dX10_field_30 : decode cX10_field 30 = .ok (.tableswitch 53 0 2 #[26, 35, 44], 26) := by decide +kernel
theorem dX10_field_56 : decode cX10_field 56 = .ok (.aload_n 0, 1) := by decide +kernel
theorem dX10_field_57 : decode cX10_field 57 = .ok (.aload_n 3, 1) := by decide +kernel
theorem dX10_field_58 : decode cX10_field 58 = .ok (.invokevirtual 115, 3) := by decide +kernel
theorem dX10_field_61 : decode cX10_field 61 = .ok (.invokevirtual 108, 3) := by decide +kernel
theorem dX10_field_64 : decode cX10_field 64 = .ok (.ireturn, 1) := by decide +kernel
theorem dX10_field_65 : decode cX10_field 65 = .ok (.aload_n 0, 1) := by decide +kernel
theorem dX10_field_66 : decode cX10_field 66 = .ok (.aload_n 3, 1) := by decide +kernel
theorem dX10_field_67 : decode cX10_field 67 = .ok (.invokevirtual 120, 3) := by decide +kernel
theorem dX10_field_70 : decode cX10_field 70 = .ok (.invokevirtual 108, 3) := by decide +kernel
theorem dX10_field_73 : decode cX10_field 73 = .ok (.ireturn, 1) := by decide +kernel
theorem dX10_field_74 : decode cX10_field 74 = .ok (.aload_n 0, 1) := by decide +kernel
theorem dX10_field_75 : decode cX10_field 75 = .ok (.aload_n 3, 1) := by decide +kernel
theorem dX10_field_76 : decode cX10_field 76 = .ok (.invokevirtual 123, 3) := by decide +kernel
theorem dX10_field_79 : decode cX10_field 79 = .ok (.invokevirtual 108, 3) := by decide +kernel
theorem dX10_field_82 : decode cX10_field 82 = .ok (.ireturn, 1) := by decide +kernel
theorem dX10_field_83 : decode cX10_field 83 = .ok (.aload_n 0, 1) := by decide +kernel
theorem dX10_field_84 : decode cX10_field 84 = .ok (.aload_n 3, 1) := by decide +kernel
theorem dX10_field_85 : decode cX10_field 85 = .ok (.invokevirtual 126, 3) := by decide +kernel
theorem dX10_field_88 : decode cX10_field 88 = .ok (.invokevirtual 108, 3) := by decide +kernel
theorem dX10_field_91 : decode cX10_field 91 = .ok (.ireturn, 1) := by decide +kernel
theorem dX10_log_0 : decode cX10_log 0 = .ok (.aload_n 0, 1) := by decide +kernel
theorem dX10_log_1 : decode cX10_log 1 = .ok (.getfield 53, 3) := by decide +kernel
theorem dX10_log_4 : decode cX10_log 4 = .ok (.iload_n 1, 1) := by decide +kernel
theorem dX10_log_5 : decode cX10_log 5 = .ok (.invokevirtual 111, 3) := by decide +kernel
theorem dX10_log_8 : decode cX10_log 8 = .ok (.astore_n 3, 1) := by decide +kernel
theorem dX10_log_9 : decode cX10_log 9 = .ok (.aload_n 3, 1) := by decide +kernel
theorem dX10_log_10 : decode cX10_log 10 = .ok (.ifnonnull 10, 3) := by decide +kernel
theorem dX10_log_13 : decode cX10_log 13 = .ok (.aload_n 0, 1) := by decide +kernel
theorem dX10_log_14 : decode cX10_log 14 = .ok (.iconst 1, 1) := by decide +kernel
theorem dX10_log_15 : decode cX10_log 15 = .ok (.iconst (-1), 1) := by decide +kernel
theorem dX10_log_16 : decode cX10_log 16 = .ok (.invokevirtual 85, 3) := by decide +kernel
theorem dX10_log_19 : decode cX10_log 19 = .ok (.ireturn, 1) := by decide +kernel
theorem dX10_log_20 : decode cX10_log 20 = .ok (.aload_n 3, 1) := by decide +kernel
theorem dX10_log_21 : decode cX10_log 21 = .ok (.iload_n 2, 1) := by decide +kernel
theorem dX10_log_22 : decode cX10_log 22 = .ok (.invokevirtual 129, 3) := by decide +kernel
theorem dX10_log_25 : decode cX10_log 25 = .ok (.ifCond .ne 10, 3) := by decide +kernel
theorem dX10_log_28 : decode cX10_log 28 = .ok (.aload_n 0, 1) := by decide +kernel
theorem dX10_log_29 : decode cX10_log 29 = .ok (.iconst 2, 1) := by decide +kernel
theorem dX10_log_30 : decode cX10_log 30 = .ok (.iconst (-1), 1) := by decide +kernel
theorem dX10_log_31 : decode cX10_log 31 = .ok (.invokevirtual 85, 3) := by decide +kernel
theorem dX10_log_34 : decode cX10_log 34 = .ok (.ireturn, 1) := by decide +kernel
theorem dX10_log_35 : decode cX10_log 35 = .ok (.aload_n 0, 1) := by decide +kernel
theorem dX10_log_36 : decode cX10_log 36 = .ok (.aload_n 3, 1) := by decide +kernel
theorem dX10_log_37 : decode cX10_log 37 = .ok (.iload_n 2, 1) := by decide +kernel
theorem dX10_log_38 : decode cX10_log 38 = .ok (.invokevirtual 132, 3) := by decide +kernel
theorem dX10_log_41 : decode cX10_log 41 = .ok (.invokevirtual 108, 3) := by decide +kernel
theorem dX10_log_44 : decode cX10_log 44 = .ok (.ireturn, 1) := by decide +kernel
theorem dX10_character_0 : decode cX10_character 0 = .ok (.aload_n 0, 1) := by decide +kernel
theorem dX10_character_1 : decode cX10_character 1 = .ok (.getfield 53, 3) := by decide +kernel
theorem dX10_character_4 : decode cX10_character 4 = .ok (.iload_n 1, 1) := by decide +kernel
theorem dX10_character_5 : decode cX10_character 5 = .ok (.invokevirtual 111, 3) := by decide +kernel
theorem dX10_character_8 : decode cX10_character 8 = .ok (.astore 4, 2) := by decide +kernel
theorem dX10_character_10 : decode cX10_character 10 = .ok (.aload 4, 2) := by decide +kernel
theorem dX10_character_12 : decode cX10_character 12 = .ok (.ifnull 12, 3) := by decide +kernel
theorem dX10_character_15 : decode cX10_character 15 = .ok (.aload 4, 2) := by decide +kernel
theorem dX10_character_17 : decode cX10_character 17 = .ok (.iload_n 2, 1) := by decide +kernel
theorem dX10_character_18 : decode cX10_character 18 = .ok (.invokevirtual 135, 3) := by decide +kernel
theorem dX10_character_21 : decode cX10_character 21 = .ok (.ifCond .ne 10, 3) := by decide +kernel
theorem dX10_character_24 : decode cX10_character 24 = .ok (.aload_n 0, 1) := by decide +kernel
theorem dX10_character_25 : decode cX10_character 25 = .ok (.iconst 1, 1) := by decide +kernel
theorem dX10_character_26 : decode cX10_character 26 = .ok (.iconst (-1), 1) := by decide +kernel
theorem dX10_character_27 : decode cX10_character 27 = .ok (.invokevirtual 85, 3) := by decide +kernel
theorem dX10_character_30 : decode cX10_character 30 = .ok (.ireturn, 1) := by decide +kernel
theorem dX10_character_31 : decode cX10_character 31 = .ok (.aload 4, 2) := by decide +kernel
theorem dX10_character_33 : decode cX10_character 33 = .ok (.iload_n 3, 1) := by decide +kernel
theorem dX10_character_34 : decode cX10_character 34 = .ok (.invokevirtual 138, 3) := by decide +kernel
theorem dX10_character_37 : decode cX10_character 37 = .ok (.ifCond .ne 10, 3) := by decide +kernel
theorem dX10_character_40 : decode cX10_character 40 = .ok (.aload_n 0, 1) := by decide +kernel
theorem dX10_character_41 : decode cX10_character 41 = .ok (.iconst 2, 1) := by decide +kernel
theorem dX10_character_42 : decode cX10_character 42 = .ok (.iconst (-1), 1) := by decide +kernel
theorem dX10_character_43 : decode cX10_character 43 = .ok (.invokevirtual 85, 3) := by decide +kernel
theorem dX10_character_46 : decode cX10_character 46 = .ok (.ireturn, 1) := by decide +kernel
theorem dX10_character_47 : decode cX10_character 47 = .ok (.aload_n 0, 1) := by decide +kernel
theorem dX10_character_48 : decode cX10_character 48 = .ok (.aload 4, 2) := by decide +kernel
theorem dX10_character_50 : decode cX10_character 50 = .ok (.iload_n 2, 1) := by decide +kernel
theorem dX10_character_51 : decode cX10_character 51 = .ok (.iload_n 3, 1) := by decide +kernel
theorem dX10_character_52 : decode cX10_character 52 = .ok (.invokevirtual 141, 3) := by decide +kernel
theorem dX10_character_55 : decode cX10_character 55 = .ok (.invokevirtual 108, 3) := by decide +kernel
theorem dX10_character_58 : decode cX10_character 58 = .ok (.ireturn, 1) := by decide +kernel
theorem dX10_sum_0 : decode cX10_sum 0 = .ok (.aload_n 0, 1) := by decide +kernel
theorem dX10_sum_1 : decode cX10_sum 1 = .ok (.getfield 53, 3) := by decide +kernel
theorem dX10_sum_4 : decode cX10_sum 4 = .ok (.iload_n 1, 1) := by decide +kernel
theorem dX10_sum_5 : decode cX10_sum 5 = .ok (.invokevirtual 111, 3) := by decide +kernel
theorem dX10_sum_8 : decode cX10_sum 8 = .ok (.astore 5, 2) := by decide +kernel
theorem dX10_sum_10 : decode cX10_sum 10 = .ok (.aload 5, 2) := by decide +kernel
theorem dX10_sum_12 : decode cX10_sum 12 = .ok (.iload_n 2, 1) := by decide +kernel
theorem dX10_sum_13 : decode cX10_sum 13 = .ok (.iload_n 3, 1) := by decide +kernel
theorem dX10_sum_14 : decode cX10_sum 14 = .ok (.invokestatic 144, 3) := by decide +kernel
theorem dX10_sum_17 : decode cX10_sum 17 = .ok (.ifCond .eq 18, 3) := by decide +kernel
theorem dX10_sum_20 : decode cX10_sum 20 = .ok (.iload 4, 2) := by decide +kernel
theorem dX10_sum_22 : decode cX10_sum 22 = .ok (.ifCond .lt 13, 3) := by decide +kernel
theorem dX10_sum_25 : decode cX10_sum 25 = .ok (.iload 4, 2) := by decide +kernel
theorem dX10_sum_27 : decode cX10_sum 27 = .ok (.aload 5, 2) := by decide +kernel
theorem dX10_sum_29 : decode cX10_sum 29 = .ok (.invokevirtual 126, 3) := by decide +kernel
theorem dX10_sum_32 : decode cX10_sum 32 = .ok (.if_icmp .lt 12, 3) := by decide +kernel
theorem dX10_sum_35 : decode cX10_sum 35 = .ok (.aload_n 0, 1) := by decide +kernel
theorem dX10_sum_36 : decode cX10_sum 36 = .ok (.iconst 1, 1) := by decide +kernel
theorem dX10_sum_37 : decode cX10_sum 37 = .ok (.sipush (-1000), 3) := by decide +kernel
theorem dX10_sum_40 : decode cX10_sum 40 = .ok (.invokevirtual 85, 3) := by decide +kernel
theorem dX10_sum_43 : decode cX10_sum 43 = .ok (.ireturn, 1) := by decide +kernel
theorem dX10_sum_44 : decode cX10_sum 44 = .ok (.aload 5, 2) := by decide +kernel
theorem dX10_sum_46 : decode cX10_sum 46 = .ok (.iload_n 2, 1) := by decide +kernel
theorem dX10_sum_47 : decode cX10_sum 47 = .ok (.iload_n 3, 1) := by decide +kernel
theorem dX10_sum_48 : decode cX10_sum 48 = .ok (.aload_n 0, 1) := by decide +kernel
theorem dX10_sum_49 : decode cX10_sum 49 = .ok (.getfield 19, 3) := by decide +kernel
theorem dX10_sum_52 : decode cX10_sum 52 = .ok (.aload_n 0, 1) := by decide +kernel
theorem dX10_sum_53 : decode cX10_sum 53 = .ok (.getfield 37, 3) := by decide +kernel
theorem dX10_sum_56 : decode cX10_sum 56 = .ok (.invokevirtual 148, 3) := by decide +kernel
theorem dX10_sum_59 : decode cX10_sum 59 = .ok (.aload_n 0, 1) := by decide +kernel
theorem dX10_sum_60 : decode cX10_sum 60 = .ok (.aload_n 0, 1) := by decide +kernel
theorem dX10_sum_61 : decode cX10_sum 61 = .ok (.getfield 37, 3) := by decide +kernel
theorem dX10_sum_64 : decode cX10_sum 64 = .ok (.iload 4, 2) := by decide +kernel
theorem dX10_sum_66 : decode cX10_sum 66 = .ok (.invokestatic 152, 3) := by decide +kernel
theorem dX10_sum_69 : decode cX10_sum 69 = .ok (.l2i, 1) := by decide +kernel
theorem dX10_sum_70 : decode cX10_sum 70 = .ok (.invokevirtual 108, 3) := by decide +kernel
theorem dX10_sum_73 : decode cX10_sum 73 = .ok (.ireturn, 1) := by decide +kernel
theorem dX10_norm_0 : decode cX10_norm 0 = .ok (.aload_n 0, 1) := by decide +kernel
theorem dX10_norm_1 : decode cX10_norm 1 = .ok (.getfield 53, 3) := by decide +kernel
theorem dX10_norm_4 : decode cX10_norm 4 = .ok (.iload_n 1, 1) := by decide +kernel
theorem dX10_norm_5 : decode cX10_norm 5 = .ok (.invokevirtual 111, 3) := by decide +kernel
theorem dX10_norm_8 : decode cX10_norm 8 = .ok (.astore 4, 2) := by decide +kernel
theorem dX10_norm_10 : decode cX10_norm 10 = .ok (.aload 4, 2) := by decide +kernel
theorem dX10_norm_12 : decode cX10_norm 12 = .ok (.iload_n 2, 1) := by decide +kernel
theorem dX10_norm_13 : decode cX10_norm 13 = .ok (.iload_n 3, 1) := by decide +kernel
theorem dX10_norm_14 : decode cX10_norm 14 = .ok (.invokestatic 144, 3) := by decide +kernel
theorem dX10_norm_17 : decode cX10_norm 17 = .ok (.ifCond .ne 10, 3) := by decide +kernel
theorem dX10_norm_20 : decode cX10_norm 20 = .ok (.aload_n 0, 1) := by decide +kernel
theorem dX10_norm_21 : decode cX10_norm 21 = .ok (.iconst 1, 1) := by decide +kernel
theorem dX10_norm_22 : decode cX10_norm 22 = .ok (.iconst (-1), 1) := by decide +kernel
theorem dX10_norm_23 : decode cX10_norm 23 = .ok (.invokevirtual 85, 3) := by decide +kernel
theorem dX10_norm_26 : decode cX10_norm 26 = .ok (.ireturn, 1) := by decide +kernel
theorem dX10_norm_27 : decode cX10_norm 27 = .ok (.aload 4, 2) := by decide +kernel
theorem dX10_norm_29 : decode cX10_norm 29 = .ok (.invokevirtual 120, 3) := by decide +kernel
theorem dX10_norm_32 : decode cX10_norm 32 = .ok (.istore 5, 2) := by decide +kernel
theorem dX10_norm_34 : decode cX10_norm 34 = .ok (.aload 4, 2) := by decide +kernel
theorem dX10_norm_36 : decode cX10_norm 36 = .ok (.iload_n 2, 1) := by decide +kernel
theorem dX10_norm_37 : decode cX10_norm 37 = .ok (.iload_n 3, 1) := by decide +kernel
theorem dX10_norm_38 : decode cX10_norm 38 = .ok (.aload_n 0, 1) := by decide +kernel
theorem dX10_norm_39 : decode cX10_norm 39 = .ok (.getfield 19, 3) := by decide +kernel
theorem dX10_norm_42 : decode cX10_norm 42 = .ok (.aload_n 0, 1) := by decide +kernel
theorem dX10_norm_43 : decode cX10_norm 43 = .ok (.getfield 37, 3) := by decide +kernel
theorem dX10_norm_46 : decode cX10_norm 46 = .ok (.invokevirtual 148, 3) := by decide +kernel
theorem dX10_norm_49 : decode cX10_norm 49 = .ok (.aload_n 0, 1) := by decide +kernel
theorem dX10_norm_50 : decode cX10_norm 50 = .ok (.getfield 19, 3) := by decide +kernel
theorem dX10_norm_53 : decode cX10_norm 53 = .ok (.aload_n 0, 1) := by decide +kernel
theorem dX10_norm_54 : decode cX10_norm 54 = .ok (.getfield 37, 3) := by decide +kernel
theorem dX10_norm_57 : decode cX10_norm 57 = .ok (.iload 5, 2) := by decide +kernel
theorem dX10_norm_59 : decode cX10_norm 59 = .ok (.iconst 1, 1) := by decide +kernel
theorem dX10_norm_60 : decode cX10_norm 60 = .ok (.isub, 1) := by decide +kernel
theorem dX10_norm_61 : decode cX10_norm 61 = .ok (.aload_n 0, 1) := by decide +kernel
theorem dX10_norm_62 : decode cX10_norm 62 = .ok (.getfield 41, 3) := by decide +kernel
theorem dX10_norm_65 : decode cX10_norm 65 = .ok (.iload 5, 2) := by decide +kernel
theorem dX10_norm_67 : decode cX10_norm 67 = .ok (.invokevirtual 158, 3) := by decide +kernel
theorem dX10_norm_70 : decode cX10_norm 70 = .ok (.aload_n 0, 1) := by decide +kernel
theorem dX10_norm_71 : decode cX10_norm 71 = .ok (.getfield 19, 3) := by decide +kernel
theorem dX10_norm_74 : decode cX10_norm 74 = .ok (.aload_n 0, 1) := by decide +kernel
theorem dX10_norm_75 : decode cX10_norm 75 = .ok (.getfield 37, 3) := by decide +kernel
theorem dX10_norm_78 : decode cX10_norm 78 = .ok (.aload_n 0, 1) := by decide +kernel
theorem dX10_norm_79 : decode cX10_norm 79 = .ok (.getfield 41, 3) := by decide +kernel
theorem dX10_norm_82 : decode cX10_norm 82 = .ok (.aload_n 0, 1) := by decide +kernel
theorem dX10_norm_83 : decode cX10_norm 83 = .ok (.getfield 44, 3) := by decide +kernel
theorem dX10_norm_86 : decode cX10_norm 86 = .ok (.iload 5, 2) := by decide +kernel
theorem dX10_norm_88 : decode cX10_norm 88 = .ok (.invokevirtual 162, 3) := by decide +kernel
theorem dX10_norm_91 : decode cX10_norm 91 = .ok (.aload_n 0, 1) := by decide +kernel
theorem dX10_norm_92 : decode cX10_norm 92 = .ok (.aload_n 0, 1) := by decide +kernel
theorem dX10_norm_93 : decode cX10_norm 93 = .ok (.getfield 44, 3) := by decide +kernel
theorem dX10_norm_96 : decode cX10_norm 96 = .ok (.invokestatic 166, 3) := by decide +kernel
theorem dX10_norm_99 : decode cX10_norm 99 = .ok (.ifCond .eq 15, 3) := by decide +kernel
theorem dX10_norm_102 : decode cX10_norm 102 = .ok (.aload_n 0, 1) := by decide +kernel
theorem dX10_norm_103 : decode cX10_norm 103 = .ok (.getfield 44, 3) := by decide +kernel
theorem dX10_norm_106 : decode cX10_norm 106 = .ok (.iconst 0, 1) := by decide +kernel
theorem dX10_norm_107 : decode cX10_norm 107 = .ok (.invokestatic 152, 3) := by decide +kernel
theorem dX10_norm_110 : decode cX10_norm 110 = .ok (.l2i, 1) := by decide +kernel
theorem dX10_norm_111 : decode cX10_norm 111 = .ok (.goto 5, 3) := by decide +kernel
theorem dX10_norm_114 : decode cX10_norm 114 = .ok (.bipush (-2), 2) := by decide +kernel
theorem dX10_norm_116 : decode cX10_norm 116 = .ok (.invokevirtual 108, 3) := by decide +kernel
theorem dX10_norm_119 : decode cX10_norm 119 = .ok (.ireturn, 1) := by decide +kernel
theorem dX10_relation_0 : decode cX10_relation 0 = .ok (.aload_n 0, 1) := by decide +kernel
theorem dX10_relation_1 : decode cX10_relation 1 = .ok (.getfield 53, 3) := by decide +kernel
theorem dX10_relation_4 : decode cX10_relation 4 = .ok (.iload_n 1, 1) := by decide +kernel
theorem dX10_relation_5 : decode cX10_relation 5 = .ok (.invokevirtual 111, 3) := by decide +kernel
theorem dX10_relation_8 : decode cX10_relation 8 = .ok (.astore 5, 2) := by decide +kernel
theorem dX10_relation_10 : decode cX10_relation 10 = .ok (.aload 5, 2) := by decide +kernel
theorem dX10_relation_12 : decode cX10_relation 12 = .ok (.iload_n 2, 1) := by decide +kernel
theorem dX10_relation_13 : decode cX10_relation 13 = .ok (.iload_n 3, 1) := by decide +kernel
theorem dX10_relation_14 : decode cX10_relation 14 = .ok (.invokestatic 144, 3) := by decide +kernel
theorem dX10_relation_17 : decode cX10_relation 17 = .ok (.ifCond .eq 13, 3) := by decide +kernel
theorem dX10_relation_20 : decode cX10_relation 20 = .ok (.aload 5, 2) := by decide +kernel
theorem dX10_relation_22 : decode cX10_relation 22 = .ok (.iload 4, 2) := by decide +kernel
theorem dX10_relation_24 : decode cX10_relation 24 = .ok (.invokevirtual 135, 3) := by decide +kernel
theorem dX10_relation_27 : decode cX10_relation 27 = .ok (.ifCond .ne 10, 3) := by decide +kernel
theorem dX10_relation_30 : decode cX10_relation 30 = .ok (.aload_n 0, 1) := by decide +kernel
theorem dX10_relation_31 : decode cX10_relation 31 = .ok (.iconst 1, 1) := by decide +kernel
theorem dX10_relation_32 : decode cX10_relation 32 = .ok (.iconst (-1), 1) := by decide +kernel
theorem dX10_relation_33 : decode cX10_relation 33 = .ok (.invokevirtual 85, 3) := by decide +kernel
theorem dX10_relation_36 : decode cX10_relation 36 = .ok (.ireturn, 1) := by decide +kernel
theorem dX10_relation_37 : decode cX10_relation 37 = .ok (.aload 5, 2) := by decide +kernel
theorem dX10_relation_39 : decode cX10_relation 39 = .ok (.invokevirtual 120, 3) := by decide +kernel
theorem dX10_relation_42 : decode cX10_relation 42 = .ok (.istore 6, 2) := by decide +kernel
theorem dX10_relation_44 : decode cX10_relation 44 = .ok (.aload 5, 2) := by decide +kernel
theorem dX10_relation_46 : decode cX10_relation 46 = .ok (.iload_n 2, 1) := by decide +kernel
theorem dX10_relation_47 : decode cX10_relation 47 = .ok (.iload_n 3, 1) := by decide +kernel
theorem dX10_relation_48 : decode cX10_relation 48 = .ok (.aload_n 0, 1) := by decide +kernel
theorem dX10_relation_49 : decode cX10_relation 49 = .ok (.getfield 19, 3) := by decide +kernel
theorem dX10_relation_52 : decode cX10_relation 52 = .ok (.aload_n 0, 1) := by decide +kernel
theorem dX10_relation_53 : decode cX10_relation 53 = .ok (.getfield 37, 3) := by decide +kernel
theorem dX10_relation_56 : decode cX10_relation 56 = .ok (.invokevirtual 148, 3) := by decide +kernel
theorem dX10_relation_59 : decode cX10_relation 59 = .ok (.aload 5, 2) := by decide +kernel
theorem dX10_relation_61 : decode cX10_relation 61 = .ok (.iload_n 2, 1) := by decide +kernel
theorem dX10_relation_62 : decode cX10_relation 62 = .ok (.iload_n 3, 1) := by decide +kernel
theorem dX10_relation_63 : decode cX10_relation 63 = .ok (.iadd, 1) := by decide +kernel
theorem dX10_relation_64 : decode cX10_relation 64 = .ok (.i2l, 1) := by decide +kernel
theorem dX10_relation_65 : decode cX10_relation 65 = .ok (.iload 6, 2) := by decide +kernel
theorem dX10_relation_67 : decode cX10_relation 67 = .ok (.invokestatic 170, 3) := by decide +kernel
theorem dX10_relation_70 : decode cX10_relation 70 = .ok (.iload 4, 2) := by decide +kernel
theorem dX10_relation_72 : decode cX10_relation 72 = .ok (.aload_n 0, 1) := by decide +kernel
theorem dX10_relation_73 : decode cX10_relation 73 = .ok (.getfield 19, 3) := by decide +kernel
theorem dX10_relation_76 : decode cX10_relation 76 = .ok (.aload_n 0, 1) := by decide +kernel
theorem dX10_relation_77 : decode cX10_relation 77 = .ok (.getfield 41, 3) := by decide +kernel
theorem dX10_relation_80 : decode cX10_relation 80 = .ok (.invokevirtual 148, 3) := by decide +kernel
theorem dX10_relation_83 : decode cX10_relation 83 = .ok (.aload_n 0, 1) := by decide +kernel
theorem dX10_relation_84 : decode cX10_relation 84 = .ok (.getfield 19, 3) := by decide +kernel
theorem dX10_relation_87 : decode cX10_relation 87 = .ok (.aload_n 0, 1) := by decide +kernel
theorem dX10_relation_88 : decode cX10_relation 88 = .ok (.getfield 37, 3) := by decide +kernel
theorem dX10_relation_91 : decode cX10_relation 91 = .ok (.aload_n 0, 1) := by decide +kernel
theorem dX10_relation_92 : decode cX10_relation 92 = .ok (.getfield 41, 3) := by decide +kernel
theorem dX10_relation_95 : decode cX10_relation 95 = .ok (.aload_n 0, 1) := by decide +kernel
theorem dX10_relation_96 : decode cX10_relation 96 = .ok (.getfield 44, 3) := by decide +kernel
theorem dX10_relation_99 : decode cX10_relation 99 = .ok (.iload 6, 2) := by decide +kernel
theorem dX10_relation_101 : decode cX10_relation 101 = .ok (.invokevirtual 162, 3) := by decide +kernel
theorem dX10_relation_104 : decode cX10_relation 104 = .ok (.aload 5, 2) := by decide +kernel
theorem dX10_relation_106 : decode cX10_relation 106 = .ok (.iload_n 3, 1) := by decide +kernel
theorem dX10_relation_107 : decode cX10_relation 107 = .ok (.iload 4, 2) := by decide +kernel
theorem dX10_relation_109 : decode cX10_relation 109 = .ok (.aload_n 0, 1) := by decide +kernel
theorem dX10_relation_110 : decode cX10_relation 110 = .ok (.getfield 19, 3) := by decide +kernel
theorem dX10_relation_113 : decode cX10_relation 113 = .ok (.aload_n 0, 1) := by decide +kernel
theorem dX10_relation_114 : decode cX10_relation 114 = .ok (.getfield 37, 3) := by decide +kernel
theorem dX10_relation_117 : decode cX10_relation 117 = .ok (.invokevirtual 148, 3) := by decide +kernel
theorem dX10_relation_120 : decode cX10_relation 120 = .ok (.aload 5, 2) := by decide +kernel
theorem dX10_relation_122 : decode cX10_relation 122 = .ok (.iload_n 2, 1) := by decide +kernel
theorem dX10_relation_123 : decode cX10_relation 123 = .ok (.iload_n 3, 1) := by decide +kernel
theorem dX10_relation_124 : decode cX10_relation 124 = .ok (.iload 4, 2) := by decide +kernel
theorem dX10_relation_126 : decode cX10_relation 126 = .ok (.iadd, 1) := by decide +kernel
theorem dX10_relation_127 : decode cX10_relation 127 = .ok (.i2l, 1) := by decide +kernel
theorem dX10_relation_128 : decode cX10_relation 128 = .ok (.iload 6, 2) := by decide +kernel
theorem dX10_relation_130 : decode cX10_relation 130 = .ok (.invokestatic 170, 3) := by decide +kernel
theorem dX10_relation_133 : decode cX10_relation 133 = .ok (.aload_n 0, 1) := by decide +kernel
theorem dX10_relation_134 : decode cX10_relation 134 = .ok (.getfield 19, 3) := by decide +kernel
theorem dX10_relation_137 : decode cX10_relation 137 = .ok (.aload_n 0, 1) := by decide +kernel
theorem dX10_relation_138 : decode cX10_relation 138 = .ok (.getfield 41, 3) := by decide +kernel
theorem dX10_relation_141 : decode cX10_relation 141 = .ok (.invokevirtual 148, 3) := by decide +kernel
theorem dX10_relation_144 : decode cX10_relation 144 = .ok (.aload_n 0, 1) := by decide +kernel
theorem dX10_relation_145 : decode cX10_relation 145 = .ok (.getfield 19, 3) := by decide +kernel
theorem dX10_relation_148 : decode cX10_relation 148 = .ok (.aload_n 0, 1) := by decide +kernel
theorem dX10_relation_149 : decode cX10_relation 149 = .ok (.getfield 37, 3) := by decide +kernel
theorem dX10_relation_152 : decode cX10_relation 152 = .ok (.aload_n 0, 1) := by decide +kernel
theorem dX10_relation_153 : decode cX10_relation 153 = .ok (.getfield 41, 3) := by decide +kernel
theorem dX10_relation_156 : decode cX10_relation 156 = .ok (.aload_n 0, 1) := by decide +kernel
theorem dX10_relation_157 : decode cX10_relation 157 = .ok (.getfield 47, 3) := by decide +kernel
theorem dX10_relation_160 : decode cX10_relation 160 = .ok (.iload 6, 2) := by decide +kernel
theorem dX10_relation_162 : decode cX10_relation 162 = .ok (.invokevirtual 162, 3) := by decide +kernel
theorem dX10_relation_165 : decode cX10_relation 165 = .ok (.aload_n 0, 1) := by decide +kernel
theorem dX10_relation_166 : decode cX10_relation 166 = .ok (.aload_n 0, 1) := by decide +kernel
theorem dX10_relation_167 : decode cX10_relation 167 = .ok (.getfield 44, 3) := by decide +kernel
theorem dX10_relation_170 : decode cX10_relation 170 = .ok (.aload_n 0, 1) := by decide +kernel
theorem dX10_relation_171 : decode cX10_relation 171 = .ok (.getfield 47, 3) := by decide +kernel
theorem dX10_relation_174 : decode cX10_relation 174 = .ok (.invokestatic 174, 3) := by decide +kernel
theorem dX10_relation_177 : decode cX10_relation 177 = .ok (.ifCond .eq 7, 3) := by decide +kernel
theorem dX10_relation_180 : decode cX10_relation 180 = .ok (.iconst 1, 1) := by decide +kernel
theorem dX10_relation_181 : decode cX10_relation 181 = .ok (.goto 4, 3) := by decide +kernel
theorem dX10_relation_184 : decode cX10_relation 184 = .ok (.iconst 0, 1) := by decide +kernel
theorem dX10_relation_185 : decode cX10_relation 185 = .ok (.invokevirtual 108, 3) := by decide +kernel
theorem dX10_relation_188 : decode cX10_relation 188 = .ok (.ireturn, 1) := by decide +kernel
theorem dX10_part_0 : decode cX10_part 0 = .ok (.aload_n 0, 1) := by decide +kernel
theorem dX10_part_1 : decode cX10_part 1 = .ok (.getfield 53, 3) := by decide +kernel
theorem dX10_part_4 : decode cX10_part 4 = .ok (.iload_n 1, 1) := by decide +kernel
theorem dX10_part_5 : decode cX10_part 5 = .ok (.invokevirtual 111, 3) := by decide +kernel
theorem dX10_part_8 : decode cX10_part 8 = .ok (.astore 5, 2) := by decide +kernel
theorem dX10_part_10 : decode cX10_part 10 = .ok (.aload 5, 2) := by decide +kernel
theorem dX10_part_12 : decode cX10_part 12 = .ok (.iload_n 2, 1) := by decide +kernel
theorem dX10_part_13 : decode cX10_part 13 = .ok (.iload_n 3, 1) := by decide +kernel
theorem dX10_part_14 : decode cX10_part 14 = .ok (.invokestatic 144, 3) := by decide +kernel
theorem dX10_part_17 : decode cX10_part 17 = .ok (.ifCond .ne 10, 3) := by decide +kernel
theorem dX10_part_20 : decode cX10_part 20 = .ok (.aload_n 0, 1) := by decide +kernel
theorem dX10_part_21 : decode cX10_part 21 = .ok (.iconst 1, 1) := by decide +kernel
theorem dX10_part_22 : decode cX10_part 22 = .ok (.iconst (-1), 1) := by decide +kernel
theorem dX10_part_23 : decode cX10_part 23 = .ok (.invokevirtual 85, 3) := by decide +kernel
theorem dX10_part_26 : decode cX10_part 26 = .ok (.ireturn, 1) := by decide +kernel
theorem dX10_part_27 : decode cX10_part 27 = .ok (.aload 5, 2) := by decide +kernel
theorem dX10_part_29 : decode cX10_part 29 = .ok (.iload 4, 2) := by decide +kernel
theorem dX10_part_31 : decode cX10_part 31 = .ok (.invokevirtual 178, 3) := by decide +kernel
theorem dX10_part_34 : decode cX10_part 34 = .ok (.ifCond .ne 10, 3) := by decide +kernel
theorem dX10_part_37 : decode cX10_part 37 = .ok (.aload_n 0, 1) := by decide +kernel
theorem dX10_part_38 : decode cX10_part 38 = .ok (.iconst 2, 1) := by decide +kernel
theorem dX10_part_39 : decode cX10_part 39 = .ok (.iconst (-1), 1) := by decide +kernel
theorem dX10_part_40 : decode cX10_part 40 = .ok (.invokevirtual 85, 3) := by decide +kernel
theorem dX10_part_43 : decode cX10_part 43 = .ok (.ireturn, 1) := by decide +kernel
theorem dX10_part_44 : decode cX10_part 44 = .ok (.aload 5, 2) := by decide +kernel
theorem dX10_part_46 : decode cX10_part 46 = .ok (.iload_n 2, 1) := by decide +kernel
theorem dX10_part_47 : decode cX10_part 47 = .ok (.iload_n 3, 1) := by decide +kernel
theorem dX10_part_48 : decode cX10_part 48 = .ok (.aload_n 0, 1) := by decide +kernel
theorem dX10_part_49 : decode cX10_part 49 = .ok (.getfield 19, 3) := by decide +kernel
theorem dX10_part_52 : decode cX10_part 52 = .ok (.aload_n 0, 1) := by decide +kernel
theorem dX10_part_53 : decode cX10_part 53 = .ok (.getfield 37, 3) := by decide +kernel
theorem dX10_part_56 : decode cX10_part 56 = .ok (.invokevirtual 148, 3) := by decide +kernel
theorem dX10_part_59 : decode cX10_part 59 = .ok (.aload_n 0, 1) := by decide +kernel
theorem dX10_part_60 : decode cX10_part 60 = .ok (.aload 5, 2) := by decide +kernel
theorem dX10_part_62 : decode cX10_part 62 = .ok (.aload_n 0, 1) := by decide +kernel
theorem dX10_part_63 : decode cX10_part 63 = .ok (.getfield 37, 3) := by decide +kernel
theorem dX10_part_66 : decode cX10_part 66 = .ok (.iload 4, 2) := by decide +kernel
theorem dX10_part_68 : decode cX10_part 68 = .ok (.invokevirtual 181, 3) := by decide +kernel
theorem dX10_part_71 : decode cX10_part 71 = .ok (.invokevirtual 108, 3) := by decide +kernel
theorem dX10_part_74 : decode cX10_part 74 = .ok (.ireturn, 1) := by decide +kernel
theorem dX10_law_0 : decode cX10_law 0 = .ok (.aload_n 0, 1) := by decide +kernel
theorem dX10_law_1 : decode cX10_law 1 = .ok (.getfield 53, 3) := by decide +kernel
theorem dX10_law_4 : decode cX10_law 4 = .ok (.iload_n 1, 1) := by decide +kernel
theorem dX10_law_5 : decode cX10_law 5 = .ok (.invokevirtual 111, 3) := by decide +kernel
theorem dX10_law_8 : decode cX10_law 8 = .ok (.astore 5, 2) := by decide +kernel
theorem dX10_law_10 : decode cX10_law 10 = .ok (.aload 5, 2) := by decide +kernel
theorem dX10_law_12 : decode cX10_law 12 = .ok (.iload_n 2, 1) := by decide +kernel
theorem dX10_law_13 : decode cX10_law 13 = .ok (.iload_n 3, 1) := by decide +kernel
theorem dX10_law_14 : decode cX10_law 14 = .ok (.invokestatic 144, 3) := by decide +kernel
theorem dX10_law_17 : decode cX10_law 17 = .ok (.ifCond .ne 10, 3) := by decide +kernel
theorem dX10_law_20 : decode cX10_law 20 = .ok (.aload_n 0, 1) := by decide +kernel
theorem dX10_law_21 : decode cX10_law 21 = .ok (.iconst 1, 1) := by decide +kernel
theorem dX10_law_22 : decode cX10_law 22 = .ok (.iconst (-1), 1) := by decide +kernel
theorem dX10_law_23 : decode cX10_law 23 = .ok (.invokevirtual 85, 3) := by decide +kernel
theorem dX10_law_26 : decode cX10_law 26 = .ok (.ireturn, 1) := by decide +kernel
theorem dX10_law_27 : decode cX10_law 27 = .ok (.aload 5, 2) := by decide +kernel
theorem dX10_law_29 : decode cX10_law 29 = .ok (.iload 4, 2) := by decide +kernel
theorem dX10_law_31 : decode cX10_law 31 = .ok (.invokevirtual 178, 3) := by decide +kernel
theorem dX10_law_34 : decode cX10_law 34 = .ok (.ifCond .ne 10, 3) := by decide +kernel
theorem dX10_law_37 : decode cX10_law 37 = .ok (.aload_n 0, 1) := by decide +kernel
theorem dX10_law_38 : decode cX10_law 38 = .ok (.iconst 2, 1) := by decide +kernel
theorem dX10_law_39 : decode cX10_law 39 = .ok (.iconst (-1), 1) := by decide +kernel
theorem dX10_law_40 : decode cX10_law 40 = .ok (.invokevirtual 85, 3) := by decide +kernel
theorem dX10_law_43 : decode cX10_law 43 = .ok (.ireturn, 1) := by decide +kernel
theorem dX10_law_44 : decode cX10_law 44 = .ok (.aload 5, 2) := by decide +kernel
theorem dX10_law_46 : decode cX10_law 46 = .ok (.invokevirtual 120, 3) := by decide +kernel
theorem dX10_law_49 : decode cX10_law 49 = .ok (.istore 6, 2) := by decide +kernel
theorem dX10_law_51 : decode cX10_law 51 = .ok (.iload_n 2, 1) := by decide +kernel
theorem dX10_law_52 : decode cX10_law 52 = .ok (.ifCond .eq 15, 3) := by decide +kernel
theorem dX10_law_55 : decode cX10_law 55 = .ok (.iload_n 3, 1) := by decide +kernel
theorem dX10_law_56 : decode cX10_law 56 = .ok (.ifCond .eq 11, 3) := by decide +kernel
theorem dX10_law_59 : decode cX10_law 59 = .ok (.iload_n 2, 1) := by decide +kernel
theorem dX10_law_60 : decode cX10_law 60 = .ok (.iload_n 3, 1) := by decide +kernel
theorem dX10_law_61 : decode cX10_law 61 = .ok (.iadd, 1) := by decide +kernel
theorem dX10_law_62 : decode cX10_law 62 = .ok (.iload 6, 2) := by decide +kernel
theorem dX10_law_64 : decode cX10_law 64 = .ok (.if_icmp .ne 10, 3) := by decide +kernel
theorem dX10_law_67 : decode cX10_law 67 = .ok (.aload_n 0, 1) := by decide +kernel
theorem dX10_law_68 : decode cX10_law 68 = .ok (.iconst 5, 1) := by decide +kernel
theorem dX10_law_69 : decode cX10_law 69 = .ok (.iconst (-1), 1) := by decide +kernel
theorem dX10_law_70 : decode cX10_law 70 = .ok (.invokevirtual 85, 3) := by decide +kernel
theorem dX10_law_73 : decode cX10_law 73 = .ok (.ireturn, 1) := by decide +kernel
theorem dX10_law_74 : decode cX10_law 74 = .ok (.aload_n 0, 1) := by decide +kernel
theorem dX10_law_75 : decode cX10_law 75 = .ok (.iload 4, 2) := by decide +kernel
theorem dX10_law_77 : decode cX10_law 77 = .ok (.iload_n 2, 1) := by decide +kernel
theorem dX10_law_78 : decode cX10_law 78 = .ok (.imul, 1) := by decide +kernel
theorem dX10_law_79 : decode cX10_law 79 = .ok (.i2l, 1) := by decide +kernel
theorem dX10_law_80 : decode cX10_law 80 = .ok (.iload 6, 2) := by decide +kernel
theorem dX10_law_82 : decode cX10_law 82 = .ok (.invokestatic 170, 3) := by decide +kernel
theorem dX10_law_85 : decode cX10_law 85 = .ok (.iload 4, 2) := by decide +kernel
theorem dX10_law_87 : decode cX10_law 87 = .ok (.iload_n 3, 1) := by decide +kernel
theorem dX10_law_88 : decode cX10_law 88 = .ok (.imul, 1) := by decide +kernel
theorem dX10_law_89 : decode cX10_law 89 = .ok (.i2l, 1) := by decide +kernel
theorem dX10_law_90 : decode cX10_law 90 = .ok (.iload 6, 2) := by decide +kernel
theorem dX10_law_92 : decode cX10_law 92 = .ok (.invokestatic 170, 3) := by decide +kernel
theorem dX10_law_95 : decode cX10_law 95 = .ok (.iadd, 1) := by decide +kernel
theorem dX10_law_96 : decode cX10_law 96 = .ok (.iload 6, 2) := by decide +kernel
theorem dX10_law_98 : decode cX10_law 98 = .ok (.if_icmp .ge 7, 3) := by decide +kernel
theorem dX10_law_101 : decode cX10_law 101 = .ok (.iconst 1, 1) := by decide +kernel
theorem dX10_law_102 : decode cX10_law 102 = .ok (.goto 4, 3) := by decide +kernel
theorem dX10_law_105 : decode cX10_law 105 = .ok (.iconst 0, 1) := by decide +kernel
theorem dX10_law_106 : decode cX10_law 106 = .ok (.invokevirtual 108, 3) := by decide +kernel
theorem dX10_law_109 : decode cX10_law 109 = .ok (.ireturn, 1) := by decide +kernel
theorem dX10_parts_0 : decode cX10_parts 0 = .ok (.aload_n 0, 1) := by decide +kernel
theorem dX10_parts_1 : decode cX10_parts 1 = .ok (.getfield 53, 3) := by decide +kernel
theorem dX10_parts_4 : decode cX10_parts 4 = .ok (.iload_n 1, 1) := by decide +kernel
theorem dX10_parts_5 : decode cX10_parts 5 = .ok (.invokevirtual 111, 3) := by decide +kernel
theorem dX10_parts_8 : decode cX10_parts 8 = .ok (.astore 4, 2) := by decide +kernel
theorem dX10_parts_10 : decode cX10_parts 10 = .ok (.aload 4, 2) := by decide +kernel
theorem dX10_parts_12 : decode cX10_parts 12 = .ok (.iload_n 2, 1) := by decide +kernel
theorem dX10_parts_13 : decode cX10_parts 13 = .ok (.iload_n 3, 1) := by decide +kernel
theorem dX10_parts_14 : decode cX10_parts 14 = .ok (.invokestatic 144, 3) := by decide +kernel
theorem dX10_parts_17 : decode cX10_parts 17 = .ok (.ifCond .ne 10, 3) := by decide +kernel
theorem dX10_parts_20 : decode cX10_parts 20 = .ok (.aload_n 0, 1) := by decide +kernel
theorem dX10_parts_21 : decode cX10_parts 21 = .ok (.iconst 1, 1) := by decide +kernel
theorem dX10_parts_22 : decode cX10_parts 22 = .ok (.iconst (-1), 1) := by decide +kernel
theorem dX10_parts_23 : decode cX10_parts 23 = .ok (.invokevirtual 85, 3) := by decide +kernel
theorem dX10_parts_26 : decode cX10_parts 26 = .ok (.ireturn, 1) := by decide +kernel
theorem dX10_parts_27 : decode cX10_parts 27 = .ok (.aload 4, 2) := by decide +kernel
theorem dX10_parts_29 : decode cX10_parts 29 = .ok (.iload_n 2, 1) := by decide +kernel
theorem dX10_parts_30 : decode cX10_parts 30 = .ok (.iload_n 3, 1) := by decide +kernel
theorem dX10_parts_31 : decode cX10_parts 31 = .ok (.aload_n 0, 1) := by decide +kernel
theorem dX10_parts_32 : decode cX10_parts 32 = .ok (.getfield 19, 3) := by decide +kernel
theorem dX10_parts_35 : decode cX10_parts 35 = .ok (.aload_n 0, 1) := by decide +kernel
theorem dX10_parts_36 : decode cX10_parts 36 = .ok (.getfield 37, 3) := by decide +kernel
theorem dX10_parts_39 : decode cX10_parts 39 = .ok (.invokevirtual 148, 3) := by decide +kernel
theorem dX10_parts_42 : decode cX10_parts 42 = .ok (.iconst 0, 1) := by decide +kernel
theorem dX10_parts_43 : decode cX10_parts 43 = .ok (.istore 5, 2) := by decide +kernel
theorem dX10_parts_45 : decode cX10_parts 45 = .ok (.iconst 1, 1) := by decide +kernel
theorem dX10_parts_46 : decode cX10_parts 46 = .ok (.istore 6, 2) := by decide +kernel
theorem dX10_parts_48 : decode cX10_parts 48 = .ok (.iload 6, 2) := by decide +kernel
theorem dX10_parts_50 : decode cX10_parts 50 = .ok (.aload 4, 2) := by decide +kernel
theorem dX10_parts_52 : decode cX10_parts 52 = .ok (.invokevirtual 120, 3) := by decide +kernel
theorem dX10_parts_55 : decode cX10_parts 55 = .ok (.if_icmp .ge 36, 3) := by decide +kernel
theorem dX10_parts_58 : decode cX10_parts 58 = .ok (.aload 4, 2) := by decide +kernel
theorem dX10_parts_60 : decode cX10_parts 60 = .ok (.iload 6, 2) := by decide +kernel
theorem dX10_parts_62 : decode cX10_parts 62 = .ok (.invokevirtual 178, 3) := by decide +kernel
theorem dX10_parts_65 : decode cX10_parts 65 = .ok (.ifCond .eq 20, 3) := by decide +kernel
theorem dX10_parts_68 : decode cX10_parts 68 = .ok (.aload 4, 2) := by decide +kernel
theorem dX10_parts_70 : decode cX10_parts 70 = .ok (.aload_n 0, 1) := by decide +kernel
theorem dX10_parts_71 : decode cX10_parts 71 = .ok (.getfield 37, 3) := by decide +kernel
theorem dX10_parts_74 : decode cX10_parts 74 = .ok (.iload 6, 2) := by decide +kernel
theorem dX10_parts_76 : decode cX10_parts 76 = .ok (.invokevirtual 181, 3) := by decide +kernel
theorem dX10_parts_79 : decode cX10_parts 79 = .ok (.ifCond .ne 6, 3) := by decide +kernel
theorem dX10_parts_82 : decode cX10_parts 82 = .ok (.iinc 5 1, 3) := by decide +kernel
theorem dX10_parts_85 : decode cX10_parts 85 = .ok (.iinc 6 1, 3) := by decide +kernel
theorem dX10_parts_88 : decode cX10_parts 88 = .ok (.goto (-40), 3) := by decide +kernel
theorem dX10_parts_91 : decode cX10_parts 91 = .ok (.aload_n 0, 1) := by decide +kernel
theorem dX10_parts_92 : decode cX10_parts 92 = .ok (.iload 5, 2) := by decide +kernel
theorem dX10_parts_94 : decode cX10_parts 94 = .ok (.invokevirtual 108, 3) := by decide +kernel
theorem dX10_parts_97 : decode cX10_parts 97 = .ok (.ireturn, 1) := by decide +kernel
theorem dX10_let_0 : decode cX10_let 0 = .ok (.aload_n 0, 1) := by decide +kernel
theorem dX10_let_1 : decode cX10_let 1 = .ok (.getfield 53, 3) := by decide +kernel
theorem dX10_let_4 : decode cX10_let 4 = .ok (.aload_n 0, 1) := by decide +kernel
theorem dX10_let_5 : decode cX10_let 5 = .ok (.getfield 53, 3) := by decide +kernel
theorem dX10_let_8 : decode cX10_let 8 = .ok (.iload_n 1, 1) := by decide +kernel
theorem dX10_let_9 : decode cX10_let 9 = .ok (.invokevirtual 185, 3) := by decide +kernel
theorem dX10_let_12 : decode cX10_let 12 = .ok (.invokevirtual 111, 3) := by decide +kernel
theorem dX10_let_15 : decode cX10_let 15 = .ok (.astore_n 3, 1) := by decide +kernel
theorem dX10_let_16 : decode cX10_let 16 = .ok (.aload_n 3, 1) := by decide +kernel
theorem dX10_let_17 : decode cX10_let 17 = .ok (.ifnull 15, 3) := by decide +kernel
theorem dX10_let_20 : decode cX10_let 20 = .ok (.iload_n 2, 1) := by decide +kernel
theorem dX10_let_21 : decode cX10_let 21 = .ok (.ifCond .lt 11, 3) := by decide +kernel
theorem dX10_let_24 : decode cX10_let 24 = .ok (.iload_n 2, 1) := by decide +kernel
theorem dX10_let_25 : decode cX10_let 25 = .ok (.aload_n 3, 1) := by decide +kernel
theorem dX10_let_26 : decode cX10_let 26 = .ok (.invokevirtual 126, 3) := by decide +kernel
theorem dX10_let_29 : decode cX10_let 29 = .ok (.if_icmp .lt 11, 3) := by decide +kernel
theorem dX10_let_32 : decode cX10_let 32 = .ok (.aload_n 0, 1) := by decide +kernel
theorem dX10_let_33 : decode cX10_let 33 = .ok (.iconst 1, 1) := by decide +kernel
theorem dX10_let_34 : decode cX10_let 34 = .ok (.ldc 188, 2) := by decide +kernel
theorem dX10_let_36 : decode cX10_let 36 = .ok (.invokevirtual 85, 3) := by decide +kernel
theorem dX10_let_39 : decode cX10_let 39 = .ok (.ireturn, 1) := by decide +kernel
theorem dX10_let_40 : decode cX10_let 40 = .ok (.aload_n 0, 1) := by decide +kernel
theorem dX10_let_41 : decode cX10_let 41 = .ok (.aload_n 0, 1) := by decide +kernel
theorem dX10_let_42 : decode cX10_let 42 = .ok (.getfield 53, 3) := by decide +kernel
theorem dX10_let_45 : decode cX10_let 45 = .ok (.iload_n 1, 1) := by decide +kernel
theorem dX10_let_46 : decode cX10_let 46 = .ok (.invokevirtual 189, 3) := by decide +kernel
theorem dX10_let_49 : decode cX10_let 49 = .ok (.iload_n 2, 1) := by decide +kernel
theorem dX10_let_50 : decode cX10_let 50 = .ok (.invokestatic 152, 3) := by decide +kernel
theorem dX10_let_53 : decode cX10_let 53 = .ok (.l2i, 1) := by decide +kernel
theorem dX10_let_54 : decode cX10_let 54 = .ok (.invokevirtual 108, 3) := by decide +kernel
theorem dX10_let_57 : decode cX10_let 57 = .ok (.ireturn, 1) := by decide +kernel
theorem dX10_letField_0 : decode cX10_letField 0 = .ok (.aload_n 0, 1) := by decide +kernel
theorem dX10_letField_1 : decode cX10_letField 1 = .ok (.getfield 53, 3) := by decide +kernel
theorem dX10_letField_4 : decode cX10_letField 4 = .ok (.iload_n 1, 1) := by decide +kernel
theorem dX10_letField_5 : decode cX10_letField 5 = .ok (.invokevirtual 185, 3) := by decide +kernel
theorem dX10_letField_8 : decode cX10_letField 8 = .ok (.istore_n 2, 1) := by decide +kernel
theorem dX10_letField_9 : decode cX10_letField 9 = .ok (.iload_n 2, 1) := by decide +kernel
theorem dX10_letField_10 : decode cX10_letField 10 = .ok (.ifCond .ge 12, 3) := by decide +kernel
theorem dX10_letField_13 : decode cX10_letField 13 = .ok (.aload_n 0, 1) := by decide +kernel
theorem dX10_letField_14 : decode cX10_letField 14 = .ok (.iconst 1, 1) := by decide +kernel
theorem dX10_letField_15 : decode cX10_letField 15 = .ok (.iconst (-1), 1) := by decide +kernel
theorem dX10_letField_16 : decode cX10_letField 16 = .ok (.invokevirtual 85, 3) := by decide +kernel
theorem dX10_letField_19 : decode cX10_letField 19 = .ok (.goto 8, 3) := by decide +kernel
theorem dX10_letField_22 : decode cX10_letField 22 = .ok (.aload_n 0, 1) := by decide +kernel
theorem dX10_letField_23 : decode cX10_letField 23 = .ok (.iload_n 2, 1) := by decide +kernel
theorem dX10_letField_24 : decode cX10_letField 24 = .ok (.invokevirtual 108, 3) := by decide +kernel
theorem dX10_letField_27 : decode cX10_letField 27 = .ok (.ireturn, 1) := by decide +kernel
theorem dX10_letPart_0 : decode cX10_letPart 0 = .ok (.aload_n 0, 1) := by decide +kernel
theorem dX10_letPart_1 : decode cX10_letPart 1 = .ok (.getfield 53, 3) := by decide +kernel
theorem dX10_letPart_4 : decode cX10_letPart 4 = .ok (.aload_n 0, 1) := by decide +kernel
theorem dX10_letPart_5 : decode cX10_letPart 5 = .ok (.getfield 53, 3) := by decide +kernel
theorem dX10_letPart_8 : decode cX10_letPart 8 = .ok (.iload_n 1, 1) := by decide +kernel
theorem dX10_letPart_9 : decode cX10_letPart 9 = .ok (.invokevirtual 185, 3) := by decide +kernel
theorem dX10_letPart_12 : decode cX10_letPart 12 = .ok (.invokevirtual 111, 3) := by decide +kernel
theorem dX10_letPart_15 : decode cX10_letPart 15 = .ok (.astore_n 3, 1) := by decide +kernel
theorem dX10_letPart_16 : decode cX10_letPart 16 = .ok (.aload_n 3, 1) := by decide +kernel
theorem dX10_letPart_17 : decode cX10_letPart 17 = .ok (.ifnonnull 10, 3) := by decide +kernel
theorem dX10_letPart_20 : decode cX10_letPart 20 = .ok (.aload_n 0, 1) := by decide +kernel
theorem dX10_letPart_21 : decode cX10_letPart 21 = .ok (.iconst 1, 1) := by decide +kernel
theorem dX10_letPart_22 : decode cX10_letPart 22 = .ok (.iconst (-1), 1) := by decide +kernel
theorem dX10_letPart_23 : decode cX10_letPart 23 = .ok (.invokevirtual 85, 3) := by decide +kernel
theorem dX10_letPart_26 : decode cX10_letPart 26 = .ok (.ireturn, 1) := by decide +kernel
theorem dX10_letPart_27 : decode cX10_letPart 27 = .ok (.aload_n 3, 1) := by decide +kernel
theorem dX10_letPart_28 : decode cX10_letPart 28 = .ok (.iload_n 2, 1) := by decide +kernel
theorem dX10_letPart_29 : decode cX10_letPart 29 = .ok (.invokevirtual 178, 3) := by decide +kernel
theorem dX10_letPart_32 : decode cX10_letPart 32 = .ok (.ifCond .ne 10, 3) := by decide +kernel
theorem dX10_letPart_35 : decode cX10_letPart 35 = .ok (.aload_n 0, 1) := by decide +kernel
theorem dX10_letPart_36 : decode cX10_letPart 36 = .ok (.iconst 2, 1) := by decide +kernel
theorem dX10_letPart_37 : decode cX10_letPart 37 = .ok (.iconst (-1), 1) := by decide +kernel
theorem dX10_letPart_38 : decode cX10_letPart 38 = .ok (.invokevirtual 85, 3) := by decide +kernel
theorem dX10_letPart_41 : decode cX10_letPart 41 = .ok (.ireturn, 1) := by decide +kernel
theorem dX10_letPart_42 : decode cX10_letPart 42 = .ok (.aload_n 0, 1) := by decide +kernel
theorem dX10_letPart_43 : decode cX10_letPart 43 = .ok (.aload_n 3, 1) := by decide +kernel
theorem dX10_letPart_44 : decode cX10_letPart 44 = .ok (.aload_n 0, 1) := by decide +kernel
theorem dX10_letPart_45 : decode cX10_letPart 45 = .ok (.getfield 53, 3) := by decide +kernel
theorem dX10_letPart_48 : decode cX10_letPart 48 = .ok (.iload_n 1, 1) := by decide +kernel
theorem dX10_letPart_49 : decode cX10_letPart 49 = .ok (.invokevirtual 189, 3) := by decide +kernel
theorem dX10_letPart_52 : decode cX10_letPart 52 = .ok (.iload_n 2, 1) := by decide +kernel
theorem dX10_letPart_53 : decode cX10_letPart 53 = .ok (.invokevirtual 181, 3) := by decide +kernel
theorem dX10_letPart_56 : decode cX10_letPart 56 = .ok (.invokevirtual 108, 3) := by decide +kernel
theorem dX10_letPart_59 : decode cX10_letPart 59 = .ok (.ireturn, 1) := by decide +kernel
theorem dX10_whole_0 : decode cX10_whole 0 = .ok (.aload_n 0, 1) := by decide +kernel
theorem dX10_whole_1 : decode cX10_whole 1 = .ok (.getfield 53, 3) := by decide +kernel
theorem dX10_whole_4 : decode cX10_whole 4 = .ok (.iload_n 1, 1) := by decide +kernel
theorem dX10_whole_5 : decode cX10_whole 5 = .ok (.invokevirtual 185, 3) := by decide +kernel
theorem dX10_whole_8 : decode cX10_whole 8 = .ok (.ifCond .ge 10, 3) := by decide +kernel
theorem dX10_whole_11 : decode cX10_whole 11 = .ok (.aload_n 0, 1) := by decide +kernel
theorem dX10_whole_12 : decode cX10_whole 12 = .ok (.iconst 1, 1) := by decide +kernel
theorem dX10_whole_13 : decode cX10_whole 13 = .ok (.iconst (-1), 1) := by decide +kernel
theorem dX10_whole_14 : decode cX10_whole 14 = .ok (.invokevirtual 85, 3) := by decide +kernel
theorem dX10_whole_17 : decode cX10_whole 17 = .ok (.ireturn, 1) := by decide +kernel
theorem dX10_whole_18 : decode cX10_whole 18 = .ok (.aload_n 0, 1) := by decide +kernel
theorem dX10_whole_19 : decode cX10_whole 19 = .ok (.aload_n 0, 1) := by decide +kernel
theorem dX10_whole_20 : decode cX10_whole 20 = .ok (.getfield 53, 3) := by decide +kernel
theorem dX10_whole_23 : decode cX10_whole 23 = .ok (.iload_n 1, 1) := by decide +kernel
theorem dX10_whole_24 : decode cX10_whole 24 = .ok (.invokevirtual 189, 3) := by decide +kernel
theorem dX10_whole_27 : decode cX10_whole 27 = .ok (.invokestatic 166, 3) := by decide +kernel
theorem dX10_whole_30 : decode cX10_whole 30 = .ok (.ifCond .eq 7, 3) := by decide +kernel
theorem dX10_whole_33 : decode cX10_whole 33 = .ok (.iconst 1, 1) := by decide +kernel
theorem dX10_whole_34 : decode cX10_whole 34 = .ok (.goto 4, 3) := by decide +kernel
theorem dX10_whole_37 : decode cX10_whole 37 = .ok (.iconst 0, 1) := by decide +kernel
theorem dX10_whole_38 : decode cX10_whole 38 = .ok (.invokevirtual 108, 3) := by decide +kernel
theorem dX10_whole_41 : decode cX10_whole 41 = .ok (.ireturn, 1) := by decide +kernel
theorem dX10_count_0 : decode cX10_count 0 = .ok (.aload_n 0, 1) := by decide +kernel
theorem dX10_count_1 : decode cX10_count 1 = .ok (.getfield 53, 3) := by decide +kernel
theorem dX10_count_4 : decode cX10_count 4 = .ok (.iload_n 1, 1) := by decide +kernel
theorem dX10_count_5 : decode cX10_count 5 = .ok (.invokevirtual 193, 3) := by decide +kernel
theorem dX10_count_8 : decode cX10_count 8 = .ok (.astore_n 2, 1) := by decide +kernel
theorem dX10_count_9 : decode cX10_count 9 = .ok (.aload_n 2, 1) := by decide +kernel
theorem dX10_count_10 : decode cX10_count 10 = .ok (.ifnonnull 10, 3) := by decide +kernel
theorem dX10_count_13 : decode cX10_count 13 = .ok (.aload_n 0, 1) := by decide +kernel
theorem dX10_count_14 : decode cX10_count 14 = .ok (.iconst 1, 1) := by decide +kernel
theorem dX10_count_15 : decode cX10_count 15 = .ok (.iconst (-1), 1) := by decide +kernel
theorem dX10_count_16 : decode cX10_count 16 = .ok (.invokevirtual 85, 3) := by decide +kernel
theorem dX10_count_19 : decode cX10_count 19 = .ok (.ireturn, 1) := by decide +kernel
theorem dX10_count_20 : decode cX10_count 20 = .ok (.aload_n 0, 1) := by decide +kernel
theorem dX10_count_21 : decode cX10_count 21 = .ok (.aload_n 2, 1) := by decide +kernel
theorem dX10_count_22 : decode cX10_count 22 = .ok (.aload_n 2, 1) := by decide +kernel
theorem dX10_count_23 : decode cX10_count 23 = .ok (.invokevirtual 197, 3) := by decide +kernel
theorem dX10_count_26 : decode cX10_count 26 = .ok (.invokevirtual 202, 3) := by decide +kernel
theorem dX10_count_29 : decode cX10_count 29 = .ok (.invokevirtual 108, 3) := by decide +kernel
theorem dX10_count_32 : decode cX10_count 32 = .ok (.ireturn, 1) := by decide +kernel
