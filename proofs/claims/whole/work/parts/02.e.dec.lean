theorem dX13_readFresh_0 : decode cX13_readFresh 0 = .ok (.aload_n 0, 1) := by decide +kernel
theorem dX13_readFresh_1 : decode cX13_readFresh 1 = .ok (.invokevirtual 201, 3) := by decide +kernel
theorem dX13_readFresh_4 : decode cX13_readFresh 4 = .ok (.ifCond .ne 8, 3) := by decide +kernel
theorem dX13_readFresh_7 : decode cX13_readFresh 7 = .ok (.aload_n 0, 1) := by decide +kernel
theorem dX13_readFresh_8 : decode cX13_readFresh 8 = .ok (.iconst 1, 1) := by decide +kernel
theorem dX13_readFresh_9 : decode cX13_readFresh 9 = .ok (.invokevirtual 164, 3) := by decide +kernel
theorem dX13_readFresh_12 : decode cX13_readFresh 12 = .ok (.aload_n 0, 1) := by decide +kernel
theorem dX13_readFresh_13 : decode cX13_readFresh 13 = .ok (.getfield 205, 3) := by decide +kernel
theorem dX13_readFresh_16 : decode cX13_readFresh 16 = .ok (.aload_n 0, 1) := by decide +kernel
theorem dX13_readFresh_17 : decode cX13_readFresh 17 = .ok (.getfield 130, 3) := by decide +kernel
theorem dX13_readFresh_20 : decode cX13_readFresh 20 = .ok (.invokevirtual 209, 3) := by decide +kernel
theorem dX13_readFresh_23 : decode cX13_readFresh 23 = .ok (.iconst (-1), 1) := by decide +kernel
theorem dX13_readFresh_24 : decode cX13_readFresh 24 = .ok (.if_icmp .eq 8, 3) := by decide +kernel
theorem dX13_readFresh_27 : decode cX13_readFresh 27 = .ok (.aload_n 0, 1) := by decide +kernel
theorem dX13_readFresh_28 : decode cX13_readFresh 28 = .ok (.iconst 3, 1) := by decide +kernel
theorem dX13_readFresh_29 : decode cX13_readFresh 29 = .ok (.invokevirtual 164, 3) := by decide +kernel
theorem dX13_readFresh_32 : decode cX13_readFresh 32 = .ok (.aload_n 0, 1) := by decide +kernel
theorem dX13_readFresh_33 : decode cX13_readFresh 33 = .ok (.getfield 130, 3) := by decide +kernel
theorem dX13_readFresh_36 : decode cX13_readFresh 36 = .ok (.lstore_n 1, 1) := by decide +kernel
theorem dX13_readFresh_37 : decode cX13_readFresh 37 = .ok (.aload_n 0, 1) := by decide +kernel
theorem dX13_readFresh_38 : decode cX13_readFresh 38 = .ok (.invokevirtual 158, 3) := by decide +kernel
theorem dX13_readFresh_41 : decode cX13_readFresh 41 = .ok (.lload_n 1, 1) := by decide +kernel
theorem dX13_readFresh_42 : decode cX13_readFresh 42 = .ok (.lreturn, 1) := by decide +kernel
theorem dX13_names_0 : decode cX13_names 0 = .ok (.aload_n 0, 1) := by decide +kernel
theorem dX13_names_1 : decode cX13_names 1 = .ok (.getfield 205, 3) := by decide +kernel
theorem dX13_names_4 : decode cX13_names 4 = .ok (.getfield 215, 3) := by decide +kernel
theorem dX13_names_7 : decode cX13_names 7 = .ok (.aload_n 0, 1) := by decide +kernel
theorem dX13_names_8 : decode cX13_names 8 = .ok (.getfield 205, 3) := by decide +kernel
theorem dX13_names_11 : decode cX13_names 11 = .ok (.getfield 218, 3) := by decide +kernel
theorem dX13_names_14 : decode cX13_names 14 = .ok (.lload_n 1, 1) := by decide +kernel
theorem dX13_names_15 : decode cX13_names 15 = .ok (.lastore, 1) := by decide +kernel
theorem dX13_names_16 : decode cX13_names 16 = .ok (.aload_n 0, 1) := by decide +kernel
theorem dX13_names_17 : decode cX13_names 17 = .ok (.getfield 205, 3) := by decide +kernel
theorem dX13_names_20 : decode cX13_names 20 = .ok (.getfield 221, 3) := by decide +kernel
theorem dX13_names_23 : decode cX13_names 23 = .ok (.aload_n 0, 1) := by decide +kernel
theorem dX13_names_24 : decode cX13_names 24 = .ok (.getfield 205, 3) := by decide +kernel
theorem dX13_names_27 : decode cX13_names 27 = .ok (.getfield 218, 3) := by decide +kernel
theorem dX13_names_30 : decode cX13_names 30 = .ok (.iload_n 3, 1) := by decide +kernel
theorem dX13_names_31 : decode cX13_names 31 = .ok (.iastore, 1) := by decide +kernel
theorem dX13_names_32 : decode cX13_names 32 = .ok (.aload_n 0, 1) := by decide +kernel
theorem dX13_names_33 : decode cX13_names 33 = .ok (.getfield 205, 3) := by decide +kernel
theorem dX13_names_36 : decode cX13_names 36 = .ok (.getfield 224, 3) := by decide +kernel
theorem dX13_names_39 : decode cX13_names 39 = .ok (.aload_n 0, 1) := by decide +kernel
theorem dX13_names_40 : decode cX13_names 40 = .ok (.getfield 205, 3) := by decide +kernel
theorem dX13_names_43 : decode cX13_names 43 = .ok (.getfield 218, 3) := by decide +kernel
theorem dX13_names_46 : decode cX13_names 46 = .ok (.iload 4, 2) := by decide +kernel
theorem dX13_names_48 : decode cX13_names 48 = .ok (.iastore, 1) := by decide +kernel
theorem dX13_names_49 : decode cX13_names 49 = .ok (.aload_n 0, 1) := by decide +kernel
theorem dX13_names_50 : decode cX13_names 50 = .ok (.getfield 205, 3) := by decide +kernel
theorem dX13_names_53 : decode cX13_names 53 = .ok (.dup, 1) := by decide +kernel
theorem dX13_names_54 : decode cX13_names 54 = .ok (.getfield 218, 3) := by decide +kernel
theorem dX13_names_57 : decode cX13_names 57 = .ok (.iconst 1, 1) := by decide +kernel
theorem dX13_names_58 : decode cX13_names 58 = .ok (.iadd, 1) := by decide +kernel
theorem dX13_names_59 : decode cX13_names 59 = .ok (.putfield 218, 3) := by decide +kernel
theorem dX13_names_62 : decode cX13_names 62 = .ok (.return_, 1) := by decide +kernel
theorem dX13_readField_0 : decode cX13_readField 0 = .ok (.aload_n 0, 1) := by decide +kernel
theorem dX13_readField_1 : decode cX13_readField 1 = .ok (.ldc 184, 2) := by decide +kernel
theorem dX13_readField_3 : decode cX13_readField 3 = .ok (.invokevirtual 227, 3) := by decide +kernel
theorem dX13_readField_6 : decode cX13_readField 6 = .ok (.aload_n 0, 1) := by decide +kernel
theorem dX13_readField_7 : decode cX13_readField 7 = .ok (.invokevirtual 201, 3) := by decide +kernel
theorem dX13_readField_10 : decode cX13_readField 10 = .ok (.ifCond .ne 8, 3) := by decide +kernel
theorem dX13_readField_13 : decode cX13_readField 13 = .ok (.aload_n 0, 1) := by decide +kernel
theorem dX13_readField_14 : decode cX13_readField 14 = .ok (.iconst 1, 1) := by decide +kernel
theorem dX13_readField_15 : decode cX13_readField 15 = .ok (.invokevirtual 164, 3) := by decide +kernel
theorem dX13_readField_18 : decode cX13_readField 18 = .ok (.aload_n 0, 1) := by decide +kernel
theorem dX13_readField_19 : decode cX13_readField 19 = .ok (.getfield 205, 3) := by decide +kernel
theorem dX13_readField_22 : decode cX13_readField 22 = .ok (.aload_n 0, 1) := by decide +kernel
theorem dX13_readField_23 : decode cX13_readField 23 = .ok (.getfield 130, 3) := by decide +kernel
theorem dX13_readField_26 : decode cX13_readField 26 = .ok (.invokevirtual 209, 3) := by decide +kernel
theorem dX13_readField_29 : decode cX13_readField 29 = .ok (.istore_n 1, 1) := by decide +kernel
theorem dX13_readField_30 : decode cX13_readField 30 = .ok (.iload_n 1, 1) := by decide +kernel
theorem dX13_readField_31 : decode cX13_readField 31 = .ok (.iconst (-1), 1) := by decide +kernel
theorem dX13_readField_32 : decode cX13_readField 32 = .ok (.if_icmp .eq 15, 3) := by decide +kernel
theorem dX13_readField_35 : decode cX13_readField 35 = .ok (.aload_n 0, 1) := by decide +kernel
theorem dX13_readField_36 : decode cX13_readField 36 = .ok (.getfield 205, 3) := by decide +kernel
theorem dX13_readField_39 : decode cX13_readField 39 = .ok (.getfield 221, 3) := by decide +kernel
theorem dX13_readField_42 : decode cX13_readField 42 = .ok (.iload_n 1, 1) := by decide +kernel
theorem dX13_readField_43 : decode cX13_readField 43 = .ok (.iaload, 1) := by decide +kernel
theorem dX13_readField_44 : decode cX13_readField 44 = .ok (.ifCond .eq 8, 3) := by decide +kernel
theorem dX13_readField_47 : decode cX13_readField 47 = .ok (.aload_n 0, 1) := by decide +kernel
theorem dX13_readField_48 : decode cX13_readField 48 = .ok (.iconst 2, 1) := by decide +kernel
theorem dX13_readField_49 : decode cX13_readField 49 = .ok (.invokevirtual 164, 3) := by decide +kernel
theorem dX13_readField_52 : decode cX13_readField 52 = .ok (.aload_n 0, 1) := by decide +kernel
theorem dX13_readField_53 : decode cX13_readField 53 = .ok (.getfield 111, 3) := by decide +kernel
theorem dX13_readField_56 : decode cX13_readField 56 = .ok (.iconst 5, 1) := by decide +kernel
theorem dX13_readField_57 : decode cX13_readField 57 = .ok (.if_icmp .ne 7, 3) := by decide +kernel
theorem dX13_readField_60 : decode cX13_readField 60 = .ok (.iconst (-1), 1) := by decide +kernel
theorem dX13_readField_61 : decode cX13_readField 61 = .ok (.goto 12, 3) := by decide +kernel
theorem dX13_readField_64 : decode cX13_readField 64 = .ok (.aload_n 0, 1) := by decide +kernel
theorem dX13_readField_65 : decode cX13_readField 65 = .ok (.getfield 205, 3) := by decide +kernel
theorem dX13_readField_68 : decode cX13_readField 68 = .ok (.getfield 224, 3) := by decide +kernel
theorem dX13_readField_71 : decode cX13_readField 71 = .ok (.iload_n 1, 1) := by decide +kernel
theorem dX13_readField_72 : decode cX13_readField 72 = .ok (.iaload, 1) := by decide +kernel
theorem dX13_readField_73 : decode cX13_readField 73 = .ok (.istore_n 2, 1) := by decide +kernel
theorem dX13_readField_74 : decode cX13_readField 74 = .ok (.aload_n 0, 1) := by decide +kernel
theorem dX13_readField_75 : decode cX13_readField 75 = .ok (.invokevirtual 158, 3) := by decide +kernel
theorem dX13_readField_78 : decode cX13_readField 78 = .ok (.iload_n 2, 1) := by decide +kernel
theorem dX13_readField_79 : decode cX13_readField 79 = .ok (.ireturn, 1) := by decide +kernel
theorem dX13_readBook_0 : decode cX13_readBook 0 = .ok (.iconst 1, 1) := by decide +kernel
theorem dX13_readBook_1 : decode cX13_readBook 1 = .ok (.istore_n 1, 1) := by decide +kernel
theorem dX13_readBook_2 : decode cX13_readBook 2 = .ok (.iload_n 1, 1) := by decide +kernel
theorem dX13_readBook_3 : decode cX13_readBook 3 = .ok (.ifCond .eq 17, 3) := by decide +kernel
theorem dX13_readBook_6 : decode cX13_readBook 6 = .ok (.aload_n 0, 1) := by decide +kernel
theorem dX13_readBook_7 : decode cX13_readBook 7 = .ok (.invokevirtual 231, 3) := by decide +kernel
theorem dX13_readBook_10 : decode cX13_readBook 10 = .ok (.aload_n 0, 1) := by decide +kernel
theorem dX13_readBook_11 : decode cX13_readBook 11 = .ok (.bipush 59, 2) := by decide +kernel
theorem dX13_readBook_13 : decode cX13_readBook 13 = .ok (.invokevirtual 234, 3) := by decide +kernel
theorem dX13_readBook_16 : decode cX13_readBook 16 = .ok (.istore_n 1, 1) := by decide +kernel
theorem dX13_readBook_17 : decode cX13_readBook 17 = .ok (.goto (-15), 3) := by decide +kernel
theorem dX13_readBook_20 : decode cX13_readBook 20 = .ok (.aload_n 0, 1) := by decide +kernel
theorem dX13_readBook_21 : decode cX13_readBook 21 = .ok (.getfield 111, 3) := by decide +kernel
theorem dX13_readBook_24 : decode cX13_readBook 24 = .ok (.iconst 1, 1) := by decide +kernel
theorem dX13_readBook_25 : decode cX13_readBook 25 = .ok (.if_icmp .eq 8, 3) := by decide +kernel
theorem dX13_readBook_28 : decode cX13_readBook 28 = .ok (.aload_n 0, 1) := by decide +kernel
theorem dX13_readBook_29 : decode cX13_readBook 29 = .ok (.iconst 1, 1) := by decide +kernel
theorem dX13_readBook_30 : decode cX13_readBook 30 = .ok (.invokevirtual 164, 3) := by decide +kernel
theorem dX13_readBook_33 : decode cX13_readBook 33 = .ok (.aload_n 0, 1) := by decide +kernel
theorem dX13_readBook_34 : decode cX13_readBook 34 = .ok (.getfield 205, 3) := by decide +kernel
theorem dX13_readBook_37 : decode cX13_readBook 37 = .ok (.getfield 237, 3) := by decide +kernel
theorem dX13_readBook_40 : decode cX13_readBook 40 = .ok (.ifCond .ne 9, 3) := by decide +kernel
theorem dX13_readBook_43 : decode cX13_readBook 43 = .ok (.aload_n 0, 1) := by decide +kernel
theorem dX13_readBook_44 : decode cX13_readBook 44 = .ok (.bipush 6, 2) := by decide +kernel
theorem dX13_readBook_46 : decode cX13_readBook 46 = .ok (.invokevirtual 164, 3) := by decide +kernel
theorem dX13_readBook_49 : decode cX13_readBook 49 = .ok (.return_, 1) := by decide +kernel
theorem dX13_readLine_0 : decode cX13_readLine 0 = .ok (.aload_n 0, 1) := by decide +kernel
theorem dX13_readLine_1 : decode cX13_readLine 1 = .ok (.ldc 176, 2) := by decide +kernel
theorem dX13_readLine_3 : decode cX13_readLine 3 = .ok (.invokevirtual 154, 3) := by decide +kernel
theorem dX13_readLine_6 : decode cX13_readLine 6 = .ok (.ifCond .eq 10, 3) := by decide +kernel
theorem dX13_readLine_9 : decode cX13_readLine 9 = .ok (.aload_n 0, 1) := by decide +kernel
theorem dX13_readLine_10 : decode cX13_readLine 10 = .ok (.invokevirtual 240, 3) := by decide +kernel
theorem dX13_readLine_13 : decode cX13_readLine 13 = .ok (.goto 40, 3) := by decide +kernel
theorem dX13_readLine_16 : decode cX13_readLine 16 = .ok (.aload_n 0, 1) := by decide +kernel
theorem dX13_readLine_17 : decode cX13_readLine 17 = .ok (.ldc 178, 2) := by decide +kernel
theorem dX13_readLine_19 : decode cX13_readLine 19 = .ok (.invokevirtual 154, 3) := by decide +kernel
theorem dX13_readLine_22 : decode cX13_readLine 22 = .ok (.ifCond .eq 10, 3) := by decide +kernel
theorem dX13_readLine_25 : decode cX13_readLine 25 = .ok (.aload_n 0, 1) := by decide +kernel
theorem dX13_readLine_26 : decode cX13_readLine 26 = .ok (.invokevirtual 243, 3) := by decide +kernel
theorem dX13_readLine_29 : decode cX13_readLine 29 = .ok (.goto 24, 3) := by decide +kernel
theorem dX13_readLine_32 : decode cX13_readLine 32 = .ok (.aload_n 0, 1) := by decide +kernel
theorem dX13_readLine_33 : decode cX13_readLine 33 = .ok (.ldc 180, 2) := by decide +kernel
theorem dX13_readLine_35 : decode cX13_readLine 35 = .ok (.invokevirtual 154, 3) := by decide +kernel
theorem dX13_readLine_38 : decode cX13_readLine 38 = .ok (.ifCond .eq 10, 3) := by decide +kernel
theorem dX13_readLine_41 : decode cX13_readLine 41 = .ok (.aload_n 0, 1) := by decide +kernel
theorem dX13_readLine_42 : decode cX13_readLine 42 = .ok (.invokevirtual 246, 3) := by decide +kernel
theorem dX13_readLine_45 : decode cX13_readLine 45 = .ok (.goto 8, 3) := by decide +kernel
theorem dX13_readLine_48 : decode cX13_readLine 48 = .ok (.aload_n 0, 1) := by decide +kernel
theorem dX13_readLine_49 : decode cX13_readLine 49 = .ok (.iconst 1, 1) := by decide +kernel
theorem dX13_readLine_50 : decode cX13_readLine 50 = .ok (.invokevirtual 164, 3) := by decide +kernel
theorem dX13_readLine_53 : decode cX13_readLine 53 = .ok (.return_, 1) := by decide +kernel
theorem dX13_readFieldLine_0 : decode cX13_readFieldLine 0 = .ok (.aload_n 0, 1) := by decide +kernel
theorem dX13_readFieldLine_1 : decode cX13_readFieldLine 1 = .ok (.aload_n 0, 1) := by decide +kernel
theorem dX13_readFieldLine_2 : decode cX13_readFieldLine 2 = .ok (.getfield 205, 3) := by decide +kernel
theorem dX13_readFieldLine_5 : decode cX13_readFieldLine 5 = .ok (.getfield 237, 3) := by decide +kernel
theorem dX13_readFieldLine_8 : decode cX13_readFieldLine 8 = .ok (.iconst 4, 1) := by decide +kernel
theorem dX13_readFieldLine_9 : decode cX13_readFieldLine 9 = .ok (.invokevirtual 249, 3) := by decide +kernel
theorem dX13_readFieldLine_12 : decode cX13_readFieldLine 12 = .ok (.aload_n 0, 1) := by decide +kernel
theorem dX13_readFieldLine_13 : decode cX13_readFieldLine 13 = .ok (.invokevirtual 252, 3) := by decide +kernel
theorem dX13_readFieldLine_16 : decode cX13_readFieldLine 16 = .ok (.lstore_n 1, 1) := by decide +kernel
theorem dX13_readFieldLine_17 : decode cX13_readFieldLine 17 = .ok (.aload_n 0, 1) := by decide +kernel
theorem dX13_readFieldLine_18 : decode cX13_readFieldLine 18 = .ok (.iconst 3, 1) := by decide +kernel
theorem dX13_readFieldLine_19 : decode cX13_readFieldLine 19 = .ok (.sipush 199, 3) := by decide +kernel
theorem dX13_readFieldLine_22 : decode cX13_readFieldLine 22 = .ok (.invokevirtual 172, 3) := by decide +kernel
theorem dX13_readFieldLine_25 : decode cX13_readFieldLine 25 = .ok (.istore_n 3, 1) := by decide +kernel
theorem dX13_readFieldLine_26 : decode cX13_readFieldLine 26 = .ok (.iload_n 3, 1) := by decide +kernel
theorem dX13_readFieldLine_27 : decode cX13_readFieldLine 27 = .ok (.invokestatic 256, 3) := by decide +kernel
theorem dX13_readFieldLine_30 : decode cX13_readFieldLine 30 = .ok (.ifCond .ne 8, 3) := by decide +kernel
theorem dX13_readFieldLine_33 : decode cX13_readFieldLine 33 = .ok (.aload_n 0, 1) := by decide +kernel
theorem dX13_readFieldLine_34 : decode cX13_readFieldLine 34 = .ok (.iconst 4, 1) := by decide +kernel
theorem dX13_readFieldLine_35 : decode cX13_readFieldLine 35 = .ok (.invokevirtual 164, 3) := by decide +kernel
theorem dX13_readFieldLine_38 : decode cX13_readFieldLine 38 = .ok (.aload_n 0, 1) := by decide +kernel
theorem dX13_readFieldLine_39 : decode cX13_readFieldLine 39 = .ok (.invokevirtual 158, 3) := by decide +kernel
theorem dX13_readFieldLine_42 : decode cX13_readFieldLine 42 = .ok (.aload_n 0, 1) := by decide +kernel
theorem dX13_readFieldLine_43 : decode cX13_readFieldLine 43 = .ok (.ldc 182, 2) := by decide +kernel
theorem dX13_readFieldLine_45 : decode cX13_readFieldLine 45 = .ok (.invokevirtual 227, 3) := by decide +kernel
theorem dX13_readFieldLine_48 : decode cX13_readFieldLine 48 = .ok (.aload_n 0, 1) := by decide +kernel
theorem dX13_readFieldLine_49 : decode cX13_readFieldLine 49 = .ok (.iconst 2, 1) := by decide +kernel
theorem dX13_readFieldLine_50 : decode cX13_readFieldLine 50 = .ok (.bipush 12, 2) := by decide +kernel
theorem dX13_readFieldLine_52 : decode cX13_readFieldLine 52 = .ok (.invokevirtual 172, 3) := by decide +kernel
theorem dX13_readFieldLine_55 : decode cX13_readFieldLine 55 = .ok (.istore 4, 2) := by decide +kernel
theorem dX13_readFieldLine_57 : decode cX13_readFieldLine 57 = .ok (.iload_n 3, 1) := by decide +kernel
theorem dX13_readFieldLine_58 : decode cX13_readFieldLine 58 = .ok (.iconst 1, 1) := by decide +kernel
theorem dX13_readFieldLine_59 : decode cX13_readFieldLine 59 = .ok (.isub, 1) := by decide +kernel
theorem dX13_readFieldLine_60 : decode cX13_readFieldLine 60 = .ok (.iload 4, 2) := by decide +kernel
theorem dX13_readFieldLine_62 : decode cX13_readFieldLine 62 = .ok (.irem, 1) := by decide +kernel
theorem dX13_readFieldLine_63 : decode cX13_readFieldLine 63 = .ok (.ifCond .eq 8, 3) := by decide +kernel
theorem dX13_readFieldLine_66 : decode cX13_readFieldLine 66 = .ok (.aload_n 0, 1) := by decide +kernel
theorem dX13_readFieldLine_67 : decode cX13_readFieldLine 67 = .ok (.iconst 4, 1) := by decide +kernel
theorem dX13_readFieldLine_68 : decode cX13_readFieldLine 68 = .ok (.invokevirtual 164, 3) := by decide +kernel
theorem dX13_readFieldLine_71 : decode cX13_readFieldLine 71 = .ok (.aload_n 0, 1) := by decide +kernel
theorem dX13_readFieldLine_72 : decode cX13_readFieldLine 72 = .ok (.invokevirtual 158, 3) := by decide +kernel
theorem dX13_readFieldLine_75 : decode cX13_readFieldLine 75 = .ok (.aload_n 0, 1) := by decide +kernel
theorem dX13_readFieldLine_76 : decode cX13_readFieldLine 76 = .ok (.getfield 111, 3) := by decide +kernel
theorem dX13_readFieldLine_79 : decode cX13_readFieldLine 79 = .ok (.iconst 5, 1) := by decide +kernel
theorem dX13_readFieldLine_80 : decode cX13_readFieldLine 80 = .ok (.if_icmp .ne 4, 3) := by decide +kernel
theorem dX13_readFieldLine_83 : decode cX13_readFieldLine 83 = .ok (.return_, 1) := by decide +kernel
theorem dX13_readFieldLine_84 : decode cX13_readFieldLine 84 = .ok (.aload_n 0, 1) := by decide +kernel
theorem dX13_readFieldLine_85 : decode cX13_readFieldLine 85 = .ok (.getfield 205, 3) := by decide +kernel
theorem dX13_readFieldLine_88 : decode cX13_readFieldLine 88 = .ok (.getfield 259, 3) := by decide +kernel
theorem dX13_readFieldLine_91 : decode cX13_readFieldLine 91 = .ok (.aload_n 0, 1) := by decide +kernel
theorem dX13_readFieldLine_92 : decode cX13_readFieldLine 92 = .ok (.getfield 205, 3) := by decide +kernel
theorem dX13_readFieldLine_95 : decode cX13_readFieldLine 95 = .ok (.getfield 237, 3) := by decide +kernel
theorem dX13_readFieldLine_98 : decode cX13_readFieldLine 98 = .ok (.new 60, 3) := by decide +kernel
theorem dX13_readFieldLine_101 : decode cX13_readFieldLine 101 = .ok (.dup, 1) := by decide +kernel
theorem dX13_readFieldLine_102 : decode cX13_readFieldLine 102 = .ok (.iload_n 3, 1) := by decide +kernel
theorem dX13_readFieldLine_103 : decode cX13_readFieldLine 103 = .ok (.iload 4, 2) := by decide +kernel
theorem dX13_readFieldLine_105 : decode cX13_readFieldLine 105 = .ok (.invokespecial 262, 3) := by decide +kernel
theorem dX13_readFieldLine_108 : decode cX13_readFieldLine 108 = .ok (.aastore, 1) := by decide +kernel
theorem dX13_readFieldLine_109 : decode cX13_readFieldLine 109 = .ok (.aload_n 0, 1) := by decide +kernel
theorem dX13_readFieldLine_110 : decode cX13_readFieldLine 110 = .ok (.lload_n 1, 1) := by decide +kernel
theorem dX13_readFieldLine_111 : decode cX13_readFieldLine 111 = .ok (.iconst 0, 1) := by decide +kernel
theorem dX13_readFieldLine_112 : decode cX13_readFieldLine 112 = .ok (.aload_n 0, 1) := by decide +kernel
theorem dX13_readFieldLine_113 : decode cX13_readFieldLine 113 = .ok (.getfield 205, 3) := by decide +kernel
theorem dX13_readFieldLine_116 : decode cX13_readFieldLine 116 = .ok (.getfield 237, 3) := by decide +kernel
theorem dX13_readFieldLine_119 : decode cX13_readFieldLine 119 = .ok (.invokevirtual 264, 3) := by decide +kernel
theorem dX13_readFieldLine_122 : decode cX13_readFieldLine 122 = .ok (.aload_n 0, 1) := by decide +kernel
theorem dX13_readFieldLine_123 : decode cX13_readFieldLine 123 = .ok (.getfield 205, 3) := by decide +kernel
theorem dX13_readFieldLine_126 : decode cX13_readFieldLine 126 = .ok (.dup, 1) := by decide +kernel
theorem dX13_readFieldLine_127 : decode cX13_readFieldLine 127 = .ok (.getfield 237, 3) := by decide +kernel
theorem dX13_readFieldLine_130 : decode cX13_readFieldLine 130 = .ok (.iconst 1, 1) := by decide +kernel
theorem dX13_readFieldLine_131 : decode cX13_readFieldLine 131 = .ok (.iadd, 1) := by decide +kernel
theorem dX13_readFieldLine_132 : decode cX13_readFieldLine 132 = .ok (.putfield 237, 3) := by decide +kernel
theorem dX13_readFieldLine_135 : decode cX13_readFieldLine 135 = .ok (.return_, 1) := by decide +kernel
theorem dX13_readEquation_0 : decode cX13_readEquation 0 = .ok (.aload_n 0, 1) := by decide +kernel
theorem dX13_readEquation_1 : decode cX13_readEquation 1 = .ok (.aload_n 0, 1) := by decide +kernel
theorem dX13_readEquation_2 : decode cX13_readEquation 2 = .ok (.getfield 205, 3) := by decide +kernel
theorem dX13_readEquation_5 : decode cX13_readEquation 5 = .ok (.getfield 267, 3) := by decide +kernel
theorem dX13_readEquation_8 : decode cX13_readEquation 8 = .ok (.iconst 4, 1) := by decide +kernel
theorem dX13_readEquation_9 : decode cX13_readEquation 9 = .ok (.invokevirtual 249, 3) := by decide +kernel
theorem dX13_readEquation_12 : decode cX13_readEquation 12 = .ok (.aload_n 0, 1) := by decide +kernel
theorem dX13_readEquation_13 : decode cX13_readEquation 13 = .ok (.getfield 205, 3) := by decide +kernel
theorem dX13_readEquation_16 : decode cX13_readEquation 16 = .ok (.getfield 267, 3) := by decide +kernel
theorem dX13_readEquation_19 : decode cX13_readEquation 19 = .ok (.istore_n 1, 1) := by decide +kernel
theorem dX13_readEquation_20 : decode cX13_readEquation 20 = .ok (.aload_n 0, 1) := by decide +kernel
theorem dX13_readEquation_21 : decode cX13_readEquation 21 = .ok (.invokevirtual 252, 3) := by decide +kernel
theorem dX13_readEquation_24 : decode cX13_readEquation 24 = .ok (.lstore_n 2, 1) := by decide +kernel
theorem dX13_readEquation_25 : decode cX13_readEquation 25 = .ok (.aload_n 0, 1) := by decide +kernel
theorem dX13_readEquation_26 : decode cX13_readEquation 26 = .ok (.invokevirtual 270, 3) := by decide +kernel
theorem dX13_readEquation_29 : decode cX13_readEquation 29 = .ok (.istore 4, 2) := by decide +kernel
theorem dX13_readEquation_31 : decode cX13_readEquation 31 = .ok (.aload_n 0, 1) := by decide +kernel
theorem dX13_readEquation_32 : decode cX13_readEquation 32 = .ok (.ldc 185, 2) := by decide +kernel
theorem dX13_readEquation_34 : decode cX13_readEquation 34 = .ok (.invokevirtual 227, 3) := by decide +kernel
theorem dX13_readEquation_37 : decode cX13_readEquation 37 = .ok (.iconst 1, 1) := by decide +kernel
theorem dX13_readEquation_38 : decode cX13_readEquation 38 = .ok (.istore 5, 2) := by decide +kernel
theorem dX13_readEquation_40 : decode cX13_readEquation 40 = .ok (.iconst 0, 1) := by decide +kernel
theorem dX13_readEquation_41 : decode cX13_readEquation 41 = .ok (.istore 6, 2) := by decide +kernel
theorem dX13_readEquation_43 : decode cX13_readEquation 43 = .ok (.iload 5, 2) := by decide +kernel
theorem dX13_readEquation_45 : decode cX13_readEquation 45 = .ok (.ifCond .eq 122, 3) := by decide +kernel
theorem dX13_readEquation_48 : decode cX13_readEquation 48 = .ok (.aload_n 0, 1) := by decide +kernel
theorem dX13_readEquation_49 : decode cX13_readEquation 49 = .ok (.getfield 111, 3) := by decide +kernel
theorem dX13_readEquation_52 : decode cX13_readEquation 52 = .ok (.iconst 5, 1) := by decide +kernel
theorem dX13_readEquation_53 : decode cX13_readEquation 53 = .ok (.if_icmp .eq 114, 3) := by decide +kernel
theorem dX13_readEquation_56 : decode cX13_readEquation 56 = .ok (.aload_n 0, 1) := by decide +kernel
theorem dX13_readEquation_57 : decode cX13_readEquation 57 = .ok (.getfield 205, 3) := by decide +kernel
theorem dX13_readEquation_60 : decode cX13_readEquation 60 = .ok (.getfield 259, 3) := by decide +kernel
theorem dX13_readEquation_63 : decode cX13_readEquation 63 = .ok (.iload 4, 2) := by decide +kernel
theorem dX13_readEquation_65 : decode cX13_readEquation 65 = .ok (.aaload, 1) := by decide +kernel
theorem dX13_readEquation_66 : decode cX13_readEquation 66 = .ok (.getfield 81, 3) := by decide +kernel
theorem dX13_readEquation_69 : decode cX13_readEquation 69 = .ok (.istore 7, 2) := by decide +kernel
theorem dX13_readEquation_71 : decode cX13_readEquation 71 = .ok (.aload_n 0, 1) := by decide +kernel
theorem dX13_readEquation_72 : decode cX13_readEquation 72 = .ok (.iconst 1, 1) := by decide +kernel
theorem dX13_readEquation_73 : decode cX13_readEquation 73 = .ok (.iload 7, 2) := by decide +kernel
theorem dX13_readEquation_75 : decode cX13_readEquation 75 = .ok (.iconst 1, 1) := by decide +kernel
theorem dX13_readEquation_76 : decode cX13_readEquation 76 = .ok (.isub, 1) := by decide +kernel
theorem dX13_readEquation_77 : decode cX13_readEquation 77 = .ok (.invokevirtual 172, 3) := by decide +kernel
theorem dX13_readEquation_80 : decode cX13_readEquation 80 = .ok (.istore 8, 2) := by decide +kernel
theorem dX13_readEquation_82 : decode cX13_readEquation 82 = .ok (.iload 6, 2) := by decide +kernel
theorem dX13_readEquation_84 : decode cX13_readEquation 84 = .ok (.iconst 3, 1) := by decide +kernel
theorem dX13_readEquation_85 : decode cX13_readEquation 85 = .ok (.if_icmp .ne 8, 3) := by decide +kernel
theorem dX13_readEquation_88 : decode cX13_readEquation 88 = .ok (.aload_n 0, 1) := by decide +kernel
theorem dX13_readEquation_89 : decode cX13_readEquation 89 = .ok (.iconst 5, 1) := by decide +kernel
theorem dX13_readEquation_90 : decode cX13_readEquation 90 = .ok (.invokevirtual 164, 3) := by decide +kernel
theorem dX13_readEquation_93 : decode cX13_readEquation 93 = .ok (.aload_n 0, 1) := by decide +kernel
theorem dX13_readEquation_94 : decode cX13_readEquation 94 = .ok (.invokevirtual 158, 3) := by decide +kernel
theorem dX13_readEquation_97 : decode cX13_readEquation 97 = .ok (.aload_n 0, 1) := by decide +kernel
theorem dX13_readEquation_98 : decode cX13_readEquation 98 = .ok (.ldc 187, 2) := by decide +kernel
theorem dX13_readEquation_100 : decode cX13_readEquation 100 = .ok (.invokevirtual 227, 3) := by decide +kernel
theorem dX13_readEquation_103 : decode cX13_readEquation 103 = .ok (.aload_n 0, 1) := by decide +kernel
theorem dX13_readEquation_104 : decode cX13_readEquation 104 = .ok (.iconst 1, 1) := by decide +kernel
theorem dX13_readEquation_105 : decode cX13_readEquation 105 = .ok (.bipush 12, 2) := by decide +kernel
theorem dX13_readEquation_107 : decode cX13_readEquation 107 = .ok (.invokevirtual 273, 3) := by decide +kernel
theorem dX13_readEquation_110 : decode cX13_readEquation 110 = .ok (.istore 9, 2) := by decide +kernel
theorem dX13_readEquation_112 : decode cX13_readEquation 112 = .ok (.aload_n 0, 1) := by decide +kernel
theorem dX13_readEquation_113 : decode cX13_readEquation 113 = .ok (.getfield 111, 3) := by decide +kernel
theorem dX13_readEquation_116 : decode cX13_readEquation 116 = .ok (.iconst 5, 1) := by decide +kernel
theorem dX13_readEquation_117 : decode cX13_readEquation 117 = .ok (.if_icmp .ne 4, 3) := by decide +kernel
theorem dX13_readEquation_120 : decode cX13_readEquation 120 = .ok (.return_, 1) := by decide +kernel
theorem dX13_readEquation_121 : decode cX13_readEquation 121 = .ok (.aload_n 0, 1) := by decide +kernel
theorem dX13_readEquation_122 : decode cX13_readEquation 122 = .ok (.getfield 205, 3) := by decide +kernel
theorem dX13_readEquation_125 : decode cX13_readEquation 125 = .ok (.getfield 276, 3) := by decide +kernel
theorem dX13_readEquation_128 : decode cX13_readEquation 128 = .ok (.iconst 3, 1) := by decide +kernel
theorem dX13_readEquation_129 : decode cX13_readEquation 129 = .ok (.iload_n 1, 1) := by decide +kernel
theorem dX13_readEquation_130 : decode cX13_readEquation 130 = .ok (.imul, 1) := by decide +kernel
theorem dX13_readEquation_131 : decode cX13_readEquation 131 = .ok (.iload 6, 2) := by decide +kernel
theorem dX13_readEquation_133 : decode cX13_readEquation 133 = .ok (.iadd, 1) := by decide +kernel
theorem dX13_readEquation_134 : decode cX13_readEquation 134 = .ok (.iload 8, 2) := by decide +kernel
theorem dX13_readEquation_136 : decode cX13_readEquation 136 = .ok (.iastore, 1) := by decide +kernel
theorem dX13_readEquation_137 : decode cX13_readEquation 137 = .ok (.aload_n 0, 1) := by decide +kernel
theorem dX13_readEquation_138 : decode cX13_readEquation 138 = .ok (.getfield 205, 3) := by decide +kernel
theorem dX13_readEquation_141 : decode cX13_readEquation 141 = .ok (.getfield 279, 3) := by decide +kernel
theorem dX13_readEquation_144 : decode cX13_readEquation 144 = .ok (.iconst 3, 1) := by decide +kernel
theorem dX13_readEquation_145 : decode cX13_readEquation 145 = .ok (.iload_n 1, 1) := by decide +kernel
theorem dX13_readEquation_146 : decode cX13_readEquation 146 = .ok (.imul, 1) := by decide +kernel
theorem dX13_readEquation_147 : decode cX13_readEquation 147 = .ok (.iload 6, 2) := by decide +kernel
theorem dX13_readEquation_149 : decode cX13_readEquation 149 = .ok (.iadd, 1) := by decide +kernel
theorem dX13_readEquation_150 : decode cX13_readEquation 150 = .ok (.iload 9, 2) := by decide +kernel
theorem dX13_readEquation_152 : decode cX13_readEquation 152 = .ok (.iastore, 1) := by decide +kernel
theorem dX13_readEquation_153 : decode cX13_readEquation 153 = .ok (.iinc 6 1, 3) := by decide +kernel
theorem dX13_readEquation_156 : decode cX13_readEquation 156 = .ok (.aload_n 0, 1) := by decide +kernel
theorem dX13_readEquation_157 : decode cX13_readEquation 157 = .ok (.bipush 44, 2) := by decide +kernel
theorem dX13_readEquation_159 : decode cX13_readEquation 159 = .ok (.invokevirtual 234, 3) := by decide +kernel
theorem dX13_readEquation_162 : decode cX13_readEquation 162 = .ok (.istore 5, 2) := by decide +kernel
theorem dX13_readEquation_164 : decode cX13_readEquation 164 = .ok (.goto (-121), 3) := by decide +kernel
theorem dX13_readEquation_167 : decode cX13_readEquation 167 = .ok (.aload_n 0, 1) := by decide +kernel
theorem dX13_readEquation_168 : decode cX13_readEquation 168 = .ok (.ldc 189, 2) := by decide +kernel
theorem dX13_readEquation_170 : decode cX13_readEquation 170 = .ok (.invokevirtual 227, 3) := by decide +kernel
theorem dX13_readEquation_173 : decode cX13_readEquation 173 = .ok (.aload_n 0, 1) := by decide +kernel
theorem dX13_readEquation_174 : decode cX13_readEquation 174 = .ok (.getfield 111, 3) := by decide +kernel
theorem dX13_readEquation_177 : decode cX13_readEquation 177 = .ok (.iconst 5, 1) := by decide +kernel
theorem dX13_readEquation_178 : decode cX13_readEquation 178 = .ok (.if_icmp .ne 7, 3) := by decide +kernel
theorem dX13_readEquation_181 : decode cX13_readEquation 181 = .ok (.iconst 0, 1) := by decide +kernel
theorem dX13_readEquation_182 : decode cX13_readEquation 182 = .ok (.goto 23, 3) := by decide +kernel
theorem dX13_readEquation_185 : decode cX13_readEquation 185 = .ok (.aload_n 0, 1) := by decide +kernel
theorem dX13_readEquation_186 : decode cX13_readEquation 186 = .ok (.iconst 0, 1) := by decide +kernel
theorem dX13_readEquation_187 : decode cX13_readEquation 187 = .ok (.aload_n 0, 1) := by decide +kernel
theorem dX13_readEquation_188 : decode cX13_readEquation 188 = .ok (.getfield 205, 3) := by decide +kernel
theorem dX13_readEquation_191 : decode cX13_readEquation 191 = .ok (.getfield 259, 3) := by decide +kernel
theorem dX13_readEquation_194 : decode cX13_readEquation 194 = .ok (.iload 4, 2) := by decide +kernel
theorem dX13_readEquation_196 : decode cX13_readEquation 196 = .ok (.aaload, 1) := by decide +kernel
theorem dX13_readEquation_197 : decode cX13_readEquation 197 = .ok (.getfield 81, 3) := by decide +kernel
theorem dX13_readEquation_200 : decode cX13_readEquation 200 = .ok (.iconst 1, 1) := by decide +kernel
theorem dX13_readEquation_201 : decode cX13_readEquation 201 = .ok (.isub, 1) := by decide +kernel
theorem dX13_readEquation_202 : decode cX13_readEquation 202 = .ok (.invokevirtual 273, 3) := by decide +kernel
theorem dX13_readEquation_205 : decode cX13_readEquation 205 = .ok (.istore 7, 2) := by decide +kernel
theorem dX13_readEquation_207 : decode cX13_readEquation 207 = .ok (.aload_n 0, 1) := by decide +kernel
theorem dX13_readEquation_208 : decode cX13_readEquation 208 = .ok (.getfield 111, 3) := by decide +kernel
theorem dX13_readEquation_211 : decode cX13_readEquation 211 = .ok (.iconst 5, 1) := by decide +kernel
theorem dX13_readEquation_212 : decode cX13_readEquation 212 = .ok (.if_icmp .ne 4, 3) := by decide +kernel
theorem dX13_readEquation_215 : decode cX13_readEquation 215 = .ok (.return_, 1) := by decide +kernel
theorem dX13_readEquation_216 : decode cX13_readEquation 216 = .ok (.aload_n 0, 1) := by decide +kernel
theorem dX13_readEquation_217 : decode cX13_readEquation 217 = .ok (.getfield 205, 3) := by decide +kernel
theorem dX13_readEquation_220 : decode cX13_readEquation 220 = .ok (.getfield 282, 3) := by decide +kernel
theorem dX13_readEquation_223 : decode cX13_readEquation 223 = .ok (.iload_n 1, 1) := by decide +kernel
theorem dX13_readEquation_224 : decode cX13_readEquation 224 = .ok (.iload 4, 2) := by decide +kernel
theorem dX13_readEquation_226 : decode cX13_readEquation 226 = .ok (.iastore, 1) := by decide +kernel
theorem dX13_readEquation_227 : decode cX13_readEquation 227 = .ok (.aload_n 0, 1) := by decide +kernel
theorem dX13_readEquation_228 : decode cX13_readEquation 228 = .ok (.getfield 205, 3) := by decide +kernel
theorem dX13_readEquation_231 : decode cX13_readEquation 231 = .ok (.getfield 285, 3) := by decide +kernel
theorem dX13_readEquation_234 : decode cX13_readEquation 234 = .ok (.iload_n 1, 1) := by decide +kernel
theorem dX13_readEquation_235 : decode cX13_readEquation 235 = .ok (.iload 6, 2) := by decide +kernel
theorem dX13_readEquation_237 : decode cX13_readEquation 237 = .ok (.iastore, 1) := by decide +kernel
theorem dX13_readEquation_238 : decode cX13_readEquation 238 = .ok (.aload_n 0, 1) := by decide +kernel
theorem dX13_readEquation_239 : decode cX13_readEquation 239 = .ok (.getfield 205, 3) := by decide +kernel
theorem dX13_readEquation_242 : decode cX13_readEquation 242 = .ok (.getfield 288, 3) := by decide +kernel
theorem dX13_readEquation_245 : decode cX13_readEquation 245 = .ok (.iload_n 1, 1) := by decide +kernel
theorem dX13_readEquation_246 : decode cX13_readEquation 246 = .ok (.iload 7, 2) := by decide +kernel
theorem dX13_readEquation_248 : decode cX13_readEquation 248 = .ok (.iastore, 1) := by decide +kernel
theorem dX13_readEquation_249 : decode cX13_readEquation 249 = .ok (.aload_n 0, 1) := by decide +kernel
theorem dX13_readEquation_250 : decode cX13_readEquation 250 = .ok (.lload_n 2, 1) := by decide +kernel
theorem dX13_readEquation_251 : decode cX13_readEquation 251 = .ok (.iconst 1, 1) := by decide +kernel
theorem dX13_readEquation_252 : decode cX13_readEquation 252 = .ok (.iload_n 1, 1) := by decide +kernel
theorem dX13_readEquation_253 : decode cX13_readEquation 253 = .ok (.invokevirtual 264, 3) := by decide +kernel
theorem dX13_readEquation_256 : decode cX13_readEquation 256 = .ok (.aload_n 0, 1) := by decide +kernel
theorem dX13_readEquation_257 : decode cX13_readEquation 257 = .ok (.getfield 205, 3) := by decide +kernel
theorem dX13_readEquation_260 : decode cX13_readEquation 260 = .ok (.dup, 1) := by decide +kernel
theorem dX13_readEquation_261 : decode cX13_readEquation 261 = .ok (.getfield 267, 3) := by decide +kernel
theorem dX13_readEquation_264 : decode cX13_readEquation 264 = .ok (.iconst 1, 1) := by decide +kernel
theorem dX13_readEquation_265 : decode cX13_readEquation 265 = .ok (.iadd, 1) := by decide +kernel
theorem dX13_readEquation_266 : decode cX13_readEquation 266 = .ok (.putfield 267, 3) := by decide +kernel
theorem dX13_readEquation_269 : decode cX13_readEquation 269 = .ok (.return_, 1) := by decide +kernel
theorem dX13_checks_0 : decode cX13_checks 0 = .ok (.aload_n 0, 1) := by decide +kernel
theorem dX13_checks_1 : decode cX13_checks 1 = .ok (.iload_n 1, 1) := by decide +kernel
theorem dX13_checks_2 : decode cX13_checks 2 = .ok (.invokevirtual 290, 3) := by decide +kernel
theorem dX13_checks_5 : decode cX13_checks 5 = .ok (.ifCond .ne 4, 3) := by decide +kernel
theorem dX13_checks_8 : decode cX13_checks 8 = .ok (.return_, 1) := by decide +kernel
theorem dX13_checks_9 : decode cX13_checks 9 = .ok (.aload_n 0, 1) := by decide +kernel
theorem dX13_checks_10 : decode cX13_checks 10 = .ok (.iconst 1, 1) := by decide +kernel
theorem dX13_checks_11 : decode cX13_checks 11 = .ok (.putfield 293, 3) := by decide +kernel
theorem dX13_checks_14 : decode cX13_checks 14 = .ok (.aload_n 0, 1) := by decide +kernel
theorem dX13_checks_15 : decode cX13_checks 15 = .ok (.iload_n 1, 1) := by decide +kernel
theorem dX13_checks_16 : decode cX13_checks 16 = .ok (.lconst 0, 1) := by decide +kernel
theorem dX13_checks_17 : decode cX13_checks 17 = .ok (.invokevirtual 297, 3) := by decide +kernel
theorem dX13_checks_20 : decode cX13_checks 20 = .ok (.return_, 1) := by decide +kernel
theorem dX13_readLet_0 : decode cX13_readLet 0 = .ok (.aload_n 0, 1) := by decide +kernel
theorem dX13_readLet_1 : decode cX13_readLet 1 = .ok (.aload_n 0, 1) := by decide +kernel
theorem dX13_readLet_2 : decode cX13_readLet 2 = .ok (.getfield 205, 3) := by decide +kernel
theorem dX13_readLet_5 : decode cX13_readLet 5 = .ok (.getfield 301, 3) := by decide +kernel
theorem dX13_readLet_8 : decode cX13_readLet 8 = .ok (.bipush 8, 2) := by decide +kernel
theorem dX13_readLet_10 : decode cX13_readLet 10 = .ok (.invokevirtual 249, 3) := by decide +kernel
theorem dX13_readLet_13 : decode cX13_readLet 13 = .ok (.aload_n 0, 1) := by decide +kernel
theorem dX13_readLet_14 : decode cX13_readLet 14 = .ok (.getfield 120, 3) := by decide +kernel
theorem dX13_readLet_17 : decode cX13_readLet 17 = .ok (.istore_n 1, 1) := by decide +kernel
theorem dX13_readLet_18 : decode cX13_readLet 18 = .ok (.aload_n 0, 1) := by decide +kernel
theorem dX13_readLet_19 : decode cX13_readLet 19 = .ok (.invokevirtual 252, 3) := by decide +kernel
theorem dX13_readLet_22 : decode cX13_readLet 22 = .ok (.lstore_n 2, 1) := by decide +kernel
theorem dX13_readLet_23 : decode cX13_readLet 23 = .ok (.aload_n 0, 1) := by decide +kernel
theorem dX13_readLet_24 : decode cX13_readLet 24 = .ok (.invokevirtual 270, 3) := by decide +kernel
theorem dX13_readLet_27 : decode cX13_readLet 27 = .ok (.istore 4, 2) := by decide +kernel
theorem dX13_readLet_29 : decode cX13_readLet 29 = .ok (.aload_n 0, 1) := by decide +kernel
theorem dX13_readLet_30 : decode cX13_readLet 30 = .ok (.ldc 191, 2) := by decide +kernel
theorem dX13_readLet_32 : decode cX13_readLet 32 = .ok (.invokevirtual 227, 3) := by decide +kernel
theorem dX13_readLet_35 : decode cX13_readLet 35 = .ok (.aload_n 0, 1) := by decide +kernel
theorem dX13_readLet_36 : decode cX13_readLet 36 = .ok (.iconst 0, 1) := by decide +kernel
theorem dX13_readLet_37 : decode cX13_readLet 37 = .ok (.putfield 304, 3) := by decide +kernel
theorem dX13_readLet_40 : decode cX13_readLet 40 = .ok (.aload_n 0, 1) := by decide +kernel
theorem dX13_readLet_41 : decode cX13_readLet 41 = .ok (.iconst 0, 1) := by decide +kernel
theorem dX13_readLet_42 : decode cX13_readLet 42 = .ok (.putfield 307, 3) := by decide +kernel
theorem dX13_readLet_45 : decode cX13_readLet 45 = .ok (.aload_n 0, 1) := by decide +kernel
theorem dX13_readLet_46 : decode cX13_readLet 46 = .ok (.iconst 0, 1) := by decide +kernel
theorem dX13_readLet_47 : decode cX13_readLet 47 = .ok (.putfield 293, 3) := by decide +kernel
theorem dX13_readLet_50 : decode cX13_readLet 50 = .ok (.aload_n 0, 1) := by decide +kernel
theorem dX13_readLet_51 : decode cX13_readLet 51 = .ok (.getfield 111, 3) := by decide +kernel
theorem dX13_readLet_54 : decode cX13_readLet 54 = .ok (.iconst 5, 1) := by decide +kernel
theorem dX13_readLet_55 : decode cX13_readLet 55 = .ok (.if_icmp .ne 4, 3) := by decide +kernel
theorem dX13_readLet_58 : decode cX13_readLet 58 = .ok (.return_, 1) := by decide +kernel
theorem dX13_readLet_59 : decode cX13_readLet 59 = .ok (.aload_n 0, 1) := by decide +kernel
theorem dX13_readLet_60 : decode cX13_readLet 60 = .ok (.aload_n 0, 1) := by decide +kernel
theorem dX13_readLet_61 : decode cX13_readLet 61 = .ok (.getfield 205, 3) := by decide +kernel
theorem dX13_readLet_64 : decode cX13_readLet 64 = .ok (.getfield 259, 3) := by decide +kernel
theorem dX13_readLet_67 : decode cX13_readLet 67 = .ok (.iload 4, 2) := by decide +kernel
theorem dX13_readLet_69 : decode cX13_readLet 69 = .ok (.aaload, 1) := by decide +kernel
theorem dX13_readLet_70 : decode cX13_readLet 70 = .ok (.iload 4, 2) := by decide +kernel
theorem dX13_readLet_72 : decode cX13_readLet 72 = .ok (.invokevirtual 310, 3) := by decide +kernel
theorem dX13_readLet_75 : decode cX13_readLet 75 = .ok (.istore 5, 2) := by decide +kernel
theorem dX13_readLet_77 : decode cX13_readLet 77 = .ok (.aload_n 0, 1) := by decide +kernel
theorem dX13_readLet_78 : decode cX13_readLet 78 = .ok (.getfield 111, 3) := by decide +kernel
theorem dX13_readLet_81 : decode cX13_readLet 81 = .ok (.iconst 5, 1) := by decide +kernel
theorem dX13_readLet_82 : decode cX13_readLet 82 = .ok (.if_icmp .ne 4, 3) := by decide +kernel
theorem dX13_readLet_85 : decode cX13_readLet 85 = .ok (.return_, 1) := by decide +kernel
theorem dX13_readLet_86 : decode cX13_readLet 86 = .ok (.aload_n 0, 1) := by decide +kernel
theorem dX13_readLet_87 : decode cX13_readLet 87 = .ok (.getfield 111, 3) := by decide +kernel
theorem dX13_readLet_90 : decode cX13_readLet 90 = .ok (.iconst 1, 1) := by decide +kernel
theorem dX13_readLet_91 : decode cX13_readLet 91 = .ok (.if_icmp .eq 17, 3) := by decide +kernel
theorem dX13_readLet_94 : decode cX13_readLet 94 = .ok (.aload_n 0, 1) := by decide +kernel
theorem dX13_readLet_95 : decode cX13_readLet 95 = .ok (.bipush 59, 2) := by decide +kernel
theorem dX13_readLet_97 : decode cX13_readLet 97 = .ok (.invokevirtual 161, 3) := by decide +kernel
theorem dX13_readLet_100 : decode cX13_readLet 100 = .ok (.ifCond .ne 8, 3) := by decide +kernel
theorem dX13_readLet_103 : decode cX13_readLet 103 = .ok (.aload_n 0, 1) := by decide +kernel
theorem dX13_readLet_104 : decode cX13_readLet 104 = .ok (.iconst 1, 1) := by decide +kernel
theorem dX13_readLet_105 : decode cX13_readLet 105 = .ok (.invokevirtual 164, 3) := by decide +kernel
theorem dX13_readLet_108 : decode cX13_readLet 108 = .ok (.aload_n 0, 1) := by decide +kernel
theorem dX13_readLet_109 : decode cX13_readLet 109 = .ok (.getfield 293, 3) := by decide +kernel
theorem dX13_readLet_112 : decode cX13_readLet 112 = .ok (.ifCond .eq 10, 3) := by decide +kernel
theorem dX13_readLet_115 : decode cX13_readLet 115 = .ok (.aload_n 0, 1) := by decide +kernel
theorem dX13_readLet_116 : decode cX13_readLet 116 = .ok (.bipush 7, 2) := by decide +kernel
theorem dX13_readLet_118 : decode cX13_readLet 118 = .ok (.iload_n 1, 1) := by decide +kernel
theorem dX13_readLet_119 : decode cX13_readLet 119 = .ok (.invokevirtual 140, 3) := by decide +kernel
theorem dX13_readLet_122 : decode cX13_readLet 122 = .ok (.aload_n 0, 1) := by decide +kernel
theorem dX13_readLet_123 : decode cX13_readLet 123 = .ok (.getfield 111, 3) := by decide +kernel
theorem dX13_readLet_126 : decode cX13_readLet 126 = .ok (.iconst 5, 1) := by decide +kernel
theorem dX13_readLet_127 : decode cX13_readLet 127 = .ok (.if_icmp .ne 4, 3) := by decide +kernel
theorem dX13_readLet_130 : decode cX13_readLet 130 = .ok (.return_, 1) := by decide +kernel
theorem dX13_readLet_131 : decode cX13_readLet 131 = .ok (.iconst 0, 1) := by decide +kernel
theorem dX13_readLet_132 : decode cX13_readLet 132 = .ok (.istore 6, 2) := by decide +kernel
theorem dX13_readLet_134 : decode cX13_readLet 134 = .ok (.iload 6, 2) := by decide +kernel
theorem dX13_readLet_136 : decode cX13_readLet 136 = .ok (.bipush 12, 2) := by decide +kernel
theorem dX13_readLet_138 : decode cX13_readLet 138 = .ok (.if_icmp .ge 43, 3) := by decide +kernel
theorem dX13_readLet_141 : decode cX13_readLet 141 = .ok (.aload_n 0, 1) := by decide +kernel
theorem dX13_readLet_142 : decode cX13_readLet 142 = .ok (.getfield 205, 3) := by decide +kernel
theorem dX13_readLet_145 : decode cX13_readLet 145 = .ok (.getfield 314, 3) := by decide +kernel
theorem dX13_readLet_148 : decode cX13_readLet 148 = .ok (.bipush 12, 2) := by decide +kernel
theorem dX13_readLet_150 : decode cX13_readLet 150 = .ok (.aload_n 0, 1) := by decide +kernel
theorem dX13_readLet_151 : decode cX13_readLet 151 = .ok (.getfield 205, 3) := by decide +kernel
theorem dX13_readLet_154 : decode cX13_readLet 154 = .ok (.getfield 301, 3) := by decide +kernel
theorem dX13_readLet_157 : decode cX13_readLet 157 = .ok (.imul, 1) := by decide +kernel
theorem dX13_readLet_158 : decode cX13_readLet 158 = .ok (.iload 6, 2) := by decide +kernel
theorem dX13_readLet_160 : decode cX13_readLet 160 = .ok (.iadd, 1) := by decide +kernel
theorem dX13_readLet_161 : decode cX13_readLet 161 = .ok (.aload_n 0, 1) := by decide +kernel
theorem dX13_readLet_162 : decode cX13_readLet 162 = .ok (.getfield 13, 3) := by decide +kernel
theorem dX13_readLet_165 : decode cX13_readLet 165 = .ok (.iload 5, 2) := by decide +kernel
theorem dX13_readLet_167 : decode cX13_readLet 167 = .ok (.bipush 12, 2) := by decide +kernel
theorem dX13_readLet_169 : decode cX13_readLet 169 = .ok (.imul, 1) := by decide +kernel
theorem dX13_readLet_170 : decode cX13_readLet 170 = .ok (.iload 6, 2) := by decide +kernel
theorem dX13_readLet_172 : decode cX13_readLet 172 = .ok (.iadd, 1) := by decide +kernel
theorem dX13_readLet_173 : decode cX13_readLet 173 = .ok (.laload, 1) := by decide +kernel
theorem dX13_readLet_174 : decode cX13_readLet 174 = .ok (.lastore, 1) := by decide +kernel
theorem dX13_readLet_175 : decode cX13_readLet 175 = .ok (.iinc 6 1, 3) := by decide +kernel
theorem dX13_readLet_178 : decode cX13_readLet 178 = .ok (.goto (-44), 3) := by decide +kernel
theorem dX13_readLet_181 : decode cX13_readLet 181 = .ok (.aload_n 0, 1) := by decide +kernel
theorem dX13_readLet_182 : decode cX13_readLet 182 = .ok (.getfield 205, 3) := by decide +kernel
theorem dX13_readLet_185 : decode cX13_readLet 185 = .ok (.getfield 316, 3) := by decide +kernel
theorem dX13_readLet_188 : decode cX13_readLet 188 = .ok (.aload_n 0, 1) := by decide +kernel
theorem dX13_readLet_189 : decode cX13_readLet 189 = .ok (.getfield 205, 3) := by decide +kernel
theorem dX13_readLet_192 : decode cX13_readLet 192 = .ok (.getfield 301, 3) := by decide +kernel
theorem dX13_readLet_195 : decode cX13_readLet 195 = .ok (.iload 4, 2) := by decide +kernel
theorem dX13_readLet_197 : decode cX13_readLet 197 = .ok (.iastore, 1) := by decide +kernel
theorem dX13_readLet_198 : decode cX13_readLet 198 = .ok (.aload_n 0, 1) := by decide +kernel
theorem dX13_readLet_199 : decode cX13_readLet 199 = .ok (.lload_n 2, 1) := by decide +kernel
theorem dX13_readLet_200 : decode cX13_readLet 200 = .ok (.iconst 2, 1) := by decide +kernel
theorem dX13_readLet_201 : decode cX13_readLet 201 = .ok (.aload_n 0, 1) := by decide +kernel
theorem dX13_readLet_202 : decode cX13_readLet 202 = .ok (.getfield 205, 3) := by decide +kernel
theorem dX13_readLet_205 : decode cX13_readLet 205 = .ok (.getfield 301, 3) := by decide +kernel
theorem dX13_readLet_208 : decode cX13_readLet 208 = .ok (.invokevirtual 264, 3) := by decide +kernel
theorem dX13_readLet_211 : decode cX13_readLet 211 = .ok (.aload_n 0, 1) := by decide +kernel
theorem dX13_readLet_212 : decode cX13_readLet 212 = .ok (.getfield 205, 3) := by decide +kernel
theorem dX13_readLet_215 : decode cX13_readLet 215 = .ok (.dup, 1) := by decide +kernel
theorem dX13_readLet_216 : decode cX13_readLet 216 = .ok (.getfield 301, 3) := by decide +kernel
theorem dX13_readLet_219 : decode cX13_readLet 219 = .ok (.iconst 1, 1) := by decide +kernel
theorem dX13_readLet_220 : decode cX13_readLet 220 = .ok (.iadd, 1) := by decide +kernel
theorem dX13_readLet_221 : decode cX13_readLet 221 = .ok (.putfield 301, 3) := by decide +kernel
theorem dX13_readLet_224 : decode cX13_readLet 224 = .ok (.return_, 1) := by decide +kernel
theorem dX13_readSum_0 : decode cX13_readSum 0 = .ok (.aload_n 0, 1) := by decide +kernel
theorem dX13_readSum_1 : decode cX13_readSum 1 = .ok (.aload_n 1, 1) := by decide +kernel
theorem dX13_readSum_2 : decode cX13_readSum 2 = .ok (.iload_n 2, 1) := by decide +kernel
theorem dX13_readSum_3 : decode cX13_readSum 3 = .ok (.invokevirtual 319, 3) := by decide +kernel
theorem dX13_readSum_6 : decode cX13_readSum 6 = .ok (.istore_n 3, 1) := by decide +kernel
theorem dX13_readSum_7 : decode cX13_readSum 7 = .ok (.aload_n 0, 1) := by decide +kernel
theorem dX13_readSum_8 : decode cX13_readSum 8 = .ok (.getfield 111, 3) := by decide +kernel
theorem dX13_readSum_11 : decode cX13_readSum 11 = .ok (.iconst 5, 1) := by decide +kernel
theorem dX13_readSum_12 : decode cX13_readSum 12 = .ok (.if_icmp .eq 85, 3) := by decide +kernel
theorem dX13_readSum_15 : decode cX13_readSum 15 = .ok (.aload_n 0, 1) := by decide +kernel
theorem dX13_readSum_16 : decode cX13_readSum 16 = .ok (.bipush 43, 2) := by decide +kernel
theorem dX13_readSum_18 : decode cX13_readSum 18 = .ok (.invokevirtual 161, 3) := by decide +kernel
theorem dX13_readSum_21 : decode cX13_readSum 21 = .ok (.ifCond .ne 12, 3) := by decide +kernel
theorem dX13_readSum_24 : decode cX13_readSum 24 = .ok (.aload_n 0, 1) := by decide +kernel
theorem dX13_readSum_25 : decode cX13_readSum 25 = .ok (.bipush 45, 2) := by decide +kernel
theorem dX13_readSum_27 : decode cX13_readSum 27 = .ok (.invokevirtual 161, 3) := by decide +kernel
theorem dX13_readSum_30 : decode cX13_readSum 30 = .ok (.ifCond .eq 67, 3) := by decide +kernel
theorem dX13_readSum_33 : decode cX13_readSum 33 = .ok (.aload_n 0, 1) := by decide +kernel
theorem dX13_readSum_34 : decode cX13_readSum 34 = .ok (.bipush 43, 2) := by decide +kernel
theorem dX13_readSum_36 : decode cX13_readSum 36 = .ok (.invokevirtual 161, 3) := by decide +kernel
theorem dX13_readSum_39 : decode cX13_readSum 39 = .ok (.ifCond .eq 7, 3) := by decide +kernel
theorem dX13_readSum_42 : decode cX13_readSum 42 = .ok (.lconst 1, 1) := by decide +kernel
theorem dX13_readSum_43 : decode cX13_readSum 43 = .ok (.goto 6, 3) := by decide +kernel
theorem dX13_readSum_46 : decode cX13_readSum 46 = .ok (.ldc2_w 322, 3) := by decide +kernel
theorem dX13_readSum_49 : decode cX13_readSum 49 = .ok (.lstore 4, 2) := by decide +kernel
theorem dX13_readSum_51 : decode cX13_readSum 51 = .ok (.aload_n 0, 1) := by decide +kernel
theorem dX13_readSum_52 : decode cX13_readSum 52 = .ok (.invokevirtual 158, 3) := by decide +kernel
theorem dX13_readSum_55 : decode cX13_readSum 55 = .ok (.aload_n 0, 1) := by decide +kernel
theorem dX13_readSum_56 : decode cX13_readSum 56 = .ok (.aload_n 1, 1) := by decide +kernel
theorem dX13_readSum_57 : decode cX13_readSum 57 = .ok (.iload_n 2, 1) := by decide +kernel
theorem dX13_readSum_58 : decode cX13_readSum 58 = .ok (.invokevirtual 319, 3) := by decide +kernel
theorem dX13_readSum_61 : decode cX13_readSum 61 = .ok (.istore 6, 2) := by decide +kernel
theorem dX13_readSum_63 : decode cX13_readSum 63 = .ok (.aload_n 0, 1) := by decide +kernel
theorem dX13_readSum_64 : decode cX13_readSum 64 = .ok (.getfield 111, 3) := by decide +kernel
theorem dX13_readSum_67 : decode cX13_readSum 67 = .ok (.iconst 5, 1) := by decide +kernel
theorem dX13_readSum_68 : decode cX13_readSum 68 = .ok (.if_icmp .ne 5, 3) := by decide +kernel
theorem dX13_readSum_71 : decode cX13_readSum 71 = .ok (.iload_n 3, 1) := by decide +kernel
theorem dX13_readSum_72 : decode cX13_readSum 72 = .ok (.ireturn, 1) := by decide +kernel
theorem dX13_readSum_73 : decode cX13_readSum 73 = .ok (.aload_n 0, 1) := by decide +kernel
theorem dX13_readSum_74 : decode cX13_readSum 74 = .ok (.iload_n 3, 1) := by decide +kernel
theorem dX13_readSum_75 : decode cX13_readSum 75 = .ok (.iload 6, 2) := by decide +kernel
theorem dX13_readSum_77 : decode cX13_readSum 77 = .ok (.lload 4, 2) := by decide +kernel
theorem dX13_readSum_79 : decode cX13_readSum 79 = .ok (.invokevirtual 324, 3) := by decide +kernel
theorem dX13_readSum_82 : decode cX13_readSum 82 = .ok (.aload_n 0, 1) := by decide +kernel
theorem dX13_readSum_83 : decode cX13_readSum 83 = .ok (.iload_n 3, 1) := by decide +kernel
theorem dX13_readSum_84 : decode cX13_readSum 84 = .ok (.invokevirtual 328, 3) := by decide +kernel
theorem dX13_readSum_87 : decode cX13_readSum 87 = .ok (.aload_n 0, 1) := by decide +kernel
theorem dX13_readSum_88 : decode cX13_readSum 88 = .ok (.iload_n 3, 1) := by decide +kernel
theorem dX13_readSum_89 : decode cX13_readSum 89 = .ok (.iconst 1, 1) := by decide +kernel
theorem dX13_readSum_90 : decode cX13_readSum 90 = .ok (.iadd, 1) := by decide +kernel
theorem dX13_readSum_91 : decode cX13_readSum 91 = .ok (.putfield 304, 3) := by decide +kernel
theorem dX13_readSum_94 : decode cX13_readSum 94 = .ok (.goto (-87), 3) := by decide +kernel
theorem dX13_readSum_97 : decode cX13_readSum 97 = .ok (.iload_n 3, 1) := by decide +kernel
theorem dX13_readSum_98 : decode cX13_readSum 98 = .ok (.ireturn, 1) := by decide +kernel
theorem dX13_readProduct_0 : decode cX13_readProduct 0 = .ok (.aload_n 0, 1) := by decide +kernel
theorem dX13_readProduct_1 : decode cX13_readProduct 1 = .ok (.aload_n 1, 1) := by decide +kernel
theorem dX13_readProduct_2 : decode cX13_readProduct 2 = .ok (.iload_n 2, 1) := by decide +kernel
theorem dX13_readProduct_3 : decode cX13_readProduct 3 = .ok (.invokevirtual 331, 3) := by decide +kernel
theorem dX13_readProduct_6 : decode cX13_readProduct 6 = .ok (.istore_n 3, 1) := by decide +kernel
theorem dX13_readProduct_7 : decode cX13_readProduct 7 = .ok (.aload_n 0, 1) := by decide +kernel
theorem dX13_readProduct_8 : decode cX13_readProduct 8 = .ok (.getfield 111, 3) := by decide +kernel
theorem dX13_readProduct_11 : decode cX13_readProduct 11 = .ok (.iconst 5, 1) := by decide +kernel
theorem dX13_readProduct_12 : decode cX13_readProduct 12 = .ok (.if_icmp .eq 54, 3) := by decide +kernel
theorem dX13_readProduct_15 : decode cX13_readProduct 15 = .ok (.aload_n 0, 1) := by decide +kernel
theorem dX13_readProduct_16 : decode cX13_readProduct 16 = .ok (.bipush 42, 2) := by decide +kernel
theorem dX13_readProduct_18 : decode cX13_readProduct 18 = .ok (.invokevirtual 234, 3) := by decide +kernel
theorem dX13_readProduct_21 : decode cX13_readProduct 21 = .ok (.ifCond .eq 45, 3) := by decide +kernel
theorem dX13_readProduct_24 : decode cX13_readProduct 24 = .ok (.aload_n 0, 1) := by decide +kernel
theorem dX13_readProduct_25 : decode cX13_readProduct 25 = .ok (.aload_n 1, 1) := by decide +kernel
theorem dX13_readProduct_26 : decode cX13_readProduct 26 = .ok (.iload_n 2, 1) := by decide +kernel
theorem dX13_readProduct_27 : decode cX13_readProduct 27 = .ok (.invokevirtual 331, 3) := by decide +kernel
theorem dX13_readProduct_30 : decode cX13_readProduct 30 = .ok (.istore 4, 2) := by decide +kernel
theorem dX13_readProduct_32 : decode cX13_readProduct 32 = .ok (.aload_n 0, 1) := by decide +kernel
theorem dX13_readProduct_33 : decode cX13_readProduct 33 = .ok (.getfield 111, 3) := by decide +kernel
theorem dX13_readProduct_36 : decode cX13_readProduct 36 = .ok (.iconst 5, 1) := by decide +kernel
theorem dX13_readProduct_37 : decode cX13_readProduct 37 = .ok (.if_icmp .ne 5, 3) := by decide +kernel
theorem dX13_readProduct_40 : decode cX13_readProduct 40 = .ok (.iload_n 3, 1) := by decide +kernel
theorem dX13_readProduct_41 : decode cX13_readProduct 41 = .ok (.ireturn, 1) := by decide +kernel
theorem dX13_readProduct_42 : decode cX13_readProduct 42 = .ok (.aload_n 0, 1) := by decide +kernel
theorem dX13_readProduct_43 : decode cX13_readProduct 43 = .ok (.aload_n 1, 1) := by decide +kernel
theorem dX13_readProduct_44 : decode cX13_readProduct 44 = .ok (.iload_n 3, 1) := by decide +kernel
theorem dX13_readProduct_45 : decode cX13_readProduct 45 = .ok (.iload 4, 2) := by decide +kernel
theorem dX13_readProduct_47 : decode cX13_readProduct 47 = .ok (.iload_n 3, 1) := by decide +kernel
theorem dX13_readProduct_48 : decode cX13_readProduct 48 = .ok (.invokevirtual 334, 3) := by decide +kernel
theorem dX13_readProduct_51 : decode cX13_readProduct 51 = .ok (.aload_n 0, 1) := by decide +kernel
theorem dX13_readProduct_52 : decode cX13_readProduct 52 = .ok (.iload_n 3, 1) := by decide +kernel
theorem dX13_readProduct_53 : decode cX13_readProduct 53 = .ok (.invokevirtual 328, 3) := by decide +kernel
theorem dX13_readProduct_56 : decode cX13_readProduct 56 = .ok (.aload_n 0, 1) := by decide +kernel
theorem dX13_readProduct_57 : decode cX13_readProduct 57 = .ok (.iload_n 3, 1) := by decide +kernel
theorem dX13_readProduct_58 : decode cX13_readProduct 58 = .ok (.iconst 1, 1) := by decide +kernel
theorem dX13_readProduct_59 : decode cX13_readProduct 59 = .ok (.iadd, 1) := by decide +kernel
theorem dX13_readProduct_60 : decode cX13_readProduct 60 = .ok (.putfield 304, 3) := by decide +kernel
theorem dX13_readProduct_63 : decode cX13_readProduct 63 = .ok (.goto (-56), 3) := by decide +kernel
theorem dX13_readProduct_66 : decode cX13_readProduct 66 = .ok (.iload_n 3, 1) := by decide +kernel
theorem dX13_readProduct_67 : decode cX13_readProduct 67 = .ok (.ireturn, 1) := by decide +kernel
theorem dX13_deeper_0 : decode cX13_deeper 0 = .ok (.aload_n 0, 1) := by decide +kernel
theorem dX13_deeper_1 : decode cX13_deeper 1 = .ok (.getfield 307, 3) := by decide +kernel
theorem dX13_deeper_4 : decode cX13_deeper 4 = .ok (.bipush 8, 2) := by decide +kernel
theorem dX13_deeper_6 : decode cX13_deeper 6 = .ok (.if_icmp .ne 8, 3) := by decide +kernel
theorem dX13_deeper_9 : decode cX13_deeper 9 = .ok (.aload_n 0, 1) := by decide +kernel
theorem dX13_deeper_10 : decode cX13_deeper 10 = .ok (.iconst 5, 1) := by decide +kernel
theorem dX13_deeper_11 : decode cX13_deeper 11 = .ok (.invokevirtual 164, 3) := by decide +kernel
theorem dX13_deeper_14 : decode cX13_deeper 14 = .ok (.aload_n 0, 1) := by decide +kernel
theorem dX13_deeper_15 : decode cX13_deeper 15 = .ok (.dup, 1) := by decide +kernel
theorem dX13_deeper_16 : decode cX13_deeper 16 = .ok (.getfield 307, 3) := by decide +kernel
theorem dX13_deeper_19 : decode cX13_deeper 19 = .ok (.iconst 1, 1) := by decide +kernel
theorem dX13_deeper_20 : decode cX13_deeper 20 = .ok (.iadd, 1) := by decide +kernel
theorem dX13_deeper_21 : decode cX13_deeper 21 = .ok (.putfield 307, 3) := by decide +kernel
theorem dX13_deeper_24 : decode cX13_deeper 24 = .ok (.aload_n 0, 1) := by decide +kernel
theorem dX13_deeper_25 : decode cX13_deeper 25 = .ok (.invokevirtual 158, 3) := by decide +kernel
theorem dX13_deeper_28 : decode cX13_deeper 28 = .ok (.return_, 1) := by decide +kernel
theorem dX13_readAtom_0 : decode cX13_readAtom 0 = .ok (.aload_n 0, 1) := by decide +kernel
theorem dX13_readAtom_1 : decode cX13_readAtom 1 = .ok (.getfield 304, 3) := by decide +kernel
theorem dX13_readAtom_4 : decode cX13_readAtom 4 = .ok (.istore_n 3, 1) := by decide +kernel
theorem dX13_readAtom_5 : decode cX13_readAtom 5 = .ok (.aload_n 0, 1) := by decide +kernel
theorem dX13_readAtom_6 : decode cX13_readAtom 6 = .ok (.dup, 1) := by decide +kernel
theorem dX13_readAtom_7 : decode cX13_readAtom 7 = .ok (.getfield 304, 3) := by decide +kernel
theorem dX13_readAtom_10 : decode cX13_readAtom 10 = .ok (.iconst 1, 1) := by decide +kernel
theorem dX13_readAtom_11 : decode cX13_readAtom 11 = .ok (.iadd, 1) := by decide +kernel
theorem dX13_readAtom_12 : decode cX13_readAtom 12 = .ok (.putfield 304, 3) := by decide +kernel
theorem dX13_readAtom_15 : decode cX13_readAtom 15 = .ok (.aload_n 0, 1) := by decide +kernel
theorem dX13_readAtom_16 : decode cX13_readAtom 16 = .ok (.bipush 40, 2) := by decide +kernel
theorem dX13_readAtom_18 : decode cX13_readAtom 18 = .ok (.invokevirtual 161, 3) := by decide +kernel
theorem dX13_readAtom_21 : decode cX13_readAtom 21 = .ok (.ifCond .eq 56, 3) := by decide +kernel
theorem dX13_readAtom_24 : decode cX13_readAtom 24 = .ok (.aload_n 0, 1) := by decide +kernel
theorem dX13_readAtom_25 : decode cX13_readAtom 25 = .ok (.dup, 1) := by decide +kernel
theorem dX13_readAtom_26 : decode cX13_readAtom 26 = .ok (.getfield 304, 3) := by decide +kernel
theorem dX13_readAtom_29 : decode cX13_readAtom 29 = .ok (.iconst 1, 1) := by decide +kernel
theorem dX13_readAtom_30 : decode cX13_readAtom 30 = .ok (.isub, 1) := by decide +kernel
theorem dX13_readAtom_31 : decode cX13_readAtom 31 = .ok (.putfield 304, 3) := by decide +kernel
theorem dX13_readAtom_34 : decode cX13_readAtom 34 = .ok (.aload_n 0, 1) := by decide +kernel
theorem dX13_readAtom_35 : decode cX13_readAtom 35 = .ok (.invokevirtual 338, 3) := by decide +kernel
theorem dX13_readAtom_38 : decode cX13_readAtom 38 = .ok (.aload_n 0, 1) := by decide +kernel
theorem dX13_readAtom_39 : decode cX13_readAtom 39 = .ok (.getfield 111, 3) := by decide +kernel
theorem dX13_readAtom_42 : decode cX13_readAtom 42 = .ok (.iconst 5, 1) := by decide +kernel
theorem dX13_readAtom_43 : decode cX13_readAtom 43 = .ok (.if_icmp .ne 7, 3) := by decide +kernel
theorem dX13_readAtom_46 : decode cX13_readAtom 46 = .ok (.iload_n 3, 1) := by decide +kernel
theorem dX13_readAtom_47 : decode cX13_readAtom 47 = .ok (.goto 9, 3) := by decide +kernel
theorem dX13_readAtom_50 : decode cX13_readAtom 50 = .ok (.aload_n 0, 1) := by decide +kernel
theorem dX13_readAtom_51 : decode cX13_readAtom 51 = .ok (.aload_n 1, 1) := by decide +kernel
theorem dX13_readAtom_52 : decode cX13_readAtom 52 = .ok (.iload_n 2, 1) := by decide +kernel
theorem dX13_readAtom_53 : decode cX13_readAtom 53 = .ok (.invokevirtual 310, 3) := by decide +kernel
theorem dX13_readAtom_56 : decode cX13_readAtom 56 = .ok (.istore 4, 2) := by decide +kernel
theorem dX13_readAtom_58 : decode cX13_readAtom 58 = .ok (.aload_n 0, 1) := by decide +kernel
theorem dX13_readAtom_59 : decode cX13_readAtom 59 = .ok (.bipush 41, 2) := by decide +kernel
theorem dX13_readAtom_61 : decode cX13_readAtom 61 = .ok (.invokevirtual 341, 3) := by decide +kernel
theorem dX13_readAtom_64 : decode cX13_readAtom 64 = .ok (.aload_n 0, 1) := by decide +kernel
theorem dX13_readAtom_65 : decode cX13_readAtom 65 = .ok (.dup, 1) := by decide +kernel
theorem dX13_readAtom_66 : decode cX13_readAtom 66 = .ok (.getfield 307, 3) := by decide +kernel
theorem dX13_readAtom_69 : decode cX13_readAtom 69 = .ok (.iconst 1, 1) := by decide +kernel
theorem dX13_readAtom_70 : decode cX13_readAtom 70 = .ok (.isub, 1) := by decide +kernel
theorem dX13_readAtom_71 : decode cX13_readAtom 71 = .ok (.putfield 307, 3) := by decide +kernel
theorem dX13_readAtom_74 : decode cX13_readAtom 74 = .ok (.iload 4, 2) := by decide +kernel
theorem dX13_readAtom_76 : decode cX13_readAtom 76 = .ok (.ireturn, 1) := by decide +kernel
theorem dX13_readAtom_77 : decode cX13_readAtom 77 = .ok (.aload_n 0, 1) := by decide +kernel
theorem dX13_readAtom_78 : decode cX13_readAtom 78 = .ok (.ldc 197, 2) := by decide +kernel
theorem dX13_readAtom_80 : decode cX13_readAtom 80 = .ok (.invokevirtual 154, 3) := by decide +kernel
theorem dX13_readAtom_83 : decode cX13_readAtom 83 = .ok (.ifCond .eq 30, 3) := by decide +kernel
theorem dX13_readAtom_86 : decode cX13_readAtom 86 = .ok (.aload_n 0, 1) := by decide +kernel
theorem dX13_readAtom_87 : decode cX13_readAtom 87 = .ok (.dup, 1) := by decide +kernel
theorem dX13_readAtom_88 : decode cX13_readAtom 88 = .ok (.getfield 304, 3) := by decide +kernel
theorem dX13_readAtom_91 : decode cX13_readAtom 91 = .ok (.iconst 1, 1) := by decide +kernel
theorem dX13_readAtom_92 : decode cX13_readAtom 92 = .ok (.isub, 1) := by decide +kernel
theorem dX13_readAtom_93 : decode cX13_readAtom 93 = .ok (.putfield 304, 3) := by decide +kernel
theorem dX13_readAtom_96 : decode cX13_readAtom 96 = .ok (.aload_n 0, 1) := by decide +kernel
theorem dX13_readAtom_97 : decode cX13_readAtom 97 = .ok (.invokevirtual 338, 3) := by decide +kernel
theorem dX13_readAtom_100 : decode cX13_readAtom 100 = .ok (.aload_n 0, 1) := by decide +kernel
theorem dX13_readAtom_101 : decode cX13_readAtom 101 = .ok (.aload_n 1, 1) := by decide +kernel
theorem dX13_readAtom_102 : decode cX13_readAtom 102 = .ok (.iload_n 2, 1) := by decide +kernel
theorem dX13_readAtom_103 : decode cX13_readAtom 103 = .ok (.aload_n 1, 1) := by decide +kernel
theorem dX13_readAtom_104 : decode cX13_readAtom 104 = .ok (.getfield 59, 3) := by decide +kernel
theorem dX13_readAtom_107 : decode cX13_readAtom 107 = .ok (.iconst 1, 1) := by decide +kernel
theorem dX13_readAtom_108 : decode cX13_readAtom 108 = .ok (.isub, 1) := by decide +kernel
theorem dX13_readAtom_109 : decode cX13_readAtom 109 = .ok (.invokevirtual 344, 3) := by decide +kernel
theorem dX13_readAtom_112 : decode cX13_readAtom 112 = .ok (.ireturn, 1) := by decide +kernel
theorem dX13_readAtom_113 : decode cX13_readAtom 113 = .ok (.aload_n 0, 1) := by decide +kernel
theorem dX13_readAtom_114 : decode cX13_readAtom 114 = .ok (.ldc 199, 2) := by decide +kernel
theorem dX13_readAtom_116 : decode cX13_readAtom 116 = .ok (.invokevirtual 154, 3) := by decide +kernel
theorem dX13_readAtom_119 : decode cX13_readAtom 119 = .ok (.ifCond .eq 57, 3) := by decide +kernel
theorem dX13_readAtom_122 : decode cX13_readAtom 122 = .ok (.aload_n 0, 1) := by decide +kernel
theorem dX13_readAtom_123 : decode cX13_readAtom 123 = .ok (.dup, 1) := by decide +kernel
theorem dX13_readAtom_124 : decode cX13_readAtom 124 = .ok (.getfield 304, 3) := by decide +kernel
theorem dX13_readAtom_127 : decode cX13_readAtom 127 = .ok (.iconst 1, 1) := by decide +kernel
theorem dX13_readAtom_128 : decode cX13_readAtom 128 = .ok (.isub, 1) := by decide +kernel
theorem dX13_readAtom_129 : decode cX13_readAtom 129 = .ok (.putfield 304, 3) := by decide +kernel
theorem dX13_readAtom_132 : decode cX13_readAtom 132 = .ok (.aload_n 0, 1) := by decide +kernel
theorem dX13_readAtom_133 : decode cX13_readAtom 133 = .ok (.invokevirtual 338, 3) := by decide +kernel
theorem dX13_readAtom_136 : decode cX13_readAtom 136 = .ok (.aload_n 0, 1) := by decide +kernel
theorem dX13_readAtom_137 : decode cX13_readAtom 137 = .ok (.iconst 1, 1) := by decide +kernel
theorem dX13_readAtom_138 : decode cX13_readAtom 138 = .ok (.aload_n 1, 1) := by decide +kernel
theorem dX13_readAtom_139 : decode cX13_readAtom 139 = .ok (.getfield 59, 3) := by decide +kernel
theorem dX13_readAtom_142 : decode cX13_readAtom 142 = .ok (.iconst 1, 1) := by decide +kernel
theorem dX13_readAtom_143 : decode cX13_readAtom 143 = .ok (.isub, 1) := by decide +kernel
theorem dX13_readAtom_144 : decode cX13_readAtom 144 = .ok (.invokevirtual 172, 3) := by decide +kernel
theorem dX13_readAtom_147 : decode cX13_readAtom 147 = .ok (.istore 4, 2) := by decide +kernel
theorem dX13_readAtom_149 : decode cX13_readAtom 149 = .ok (.aload_n 1, 1) := by decide +kernel
theorem dX13_readAtom_150 : decode cX13_readAtom 150 = .ok (.iload 4, 2) := by decide +kernel
theorem dX13_readAtom_152 : decode cX13_readAtom 152 = .ok (.invokevirtual 347, 3) := by decide +kernel
theorem dX13_readAtom_155 : decode cX13_readAtom 155 = .ok (.ifCond .ne 8, 3) := by decide +kernel
theorem dX13_readAtom_158 : decode cX13_readAtom 158 = .ok (.aload_n 0, 1) := by decide +kernel
theorem dX13_readAtom_159 : decode cX13_readAtom 159 = .ok (.iconst 4, 1) := by decide +kernel
theorem dX13_readAtom_160 : decode cX13_readAtom 160 = .ok (.invokevirtual 164, 3) := by decide +kernel
theorem dX13_readAtom_163 : decode cX13_readAtom 163 = .ok (.aload_n 0, 1) := by decide +kernel
theorem dX13_readAtom_164 : decode cX13_readAtom 164 = .ok (.invokevirtual 158, 3) := by decide +kernel
theorem dX13_readAtom_167 : decode cX13_readAtom 167 = .ok (.aload_n 0, 1) := by decide +kernel
theorem dX13_readAtom_168 : decode cX13_readAtom 168 = .ok (.aload_n 1, 1) := by decide +kernel
theorem dX13_readAtom_169 : decode cX13_readAtom 169 = .ok (.iload_n 2, 1) := by decide +kernel
theorem dX13_readAtom_170 : decode cX13_readAtom 170 = .ok (.iload 4, 2) := by decide +kernel
theorem dX13_readAtom_172 : decode cX13_readAtom 172 = .ok (.invokevirtual 344, 3) := by decide +kernel
theorem dX13_readAtom_175 : decode cX13_readAtom 175 = .ok (.ireturn, 1) := by decide +kernel
theorem dX13_readAtom_176 : decode cX13_readAtom 176 = .ok (.aload_n 0, 1) := by decide +kernel
theorem dX13_readAtom_177 : decode cX13_readAtom 177 = .ok (.ldc 193, 2) := by decide +kernel
theorem dX13_readAtom_179 : decode cX13_readAtom 179 = .ok (.invokevirtual 350, 3) := by decide +kernel
theorem dX13_readAtom_182 : decode cX13_readAtom 182 = .ok (.ifCond .eq 38, 3) := by decide +kernel
theorem dX13_readAtom_185 : decode cX13_readAtom 185 = .ok (.aload_n 0, 1) := by decide +kernel
theorem dX13_readAtom_186 : decode cX13_readAtom 186 = .ok (.iconst 0, 1) := by decide +kernel
theorem dX13_readAtom_187 : decode cX13_readAtom 187 = .ok (.bipush 99, 2) := by decide +kernel
theorem dX13_readAtom_189 : decode cX13_readAtom 189 = .ok (.invokevirtual 273, 3) := by decide +kernel
theorem dX13_readAtom_192 : decode cX13_readAtom 192 = .ok (.istore 4, 2) := by decide +kernel
theorem dX13_readAtom_194 : decode cX13_readAtom 194 = .ok (.aload_n 0, 1) := by decide +kernel
theorem dX13_readAtom_195 : decode cX13_readAtom 195 = .ok (.invokevirtual 70, 3) := by decide +kernel
theorem dX13_readAtom_198 : decode cX13_readAtom 198 = .ok (.aload_n 0, 1) := by decide +kernel
theorem dX13_readAtom_199 : decode cX13_readAtom 199 = .ok (.getfield 17, 3) := by decide +kernel
theorem dX13_readAtom_202 : decode cX13_readAtom 202 = .ok (.iload 4, 2) := by decide +kernel
theorem dX13_readAtom_204 : decode cX13_readAtom 204 = .ok (.aload_n 1, 1) := by decide +kernel
theorem dX13_readAtom_205 : decode cX13_readAtom 205 = .ok (.getfield 59, 3) := by decide +kernel
theorem dX13_readAtom_208 : decode cX13_readAtom 208 = .ok (.irem, 1) := by decide +kernel
theorem dX13_readAtom_209 : decode cX13_readAtom 209 = .ok (.lconst 1, 1) := by decide +kernel
theorem dX13_readAtom_210 : decode cX13_readAtom 210 = .ok (.lastore, 1) := by decide +kernel
theorem dX13_readAtom_211 : decode cX13_readAtom 211 = .ok (.aload_n 0, 1) := by decide +kernel
theorem dX13_readAtom_212 : decode cX13_readAtom 212 = .ok (.aload_n 1, 1) := by decide +kernel
theorem dX13_readAtom_213 : decode cX13_readAtom 213 = .ok (.iload_n 3, 1) := by decide +kernel
theorem dX13_readAtom_214 : decode cX13_readAtom 214 = .ok (.invokevirtual 73, 3) := by decide +kernel
theorem dX13_readAtom_217 : decode cX13_readAtom 217 = .ok (.goto 96, 3) := by decide +kernel
theorem dX13_readAtom_220 : decode cX13_readAtom 220 = .ok (.aload_n 0, 1) := by decide +kernel
theorem dX13_readAtom_221 : decode cX13_readAtom 221 = .ok (.ldc 195, 2) := by decide +kernel
theorem dX13_readAtom_223 : decode cX13_readAtom 223 = .ok (.invokevirtual 350, 3) := by decide +kernel
theorem dX13_readAtom_226 : decode cX13_readAtom 226 = .ok (.ifCond .eq 56, 3) := by decide +kernel
theorem dX13_readAtom_229 : decode cX13_readAtom 229 = .ok (.aload_n 0, 1) := by decide +kernel
theorem dX13_readAtom_230 : decode cX13_readAtom 230 = .ok (.iconst 0, 1) := by decide +kernel
theorem dX13_readAtom_231 : decode cX13_readAtom 231 = .ok (.aload_n 1, 1) := by decide +kernel
theorem dX13_readAtom_232 : decode cX13_readAtom 232 = .ok (.getfield 59, 3) := by decide +kernel
theorem dX13_readAtom_235 : decode cX13_readAtom 235 = .ok (.iconst 1, 1) := by decide +kernel
theorem dX13_readAtom_236 : decode cX13_readAtom 236 = .ok (.isub, 1) := by decide +kernel
theorem dX13_readAtom_237 : decode cX13_readAtom 237 = .ok (.invokevirtual 273, 3) := by decide +kernel
theorem dX13_readAtom_240 : decode cX13_readAtom 240 = .ok (.istore 4, 2) := by decide +kernel
theorem dX13_readAtom_242 : decode cX13_readAtom 242 = .ok (.aload_n 0, 1) := by decide +kernel
theorem dX13_readAtom_243 : decode cX13_readAtom 243 = .ok (.bipush 44, 2) := by decide +kernel
theorem dX13_readAtom_245 : decode cX13_readAtom 245 = .ok (.invokevirtual 341, 3) := by decide +kernel
theorem dX13_readAtom_248 : decode cX13_readAtom 248 = .ok (.aload_n 0, 1) := by decide +kernel
theorem dX13_readAtom_249 : decode cX13_readAtom 249 = .ok (.iconst 0, 1) := by decide +kernel
theorem dX13_readAtom_250 : decode cX13_readAtom 250 = .ok (.aload_n 1, 1) := by decide +kernel
theorem dX13_readAtom_251 : decode cX13_readAtom 251 = .ok (.getfield 59, 3) := by decide +kernel
theorem dX13_readAtom_254 : decode cX13_readAtom 254 = .ok (.iconst 1, 1) := by decide +kernel
theorem dX13_readAtom_255 : decode cX13_readAtom 255 = .ok (.isub, 1) := by decide +kernel
theorem dX13_readAtom_256 : decode cX13_readAtom 256 = .ok (.invokevirtual 273, 3) := by decide +kernel
theorem dX13_readAtom_259 : decode cX13_readAtom 259 = .ok (.istore 5, 2) := by decide +kernel
theorem dX13_readAtom_261 : decode cX13_readAtom 261 = .ok (.aload_n 0, 1) := by decide +kernel
theorem dX13_readAtom_262 : decode cX13_readAtom 262 = .ok (.getfield 111, 3) := by decide +kernel
theorem dX13_readAtom_265 : decode cX13_readAtom 265 = .ok (.iconst 5, 1) := by decide +kernel
theorem dX13_readAtom_266 : decode cX13_readAtom 266 = .ok (.if_icmp .eq 13, 3) := by decide +kernel
theorem dX13_readAtom_269 : decode cX13_readAtom 269 = .ok (.aload_n 0, 1) := by decide +kernel
theorem dX13_readAtom_270 : decode cX13_readAtom 270 = .ok (.aload_n 1, 1) := by decide +kernel
theorem dX13_readAtom_271 : decode cX13_readAtom 271 = .ok (.iload 4, 2) := by decide +kernel
theorem dX13_readAtom_273 : decode cX13_readAtom 273 = .ok (.iload 5, 2) := by decide +kernel
theorem dX13_readAtom_275 : decode cX13_readAtom 275 = .ok (.iload_n 3, 1) := by decide +kernel
theorem dX13_readAtom_276 : decode cX13_readAtom 276 = .ok (.invokevirtual 353, 3) := by decide +kernel
theorem dX13_readAtom_279 : decode cX13_readAtom 279 = .ok (.goto 34, 3) := by decide +kernel
theorem dX13_readAtom_282 : decode cX13_readAtom 282 = .ok (.aload_n 0, 1) := by decide +kernel
theorem dX13_readAtom_283 : decode cX13_readAtom 283 = .ok (.getfield 111, 3) := by decide +kernel
theorem dX13_readAtom_286 : decode cX13_readAtom 286 = .ok (.iconst 3, 1) := by decide +kernel
theorem dX13_readAtom_287 : decode cX13_readAtom 287 = .ok (.if_icmp .ne 20, 3) := by decide +kernel
theorem dX13_readAtom_290 : decode cX13_readAtom 290 = .ok (.aload_n 0, 1) := by decide +kernel
theorem dX13_readAtom_291 : decode cX13_readAtom 291 = .ok (.iload_n 3, 1) := by decide +kernel
theorem dX13_readAtom_292 : decode cX13_readAtom 292 = .ok (.aload_n 0, 1) := by decide +kernel
theorem dX13_readAtom_293 : decode cX13_readAtom 293 = .ok (.iconst 0, 1) := by decide +kernel
theorem dX13_readAtom_294 : decode cX13_readAtom 294 = .ok (.sipush 999, 3) := by decide +kernel
theorem dX13_readAtom_297 : decode cX13_readAtom 297 = .ok (.invokevirtual 273, 3) := by decide +kernel
theorem dX13_readAtom_300 : decode cX13_readAtom 300 = .ok (.i2l, 1) := by decide +kernel
theorem dX13_readAtom_301 : decode cX13_readAtom 301 = .ok (.invokevirtual 297, 3) := by decide +kernel
theorem dX13_readAtom_304 : decode cX13_readAtom 304 = .ok (.goto 9, 3) := by decide +kernel
theorem dX13_readAtom_307 : decode cX13_readAtom 307 = .ok (.aload_n 0, 1) := by decide +kernel
theorem dX13_readAtom_308 : decode cX13_readAtom 308 = .ok (.iload_n 2, 1) := by decide +kernel
theorem dX13_readAtom_309 : decode cX13_readAtom 309 = .ok (.iload_n 3, 1) := by decide +kernel
theorem dX13_readAtom_310 : decode cX13_readAtom 310 = .ok (.invokevirtual 356, 3) := by decide +kernel
theorem dX13_readAtom_313 : decode cX13_readAtom 313 = .ok (.iload_n 3, 1) := by decide +kernel
theorem dX13_readAtom_314 : decode cX13_readAtom 314 = .ok (.ireturn, 1) := by decide +kernel
theorem dX13_turnsAtom_0 : decode cX13_turnsAtom 0 = .ok (.aload_n 0, 1) := by decide +kernel
theorem dX13_turnsAtom_1 : decode cX13_turnsAtom 1 = .ok (.getfield 111, 3) := by decide +kernel
theorem dX13_turnsAtom_4 : decode cX13_turnsAtom 4 = .ok (.iconst 5, 1) := by decide +kernel
theorem dX13_turnsAtom_5 : decode cX13_turnsAtom 5 = .ok (.if_icmp .ne 8, 3) := by decide +kernel
theorem dX13_turnsAtom_8 : decode cX13_turnsAtom 8 = .ok (.aload_n 0, 1) := by decide +kernel
theorem dX13_turnsAtom_9 : decode cX13_turnsAtom 9 = .ok (.getfield 304, 3) := by decide +kernel
theorem dX13_turnsAtom_12 : decode cX13_turnsAtom 12 = .ok (.ireturn, 1) := by decide +kernel
theorem dX13_turnsAtom_13 : decode cX13_turnsAtom 13 = .ok (.aload_n 0, 1) := by decide +kernel
theorem dX13_turnsAtom_14 : decode cX13_turnsAtom 14 = .ok (.aload_n 1, 1) := by decide +kernel
theorem dX13_turnsAtom_15 : decode cX13_turnsAtom 15 = .ok (.iload_n 2, 1) := by decide +kernel
theorem dX13_turnsAtom_16 : decode cX13_turnsAtom 16 = .ok (.invokevirtual 331, 3) := by decide +kernel
theorem dX13_turnsAtom_19 : decode cX13_turnsAtom 19 = .ok (.istore 4, 2) := by decide +kernel
theorem dX13_turnsAtom_21 : decode cX13_turnsAtom 21 = .ok (.aload_n 0, 1) := by decide +kernel
theorem dX13_turnsAtom_22 : decode cX13_turnsAtom 22 = .ok (.getfield 111, 3) := by decide +kernel
theorem dX13_turnsAtom_25 : decode cX13_turnsAtom 25 = .ok (.iconst 5, 1) := by decide +kernel
theorem dX13_turnsAtom_26 : decode cX13_turnsAtom 26 = .ok (.if_icmp .eq 19, 3) := by decide +kernel
theorem dX13_turnsAtom_29 : decode cX13_turnsAtom 29 = .ok (.aload_n 0, 1) := by decide +kernel
theorem dX13_turnsAtom_30 : decode cX13_turnsAtom 30 = .ok (.aload_n 1, 1) := by decide +kernel
theorem dX13_turnsAtom_31 : decode cX13_turnsAtom 31 = .ok (.iload 4, 2) := by decide +kernel
theorem dX13_turnsAtom_33 : decode cX13_turnsAtom 33 = .ok (.iload_n 3, 1) := by decide +kernel
theorem dX13_turnsAtom_34 : decode cX13_turnsAtom 34 = .ok (.iload 4, 2) := by decide +kernel
theorem dX13_turnsAtom_36 : decode cX13_turnsAtom 36 = .ok (.invokevirtual 359, 3) := by decide +kernel
theorem dX13_turnsAtom_39 : decode cX13_turnsAtom 39 = .ok (.aload_n 0, 1) := by decide +kernel
theorem dX13_turnsAtom_40 : decode cX13_turnsAtom 40 = .ok (.iload 4, 2) := by decide +kernel
theorem dX13_turnsAtom_42 : decode cX13_turnsAtom 42 = .ok (.invokevirtual 328, 3) := by decide +kernel
theorem dX13_turnsAtom_45 : decode cX13_turnsAtom 45 = .ok (.aload_n 0, 1) := by decide +kernel
theorem dX13_turnsAtom_46 : decode cX13_turnsAtom 46 = .ok (.dup, 1) := by decide +kernel
theorem dX13_turnsAtom_47 : decode cX13_turnsAtom 47 = .ok (.getfield 307, 3) := by decide +kernel
theorem dX13_turnsAtom_50 : decode cX13_turnsAtom 50 = .ok (.iconst 1, 1) := by decide +kernel
theorem dX13_turnsAtom_51 : decode cX13_turnsAtom 51 = .ok (.isub, 1) := by decide +kernel
theorem dX13_turnsAtom_52 : decode cX13_turnsAtom 52 = .ok (.putfield 307, 3) := by decide +kernel
theorem dX13_turnsAtom_55 : decode cX13_turnsAtom 55 = .ok (.iload 4, 2) := by decide +kernel
theorem dX13_turnsAtom_57 : decode cX13_turnsAtom 57 = .ok (.ireturn, 1) := by decide +kernel
theorem dX13_readNamed_0 : decode cX13_readNamed 0 = .ok (.aload_n 0, 1) := by decide +kernel
theorem dX13_readNamed_1 : decode cX13_readNamed 1 = .ok (.invokevirtual 201, 3) := by decide +kernel
theorem dX13_readNamed_4 : decode cX13_readNamed 4 = .ok (.ifCond .ne 8, 3) := by decide +kernel
theorem dX13_readNamed_7 : decode cX13_readNamed 7 = .ok (.aload_n 0, 1) := by decide +kernel
theorem dX13_readNamed_8 : decode cX13_readNamed 8 = .ok (.iconst 1, 1) := by decide +kernel
theorem dX13_readNamed_9 : decode cX13_readNamed 9 = .ok (.invokevirtual 164, 3) := by decide +kernel
theorem dX13_readNamed_12 : decode cX13_readNamed 12 = .ok (.aload_n 0, 1) := by decide +kernel
theorem dX13_readNamed_13 : decode cX13_readNamed 13 = .ok (.getfield 205, 3) := by decide +kernel
theorem dX13_readNamed_16 : decode cX13_readNamed 16 = .ok (.aload_n 0, 1) := by decide +kernel
theorem dX13_readNamed_17 : decode cX13_readNamed 17 = .ok (.getfield 130, 3) := by decide +kernel
theorem dX13_readNamed_20 : decode cX13_readNamed 20 = .ok (.invokevirtual 209, 3) := by decide +kernel
theorem dX13_readNamed_23 : decode cX13_readNamed 23 = .ok (.istore_n 3, 1) := by decide +kernel
theorem dX13_readNamed_24 : decode cX13_readNamed 24 = .ok (.iload_n 3, 1) := by decide +kernel
theorem dX13_readNamed_25 : decode cX13_readNamed 25 = .ok (.iconst (-1), 1) := by decide +kernel
theorem dX13_readNamed_26 : decode cX13_readNamed 26 = .ok (.if_icmp .eq 37, 3) := by decide +kernel
theorem dX13_readNamed_29 : decode cX13_readNamed 29 = .ok (.aload_n 0, 1) := by decide +kernel
theorem dX13_readNamed_30 : decode cX13_readNamed 30 = .ok (.getfield 205, 3) := by decide +kernel
theorem dX13_readNamed_33 : decode cX13_readNamed 33 = .ok (.getfield 221, 3) := by decide +kernel
theorem dX13_readNamed_36 : decode cX13_readNamed 36 = .ok (.iload_n 3, 1) := by decide +kernel
theorem dX13_readNamed_37 : decode cX13_readNamed 37 = .ok (.iaload, 1) := by decide +kernel
theorem dX13_readNamed_38 : decode cX13_readNamed 38 = .ok (.iconst 2, 1) := by decide +kernel
theorem dX13_readNamed_39 : decode cX13_readNamed 39 = .ok (.if_icmp .ne 24, 3) := by decide +kernel
theorem dX13_readNamed_42 : decode cX13_readNamed 42 = .ok (.aload_n 0, 1) := by decide +kernel
theorem dX13_readNamed_43 : decode cX13_readNamed 43 = .ok (.getfield 205, 3) := by decide +kernel
theorem dX13_readNamed_46 : decode cX13_readNamed 46 = .ok (.getfield 316, 3) := by decide +kernel
theorem dX13_readNamed_49 : decode cX13_readNamed 49 = .ok (.aload_n 0, 1) := by decide +kernel
theorem dX13_readNamed_50 : decode cX13_readNamed 50 = .ok (.getfield 205, 3) := by decide +kernel
theorem dX13_readNamed_53 : decode cX13_readNamed 53 = .ok (.getfield 224, 3) := by decide +kernel
theorem dX13_readNamed_56 : decode cX13_readNamed 56 = .ok (.iload_n 3, 1) := by decide +kernel
theorem dX13_readNamed_57 : decode cX13_readNamed 57 = .ok (.iaload, 1) := by decide +kernel
theorem dX13_readNamed_58 : decode cX13_readNamed 58 = .ok (.iaload, 1) := by decide +kernel
theorem dX13_readNamed_59 : decode cX13_readNamed 59 = .ok (.iload_n 1, 1) := by decide +kernel
theorem dX13_readNamed_60 : decode cX13_readNamed 60 = .ok (.if_icmp .eq 8, 3) := by decide +kernel
theorem dX13_readNamed_63 : decode cX13_readNamed 63 = .ok (.aload_n 0, 1) := by decide +kernel
theorem dX13_readNamed_64 : decode cX13_readNamed 64 = .ok (.iconst 2, 1) := by decide +kernel
theorem dX13_readNamed_65 : decode cX13_readNamed 65 = .ok (.invokevirtual 164, 3) := by decide +kernel
theorem dX13_readNamed_68 : decode cX13_readNamed 68 = .ok (.aload_n 0, 1) := by decide +kernel
theorem dX13_readNamed_69 : decode cX13_readNamed 69 = .ok (.getfield 111, 3) := by decide +kernel
theorem dX13_readNamed_72 : decode cX13_readNamed 72 = .ok (.iconst 5, 1) := by decide +kernel
theorem dX13_readNamed_73 : decode cX13_readNamed 73 = .ok (.if_icmp .ne 4, 3) := by decide +kernel
theorem dX13_readNamed_76 : decode cX13_readNamed 76 = .ok (.return_, 1) := by decide +kernel
theorem dX13_readNamed_77 : decode cX13_readNamed 77 = .ok (.iconst 0, 1) := by decide +kernel
theorem dX13_readNamed_78 : decode cX13_readNamed 78 = .ok (.istore 4, 2) := by decide +kernel
theorem dX13_readNamed_80 : decode cX13_readNamed 80 = .ok (.iload 4, 2) := by decide +kernel
theorem dX13_readNamed_82 : decode cX13_readNamed 82 = .ok (.bipush 12, 2) := by decide +kernel
theorem dX13_readNamed_84 : decode cX13_readNamed 84 = .ok (.if_icmp .ge 44, 3) := by decide +kernel
theorem dX13_readNamed_87 : decode cX13_readNamed 87 = .ok (.aload_n 0, 1) := by decide +kernel
theorem dX13_readNamed_88 : decode cX13_readNamed 88 = .ok (.getfield 13, 3) := by decide +kernel
theorem dX13_readNamed_91 : decode cX13_readNamed 91 = .ok (.iload_n 2, 1) := by decide +kernel
theorem dX13_readNamed_92 : decode cX13_readNamed 92 = .ok (.bipush 12, 2) := by decide +kernel
theorem dX13_readNamed_94 : decode cX13_readNamed 94 = .ok (.imul, 1) := by decide +kernel
theorem dX13_readNamed_95 : decode cX13_readNamed 95 = .ok (.iload 4, 2) := by decide +kernel
theorem dX13_readNamed_97 : decode cX13_readNamed 97 = .ok (.iadd, 1) := by decide +kernel
theorem dX13_readNamed_98 : decode cX13_readNamed 98 = .ok (.aload_n 0, 1) := by decide +kernel
theorem dX13_readNamed_99 : decode cX13_readNamed 99 = .ok (.getfield 205, 3) := by decide +kernel
theorem dX13_readNamed_102 : decode cX13_readNamed 102 = .ok (.getfield 314, 3) := by decide +kernel
theorem dX13_readNamed_105 : decode cX13_readNamed 105 = .ok (.bipush 12, 2) := by decide +kernel
theorem dX13_readNamed_107 : decode cX13_readNamed 107 = .ok (.aload_n 0, 1) := by decide +kernel
theorem dX13_readNamed_108 : decode cX13_readNamed 108 = .ok (.getfield 205, 3) := by decide +kernel
theorem dX13_readNamed_111 : decode cX13_readNamed 111 = .ok (.getfield 224, 3) := by decide +kernel
theorem dX13_readNamed_114 : decode cX13_readNamed 114 = .ok (.iload_n 3, 1) := by decide +kernel
theorem dX13_readNamed_115 : decode cX13_readNamed 115 = .ok (.iaload, 1) := by decide +kernel
theorem dX13_readNamed_116 : decode cX13_readNamed 116 = .ok (.imul, 1) := by decide +kernel
theorem dX13_readNamed_117 : decode cX13_readNamed 117 = .ok (.iload 4, 2) := by decide +kernel
theorem dX13_readNamed_119 : decode cX13_readNamed 119 = .ok (.iadd, 1) := by decide +kernel
theorem dX13_readNamed_120 : decode cX13_readNamed 120 = .ok (.laload, 1) := by decide +kernel
theorem dX13_readNamed_121 : decode cX13_readNamed 121 = .ok (.lastore, 1) := by decide +kernel
theorem dX13_readNamed_122 : decode cX13_readNamed 122 = .ok (.iinc 4 1, 3) := by decide +kernel
theorem dX13_readNamed_125 : decode cX13_readNamed 125 = .ok (.goto (-45), 3) := by decide +kernel
theorem dX13_readNamed_128 : decode cX13_readNamed 128 = .ok (.aload_n 0, 1) := by decide +kernel
theorem dX13_readNamed_129 : decode cX13_readNamed 129 = .ok (.invokevirtual 158, 3) := by decide +kernel
theorem dX13_readNamed_132 : decode cX13_readNamed 132 = .ok (.return_, 1) := by decide +kernel
theorem dX13_feed_0 : decode cX13_feed 0 = .ok (.aload_n 0, 1) := by decide +kernel
theorem dX13_feed_1 : decode cX13_feed 1 = .ok (.iconst 0, 1) := by decide +kernel
theorem dX13_feed_2 : decode cX13_feed 2 = .ok (.putfield 46, 3) := by decide +kernel
theorem dX13_feed_5 : decode cX13_feed 5 = .ok (.aload_n 0, 1) := by decide +kernel
theorem dX13_feed_6 : decode cX13_feed 6 = .ok (.getfield 362, 3) := by decide +kernel
theorem dX13_feed_9 : decode cX13_feed 9 = .ok (.bipush 20, 2) := by decide +kernel
theorem dX13_feed_11 : decode cX13_feed 11 = .ok (.iadd, 1) := by decide +kernel
theorem dX13_feed_12 : decode cX13_feed 12 = .ok (.sipush 900, 3) := by decide +kernel
theorem dX13_feed_15 : decode cX13_feed 15 = .ok (.if_icmp .le 5, 3) := by decide +kernel
theorem dX13_feed_18 : decode cX13_feed 18 = .ok (.iconst (-1), 1) := by decide +kernel
theorem dX13_feed_19 : decode cX13_feed 19 = .ok (.ireturn, 1) := by decide +kernel
theorem dX13_feed_20 : decode cX13_feed 20 = .ok (.iconst 0, 1) := by decide +kernel
theorem dX13_feed_21 : decode cX13_feed 21 = .ok (.istore 6, 2) := by decide +kernel
theorem dX13_feed_23 : decode cX13_feed 23 = .ok (.iload 6, 2) := by decide +kernel
theorem dX13_feed_25 : decode cX13_feed 25 = .ok (.bipush 20, 2) := by decide +kernel
theorem dX13_feed_27 : decode cX13_feed 27 = .ok (.if_icmp .ge 90, 3) := by decide +kernel
theorem dX13_feed_30 : decode cX13_feed 30 = .ok (.iload 6, 2) := by decide +kernel
theorem dX13_feed_32 : decode cX13_feed 32 = .ok (.iconst 4, 1) := by decide +kernel
theorem dX13_feed_33 : decode cX13_feed 33 = .ok (.if_icmp .ge 7, 3) := by decide +kernel
theorem dX13_feed_36 : decode cX13_feed 36 = .ok (.iload_n 1, 1) := by decide +kernel
theorem dX13_feed_37 : decode cX13_feed 37 = .ok (.goto 39, 3) := by decide +kernel
theorem dX13_feed_40 : decode cX13_feed 40 = .ok (.iload 6, 2) := by decide +kernel
theorem dX13_feed_42 : decode cX13_feed 42 = .ok (.bipush 8, 2) := by decide +kernel
theorem dX13_feed_44 : decode cX13_feed 44 = .ok (.if_icmp .ge 7, 3) := by decide +kernel
theorem dX13_feed_47 : decode cX13_feed 47 = .ok (.iload_n 2, 1) := by decide +kernel
theorem dX13_feed_48 : decode cX13_feed 48 = .ok (.goto 28, 3) := by decide +kernel
theorem dX13_feed_51 : decode cX13_feed 51 = .ok (.iload 6, 2) := by decide +kernel
theorem dX13_feed_53 : decode cX13_feed 53 = .ok (.bipush 12, 2) := by decide +kernel
theorem dX13_feed_55 : decode cX13_feed 55 = .ok (.if_icmp .ge 7, 3) := by decide +kernel
theorem dX13_feed_58 : decode cX13_feed 58 = .ok (.iload_n 3, 1) := by decide +kernel
theorem dX13_feed_59 : decode cX13_feed 59 = .ok (.goto 17, 3) := by decide +kernel
theorem dX13_feed_62 : decode cX13_feed 62 = .ok (.iload 6, 2) := by decide +kernel
theorem dX13_feed_64 : decode cX13_feed 64 = .ok (.bipush 16, 2) := by decide +kernel
theorem dX13_feed_66 : decode cX13_feed 66 = .ok (.if_icmp .ge 8, 3) := by decide +kernel
theorem dX13_feed_69 : decode cX13_feed 69 = .ok (.iload 4, 2) := by decide +kernel
theorem dX13_feed_71 : decode cX13_feed 71 = .ok (.goto 5, 3) := by decide +kernel
theorem dX13_feed_74 : decode cX13_feed 74 = .ok (.iload 5, 2) := by decide +kernel
theorem dX13_feed_76 : decode cX13_feed 76 = .ok (.istore 7, 2) := by decide +kernel
theorem dX13_feed_78 : decode cX13_feed 78 = .ok (.aload_n 0, 1) := by decide +kernel
theorem dX13_feed_79 : decode cX13_feed 79 = .ok (.getfield 20, 3) := by decide +kernel
theorem dX13_feed_82 : decode cX13_feed 82 = .ok (.aload_n 0, 1) := by decide +kernel
theorem dX13_feed_83 : decode cX13_feed 83 = .ok (.getfield 362, 3) := by decide +kernel
theorem dX13_feed_86 : decode cX13_feed 86 = .ok (.iload 7, 2) := by decide +kernel
theorem dX13_feed_88 : decode cX13_feed 88 = .ok (.bipush 24, 2) := by decide +kernel
theorem dX13_feed_90 : decode cX13_feed 90 = .ok (.bipush 8, 2) := by decide +kernel
theorem dX13_feed_92 : decode cX13_feed 92 = .ok (.iload 6, 2) := by decide +kernel
theorem dX13_feed_94 : decode cX13_feed 94 = .ok (.iconst 4, 1) := by decide +kernel
theorem dX13_feed_95 : decode cX13_feed 95 = .ok (.irem, 1) := by decide +kernel
theorem dX13_feed_96 : decode cX13_feed 96 = .ok (.imul, 1) := by decide +kernel
theorem dX13_feed_97 : decode cX13_feed 97 = .ok (.isub, 1) := by decide +kernel
theorem dX13_feed_98 : decode cX13_feed 98 = .ok (.ishr, 1) := by decide +kernel
theorem dX13_feed_99 : decode cX13_feed 99 = .ok (.i2b, 1) := by decide +kernel
theorem dX13_feed_100 : decode cX13_feed 100 = .ok (.bastore, 1) := by decide +kernel
theorem dX13_feed_101 : decode cX13_feed 101 = .ok (.aload_n 0, 1) := by decide +kernel
theorem dX13_feed_102 : decode cX13_feed 102 = .ok (.dup, 1) := by decide +kernel
theorem dX13_feed_103 : decode cX13_feed 103 = .ok (.getfield 362, 3) := by decide +kernel
theorem dX13_feed_106 : decode cX13_feed 106 = .ok (.iconst 1, 1) := by decide +kernel
theorem dX13_feed_107 : decode cX13_feed 107 = .ok (.iadd, 1) := by decide +kernel
theorem dX13_feed_108 : decode cX13_feed 108 = .ok (.putfield 362, 3) := by decide +kernel
theorem dX13_feed_111 : decode cX13_feed 111 = .ok (.iinc 6 1, 3) := by decide +kernel
theorem dX13_feed_114 : decode cX13_feed 114 = .ok (.goto (-91), 3) := by decide +kernel
theorem dX13_feed_117 : decode cX13_feed 117 = .ok (.aload_n 0, 1) := by decide +kernel
theorem dX13_feed_118 : decode cX13_feed 118 = .ok (.getfield 362, 3) := by decide +kernel
theorem dX13_feed_121 : decode cX13_feed 121 = .ok (.ireturn, 1) := by decide +kernel
theorem dX13_book_0 : decode cX13_book 0 = .ok (.aload_n 0, 1) := by decide +kernel
theorem dX13_book_1 : decode cX13_book 1 = .ok (.iconst 0, 1) := by decide +kernel
theorem dX13_book_2 : decode cX13_book 2 = .ok (.putfield 46, 3) := by decide +kernel
theorem dX13_book_5 : decode cX13_book 5 = .ok (.iload_n 1, 1) := by decide +kernel
theorem dX13_book_6 : decode cX13_book 6 = .ok (.ifCond .lt 11, 3) := by decide +kernel
theorem dX13_book_9 : decode cX13_book 9 = .ok (.iload_n 1, 1) := by decide +kernel
theorem dX13_book_10 : decode cX13_book 10 = .ok (.aload_n 0, 1) := by decide +kernel
theorem dX13_book_11 : decode cX13_book 11 = .ok (.getfield 362, 3) := by decide +kernel
theorem dX13_book_14 : decode cX13_book 14 = .ok (.if_icmp .le 9, 3) := by decide +kernel
theorem dX13_book_17 : decode cX13_book 17 = .ok (.aload_n 0, 1) := by decide +kernel
theorem dX13_book_18 : decode cX13_book 18 = .ok (.iconst 2, 1) := by decide +kernel
theorem dX13_book_19 : decode cX13_book 19 = .ok (.invokevirtual 52, 3) := by decide +kernel
theorem dX13_book_22 : decode cX13_book 22 = .ok (.ireturn, 1) := by decide +kernel
theorem dX13_book_23 : decode cX13_book 23 = .ok (.aload_n 0, 1) := by decide +kernel
theorem dX13_book_24 : decode cX13_book 24 = .ok (.iload_n 1, 1) := by decide +kernel
theorem dX13_book_25 : decode cX13_book 25 = .ok (.putfield 98, 3) := by decide +kernel
theorem dX13_book_28 : decode cX13_book 28 = .ok (.aload_n 0, 1) := by decide +kernel
theorem dX13_book_29 : decode cX13_book 29 = .ok (.iconst 0, 1) := by decide +kernel
theorem dX13_book_30 : decode cX13_book 30 = .ok (.putfield 362, 3) := by decide +kernel
theorem dX13_book_33 : decode cX13_book 33 = .ok (.aload_n 0, 1) := by decide +kernel
theorem dX13_book_34 : decode cX13_book 34 = .ok (.iconst 0, 1) := by decide +kernel
theorem dX13_book_35 : decode cX13_book 35 = .ok (.putfield 114, 3) := by decide +kernel
theorem dX13_book_38 : decode cX13_book 38 = .ok (.aload_n 0, 1) := by decide +kernel
theorem dX13_book_39 : decode cX13_book 39 = .ok (.iconst 0, 1) := by decide +kernel
theorem dX13_book_40 : decode cX13_book 40 = .ok (.putfield 144, 3) := by decide +kernel
theorem dX13_book_43 : decode cX13_book 43 = .ok (.aload_n 0, 1) := by decide +kernel
theorem dX13_book_44 : decode cX13_book 44 = .ok (.new 210, 3) := by decide +kernel
theorem dX13_book_47 : decode cX13_book 47 = .ok (.dup, 1) := by decide +kernel
theorem dX13_book_48 : decode cX13_book 48 = .ok (.invokespecial 365, 3) := by decide +kernel
theorem dX13_book_51 : decode cX13_book 51 = .ok (.putfield 205, 3) := by decide +kernel
theorem dX13_book_54 : decode cX13_book 54 = .ok (.aload_n 0, 1) := by decide +kernel
theorem dX13_book_55 : decode cX13_book 55 = .ok (.iconst 0, 1) := by decide +kernel
theorem dX13_book_56 : decode cX13_book 56 = .ok (.putfield 111, 3) := by decide +kernel
theorem dX13_book_59 : decode cX13_book 59 = .ok (.aload_n 0, 1) := by decide +kernel
theorem dX13_book_60 : decode cX13_book 60 = .ok (.invokevirtual 158, 3) := by decide +kernel
theorem dX13_book_63 : decode cX13_book 63 = .ok (.aload_n 0, 1) := by decide +kernel
theorem dX13_book_64 : decode cX13_book 64 = .ok (.invokevirtual 366, 3) := by decide +kernel
theorem dX13_book_67 : decode cX13_book 67 = .ok (.aload_n 0, 1) := by decide +kernel
theorem dX13_book_68 : decode cX13_book 68 = .ok (.getfield 144, 3) := by decide +kernel
theorem dX13_book_71 : decode cX13_book 71 = .ok (.ifCond .le 18, 3) := by decide +kernel
theorem dX13_book_74 : decode cX13_book 74 = .ok (.aload_n 0, 1) := by decide +kernel
theorem dX13_book_75 : decode cX13_book 75 = .ok (.iconst 4, 1) := by decide +kernel
theorem dX13_book_76 : decode cX13_book 76 = .ok (.putfield 49, 3) := by decide +kernel
theorem dX13_book_79 : decode cX13_book 79 = .ok (.aload_n 0, 1) := by decide +kernel
theorem dX13_book_80 : decode cX13_book 80 = .ok (.aload_n 0, 1) := by decide +kernel
theorem dX13_book_81 : decode cX13_book 81 = .ok (.getfield 147, 3) := by decide +kernel
theorem dX13_book_84 : decode cX13_book 84 = .ok (.putfield 9, 3) := by decide +kernel
theorem dX13_book_87 : decode cX13_book 87 = .ok (.iconst (-1), 1) := by decide +kernel
theorem dX13_book_88 : decode cX13_book 88 = .ok (.ireturn, 1) := by decide +kernel
theorem dX13_book_89 : decode cX13_book 89 = .ok (.aload_n 0, 1) := by decide +kernel
theorem dX13_book_90 : decode cX13_book 90 = .ok (.aload_n 0, 1) := by decide +kernel
theorem dX13_book_91 : decode cX13_book 91 = .ok (.getfield 205, 3) := by decide +kernel
theorem dX13_book_94 : decode cX13_book 94 = .ok (.putfield 369, 3) := by decide +kernel
theorem dX13_book_97 : decode cX13_book 97 = .ok (.iconst 0, 1) := by decide +kernel
theorem dX13_book_98 : decode cX13_book 98 = .ok (.istore_n 2, 1) := by decide +kernel
theorem dX13_book_99 : decode cX13_book 99 = .ok (.iload_n 2, 1) := by decide +kernel
theorem dX13_book_100 : decode cX13_book 100 = .ok (.bipush 49, 2) := by decide +kernel
theorem dX13_book_102 : decode cX13_book 102 = .ok (.if_icmp .ge 16, 3) := by decide +kernel
theorem dX13_book_105 : decode cX13_book 105 = .ok (.aload_n 0, 1) := by decide +kernel
theorem dX13_book_106 : decode cX13_book 106 = .ok (.getfield 34, 3) := by decide +kernel
theorem dX13_book_109 : decode cX13_book 109 = .ok (.iload_n 2, 1) := by decide +kernel
theorem dX13_book_110 : decode cX13_book 110 = .ok (.lconst 0, 1) := by decide +kernel
theorem dX13_book_111 : decode cX13_book 111 = .ok (.lastore, 1) := by decide +kernel
theorem dX13_book_112 : decode cX13_book 112 = .ok (.iinc 2 1, 3) := by decide +kernel
theorem dX13_book_115 : decode cX13_book 115 = .ok (.goto (-16), 3) := by decide +kernel
theorem dX13_book_118 : decode cX13_book 118 = .ok (.aload_n 0, 1) := by decide +kernel
theorem dX13_book_119 : decode cX13_book 119 = .ok (.iconst 0, 1) := by decide +kernel
theorem dX13_book_120 : decode cX13_book 120 = .ok (.putfield 372, 3) := by decide +kernel
theorem dX13_book_123 : decode cX13_book 123 = .ok (.aload_n 0, 1) := by decide +kernel
theorem dX13_book_124 : decode cX13_book 124 = .ok (.iconst 0, 1) := by decide +kernel
theorem dX13_book_125 : decode cX13_book 125 = .ok (.putfield 375, 3) := by decide +kernel
theorem dX13_book_128 : decode cX13_book 128 = .ok (.aload_n 0, 1) := by decide +kernel
theorem dX13_book_129 : decode cX13_book 129 = .ok (.iconst 0, 1) := by decide +kernel
theorem dX13_book_130 : decode cX13_book 130 = .ok (.putfield 378, 3) := by decide +kernel
theorem dX13_book_133 : decode cX13_book 133 = .ok (.aload_n 0, 1) := by decide +kernel
theorem dX13_book_134 : decode cX13_book 134 = .ok (.aload_n 0, 1) := by decide +kernel
theorem dX13_book_135 : decode cX13_book 135 = .ok (.getfield 369, 3) := by decide +kernel
theorem dX13_book_138 : decode cX13_book 138 = .ok (.getfield 237, 3) := by decide +kernel
theorem dX13_book_141 : decode cX13_book 141 = .ok (.invokevirtual 56, 3) := by decide +kernel
theorem dX13_book_144 : decode cX13_book 144 = .ok (.ireturn, 1) := by decide +kernel
theorem dX13_fault_0 : decode cX13_fault 0 = .ok (.aload_n 0, 1) := by decide +kernel
theorem dX13_fault_1 : decode cX13_fault 1 = .ok (.iconst 0, 1) := by decide +kernel
theorem dX13_fault_2 : decode cX13_fault 2 = .ok (.putfield 46, 3) := by decide +kernel
theorem dX13_fault_5 : decode cX13_fault 5 = .ok (.aload_n 0, 1) := by decide +kernel
theorem dX13_fault_6 : decode cX13_fault 6 = .ok (.getfield 144, 3) := by decide +kernel
theorem dX13_fault_9 : decode cX13_fault 9 = .ok (.ireturn, 1) := by decide +kernel
theorem dX13_where_0 : decode cX13_where 0 = .ok (.aload_n 0, 1) := by decide +kernel
theorem dX13_where_1 : decode cX13_where 1 = .ok (.iconst 0, 1) := by decide +kernel
theorem dX13_where_2 : decode cX13_where 2 = .ok (.putfield 46, 3) := by decide +kernel
theorem dX13_where_5 : decode cX13_where 5 = .ok (.aload_n 0, 1) := by decide +kernel
theorem dX13_where_6 : decode cX13_where 6 = .ok (.getfield 9, 3) := by decide +kernel
theorem dX13_where_9 : decode cX13_where 9 = .ok (.ireturn, 1) := by decide +kernel
theorem dX13_isField_0 : decode cX13_isField 0 = .ok (.aload_n 0, 1) := by decide +kernel
theorem dX13_isField_1 : decode cX13_isField 1 = .ok (.getfield 369, 3) := by decide +kernel
theorem dX13_isField_4 : decode cX13_isField 4 = .ok (.ifnull 22, 3) := by decide +kernel
theorem dX13_isField_7 : decode cX13_isField 7 = .ok (.iload_n 1, 1) := by decide +kernel
theorem dX13_isField_8 : decode cX13_isField 8 = .ok (.ifCond .lt 18, 3) := by decide +kernel
theorem dX13_isField_11 : decode cX13_isField 11 = .ok (.iload_n 1, 1) := by decide +kernel
theorem dX13_isField_12 : decode cX13_isField 12 = .ok (.aload_n 0, 1) := by decide +kernel
theorem dX13_isField_13 : decode cX13_isField 13 = .ok (.getfield 369, 3) := by decide +kernel
theorem dX13_isField_16 : decode cX13_isField 16 = .ok (.getfield 237, 3) := by decide +kernel
theorem dX13_isField_19 : decode cX13_isField 19 = .ok (.if_icmp .ge 7, 3) := by decide +kernel
theorem dX13_isField_22 : decode cX13_isField 22 = .ok (.iconst 1, 1) := by decide +kernel
theorem dX13_isField_23 : decode cX13_isField 23 = .ok (.goto 4, 3) := by decide +kernel
theorem dX13_isField_26 : decode cX13_isField 26 = .ok (.iconst 0, 1) := by decide +kernel
theorem dX13_isField_27 : decode cX13_isField 27 = .ok (.ireturn, 1) := by decide +kernel
theorem dX13_isOrder_0 : decode cX13_isOrder 0 = .ok (.aload_n 0, 1) := by decide +kernel
theorem dX13_isOrder_1 : decode cX13_isOrder 1 = .ok (.iload_n 1, 1) := by decide +kernel
theorem dX13_isOrder_2 : decode cX13_isOrder 2 = .ok (.invokevirtual 381, 3) := by decide +kernel
theorem dX13_isOrder_5 : decode cX13_isOrder 5 = .ok (.ifCond .eq 27, 3) := by decide +kernel
theorem dX13_isOrder_8 : decode cX13_isOrder 8 = .ok (.iload_n 2, 1) := by decide +kernel
theorem dX13_isOrder_9 : decode cX13_isOrder 9 = .ok (.ifCond .lt 23, 3) := by decide +kernel
theorem dX13_isOrder_12 : decode cX13_isOrder 12 = .ok (.iload_n 2, 1) := by decide +kernel
theorem dX13_isOrder_13 : decode cX13_isOrder 13 = .ok (.aload_n 0, 1) := by decide +kernel
theorem dX13_isOrder_14 : decode cX13_isOrder 14 = .ok (.getfield 369, 3) := by decide +kernel
theorem dX13_isOrder_17 : decode cX13_isOrder 17 = .ok (.getfield 259, 3) := by decide +kernel
theorem dX13_isOrder_20 : decode cX13_isOrder 20 = .ok (.iload_n 1, 1) := by decide +kernel
theorem dX13_isOrder_21 : decode cX13_isOrder 21 = .ok (.aaload, 1) := by decide +kernel
theorem dX13_isOrder_22 : decode cX13_isOrder 22 = .ok (.getfield 59, 3) := by decide +kernel
theorem dX13_isOrder_25 : decode cX13_isOrder 25 = .ok (.if_icmp .ge 7, 3) := by decide +kernel
theorem dX13_isOrder_28 : decode cX13_isOrder 28 = .ok (.iconst 1, 1) := by decide +kernel
theorem dX13_isOrder_29 : decode cX13_isOrder 29 = .ok (.goto 4, 3) := by decide +kernel
theorem dX13_isOrder_32 : decode cX13_isOrder 32 = .ok (.iconst 0, 1) := by decide +kernel
theorem dX13_isOrder_33 : decode cX13_isOrder 33 = .ok (.ireturn, 1) := by decide +kernel
theorem dX13_areOrders_0 : decode cX13_areOrders 0 = .ok (.aload_n 0, 1) := by decide +kernel
theorem dX13_areOrders_1 : decode cX13_areOrders 1 = .ok (.iload_n 1, 1) := by decide +kernel
theorem dX13_areOrders_2 : decode cX13_areOrders 2 = .ok (.iload_n 2, 1) := by decide +kernel
theorem dX13_areOrders_3 : decode cX13_areOrders 3 = .ok (.invokevirtual 384, 3) := by decide +kernel
theorem dX13_areOrders_6 : decode cX13_areOrders 6 = .ok (.ifCond .eq 16, 3) := by decide +kernel
theorem dX13_areOrders_9 : decode cX13_areOrders 9 = .ok (.aload_n 0, 1) := by decide +kernel
theorem dX13_areOrders_10 : decode cX13_areOrders 10 = .ok (.iload_n 1, 1) := by decide +kernel
theorem dX13_areOrders_11 : decode cX13_areOrders 11 = .ok (.iload_n 3, 1) := by decide +kernel
theorem dX13_areOrders_12 : decode cX13_areOrders 12 = .ok (.invokevirtual 384, 3) := by decide +kernel
theorem dX13_areOrders_15 : decode cX13_areOrders 15 = .ok (.ifCond .eq 7, 3) := by decide +kernel
theorem dX13_areOrders_18 : decode cX13_areOrders 18 = .ok (.iconst 1, 1) := by decide +kernel
theorem dX13_areOrders_19 : decode cX13_areOrders 19 = .ok (.goto 4, 3) := by decide +kernel
theorem dX13_areOrders_22 : decode cX13_areOrders 22 = .ok (.iconst 0, 1) := by decide +kernel
theorem dX13_areOrders_23 : decode cX13_areOrders 23 = .ok (.ireturn, 1) := by decide +kernel
theorem dX13_field_0 : decode cX13_field 0 = .ok (.aload_n 0, 1) := by decide +kernel
theorem dX13_field_1 : decode cX13_field 1 = .ok (.iconst 0, 1) := by decide +kernel
theorem dX13_field_2 : decode cX13_field 2 = .ok (.putfield 46, 3) := by decide +kernel
theorem dX13_field_5 : decode cX13_field 5 = .ok (.aload_n 0, 1) := by decide +kernel
theorem dX13_field_6 : decode cX13_field 6 = .ok (.iload_n 1, 1) := by decide +kernel
theorem dX13_field_7 : decode cX13_field 7 = .ok (.invokevirtual 381, 3) := by decide +kernel
theorem dX13_field_10 : decode cX13_field 10 = .ok (.ifCond .eq 12, 3) := by decide +kernel
theorem dX13_field_13 : decode cX13_field 13 = .ok (.iload_n 2, 1) := by decide +kernel
theorem dX13_field_14 : decode cX13_field 14 = .ok (.iconst 0, 1) := by decide +kernel
theorem dX13_field_15 : decode cX13_field 15 = .ok (.iconst 3, 1) := by decide +kernel
theorem dX13_field_16 : decode cX13_field 16 = .ok (.invokestatic 168, 3) := by decide +kernel
theorem dX13_field_19 : decode cX13_field 19 = .ok (.ifCond .ne 9, 3) := by decide +kernel
theorem dX13_field_22 : decode cX13_field 22 = .ok (.aload_n 0, 1) := by decide +kernel
theorem dX13_field_23 : decode cX13_field 23 = .ok (.iconst 1, 1) := by decide +kernel
theorem dX13_field_24 : decode cX13_field 24 = .ok (.invokevirtual 52, 3) := by decide +kernel
theorem dX13_field_27 : decode cX13_field 27 = .ok (.ireturn, 1) := by decide +kernel
theorem dX13_field_28 : decode cX13_field 28 = .ok (.aload_n 0, 1) := by decide +kernel
theorem dX13_field_29 : decode cX13_field 29 = .ok (.getfield 369, 3) := by decide +kernel
theorem dX13_field_32 : decode cX13_field 32 = .ok (.getfield 259, 3) := by decide +kernel
theorem dX13_field_35 : decode cX13_field 35 = .ok (.iload_n 1, 1) := by decide +kernel
theorem dX13_field_36 : decode cX13_field 36 = .ok (.aaload, 1) := by decide +kernel
theorem dX13_field_37 : decode cX13_field 37 = .ok (.astore_n 3, 1) := by decide +kernel
theorem dX13_field_38 : decode cX13_field 38 = .ok (.aload_n 0, 1) := by decide +kernel
theorem dX13_field_39 : decode cX13_field 39 = .ok (.iload_n 2, 1) := by decide +kernel
theorem dX13_field_40 : decode cX13_field 40 = .ok (.ifCond .ne 10, 3) := by decide +kernel
theorem dX13_field_43 : decode cX13_field 43 = .ok (.aload_n 3, 1) := by decide +kernel
theorem dX13_field_44 : decode cX13_field 44 = .ok (.getfield 81, 3) := by decide +kernel
theorem dX13_field_47 : decode cX13_field 47 = .ok (.goto 31, 3) := by decide +kernel
theorem dX13_field_50 : decode cX13_field 50 = .ok (.iload_n 2, 1) := by decide +kernel
theorem dX13_field_51 : decode cX13_field 51 = .ok (.iconst 1, 1) := by decide +kernel
theorem dX13_field_52 : decode cX13_field 52 = .ok (.if_icmp .ne 10, 3) := by decide +kernel
theorem dX13_field_55 : decode cX13_field 55 = .ok (.aload_n 3, 1) := by decide +kernel
theorem dX13_field_56 : decode cX13_field 56 = .ok (.getfield 59, 3) := by decide +kernel
theorem dX13_field_59 : decode cX13_field 59 = .ok (.goto 19, 3) := by decide +kernel
theorem dX13_field_62 : decode cX13_field 62 = .ok (.iload_n 2, 1) := by decide +kernel
theorem dX13_field_63 : decode cX13_field 63 = .ok (.iconst 2, 1) := by decide +kernel
theorem dX13_field_64 : decode cX13_field 64 = .ok (.if_icmp .ne 10, 3) := by decide +kernel
theorem dX13_field_67 : decode cX13_field 67 = .ok (.aload_n 3, 1) := by decide +kernel
theorem dX13_field_68 : decode cX13_field 68 = .ok (.getfield 91, 3) := by decide +kernel
theorem dX13_field_71 : decode cX13_field 71 = .ok (.goto 7, 3) := by decide +kernel
theorem dX13_field_74 : decode cX13_field 74 = .ok (.aload_n 3, 1) := by decide +kernel
theorem dX13_field_75 : decode cX13_field 75 = .ok (.getfield 64, 3) := by decide +kernel
theorem dX13_field_78 : decode cX13_field 78 = .ok (.invokevirtual 56, 3) := by decide +kernel
theorem dX13_field_81 : decode cX13_field 81 = .ok (.ireturn, 1) := by decide +kernel
theorem dX13_log_0 : decode cX13_log 0 = .ok (.aload_n 0, 1) := by decide +kernel
theorem dX13_log_1 : decode cX13_log 1 = .ok (.iconst 0, 1) := by decide +kernel
theorem dX13_log_2 : decode cX13_log 2 = .ok (.putfield 46, 3) := by decide +kernel
theorem dX13_log_5 : decode cX13_log 5 = .ok (.aload_n 0, 1) := by decide +kernel
theorem dX13_log_6 : decode cX13_log 6 = .ok (.iload_n 1, 1) := by decide +kernel
theorem dX13_log_7 : decode cX13_log 7 = .ok (.invokevirtual 381, 3) := by decide +kernel
theorem dX13_log_10 : decode cX13_log 10 = .ok (.ifCond .ne 9, 3) := by decide +kernel
theorem dX13_log_13 : decode cX13_log 13 = .ok (.aload_n 0, 1) := by decide +kernel
theorem dX13_log_14 : decode cX13_log 14 = .ok (.iconst 1, 1) := by decide +kernel
theorem dX13_log_15 : decode cX13_log 15 = .ok (.invokevirtual 52, 3) := by decide +kernel
theorem dX13_log_18 : decode cX13_log 18 = .ok (.ireturn, 1) := by decide +kernel
theorem dX13_log_19 : decode cX13_log 19 = .ok (.iload_n 2, 1) := by decide +kernel
theorem dX13_log_20 : decode cX13_log 20 = .ok (.iconst 1, 1) := by decide +kernel
theorem dX13_log_21 : decode cX13_log 21 = .ok (.aload_n 0, 1) := by decide +kernel
theorem dX13_log_22 : decode cX13_log 22 = .ok (.getfield 369, 3) := by decide +kernel
theorem dX13_log_25 : decode cX13_log 25 = .ok (.getfield 259, 3) := by decide +kernel
theorem dX13_log_28 : decode cX13_log 28 = .ok (.iload_n 1, 1) := by decide +kernel
theorem dX13_log_29 : decode cX13_log 29 = .ok (.aaload, 1) := by decide +kernel
theorem dX13_log_30 : decode cX13_log 30 = .ok (.getfield 81, 3) := by decide +kernel
theorem dX13_log_33 : decode cX13_log 33 = .ok (.iconst 1, 1) := by decide +kernel
theorem dX13_log_34 : decode cX13_log 34 = .ok (.isub, 1) := by decide +kernel
theorem dX13_log_35 : decode cX13_log 35 = .ok (.invokestatic 168, 3) := by decide +kernel
theorem dX13_log_38 : decode cX13_log 38 = .ok (.ifCond .eq 24, 3) := by decide +kernel
theorem dX13_log_41 : decode cX13_log 41 = .ok (.aload_n 0, 1) := by decide +kernel
theorem dX13_log_42 : decode cX13_log 42 = .ok (.aload_n 0, 1) := by decide +kernel
theorem dX13_log_43 : decode cX13_log 43 = .ok (.getfield 369, 3) := by decide +kernel
theorem dX13_log_46 : decode cX13_log 46 = .ok (.getfield 259, 3) := by decide +kernel
theorem dX13_log_49 : decode cX13_log 49 = .ok (.iload_n 1, 1) := by decide +kernel
theorem dX13_log_50 : decode cX13_log 50 = .ok (.aaload, 1) := by decide +kernel
theorem dX13_log_51 : decode cX13_log 51 = .ok (.getfield 84, 3) := by decide +kernel
theorem dX13_log_54 : decode cX13_log 54 = .ok (.iload_n 2, 1) := by decide +kernel
theorem dX13_log_55 : decode cX13_log 55 = .ok (.iaload, 1) := by decide +kernel
theorem dX13_log_56 : decode cX13_log 56 = .ok (.invokevirtual 56, 3) := by decide +kernel
theorem dX13_log_59 : decode cX13_log 59 = .ok (.goto 8, 3) := by decide +kernel
theorem dX13_log_62 : decode cX13_log 62 = .ok (.aload_n 0, 1) := by decide +kernel
theorem dX13_log_63 : decode cX13_log 63 = .ok (.iconst 2, 1) := by decide +kernel
theorem dX13_log_64 : decode cX13_log 64 = .ok (.invokevirtual 52, 3) := by decide +kernel
theorem dX13_log_67 : decode cX13_log 67 = .ok (.ireturn, 1) := by decide +kernel
theorem dX13_character_0 : decode cX13_character 0 = .ok (.aload_n 0, 1) := by decide +kernel
theorem dX13_character_1 : decode cX13_character 1 = .ok (.iconst 0, 1) := by decide +kernel
theorem dX13_character_2 : decode cX13_character 2 = .ok (.putfield 46, 3) := by decide +kernel
theorem dX13_character_5 : decode cX13_character 5 = .ok (.aload_n 0, 1) := by decide +kernel
theorem dX13_character_6 : decode cX13_character 6 = .ok (.iload_n 1, 1) := by decide +kernel
theorem dX13_character_7 : decode cX13_character 7 = .ok (.iload_n 2, 1) := by decide +kernel
theorem dX13_character_8 : decode cX13_character 8 = .ok (.invokevirtual 384, 3) := by decide +kernel
theorem dX13_character_11 : decode cX13_character 11 = .ok (.ifCond .ne 9, 3) := by decide +kernel
theorem dX13_character_14 : decode cX13_character 14 = .ok (.aload_n 0, 1) := by decide +kernel
theorem dX13_character_15 : decode cX13_character 15 = .ok (.iconst 1, 1) := by decide +kernel
theorem dX13_character_16 : decode cX13_character 16 = .ok (.invokevirtual 52, 3) := by decide +kernel
theorem dX13_character_19 : decode cX13_character 19 = .ok (.ireturn, 1) := by decide +kernel
theorem dX13_character_20 : decode cX13_character 20 = .ok (.iload_n 3, 1) := by decide +kernel
theorem dX13_character_21 : decode cX13_character 21 = .ok (.iconst 0, 1) := by decide +kernel
theorem dX13_character_22 : decode cX13_character 22 = .ok (.aload_n 0, 1) := by decide +kernel
theorem dX13_character_23 : decode cX13_character 23 = .ok (.getfield 369, 3) := by decide +kernel
theorem dX13_character_26 : decode cX13_character 26 = .ok (.getfield 259, 3) := by decide +kernel
theorem dX13_character_29 : decode cX13_character 29 = .ok (.iload_n 1, 1) := by decide +kernel
theorem dX13_character_30 : decode cX13_character 30 = .ok (.aaload, 1) := by decide +kernel
theorem dX13_character_31 : decode cX13_character 31 = .ok (.getfield 81, 3) := by decide +kernel
theorem dX13_character_34 : decode cX13_character 34 = .ok (.iconst 1, 1) := by decide +kernel
theorem dX13_character_35 : decode cX13_character 35 = .ok (.isub, 1) := by decide +kernel
theorem dX13_character_36 : decode cX13_character 36 = .ok (.invokestatic 168, 3) := by decide +kernel
theorem dX13_character_39 : decode cX13_character 39 = .ok (.ifCond .eq 24, 3) := by decide +kernel
theorem dX13_character_42 : decode cX13_character 42 = .ok (.aload_n 0, 1) := by decide +kernel
theorem dX13_character_43 : decode cX13_character 43 = .ok (.aload_n 0, 1) := by decide +kernel
theorem dX13_character_44 : decode cX13_character 44 = .ok (.getfield 369, 3) := by decide +kernel
theorem dX13_character_47 : decode cX13_character 47 = .ok (.getfield 259, 3) := by decide +kernel
theorem dX13_character_50 : decode cX13_character 50 = .ok (.iload_n 1, 1) := by decide +kernel
theorem dX13_character_51 : decode cX13_character 51 = .ok (.aaload, 1) := by decide +kernel
theorem dX13_character_52 : decode cX13_character 52 = .ok (.iload_n 2, 1) := by decide +kernel
theorem dX13_character_53 : decode cX13_character 53 = .ok (.iload_n 3, 1) := by decide +kernel
theorem dX13_character_54 : decode cX13_character 54 = .ok (.invokestatic 87, 3) := by decide +kernel
theorem dX13_character_57 : decode cX13_character 57 = .ok (.invokevirtual 56, 3) := by decide +kernel
theorem dX13_character_60 : decode cX13_character 60 = .ok (.goto 8, 3) := by decide +kernel
theorem dX13_character_63 : decode cX13_character 63 = .ok (.aload_n 0, 1) := by decide +kernel
theorem dX13_character_64 : decode cX13_character 64 = .ok (.iconst 2, 1) := by decide +kernel
theorem dX13_character_65 : decode cX13_character 65 = .ok (.invokevirtual 52, 3) := by decide +kernel
theorem dX13_character_68 : decode cX13_character 68 = .ok (.ireturn, 1) := by decide +kernel
theorem dX13_sum_0 : decode cX13_sum 0 = .ok (.aload_n 0, 1) := by decide +kernel
theorem dX13_sum_1 : decode cX13_sum 1 = .ok (.iconst 0, 1) := by decide +kernel
theorem dX13_sum_2 : decode cX13_sum 2 = .ok (.putfield 46, 3) := by decide +kernel
theorem dX13_sum_5 : decode cX13_sum 5 = .ok (.aload_n 0, 1) := by decide +kernel
theorem dX13_sum_6 : decode cX13_sum 6 = .ok (.iload_n 1, 1) := by decide +kernel
theorem dX13_sum_7 : decode cX13_sum 7 = .ok (.iload_n 2, 1) := by decide +kernel
theorem dX13_sum_8 : decode cX13_sum 8 = .ok (.iload_n 3, 1) := by decide +kernel
theorem dX13_sum_9 : decode cX13_sum 9 = .ok (.invokevirtual 388, 3) := by decide +kernel
theorem dX13_sum_12 : decode cX13_sum 12 = .ok (.ifCond .eq 26, 3) := by decide +kernel
theorem dX13_sum_15 : decode cX13_sum 15 = .ok (.iload 4, 2) := by decide +kernel
theorem dX13_sum_17 : decode cX13_sum 17 = .ok (.iconst 0, 1) := by decide +kernel
theorem dX13_sum_18 : decode cX13_sum 18 = .ok (.aload_n 0, 1) := by decide +kernel
theorem dX13_sum_19 : decode cX13_sum 19 = .ok (.getfield 369, 3) := by decide +kernel
theorem dX13_sum_22 : decode cX13_sum 22 = .ok (.getfield 259, 3) := by decide +kernel
theorem dX13_sum_25 : decode cX13_sum 25 = .ok (.iload_n 1, 1) := by decide +kernel
theorem dX13_sum_26 : decode cX13_sum 26 = .ok (.aaload, 1) := by decide +kernel
theorem dX13_sum_27 : decode cX13_sum 27 = .ok (.getfield 64, 3) := by decide +kernel
theorem dX13_sum_30 : decode cX13_sum 30 = .ok (.iconst 1, 1) := by decide +kernel
theorem dX13_sum_31 : decode cX13_sum 31 = .ok (.isub, 1) := by decide +kernel
theorem dX13_sum_32 : decode cX13_sum 32 = .ok (.invokestatic 168, 3) := by decide +kernel
theorem dX13_sum_35 : decode cX13_sum 35 = .ok (.ifCond .ne 12, 3) := by decide +kernel
theorem dX13_sum_38 : decode cX13_sum 38 = .ok (.aload_n 0, 1) := by decide +kernel
theorem dX13_sum_39 : decode cX13_sum 39 = .ok (.iconst 1, 1) := by decide +kernel
theorem dX13_sum_40 : decode cX13_sum 40 = .ok (.sipush (-1000), 3) := by decide +kernel
theorem dX13_sum_43 : decode cX13_sum 43 = .ok (.invokevirtual 391, 3) := by decide +kernel
theorem dX13_sum_46 : decode cX13_sum 46 = .ok (.ireturn, 1) := by decide +kernel
theorem dX13_sum_47 : decode cX13_sum 47 = .ok (.aload_n 0, 1) := by decide +kernel
theorem dX13_sum_48 : decode cX13_sum 48 = .ok (.aload_n 0, 1) := by decide +kernel
theorem dX13_sum_49 : decode cX13_sum 49 = .ok (.getfield 369, 3) := by decide +kernel
theorem dX13_sum_52 : decode cX13_sum 52 = .ok (.getfield 259, 3) := by decide +kernel
theorem dX13_sum_55 : decode cX13_sum 55 = .ok (.iload_n 1, 1) := by decide +kernel
theorem dX13_sum_56 : decode cX13_sum 56 = .ok (.aaload, 1) := by decide +kernel
theorem dX13_sum_57 : decode cX13_sum 57 = .ok (.iload_n 2, 1) := by decide +kernel
theorem dX13_sum_58 : decode cX13_sum 58 = .ok (.iload_n 3, 1) := by decide +kernel
theorem dX13_sum_59 : decode cX13_sum 59 = .ok (.iconst 0, 1) := by decide +kernel
theorem dX13_sum_60 : decode cX13_sum 60 = .ok (.invokevirtual 353, 3) := by decide +kernel
theorem dX13_sum_63 : decode cX13_sum 63 = .ok (.aload_n 0, 1) := by decide +kernel
theorem dX13_sum_64 : decode cX13_sum 64 = .ok (.aload_n 0, 1) := by decide +kernel
theorem dX13_sum_65 : decode cX13_sum 65 = .ok (.getfield 13, 3) := by decide +kernel
theorem dX13_sum_68 : decode cX13_sum 68 = .ok (.iload 4, 2) := by decide +kernel
theorem dX13_sum_70 : decode cX13_sum 70 = .ok (.laload, 1) := by decide +kernel
theorem dX13_sum_71 : decode cX13_sum 71 = .ok (.l2i, 1) := by decide +kernel
theorem dX13_sum_72 : decode cX13_sum 72 = .ok (.invokevirtual 56, 3) := by decide +kernel
theorem dX13_sum_75 : decode cX13_sum 75 = .ok (.ireturn, 1) := by decide +kernel
theorem dX13_norm_0 : decode cX13_norm 0 = .ok (.aload_n 0, 1) := by decide +kernel
theorem dX13_norm_1 : decode cX13_norm 1 = .ok (.iconst 0, 1) := by decide +kernel
theorem dX13_norm_2 : decode cX13_norm 2 = .ok (.putfield 46, 3) := by decide +kernel
theorem dX13_norm_5 : decode cX13_norm 5 = .ok (.aload_n 0, 1) := by decide +kernel
theorem dX13_norm_6 : decode cX13_norm 6 = .ok (.iload_n 1, 1) := by decide +kernel
theorem dX13_norm_7 : decode cX13_norm 7 = .ok (.iload_n 2, 1) := by decide +kernel
theorem dX13_norm_8 : decode cX13_norm 8 = .ok (.iload_n 3, 1) := by decide +kernel
theorem dX13_norm_9 : decode cX13_norm 9 = .ok (.invokevirtual 388, 3) := by decide +kernel
theorem dX13_norm_12 : decode cX13_norm 12 = .ok (.ifCond .ne 9, 3) := by decide +kernel
theorem dX13_norm_15 : decode cX13_norm 15 = .ok (.aload_n 0, 1) := by decide +kernel
theorem dX13_norm_16 : decode cX13_norm 16 = .ok (.iconst 1, 1) := by decide +kernel
theorem dX13_norm_17 : decode cX13_norm 17 = .ok (.invokevirtual 52, 3) := by decide +kernel
theorem dX13_norm_20 : decode cX13_norm 20 = .ok (.ireturn, 1) := by decide +kernel
theorem dX13_norm_21 : decode cX13_norm 21 = .ok (.aload_n 0, 1) := by decide +kernel
theorem dX13_norm_22 : decode cX13_norm 22 = .ok (.getfield 369, 3) := by decide +kernel
theorem dX13_norm_25 : decode cX13_norm 25 = .ok (.getfield 259, 3) := by decide +kernel
theorem dX13_norm_28 : decode cX13_norm 28 = .ok (.iload_n 1, 1) := by decide +kernel
theorem dX13_norm_29 : decode cX13_norm 29 = .ok (.aaload, 1) := by decide +kernel
theorem dX13_norm_30 : decode cX13_norm 30 = .ok (.astore 4, 2) := by decide +kernel
theorem dX13_norm_32 : decode cX13_norm 32 = .ok (.aload_n 0, 1) := by decide +kernel
theorem dX13_norm_33 : decode cX13_norm 33 = .ok (.aload 4, 2) := by decide +kernel
theorem dX13_norm_35 : decode cX13_norm 35 = .ok (.iload_n 2, 1) := by decide +kernel
theorem dX13_norm_36 : decode cX13_norm 36 = .ok (.iload_n 3, 1) := by decide +kernel
theorem dX13_norm_37 : decode cX13_norm 37 = .ok (.iconst 0, 1) := by decide +kernel
theorem dX13_norm_38 : decode cX13_norm 38 = .ok (.invokevirtual 353, 3) := by decide +kernel
theorem dX13_norm_41 : decode cX13_norm 41 = .ok (.aload_n 0, 1) := by decide +kernel
theorem dX13_norm_42 : decode cX13_norm 42 = .ok (.aload 4, 2) := by decide +kernel
theorem dX13_norm_44 : decode cX13_norm 44 = .ok (.iconst 0, 1) := by decide +kernel
theorem dX13_norm_45 : decode cX13_norm 45 = .ok (.aload 4, 2) := by decide +kernel
theorem dX13_norm_47 : decode cX13_norm 47 = .ok (.getfield 59, 3) := by decide +kernel
theorem dX13_norm_50 : decode cX13_norm 50 = .ok (.iconst 1, 1) := by decide +kernel
theorem dX13_norm_51 : decode cX13_norm 51 = .ok (.isub, 1) := by decide +kernel
theorem dX13_norm_52 : decode cX13_norm 52 = .ok (.iconst 1, 1) := by decide +kernel
theorem dX13_norm_53 : decode cX13_norm 53 = .ok (.invokevirtual 359, 3) := by decide +kernel
theorem dX13_norm_56 : decode cX13_norm 56 = .ok (.aload_n 0, 1) := by decide +kernel
theorem dX13_norm_57 : decode cX13_norm 57 = .ok (.aload 4, 2) := by decide +kernel
theorem dX13_norm_59 : decode cX13_norm 59 = .ok (.iconst 0, 1) := by decide +kernel
theorem dX13_norm_60 : decode cX13_norm 60 = .ok (.iconst 1, 1) := by decide +kernel
theorem dX13_norm_61 : decode cX13_norm 61 = .ok (.iconst 2, 1) := by decide +kernel
theorem dX13_norm_62 : decode cX13_norm 62 = .ok (.invokevirtual 334, 3) := by decide +kernel
theorem dX13_norm_65 : decode cX13_norm 65 = .ok (.aload_n 0, 1) := by decide +kernel
theorem dX13_norm_66 : decode cX13_norm 66 = .ok (.aload_n 0, 1) := by decide +kernel
theorem dX13_norm_67 : decode cX13_norm 67 = .ok (.iconst 2, 1) := by decide +kernel
theorem dX13_norm_68 : decode cX13_norm 68 = .ok (.invokevirtual 394, 3) := by decide +kernel
theorem dX13_norm_71 : decode cX13_norm 71 = .ok (.ifCond .eq 14, 3) := by decide +kernel
theorem dX13_norm_74 : decode cX13_norm 74 = .ok (.aload_n 0, 1) := by decide +kernel
theorem dX13_norm_75 : decode cX13_norm 75 = .ok (.getfield 13, 3) := by decide +kernel
theorem dX13_norm_78 : decode cX13_norm 78 = .ok (.bipush 24, 2) := by decide +kernel
theorem dX13_norm_80 : decode cX13_norm 80 = .ok (.laload, 1) := by decide +kernel
theorem dX13_norm_81 : decode cX13_norm 81 = .ok (.l2i, 1) := by decide +kernel
theorem dX13_norm_82 : decode cX13_norm 82 = .ok (.goto 5, 3) := by decide +kernel
theorem dX13_norm_85 : decode cX13_norm 85 = .ok (.bipush (-2), 2) := by decide +kernel
theorem dX13_norm_87 : decode cX13_norm 87 = .ok (.invokevirtual 56, 3) := by decide +kernel
theorem dX13_norm_90 : decode cX13_norm 90 = .ok (.ireturn, 1) := by decide +kernel
theorem dX13_relation_0 : decode cX13_relation 0 = .ok (.aload_n 0, 1) := by decide +kernel
theorem dX13_relation_1 : decode cX13_relation 1 = .ok (.iconst 0, 1) := by decide +kernel
theorem dX13_relation_2 : decode cX13_relation 2 = .ok (.putfield 46, 3) := by decide +kernel
theorem dX13_relation_5 : decode cX13_relation 5 = .ok (.aload_n 0, 1) := by decide +kernel
theorem dX13_relation_6 : decode cX13_relation 6 = .ok (.iload_n 1, 1) := by decide +kernel
theorem dX13_relation_7 : decode cX13_relation 7 = .ok (.iload_n 2, 1) := by decide +kernel
theorem dX13_relation_8 : decode cX13_relation 8 = .ok (.iload_n 3, 1) := by decide +kernel
theorem dX13_relation_9 : decode cX13_relation 9 = .ok (.invokevirtual 388, 3) := by decide +kernel
theorem dX13_relation_12 : decode cX13_relation 12 = .ok (.ifCond .eq 13, 3) := by decide +kernel
theorem dX13_relation_15 : decode cX13_relation 15 = .ok (.aload_n 0, 1) := by decide +kernel
theorem dX13_relation_16 : decode cX13_relation 16 = .ok (.iload_n 1, 1) := by decide +kernel
theorem dX13_relation_17 : decode cX13_relation 17 = .ok (.iload 4, 2) := by decide +kernel
theorem dX13_relation_19 : decode cX13_relation 19 = .ok (.invokevirtual 384, 3) := by decide +kernel
theorem dX13_relation_22 : decode cX13_relation 22 = .ok (.ifCond .ne 9, 3) := by decide +kernel
theorem dX13_relation_25 : decode cX13_relation 25 = .ok (.aload_n 0, 1) := by decide +kernel
theorem dX13_relation_26 : decode cX13_relation 26 = .ok (.iconst 1, 1) := by decide +kernel
theorem dX13_relation_27 : decode cX13_relation 27 = .ok (.invokevirtual 52, 3) := by decide +kernel
theorem dX13_relation_30 : decode cX13_relation 30 = .ok (.ireturn, 1) := by decide +kernel
theorem dX13_relation_31 : decode cX13_relation 31 = .ok (.aload_n 0, 1) := by decide +kernel
theorem dX13_relation_32 : decode cX13_relation 32 = .ok (.getfield 369, 3) := by decide +kernel
theorem dX13_relation_35 : decode cX13_relation 35 = .ok (.getfield 259, 3) := by decide +kernel
theorem dX13_relation_38 : decode cX13_relation 38 = .ok (.iload_n 1, 1) := by decide +kernel
theorem dX13_relation_39 : decode cX13_relation 39 = .ok (.aaload, 1) := by decide +kernel
theorem dX13_relation_40 : decode cX13_relation 40 = .ok (.astore 5, 2) := by decide +kernel
theorem dX13_relation_42 : decode cX13_relation 42 = .ok (.aload_n 0, 1) := by decide +kernel
theorem dX13_relation_43 : decode cX13_relation 43 = .ok (.aload 5, 2) := by decide +kernel
theorem dX13_relation_45 : decode cX13_relation 45 = .ok (.iload_n 2, 1) := by decide +kernel
theorem dX13_relation_46 : decode cX13_relation 46 = .ok (.iload_n 3, 1) := by decide +kernel
theorem dX13_relation_47 : decode cX13_relation 47 = .ok (.iconst 0, 1) := by decide +kernel
theorem dX13_relation_48 : decode cX13_relation 48 = .ok (.invokevirtual 353, 3) := by decide +kernel
theorem dX13_relation_51 : decode cX13_relation 51 = .ok (.aload_n 0, 1) := by decide +kernel
theorem dX13_relation_52 : decode cX13_relation 52 = .ok (.aload 5, 2) := by decide +kernel
theorem dX13_relation_54 : decode cX13_relation 54 = .ok (.iload_n 2, 1) := by decide +kernel
theorem dX13_relation_55 : decode cX13_relation 55 = .ok (.iload_n 3, 1) := by decide +kernel
theorem dX13_relation_56 : decode cX13_relation 56 = .ok (.iadd, 1) := by decide +kernel
theorem dX13_relation_57 : decode cX13_relation 57 = .ok (.aload 5, 2) := by decide +kernel
theorem dX13_relation_59 : decode cX13_relation 59 = .ok (.getfield 59, 3) := by decide +kernel
theorem dX13_relation_62 : decode cX13_relation 62 = .ok (.irem, 1) := by decide +kernel
theorem dX13_relation_63 : decode cX13_relation 63 = .ok (.iload 4, 2) := by decide +kernel
theorem dX13_relation_65 : decode cX13_relation 65 = .ok (.iconst 1, 1) := by decide +kernel
theorem dX13_relation_66 : decode cX13_relation 66 = .ok (.invokevirtual 353, 3) := by decide +kernel
theorem dX13_relation_69 : decode cX13_relation 69 = .ok (.aload_n 0, 1) := by decide +kernel
theorem dX13_relation_70 : decode cX13_relation 70 = .ok (.aload 5, 2) := by decide +kernel
theorem dX13_relation_72 : decode cX13_relation 72 = .ok (.iconst 0, 1) := by decide +kernel
theorem dX13_relation_73 : decode cX13_relation 73 = .ok (.iconst 1, 1) := by decide +kernel
theorem dX13_relation_74 : decode cX13_relation 74 = .ok (.iconst 2, 1) := by decide +kernel
theorem dX13_relation_75 : decode cX13_relation 75 = .ok (.invokevirtual 334, 3) := by decide +kernel
theorem dX13_relation_78 : decode cX13_relation 78 = .ok (.aload_n 0, 1) := by decide +kernel
theorem dX13_relation_79 : decode cX13_relation 79 = .ok (.aload 5, 2) := by decide +kernel
theorem dX13_relation_81 : decode cX13_relation 81 = .ok (.iload_n 3, 1) := by decide +kernel
theorem dX13_relation_82 : decode cX13_relation 82 = .ok (.iload 4, 2) := by decide +kernel
theorem dX13_relation_84 : decode cX13_relation 84 = .ok (.iconst 0, 1) := by decide +kernel
theorem dX13_relation_85 : decode cX13_relation 85 = .ok (.invokevirtual 353, 3) := by decide +kernel
theorem dX13_relation_88 : decode cX13_relation 88 = .ok (.aload_n 0, 1) := by decide +kernel
theorem dX13_relation_89 : decode cX13_relation 89 = .ok (.aload 5, 2) := by decide +kernel
theorem dX13_relation_91 : decode cX13_relation 91 = .ok (.iload_n 2, 1) := by decide +kernel
theorem dX13_relation_92 : decode cX13_relation 92 = .ok (.iload_n 3, 1) := by decide +kernel
theorem dX13_relation_93 : decode cX13_relation 93 = .ok (.iload 4, 2) := by decide +kernel
theorem dX13_relation_95 : decode cX13_relation 95 = .ok (.iadd, 1) := by decide +kernel
theorem dX13_relation_96 : decode cX13_relation 96 = .ok (.aload 5, 2) := by decide +kernel
theorem dX13_relation_98 : decode cX13_relation 98 = .ok (.getfield 59, 3) := by decide +kernel
theorem dX13_relation_101 : decode cX13_relation 101 = .ok (.irem, 1) := by decide +kernel
theorem dX13_relation_102 : decode cX13_relation 102 = .ok (.iconst 1, 1) := by decide +kernel
theorem dX13_relation_103 : decode cX13_relation 103 = .ok (.invokevirtual 353, 3) := by decide +kernel
theorem dX13_relation_106 : decode cX13_relation 106 = .ok (.aload_n 0, 1) := by decide +kernel
theorem dX13_relation_107 : decode cX13_relation 107 = .ok (.aload 5, 2) := by decide +kernel
theorem dX13_relation_109 : decode cX13_relation 109 = .ok (.iconst 0, 1) := by decide +kernel
theorem dX13_relation_110 : decode cX13_relation 110 = .ok (.iconst 1, 1) := by decide +kernel
theorem dX13_relation_111 : decode cX13_relation 111 = .ok (.iconst 3, 1) := by decide +kernel
theorem dX13_relation_112 : decode cX13_relation 112 = .ok (.invokevirtual 334, 3) := by decide +kernel
theorem dX13_relation_115 : decode cX13_relation 115 = .ok (.aload_n 0, 1) := by decide +kernel
theorem dX13_relation_116 : decode cX13_relation 116 = .ok (.aload_n 0, 1) := by decide +kernel
theorem dX13_relation_117 : decode cX13_relation 117 = .ok (.iconst 2, 1) := by decide +kernel
theorem dX13_relation_118 : decode cX13_relation 118 = .ok (.iconst 3, 1) := by decide +kernel
theorem dX13_relation_119 : decode cX13_relation 119 = .ok (.invokevirtual 397, 3) := by decide +kernel
theorem dX13_relation_122 : decode cX13_relation 122 = .ok (.ifCond .eq 7, 3) := by decide +kernel
theorem dX13_relation_125 : decode cX13_relation 125 = .ok (.iconst 1, 1) := by decide +kernel
theorem dX13_relation_126 : decode cX13_relation 126 = .ok (.goto 4, 3) := by decide +kernel
theorem dX13_relation_129 : decode cX13_relation 129 = .ok (.iconst 0, 1) := by decide +kernel
theorem dX13_relation_130 : decode cX13_relation 130 = .ok (.invokevirtual 56, 3) := by decide +kernel
theorem dX13_relation_133 : decode cX13_relation 133 = .ok (.ireturn, 1) := by decide +kernel
theorem dX13_part_0 : decode cX13_part 0 = .ok (.aload_n 0, 1) := by decide +kernel
theorem dX13_part_1 : decode cX13_part 1 = .ok (.iconst 0, 1) := by decide +kernel
theorem dX13_part_2 : decode cX13_part 2 = .ok (.putfield 46, 3) := by decide +kernel
theorem dX13_part_5 : decode cX13_part 5 = .ok (.aload_n 0, 1) := by decide +kernel
theorem dX13_part_6 : decode cX13_part 6 = .ok (.iload_n 1, 1) := by decide +kernel
theorem dX13_part_7 : decode cX13_part 7 = .ok (.iload_n 2, 1) := by decide +kernel
theorem dX13_part_8 : decode cX13_part 8 = .ok (.iload_n 3, 1) := by decide +kernel
theorem dX13_part_9 : decode cX13_part 9 = .ok (.invokevirtual 388, 3) := by decide +kernel
theorem dX13_part_12 : decode cX13_part 12 = .ok (.ifCond .ne 9, 3) := by decide +kernel
theorem dX13_part_15 : decode cX13_part 15 = .ok (.aload_n 0, 1) := by decide +kernel
theorem dX13_part_16 : decode cX13_part 16 = .ok (.iconst 1, 1) := by decide +kernel
theorem dX13_part_17 : decode cX13_part 17 = .ok (.invokevirtual 52, 3) := by decide +kernel
theorem dX13_part_20 : decode cX13_part 20 = .ok (.ireturn, 1) := by decide +kernel
theorem dX13_part_21 : decode cX13_part 21 = .ok (.aload_n 0, 1) := by decide +kernel
theorem dX13_part_22 : decode cX13_part 22 = .ok (.getfield 369, 3) := by decide +kernel
theorem dX13_part_25 : decode cX13_part 25 = .ok (.getfield 259, 3) := by decide +kernel
theorem dX13_part_28 : decode cX13_part 28 = .ok (.iload_n 1, 1) := by decide +kernel
theorem dX13_part_29 : decode cX13_part 29 = .ok (.aaload, 1) := by decide +kernel
theorem dX13_part_30 : decode cX13_part 30 = .ok (.iload 4, 2) := by decide +kernel
theorem dX13_part_32 : decode cX13_part 32 = .ok (.invokevirtual 347, 3) := by decide +kernel
theorem dX13_part_35 : decode cX13_part 35 = .ok (.ifCond .ne 9, 3) := by decide +kernel
theorem dX13_part_38 : decode cX13_part 38 = .ok (.aload_n 0, 1) := by decide +kernel
theorem dX13_part_39 : decode cX13_part 39 = .ok (.iconst 2, 1) := by decide +kernel
theorem dX13_part_40 : decode cX13_part 40 = .ok (.invokevirtual 52, 3) := by decide +kernel
theorem dX13_part_43 : decode cX13_part 43 = .ok (.ireturn, 1) := by decide +kernel
theorem dX13_part_44 : decode cX13_part 44 = .ok (.aload_n 0, 1) := by decide +kernel
theorem dX13_part_45 : decode cX13_part 45 = .ok (.aload_n 0, 1) := by decide +kernel
theorem dX13_part_46 : decode cX13_part 46 = .ok (.getfield 369, 3) := by decide +kernel
theorem dX13_part_49 : decode cX13_part 49 = .ok (.getfield 259, 3) := by decide +kernel
theorem dX13_part_52 : decode cX13_part 52 = .ok (.iload_n 1, 1) := by decide +kernel
theorem dX13_part_53 : decode cX13_part 53 = .ok (.aaload, 1) := by decide +kernel
theorem dX13_part_54 : decode cX13_part 54 = .ok (.iload_n 2, 1) := by decide +kernel
theorem dX13_part_55 : decode cX13_part 55 = .ok (.iload_n 3, 1) := by decide +kernel
theorem dX13_part_56 : decode cX13_part 56 = .ok (.iconst 0, 1) := by decide +kernel
theorem dX13_part_57 : decode cX13_part 57 = .ok (.invokevirtual 353, 3) := by decide +kernel
theorem dX13_part_60 : decode cX13_part 60 = .ok (.aload_n 0, 1) := by decide +kernel
theorem dX13_part_61 : decode cX13_part 61 = .ok (.aload_n 0, 1) := by decide +kernel
theorem dX13_part_62 : decode cX13_part 62 = .ok (.aload_n 0, 1) := by decide +kernel
theorem dX13_part_63 : decode cX13_part 63 = .ok (.getfield 369, 3) := by decide +kernel
theorem dX13_part_66 : decode cX13_part 66 = .ok (.getfield 259, 3) := by decide +kernel
theorem dX13_part_69 : decode cX13_part 69 = .ok (.iload_n 1, 1) := by decide +kernel
theorem dX13_part_70 : decode cX13_part 70 = .ok (.aaload, 1) := by decide +kernel
theorem dX13_part_71 : decode cX13_part 71 = .ok (.iconst 0, 1) := by decide +kernel
theorem dX13_part_72 : decode cX13_part 72 = .ok (.iload 4, 2) := by decide +kernel
theorem dX13_part_74 : decode cX13_part 74 = .ok (.invokevirtual 400, 3) := by decide +kernel
theorem dX13_part_77 : decode cX13_part 77 = .ok (.invokevirtual 56, 3) := by decide +kernel
theorem dX13_part_80 : decode cX13_part 80 = .ok (.ireturn, 1) := by decide +kernel
theorem dX13_law_0 : decode cX13_law 0 = .ok (.aload_n 0, 1) := by decide +kernel
theorem dX13_law_1 : decode cX13_law 1 = .ok (.iconst 0, 1) := by decide +kernel
theorem dX13_law_2 : decode cX13_law 2 = .ok (.putfield 46, 3) := by decide +kernel
theorem dX13_law_5 : decode cX13_law 5 = .ok (.aload_n 0, 1) := by decide +kernel
theorem dX13_law_6 : decode cX13_law 6 = .ok (.iload_n 1, 1) := by decide +kernel
theorem dX13_law_7 : decode cX13_law 7 = .ok (.iload_n 2, 1) := by decide +kernel
theorem dX13_law_8 : decode cX13_law 8 = .ok (.iload_n 3, 1) := by decide +kernel
theorem dX13_law_9 : decode cX13_law 9 = .ok (.invokevirtual 388, 3) := by decide +kernel
theorem dX13_law_12 : decode cX13_law 12 = .ok (.ifCond .ne 9, 3) := by decide +kernel
theorem dX13_law_15 : decode cX13_law 15 = .ok (.aload_n 0, 1) := by decide +kernel
theorem dX13_law_16 : decode cX13_law 16 = .ok (.iconst 1, 1) := by decide +kernel
theorem dX13_law_17 : decode cX13_law 17 = .ok (.invokevirtual 52, 3) := by decide +kernel
theorem dX13_law_20 : decode cX13_law 20 = .ok (.ireturn, 1) := by decide +kernel
theorem dX13_law_21 : decode cX13_law 21 = .ok (.aload_n 0, 1) := by decide +kernel
theorem dX13_law_22 : decode cX13_law 22 = .ok (.getfield 369, 3) := by decide +kernel
theorem dX13_law_25 : decode cX13_law 25 = .ok (.getfield 259, 3) := by decide +kernel
theorem dX13_law_28 : decode cX13_law 28 = .ok (.iload_n 1, 1) := by decide +kernel
theorem dX13_law_29 : decode cX13_law 29 = .ok (.aaload, 1) := by decide +kernel
theorem dX13_law_30 : decode cX13_law 30 = .ok (.astore 5, 2) := by decide +kernel
theorem dX13_law_32 : decode cX13_law 32 = .ok (.aload 5, 2) := by decide +kernel
theorem dX13_law_34 : decode cX13_law 34 = .ok (.iload 4, 2) := by decide +kernel
theorem dX13_law_36 : decode cX13_law 36 = .ok (.invokevirtual 347, 3) := by decide +kernel
theorem dX13_law_39 : decode cX13_law 39 = .ok (.ifCond .ne 9, 3) := by decide +kernel
theorem dX13_law_42 : decode cX13_law 42 = .ok (.aload_n 0, 1) := by decide +kernel
theorem dX13_law_43 : decode cX13_law 43 = .ok (.iconst 2, 1) := by decide +kernel
theorem dX13_law_44 : decode cX13_law 44 = .ok (.invokevirtual 52, 3) := by decide +kernel
theorem dX13_law_47 : decode cX13_law 47 = .ok (.ireturn, 1) := by decide +kernel
theorem dX13_law_48 : decode cX13_law 48 = .ok (.iload_n 2, 1) := by decide +kernel
theorem dX13_law_49 : decode cX13_law 49 = .ok (.ifCond .eq 19, 3) := by decide +kernel
theorem dX13_law_52 : decode cX13_law 52 = .ok (.iload_n 3, 1) := by decide +kernel
theorem dX13_law_53 : decode cX13_law 53 = .ok (.ifCond .eq 15, 3) := by decide +kernel
theorem dX13_law_56 : decode cX13_law 56 = .ok (.iload_n 2, 1) := by decide +kernel
theorem dX13_law_57 : decode cX13_law 57 = .ok (.iload_n 3, 1) := by decide +kernel
theorem dX13_law_58 : decode cX13_law 58 = .ok (.iadd, 1) := by decide +kernel
theorem dX13_law_59 : decode cX13_law 59 = .ok (.aload 5, 2) := by decide +kernel
theorem dX13_law_61 : decode cX13_law 61 = .ok (.getfield 59, 3) := by decide +kernel
theorem dX13_law_64 : decode cX13_law 64 = .ok (.irem, 1) := by decide +kernel
theorem dX13_law_65 : decode cX13_law 65 = .ok (.ifCond .ne 9, 3) := by decide +kernel
theorem dX13_law_68 : decode cX13_law 68 = .ok (.aload_n 0, 1) := by decide +kernel
theorem dX13_law_69 : decode cX13_law 69 = .ok (.iconst 5, 1) := by decide +kernel
theorem dX13_law_70 : decode cX13_law 70 = .ok (.invokevirtual 52, 3) := by decide +kernel
theorem dX13_law_73 : decode cX13_law 73 = .ok (.ireturn, 1) := by decide +kernel
theorem dX13_law_74 : decode cX13_law 74 = .ok (.aload_n 0, 1) := by decide +kernel
theorem dX13_law_75 : decode cX13_law 75 = .ok (.iload 4, 2) := by decide +kernel
theorem dX13_law_77 : decode cX13_law 77 = .ok (.iload_n 2, 1) := by decide +kernel
theorem dX13_law_78 : decode cX13_law 78 = .ok (.imul, 1) := by decide +kernel
theorem dX13_law_79 : decode cX13_law 79 = .ok (.aload 5, 2) := by decide +kernel
theorem dX13_law_81 : decode cX13_law 81 = .ok (.getfield 59, 3) := by decide +kernel
theorem dX13_law_84 : decode cX13_law 84 = .ok (.irem, 1) := by decide +kernel
theorem dX13_law_85 : decode cX13_law 85 = .ok (.iload 4, 2) := by decide +kernel
theorem dX13_law_87 : decode cX13_law 87 = .ok (.iload_n 3, 1) := by decide +kernel
theorem dX13_law_88 : decode cX13_law 88 = .ok (.imul, 1) := by decide +kernel
theorem dX13_law_89 : decode cX13_law 89 = .ok (.aload 5, 2) := by decide +kernel
theorem dX13_law_91 : decode cX13_law 91 = .ok (.getfield 59, 3) := by decide +kernel
theorem dX13_law_94 : decode cX13_law 94 = .ok (.irem, 1) := by decide +kernel
theorem dX13_law_95 : decode cX13_law 95 = .ok (.iadd, 1) := by decide +kernel
theorem dX13_law_96 : decode cX13_law 96 = .ok (.aload 5, 2) := by decide +kernel
theorem dX13_law_98 : decode cX13_law 98 = .ok (.getfield 59, 3) := by decide +kernel
theorem dX13_law_101 : decode cX13_law 101 = .ok (.if_icmp .ge 7, 3) := by decide +kernel
theorem dX13_law_104 : decode cX13_law 104 = .ok (.iconst 1, 1) := by decide +kernel
theorem dX13_law_105 : decode cX13_law 105 = .ok (.goto 4, 3) := by decide +kernel
theorem dX13_law_108 : decode cX13_law 108 = .ok (.iconst 0, 1) := by decide +kernel
theorem dX13_law_109 : decode cX13_law 109 = .ok (.invokevirtual 56, 3) := by decide +kernel
theorem dX13_law_112 : decode cX13_law 112 = .ok (.ireturn, 1) := by decide +kernel
theorem dX13_parts_0 : decode cX13_parts 0 = .ok (.aload_n 0, 1) := by decide +kernel
theorem dX13_parts_1 : decode cX13_parts 1 = .ok (.iconst 0, 1) := by decide +kernel
theorem dX13_parts_2 : decode cX13_parts 2 = .ok (.putfield 46, 3) := by decide +kernel
theorem dX13_parts_5 : decode cX13_parts 5 = .ok (.aload_n 0, 1) := by decide +kernel
theorem dX13_parts_6 : decode cX13_parts 6 = .ok (.iload_n 1, 1) := by decide +kernel
theorem dX13_parts_7 : decode cX13_parts 7 = .ok (.iload_n 2, 1) := by decide +kernel
theorem dX13_parts_8 : decode cX13_parts 8 = .ok (.iload_n 3, 1) := by decide +kernel
theorem dX13_parts_9 : decode cX13_parts 9 = .ok (.invokevirtual 388, 3) := by decide +kernel
theorem dX13_parts_12 : decode cX13_parts 12 = .ok (.ifCond .ne 9, 3) := by decide +kernel
theorem dX13_parts_15 : decode cX13_parts 15 = .ok (.aload_n 0, 1) := by decide +kernel
theorem dX13_parts_16 : decode cX13_parts 16 = .ok (.iconst 1, 1) := by decide +kernel
theorem dX13_parts_17 : decode cX13_parts 17 = .ok (.invokevirtual 52, 3) := by decide +kernel
theorem dX13_parts_20 : decode cX13_parts 20 = .ok (.ireturn, 1) := by decide +kernel
theorem dX13_parts_21 : decode cX13_parts 21 = .ok (.aload_n 0, 1) := by decide +kernel
theorem dX13_parts_22 : decode cX13_parts 22 = .ok (.getfield 369, 3) := by decide +kernel
theorem dX13_parts_25 : decode cX13_parts 25 = .ok (.getfield 259, 3) := by decide +kernel
theorem dX13_parts_28 : decode cX13_parts 28 = .ok (.iload_n 1, 1) := by decide +kernel
theorem dX13_parts_29 : decode cX13_parts 29 = .ok (.aaload, 1) := by decide +kernel
theorem dX13_parts_30 : decode cX13_parts 30 = .ok (.astore 4, 2) := by decide +kernel
theorem dX13_parts_32 : decode cX13_parts 32 = .ok (.aload_n 0, 1) := by decide +kernel
theorem dX13_parts_33 : decode cX13_parts 33 = .ok (.aload 4, 2) := by decide +kernel
theorem dX13_parts_35 : decode cX13_parts 35 = .ok (.iload_n 2, 1) := by decide +kernel
theorem dX13_parts_36 : decode cX13_parts 36 = .ok (.iload_n 3, 1) := by decide +kernel
theorem dX13_parts_37 : decode cX13_parts 37 = .ok (.iconst 0, 1) := by decide +kernel
theorem dX13_parts_38 : decode cX13_parts 38 = .ok (.invokevirtual 353, 3) := by decide +kernel
theorem dX13_parts_41 : decode cX13_parts 41 = .ok (.iconst 0, 1) := by decide +kernel
theorem dX13_parts_42 : decode cX13_parts 42 = .ok (.istore 5, 2) := by decide +kernel
theorem dX13_parts_44 : decode cX13_parts 44 = .ok (.iconst 1, 1) := by decide +kernel
theorem dX13_parts_45 : decode cX13_parts 45 = .ok (.istore 6, 2) := by decide +kernel
theorem dX13_parts_47 : decode cX13_parts 47 = .ok (.iload 6, 2) := by decide +kernel
theorem dX13_parts_49 : decode cX13_parts 49 = .ok (.aload 4, 2) := by decide +kernel
theorem dX13_parts_51 : decode cX13_parts 51 = .ok (.getfield 59, 3) := by decide +kernel
theorem dX13_parts_54 : decode cX13_parts 54 = .ok (.if_icmp .ge 41, 3) := by decide +kernel
theorem dX13_parts_57 : decode cX13_parts 57 = .ok (.iload 5, 2) := by decide +kernel
theorem dX13_parts_59 : decode cX13_parts 59 = .ok (.aload 4, 2) := by decide +kernel
theorem dX13_parts_61 : decode cX13_parts 61 = .ok (.iload 6, 2) := by decide +kernel
theorem dX13_parts_63 : decode cX13_parts 63 = .ok (.invokevirtual 347, 3) := by decide +kernel
theorem dX13_parts_66 : decode cX13_parts 66 = .ok (.ifCond .eq 19, 3) := by decide +kernel
theorem dX13_parts_69 : decode cX13_parts 69 = .ok (.aload_n 0, 1) := by decide +kernel
theorem dX13_parts_70 : decode cX13_parts 70 = .ok (.aload 4, 2) := by decide +kernel
theorem dX13_parts_72 : decode cX13_parts 72 = .ok (.iconst 0, 1) := by decide +kernel
theorem dX13_parts_73 : decode cX13_parts 73 = .ok (.iload 6, 2) := by decide +kernel
theorem dX13_parts_75 : decode cX13_parts 75 = .ok (.invokevirtual 400, 3) := by decide +kernel
theorem dX13_parts_78 : decode cX13_parts 78 = .ok (.ifCond .ne 7, 3) := by decide +kernel
theorem dX13_parts_81 : decode cX13_parts 81 = .ok (.iconst 1, 1) := by decide +kernel
theorem dX13_parts_82 : decode cX13_parts 82 = .ok (.goto 4, 3) := by decide +kernel
theorem dX13_parts_85 : decode cX13_parts 85 = .ok (.iconst 0, 1) := by decide +kernel
theorem dX13_parts_86 : decode cX13_parts 86 = .ok (.iadd, 1) := by decide +kernel
theorem dX13_parts_87 : decode cX13_parts 87 = .ok (.istore 5, 2) := by decide +kernel
theorem dX13_parts_89 : decode cX13_parts 89 = .ok (.iinc 6 1, 3) := by decide +kernel
theorem dX13_parts_92 : decode cX13_parts 92 = .ok (.goto (-45), 3) := by decide +kernel
theorem dX13_parts_95 : decode cX13_parts 95 = .ok (.aload_n 0, 1) := by decide +kernel
theorem dX13_parts_96 : decode cX13_parts 96 = .ok (.iload 5, 2) := by decide +kernel
theorem dX13_parts_98 : decode cX13_parts 98 = .ok (.invokevirtual 56, 3) := by decide +kernel
theorem dX13_parts_101 : decode cX13_parts 101 = .ok (.ireturn, 1) := by decide +kernel
theorem dX13_isLet_0 : decode cX13_isLet 0 = .ok (.aload_n 0, 1) := by decide +kernel
theorem dX13_isLet_1 : decode cX13_isLet 1 = .ok (.getfield 369, 3) := by decide +kernel
theorem dX13_isLet_4 : decode cX13_isLet 4 = .ok (.ifnull 22, 3) := by decide +kernel
theorem dX13_isLet_7 : decode cX13_isLet 7 = .ok (.iload_n 1, 1) := by decide +kernel
theorem dX13_isLet_8 : decode cX13_isLet 8 = .ok (.ifCond .lt 18, 3) := by decide +kernel
theorem dX13_isLet_11 : decode cX13_isLet 11 = .ok (.iload_n 1, 1) := by decide +kernel
theorem dX13_isLet_12 : decode cX13_isLet 12 = .ok (.aload_n 0, 1) := by decide +kernel
theorem dX13_isLet_13 : decode cX13_isLet 13 = .ok (.getfield 369, 3) := by decide +kernel
theorem dX13_isLet_16 : decode cX13_isLet 16 = .ok (.getfield 301, 3) := by decide +kernel
theorem dX13_isLet_19 : decode cX13_isLet 19 = .ok (.if_icmp .ge 7, 3) := by decide +kernel
theorem dX13_isLet_22 : decode cX13_isLet 22 = .ok (.iconst 1, 1) := by decide +kernel
theorem dX13_isLet_23 : decode cX13_isLet 23 = .ok (.goto 4, 3) := by decide +kernel
theorem dX13_isLet_26 : decode cX13_isLet 26 = .ok (.iconst 0, 1) := by decide +kernel
theorem dX13_isLet_27 : decode cX13_isLet 27 = .ok (.ireturn, 1) := by decide +kernel
theorem dX13_fieldOf_0 : decode cX13_fieldOf 0 = .ok (.aload_n 0, 1) := by decide +kernel
theorem dX13_fieldOf_1 : decode cX13_fieldOf 1 = .ok (.getfield 369, 3) := by decide +kernel
theorem dX13_fieldOf_4 : decode cX13_fieldOf 4 = .ok (.getfield 259, 3) := by decide +kernel
theorem dX13_fieldOf_7 : decode cX13_fieldOf 7 = .ok (.aload_n 0, 1) := by decide +kernel
theorem dX13_fieldOf_8 : decode cX13_fieldOf 8 = .ok (.getfield 369, 3) := by decide +kernel
theorem dX13_fieldOf_11 : decode cX13_fieldOf 11 = .ok (.getfield 316, 3) := by decide +kernel
theorem dX13_fieldOf_14 : decode cX13_fieldOf 14 = .ok (.iload_n 1, 1) := by decide +kernel
theorem dX13_fieldOf_15 : decode cX13_fieldOf 15 = .ok (.iaload, 1) := by decide +kernel
theorem dX13_fieldOf_16 : decode cX13_fieldOf 16 = .ok (.aaload, 1) := by decide +kernel
theorem dX13_fieldOf_17 : decode cX13_fieldOf 17 = .ok (.areturn, 1) := by decide +kernel
theorem dX13_lets_0 : decode cX13_lets 0 = .ok (.iconst 0, 1) := by decide +kernel
theorem dX13_lets_1 : decode cX13_lets 1 = .ok (.istore_n 3, 1) := by decide +kernel
theorem dX13_lets_2 : decode cX13_lets 2 = .ok (.iload_n 3, 1) := by decide +kernel
theorem dX13_lets_3 : decode cX13_lets 3 = .ok (.bipush 12, 2) := by decide +kernel
theorem dX13_lets_5 : decode cX13_lets 5 = .ok (.if_icmp .ge 34, 3) := by decide +kernel
theorem dX13_lets_8 : decode cX13_lets 8 = .ok (.aload_n 0, 1) := by decide +kernel
theorem dX13_lets_9 : decode cX13_lets 9 = .ok (.getfield 13, 3) := by decide +kernel
theorem dX13_lets_12 : decode cX13_lets 12 = .ok (.iload_n 2, 1) := by decide +kernel
theorem dX13_lets_13 : decode cX13_lets 13 = .ok (.bipush 12, 2) := by decide +kernel
theorem dX13_lets_15 : decode cX13_lets 15 = .ok (.imul, 1) := by decide +kernel
theorem dX13_lets_16 : decode cX13_lets 16 = .ok (.iload_n 3, 1) := by decide +kernel
theorem dX13_lets_17 : decode cX13_lets 17 = .ok (.iadd, 1) := by decide +kernel
theorem dX13_lets_18 : decode cX13_lets 18 = .ok (.aload_n 0, 1) := by decide +kernel
theorem dX13_lets_19 : decode cX13_lets 19 = .ok (.getfield 369, 3) := by decide +kernel
theorem dX13_lets_22 : decode cX13_lets 22 = .ok (.getfield 314, 3) := by decide +kernel
theorem dX13_lets_25 : decode cX13_lets 25 = .ok (.bipush 12, 2) := by decide +kernel
theorem dX13_lets_27 : decode cX13_lets 27 = .ok (.iload_n 1, 1) := by decide +kernel
theorem dX13_lets_28 : decode cX13_lets 28 = .ok (.imul, 1) := by decide +kernel
theorem dX13_lets_29 : decode cX13_lets 29 = .ok (.iload_n 3, 1) := by decide +kernel
theorem dX13_lets_30 : decode cX13_lets 30 = .ok (.iadd, 1) := by decide +kernel
theorem dX13_lets_31 : decode cX13_lets 31 = .ok (.laload, 1) := by decide +kernel
theorem dX13_lets_32 : decode cX13_lets 32 = .ok (.lastore, 1) := by decide +kernel
theorem dX13_lets_33 : decode cX13_lets 33 = .ok (.iinc 3 1, 3) := by decide +kernel
theorem dX13_lets_36 : decode cX13_lets 36 = .ok (.goto (-34), 3) := by decide +kernel
theorem dX13_lets_39 : decode cX13_lets 39 = .ok (.return_, 1) := by decide +kernel
theorem dX13_let_0 : decode cX13_let 0 = .ok (.aload_n 0, 1) := by decide +kernel
theorem dX13_let_1 : decode cX13_let 1 = .ok (.iconst 0, 1) := by decide +kernel
theorem dX13_let_2 : decode cX13_let 2 = .ok (.putfield 46, 3) := by decide +kernel
theorem dX13_let_5 : decode cX13_let 5 = .ok (.aload_n 0, 1) := by decide +kernel
theorem dX13_let_6 : decode cX13_let 6 = .ok (.iload_n 1, 1) := by decide +kernel
theorem dX13_let_7 : decode cX13_let 7 = .ok (.invokevirtual 403, 3) := by decide +kernel
theorem dX13_let_10 : decode cX13_let 10 = .ok (.ifCond .eq 43, 3) := by decide +kernel
theorem dX13_let_13 : decode cX13_let 13 = .ok (.iload_n 2, 1) := by decide +kernel
theorem dX13_let_14 : decode cX13_let 14 = .ok (.iconst 0, 1) := by decide +kernel
theorem dX13_let_15 : decode cX13_let 15 = .ok (.aload_n 0, 1) := by decide +kernel
theorem dX13_let_16 : decode cX13_let 16 = .ok (.iload_n 1, 1) := by decide +kernel
theorem dX13_let_17 : decode cX13_let 17 = .ok (.invokevirtual 406, 3) := by decide +kernel
theorem dX13_let_20 : decode cX13_let 20 = .ok (.getfield 64, 3) := by decide +kernel
theorem dX13_let_23 : decode cX13_let 23 = .ok (.iconst 1, 1) := by decide +kernel
theorem dX13_let_24 : decode cX13_let 24 = .ok (.isub, 1) := by decide +kernel
theorem dX13_let_25 : decode cX13_let 25 = .ok (.invokestatic 168, 3) := by decide +kernel
theorem dX13_let_28 : decode cX13_let 28 = .ok (.ifCond .eq 25, 3) := by decide +kernel
theorem dX13_let_31 : decode cX13_let 31 = .ok (.aload_n 0, 1) := by decide +kernel
theorem dX13_let_32 : decode cX13_let 32 = .ok (.aload_n 0, 1) := by decide +kernel
theorem dX13_let_33 : decode cX13_let 33 = .ok (.getfield 369, 3) := by decide +kernel
theorem dX13_let_36 : decode cX13_let 36 = .ok (.getfield 314, 3) := by decide +kernel
theorem dX13_let_39 : decode cX13_let 39 = .ok (.bipush 12, 2) := by decide +kernel
theorem dX13_let_41 : decode cX13_let 41 = .ok (.iload_n 1, 1) := by decide +kernel
theorem dX13_let_42 : decode cX13_let 42 = .ok (.imul, 1) := by decide +kernel
theorem dX13_let_43 : decode cX13_let 43 = .ok (.iload_n 2, 1) := by decide +kernel
theorem dX13_let_44 : decode cX13_let 44 = .ok (.iadd, 1) := by decide +kernel
theorem dX13_let_45 : decode cX13_let 45 = .ok (.laload, 1) := by decide +kernel
theorem dX13_let_46 : decode cX13_let 46 = .ok (.l2i, 1) := by decide +kernel
theorem dX13_let_47 : decode cX13_let 47 = .ok (.invokevirtual 56, 3) := by decide +kernel
theorem dX13_let_50 : decode cX13_let 50 = .ok (.goto 11, 3) := by decide +kernel
theorem dX13_let_53 : decode cX13_let 53 = .ok (.aload_n 0, 1) := by decide +kernel
theorem dX13_let_54 : decode cX13_let 54 = .ok (.iconst 1, 1) := by decide +kernel
theorem dX13_let_55 : decode cX13_let 55 = .ok (.ldc_w 410, 3) := by decide +kernel
theorem dX13_let_58 : decode cX13_let 58 = .ok (.invokevirtual 391, 3) := by decide +kernel
theorem dX13_let_61 : decode cX13_let 61 = .ok (.ireturn, 1) := by decide +kernel
theorem dX13_letField_0 : decode cX13_letField 0 = .ok (.aload_n 0, 1) := by decide +kernel
theorem dX13_letField_1 : decode cX13_letField 1 = .ok (.iconst 0, 1) := by decide +kernel
theorem dX13_letField_2 : decode cX13_letField 2 = .ok (.putfield 46, 3) := by decide +kernel
theorem dX13_letField_5 : decode cX13_letField 5 = .ok (.aload_n 0, 1) := by decide +kernel
theorem dX13_letField_6 : decode cX13_letField 6 = .ok (.iload_n 1, 1) := by decide +kernel
theorem dX13_letField_7 : decode cX13_letField 7 = .ok (.invokevirtual 403, 3) := by decide +kernel
theorem dX13_letField_10 : decode cX13_letField 10 = .ok (.ifCond .eq 19, 3) := by decide +kernel
theorem dX13_letField_13 : decode cX13_letField 13 = .ok (.aload_n 0, 1) := by decide +kernel
theorem dX13_letField_14 : decode cX13_letField 14 = .ok (.aload_n 0, 1) := by decide +kernel
theorem dX13_letField_15 : decode cX13_letField 15 = .ok (.getfield 369, 3) := by decide +kernel
theorem dX13_letField_18 : decode cX13_letField 18 = .ok (.getfield 316, 3) := by decide +kernel
theorem dX13_letField_21 : decode cX13_letField 21 = .ok (.iload_n 1, 1) := by decide +kernel
theorem dX13_letField_22 : decode cX13_letField 22 = .ok (.iaload, 1) := by decide +kernel
theorem dX13_letField_23 : decode cX13_letField 23 = .ok (.invokevirtual 56, 3) := by decide +kernel
theorem dX13_letField_26 : decode cX13_letField 26 = .ok (.goto 8, 3) := by decide +kernel
theorem dX13_letField_29 : decode cX13_letField 29 = .ok (.aload_n 0, 1) := by decide +kernel
theorem dX13_letField_30 : decode cX13_letField 30 = .ok (.iconst 1, 1) := by decide +kernel
theorem dX13_letField_31 : decode cX13_letField 31 = .ok (.invokevirtual 52, 3) := by decide +kernel
theorem dX13_letField_34 : decode cX13_letField 34 = .ok (.ireturn, 1) := by decide +kernel
theorem dX13_letPart_0 : decode cX13_letPart 0 = .ok (.aload_n 0, 1) := by decide +kernel
theorem dX13_letPart_1 : decode cX13_letPart 1 = .ok (.iconst 0, 1) := by decide +kernel
theorem dX13_letPart_2 : decode cX13_letPart 2 = .ok (.putfield 46, 3) := by decide +kernel
theorem dX13_letPart_5 : decode cX13_letPart 5 = .ok (.aload_n 0, 1) := by decide +kernel
theorem dX13_letPart_6 : decode cX13_letPart 6 = .ok (.iload_n 1, 1) := by decide +kernel
theorem dX13_letPart_7 : decode cX13_letPart 7 = .ok (.invokevirtual 403, 3) := by decide +kernel
theorem dX13_letPart_10 : decode cX13_letPart 10 = .ok (.ifCond .ne 9, 3) := by decide +kernel
theorem dX13_letPart_13 : decode cX13_letPart 13 = .ok (.aload_n 0, 1) := by decide +kernel
theorem dX13_letPart_14 : decode cX13_letPart 14 = .ok (.iconst 1, 1) := by decide +kernel
theorem dX13_letPart_15 : decode cX13_letPart 15 = .ok (.invokevirtual 52, 3) := by decide +kernel
theorem dX13_letPart_18 : decode cX13_letPart 18 = .ok (.ireturn, 1) := by decide +kernel
theorem dX13_letPart_19 : decode cX13_letPart 19 = .ok (.aload_n 0, 1) := by decide +kernel
theorem dX13_letPart_20 : decode cX13_letPart 20 = .ok (.iload_n 1, 1) := by decide +kernel
theorem dX13_letPart_21 : decode cX13_letPart 21 = .ok (.invokevirtual 406, 3) := by decide +kernel
theorem dX13_letPart_24 : decode cX13_letPart 24 = .ok (.iload_n 2, 1) := by decide +kernel
theorem dX13_letPart_25 : decode cX13_letPart 25 = .ok (.invokevirtual 347, 3) := by decide +kernel
theorem dX13_letPart_28 : decode cX13_letPart 28 = .ok (.ifCond .ne 9, 3) := by decide +kernel
theorem dX13_letPart_31 : decode cX13_letPart 31 = .ok (.aload_n 0, 1) := by decide +kernel
theorem dX13_letPart_32 : decode cX13_letPart 32 = .ok (.iconst 2, 1) := by decide +kernel
theorem dX13_letPart_33 : decode cX13_letPart 33 = .ok (.invokevirtual 52, 3) := by decide +kernel
theorem dX13_letPart_36 : decode cX13_letPart 36 = .ok (.ireturn, 1) := by decide +kernel
theorem dX13_letPart_37 : decode cX13_letPart 37 = .ok (.aload_n 0, 1) := by decide +kernel
theorem dX13_letPart_38 : decode cX13_letPart 38 = .ok (.iload_n 1, 1) := by decide +kernel
theorem dX13_letPart_39 : decode cX13_letPart 39 = .ok (.iconst 0, 1) := by decide +kernel
theorem dX13_letPart_40 : decode cX13_letPart 40 = .ok (.invokevirtual 411, 3) := by decide +kernel
theorem dX13_letPart_43 : decode cX13_letPart 43 = .ok (.aload_n 0, 1) := by decide +kernel
theorem dX13_letPart_44 : decode cX13_letPart 44 = .ok (.aload_n 0, 1) := by decide +kernel
theorem dX13_letPart_45 : decode cX13_letPart 45 = .ok (.aload_n 0, 1) := by decide +kernel
theorem dX13_letPart_46 : decode cX13_letPart 46 = .ok (.iload_n 1, 1) := by decide +kernel
theorem dX13_letPart_47 : decode cX13_letPart 47 = .ok (.invokevirtual 406, 3) := by decide +kernel
theorem dX13_letPart_50 : decode cX13_letPart 50 = .ok (.iconst 0, 1) := by decide +kernel
theorem dX13_letPart_51 : decode cX13_letPart 51 = .ok (.iload_n 2, 1) := by decide +kernel
theorem dX13_letPart_52 : decode cX13_letPart 52 = .ok (.invokevirtual 400, 3) := by decide +kernel
theorem dX13_letPart_55 : decode cX13_letPart 55 = .ok (.invokevirtual 56, 3) := by decide +kernel
theorem dX13_letPart_58 : decode cX13_letPart 58 = .ok (.ireturn, 1) := by decide +kernel
theorem dX13_whole_0 : decode cX13_whole 0 = .ok (.aload_n 0, 1) := by decide +kernel
theorem dX13_whole_1 : decode cX13_whole 1 = .ok (.iconst 0, 1) := by decide +kernel
theorem dX13_whole_2 : decode cX13_whole 2 = .ok (.putfield 46, 3) := by decide +kernel
theorem dX13_whole_5 : decode cX13_whole 5 = .ok (.aload_n 0, 1) := by decide +kernel
theorem dX13_whole_6 : decode cX13_whole 6 = .ok (.iload_n 1, 1) := by decide +kernel
theorem dX13_whole_7 : decode cX13_whole 7 = .ok (.invokevirtual 403, 3) := by decide +kernel
theorem dX13_whole_10 : decode cX13_whole 10 = .ok (.ifCond .ne 9, 3) := by decide +kernel
theorem dX13_whole_13 : decode cX13_whole 13 = .ok (.aload_n 0, 1) := by decide +kernel
theorem dX13_whole_14 : decode cX13_whole 14 = .ok (.iconst 1, 1) := by decide +kernel
theorem dX13_whole_15 : decode cX13_whole 15 = .ok (.invokevirtual 52, 3) := by decide +kernel
theorem dX13_whole_18 : decode cX13_whole 18 = .ok (.ireturn, 1) := by decide +kernel
theorem dX13_whole_19 : decode cX13_whole 19 = .ok (.aload_n 0, 1) := by decide +kernel
theorem dX13_whole_20 : decode cX13_whole 20 = .ok (.iload_n 1, 1) := by decide +kernel
theorem dX13_whole_21 : decode cX13_whole 21 = .ok (.iconst 0, 1) := by decide +kernel
theorem dX13_whole_22 : decode cX13_whole 22 = .ok (.invokevirtual 411, 3) := by decide +kernel
theorem dX13_whole_25 : decode cX13_whole 25 = .ok (.aload_n 0, 1) := by decide +kernel
theorem dX13_whole_26 : decode cX13_whole 26 = .ok (.aload_n 0, 1) := by decide +kernel
theorem dX13_whole_27 : decode cX13_whole 27 = .ok (.iconst 0, 1) := by decide +kernel
theorem dX13_whole_28 : decode cX13_whole 28 = .ok (.invokevirtual 394, 3) := by decide +kernel
theorem dX13_whole_31 : decode cX13_whole 31 = .ok (.ifCond .eq 7, 3) := by decide +kernel
theorem dX13_whole_34 : decode cX13_whole 34 = .ok (.iconst 1, 1) := by decide +kernel
theorem dX13_whole_35 : decode cX13_whole 35 = .ok (.goto 4, 3) := by decide +kernel
theorem dX13_whole_38 : decode cX13_whole 38 = .ok (.iconst 0, 1) := by decide +kernel
theorem dX13_whole_39 : decode cX13_whole 39 = .ok (.invokevirtual 56, 3) := by decide +kernel
theorem dX13_whole_42 : decode cX13_whole 42 = .ok (.ireturn, 1) := by decide +kernel
theorem dX13_counts_0 : decode cX13_counts 0 = .ok (.aload_n 0, 1) := by decide +kernel
theorem dX13_counts_1 : decode cX13_counts 1 = .ok (.getfield 369, 3) := by decide +kernel
theorem dX13_counts_4 : decode cX13_counts 4 = .ok (.getfield 259, 3) := by decide +kernel
theorem dX13_counts_7 : decode cX13_counts 7 = .ok (.aload_n 0, 1) := by decide +kernel
theorem dX13_counts_8 : decode cX13_counts 8 = .ok (.getfield 369, 3) := by decide +kernel
theorem dX13_counts_11 : decode cX13_counts 11 = .ok (.getfield 282, 3) := by decide +kernel
theorem dX13_counts_14 : decode cX13_counts 14 = .ok (.iload_n 1, 1) := by decide +kernel
theorem dX13_counts_15 : decode cX13_counts 15 = .ok (.iaload, 1) := by decide +kernel
theorem dX13_counts_16 : decode cX13_counts 16 = .ok (.aaload, 1) := by decide +kernel
theorem dX13_counts_17 : decode cX13_counts 17 = .ok (.getfield 81, 3) := by decide +kernel
theorem dX13_counts_20 : decode cX13_counts 20 = .ok (.istore_n 2, 1) := by decide +kernel
theorem dX13_counts_21 : decode cX13_counts 21 = .ok (.iconst 0, 1) := by decide +kernel
theorem dX13_counts_22 : decode cX13_counts 22 = .ok (.istore_n 3, 1) := by decide +kernel
theorem dX13_counts_23 : decode cX13_counts 23 = .ok (.iload_n 3, 1) := by decide +kernel
theorem dX13_counts_24 : decode cX13_counts 24 = .ok (.iload_n 2, 1) := by decide +kernel
theorem dX13_counts_25 : decode cX13_counts 25 = .ok (.if_icmp .ge 24, 3) := by decide +kernel
theorem dX13_counts_28 : decode cX13_counts 28 = .ok (.aload_n 0, 1) := by decide +kernel
theorem dX13_counts_29 : decode cX13_counts 29 = .ok (.getfield 24, 3) := by decide +kernel
theorem dX13_counts_32 : decode cX13_counts 32 = .ok (.iload_n 3, 1) := by decide +kernel
theorem dX13_counts_33 : decode cX13_counts 33 = .ok (.iload_n 3, 1) := by decide +kernel
theorem dX13_counts_34 : decode cX13_counts 34 = .ok (.ifCond .ne 7, 3) := by decide +kernel
theorem dX13_counts_37 : decode cX13_counts 37 = .ok (.iconst 1, 1) := by decide +kernel
theorem dX13_counts_38 : decode cX13_counts 38 = .ok (.goto 4, 3) := by decide +kernel
theorem dX13_counts_41 : decode cX13_counts 41 = .ok (.iconst 0, 1) := by decide +kernel
theorem dX13_counts_42 : decode cX13_counts 42 = .ok (.iastore, 1) := by decide +kernel
theorem dX13_counts_43 : decode cX13_counts 43 = .ok (.iinc 3 1, 3) := by decide +kernel
theorem dX13_counts_46 : decode cX13_counts 46 = .ok (.goto (-23), 3) := by decide +kernel
theorem dX13_counts_49 : decode cX13_counts 49 = .ok (.iconst 0, 1) := by decide +kernel
theorem dX13_counts_50 : decode cX13_counts 50 = .ok (.istore_n 3, 1) := by decide +kernel
theorem dX13_counts_51 : decode cX13_counts 51 = .ok (.iload_n 3, 1) := by decide +kernel
theorem dX13_counts_52 : decode cX13_counts 52 = .ok (.aload_n 0, 1) := by decide +kernel
theorem dX13_counts_53 : decode cX13_counts 53 = .ok (.getfield 369, 3) := by decide +kernel
theorem dX13_counts_56 : decode cX13_counts 56 = .ok (.getfield 285, 3) := by decide +kernel
theorem dX13_counts_59 : decode cX13_counts 59 = .ok (.iload_n 1, 1) := by decide +kernel
theorem dX13_counts_60 : decode cX13_counts 60 = .ok (.iaload, 1) := by decide +kernel
theorem dX13_counts_61 : decode cX13_counts 61 = .ok (.if_icmp .ge 150, 3) := by decide +kernel
theorem dX13_counts_64 : decode cX13_counts 64 = .ok (.iconst 0, 1) := by decide +kernel
theorem dX13_counts_65 : decode cX13_counts 65 = .ok (.istore 4, 2) := by decide +kernel
theorem dX13_counts_67 : decode cX13_counts 67 = .ok (.iload 4, 2) := by decide +kernel
theorem dX13_counts_69 : decode cX13_counts 69 = .ok (.iload_n 2, 1) := by decide +kernel
theorem dX13_counts_70 : decode cX13_counts 70 = .ok (.if_icmp .ge 17, 3) := by decide +kernel
theorem dX13_counts_73 : decode cX13_counts 73 = .ok (.aload_n 0, 1) := by decide +kernel
theorem dX13_counts_74 : decode cX13_counts 74 = .ok (.getfield 28, 3) := by decide +kernel
theorem dX13_counts_77 : decode cX13_counts 77 = .ok (.iload 4, 2) := by decide +kernel
theorem dX13_counts_79 : decode cX13_counts 79 = .ok (.iconst 0, 1) := by decide +kernel
theorem dX13_counts_80 : decode cX13_counts 80 = .ok (.iastore, 1) := by decide +kernel
theorem dX13_counts_81 : decode cX13_counts 81 = .ok (.iinc 4 1, 3) := by decide +kernel
theorem dX13_counts_84 : decode cX13_counts 84 = .ok (.goto (-17), 3) := by decide +kernel
theorem dX13_counts_87 : decode cX13_counts 87 = .ok (.iconst 0, 1) := by decide +kernel
theorem dX13_counts_88 : decode cX13_counts 88 = .ok (.istore 4, 2) := by decide +kernel
theorem dX13_counts_90 : decode cX13_counts 90 = .ok (.iload 4, 2) := by decide +kernel
theorem dX13_counts_92 : decode cX13_counts 92 = .ok (.iload_n 2, 1) := by decide +kernel
theorem dX13_counts_93 : decode cX13_counts 93 = .ok (.if_icmp .ge 83, 3) := by decide +kernel
theorem dX13_counts_96 : decode cX13_counts 96 = .ok (.aload_n 0, 1) := by decide +kernel
theorem dX13_counts_97 : decode cX13_counts 97 = .ok (.getfield 369, 3) := by decide +kernel
theorem dX13_counts_100 : decode cX13_counts 100 = .ok (.getfield 276, 3) := by decide +kernel
theorem dX13_counts_103 : decode cX13_counts 103 = .ok (.iconst 3, 1) := by decide +kernel
theorem dX13_counts_104 : decode cX13_counts 104 = .ok (.iload_n 1, 1) := by decide +kernel
theorem dX13_counts_105 : decode cX13_counts 105 = .ok (.imul, 1) := by decide +kernel
theorem dX13_counts_106 : decode cX13_counts 106 = .ok (.iload_n 3, 1) := by decide +kernel
theorem dX13_counts_107 : decode cX13_counts 107 = .ok (.iadd, 1) := by decide +kernel
theorem dX13_counts_108 : decode cX13_counts 108 = .ok (.iaload, 1) := by decide +kernel
theorem dX13_counts_109 : decode cX13_counts 109 = .ok (.iload 4, 2) := by decide +kernel
theorem dX13_counts_111 : decode cX13_counts 111 = .ok (.aload_n 0, 1) := by decide +kernel
theorem dX13_counts_112 : decode cX13_counts 112 = .ok (.getfield 369, 3) := by decide +kernel
theorem dX13_counts_115 : decode cX13_counts 115 = .ok (.getfield 279, 3) := by decide +kernel
theorem dX13_counts_118 : decode cX13_counts 118 = .ok (.iconst 3, 1) := by decide +kernel
theorem dX13_counts_119 : decode cX13_counts 119 = .ok (.iload_n 1, 1) := by decide +kernel
theorem dX13_counts_120 : decode cX13_counts 120 = .ok (.imul, 1) := by decide +kernel
theorem dX13_counts_121 : decode cX13_counts 121 = .ok (.iload_n 3, 1) := by decide +kernel
theorem dX13_counts_122 : decode cX13_counts 122 = .ok (.iadd, 1) := by decide +kernel
theorem dX13_counts_123 : decode cX13_counts 123 = .ok (.iaload, 1) := by decide +kernel
theorem dX13_counts_124 : decode cX13_counts 124 = .ok (.iload_n 2, 1) := by decide +kernel
theorem dX13_counts_125 : decode cX13_counts 125 = .ok (.invokestatic 94, 3) := by decide +kernel
theorem dX13_counts_128 : decode cX13_counts 128 = .ok (.imul, 1) := by decide +kernel
theorem dX13_counts_129 : decode cX13_counts 129 = .ok (.iload_n 2, 1) := by decide +kernel
theorem dX13_counts_130 : decode cX13_counts 130 = .ok (.irem, 1) := by decide +kernel
theorem dX13_counts_131 : decode cX13_counts 131 = .ok (.istore 5, 2) := by decide +kernel
theorem dX13_counts_133 : decode cX13_counts 133 = .ok (.iconst 0, 1) := by decide +kernel
theorem dX13_counts_134 : decode cX13_counts 134 = .ok (.istore 6, 2) := by decide +kernel
theorem dX13_counts_136 : decode cX13_counts 136 = .ok (.iload 6, 2) := by decide +kernel
theorem dX13_counts_138 : decode cX13_counts 138 = .ok (.iload_n 2, 1) := by decide +kernel
theorem dX13_counts_139 : decode cX13_counts 139 = .ok (.if_icmp .ge 31, 3) := by decide +kernel
theorem dX13_counts_142 : decode cX13_counts 142 = .ok (.aload_n 0, 1) := by decide +kernel
theorem dX13_counts_143 : decode cX13_counts 143 = .ok (.getfield 28, 3) := by decide +kernel
theorem dX13_counts_146 : decode cX13_counts 146 = .ok (.iload 6, 2) := by decide +kernel
theorem dX13_counts_148 : decode cX13_counts 148 = .ok (.iload 5, 2) := by decide +kernel
theorem dX13_counts_150 : decode cX13_counts 150 = .ok (.iadd, 1) := by decide +kernel
theorem dX13_counts_151 : decode cX13_counts 151 = .ok (.iload_n 2, 1) := by decide +kernel
theorem dX13_counts_152 : decode cX13_counts 152 = .ok (.irem, 1) := by decide +kernel
theorem dX13_counts_153 : decode cX13_counts 153 = .ok (.dup2, 1) := by decide +kernel
theorem dX13_counts_154 : decode cX13_counts 154 = .ok (.iaload, 1) := by decide +kernel
theorem dX13_counts_155 : decode cX13_counts 155 = .ok (.aload_n 0, 1) := by decide +kernel
theorem dX13_counts_156 : decode cX13_counts 156 = .ok (.getfield 24, 3) := by decide +kernel
theorem dX13_counts_159 : decode cX13_counts 159 = .ok (.iload 6, 2) := by decide +kernel
theorem dX13_counts_161 : decode cX13_counts 161 = .ok (.iaload, 1) := by decide +kernel
theorem dX13_counts_162 : decode cX13_counts 162 = .ok (.iadd, 1) := by decide +kernel
theorem dX13_counts_163 : decode cX13_counts 163 = .ok (.iastore, 1) := by decide +kernel
theorem dX13_counts_164 : decode cX13_counts 164 = .ok (.iinc 6 1, 3) := by decide +kernel
theorem dX13_counts_167 : decode cX13_counts 167 = .ok (.goto (-31), 3) := by decide +kernel
theorem dX13_counts_170 : decode cX13_counts 170 = .ok (.iinc 4 1, 3) := by decide +kernel
theorem dX13_counts_173 : decode cX13_counts 173 = .ok (.goto (-83), 3) := by decide +kernel
theorem dX13_counts_176 : decode cX13_counts 176 = .ok (.iconst 0, 1) := by decide +kernel
theorem dX13_counts_177 : decode cX13_counts 177 = .ok (.istore 4, 2) := by decide +kernel
theorem dX13_counts_179 : decode cX13_counts 179 = .ok (.iload 4, 2) := by decide +kernel
theorem dX13_counts_181 : decode cX13_counts 181 = .ok (.iload_n 2, 1) := by decide +kernel
theorem dX13_counts_182 : decode cX13_counts 182 = .ok (.if_icmp .ge 23, 3) := by decide +kernel
theorem dX13_counts_185 : decode cX13_counts 185 = .ok (.aload_n 0, 1) := by decide +kernel
theorem dX13_counts_186 : decode cX13_counts 186 = .ok (.getfield 24, 3) := by decide +kernel
theorem dX13_counts_189 : decode cX13_counts 189 = .ok (.iload 4, 2) := by decide +kernel
theorem dX13_counts_191 : decode cX13_counts 191 = .ok (.aload_n 0, 1) := by decide +kernel
theorem dX13_counts_192 : decode cX13_counts 192 = .ok (.getfield 28, 3) := by decide +kernel
theorem dX13_counts_195 : decode cX13_counts 195 = .ok (.iload 4, 2) := by decide +kernel
theorem dX13_counts_197 : decode cX13_counts 197 = .ok (.iaload, 1) := by decide +kernel
theorem dX13_counts_198 : decode cX13_counts 198 = .ok (.iastore, 1) := by decide +kernel
theorem dX13_counts_199 : decode cX13_counts 199 = .ok (.iinc 4 1, 3) := by decide +kernel
theorem dX13_counts_202 : decode cX13_counts 202 = .ok (.goto (-23), 3) := by decide +kernel
theorem dX13_counts_205 : decode cX13_counts 205 = .ok (.iinc 3 1, 3) := by decide +kernel
theorem dX13_counts_208 : decode cX13_counts 208 = .ok (.goto (-157), 3) := by decide +kernel
theorem dX13_counts_211 : decode cX13_counts 211 = .ok (.return_, 1) := by decide +kernel
theorem dX13_isEquation_0 : decode cX13_isEquation 0 = .ok (.aload_n 0, 1) := by decide +kernel
theorem dX13_isEquation_1 : decode cX13_isEquation 1 = .ok (.getfield 369, 3) := by decide +kernel
theorem dX13_isEquation_4 : decode cX13_isEquation 4 = .ok (.ifnull 22, 3) := by decide +kernel
theorem dX13_isEquation_7 : decode cX13_isEquation 7 = .ok (.iload_n 1, 1) := by decide +kernel
theorem dX13_isEquation_8 : decode cX13_isEquation 8 = .ok (.ifCond .lt 18, 3) := by decide +kernel
theorem dX13_isEquation_11 : decode cX13_isEquation 11 = .ok (.iload_n 1, 1) := by decide +kernel
theorem dX13_isEquation_12 : decode cX13_isEquation 12 = .ok (.aload_n 0, 1) := by decide +kernel
theorem dX13_isEquation_13 : decode cX13_isEquation 13 = .ok (.getfield 369, 3) := by decide +kernel
theorem dX13_isEquation_16 : decode cX13_isEquation 16 = .ok (.getfield 267, 3) := by decide +kernel
theorem dX13_isEquation_19 : decode cX13_isEquation 19 = .ok (.if_icmp .ge 7, 3) := by decide +kernel
theorem dX13_isEquation_22 : decode cX13_isEquation 22 = .ok (.iconst 1, 1) := by decide +kernel
theorem dX13_isEquation_23 : decode cX13_isEquation 23 = .ok (.goto 4, 3) := by decide +kernel
theorem dX13_isEquation_26 : decode cX13_isEquation 26 = .ok (.iconst 0, 1) := by decide +kernel
theorem dX13_isEquation_27 : decode cX13_isEquation 27 = .ok (.ireturn, 1) := by decide +kernel
theorem dX13_count_0 : decode cX13_count 0 = .ok (.aload_n 0, 1) := by decide +kernel
theorem dX13_count_1 : decode cX13_count 1 = .ok (.iconst 0, 1) := by decide +kernel
theorem dX13_count_2 : decode cX13_count 2 = .ok (.putfield 46, 3) := by decide +kernel
theorem dX13_count_5 : decode cX13_count 5 = .ok (.aload_n 0, 1) := by decide +kernel
theorem dX13_count_6 : decode cX13_count 6 = .ok (.iload_n 1, 1) := by decide +kernel
theorem dX13_count_7 : decode cX13_count 7 = .ok (.invokevirtual 413, 3) := by decide +kernel
theorem dX13_count_10 : decode cX13_count 10 = .ok (.ifCond .ne 9, 3) := by decide +kernel
theorem dX13_count_13 : decode cX13_count 13 = .ok (.aload_n 0, 1) := by decide +kernel
theorem dX13_count_14 : decode cX13_count 14 = .ok (.iconst 1, 1) := by decide +kernel
theorem dX13_count_15 : decode cX13_count 15 = .ok (.invokevirtual 52, 3) := by decide +kernel
theorem dX13_count_18 : decode cX13_count 18 = .ok (.ireturn, 1) := by decide +kernel
theorem dX13_count_19 : decode cX13_count 19 = .ok (.aload_n 0, 1) := by decide +kernel
theorem dX13_count_20 : decode cX13_count 20 = .ok (.iload_n 1, 1) := by decide +kernel
theorem dX13_count_21 : decode cX13_count 21 = .ok (.invokevirtual 416, 3) := by decide +kernel
theorem dX13_count_24 : decode cX13_count 24 = .ok (.aload_n 0, 1) := by decide +kernel
theorem dX13_count_25 : decode cX13_count 25 = .ok (.aload_n 0, 1) := by decide +kernel
theorem dX13_count_26 : decode cX13_count 26 = .ok (.getfield 24, 3) := by decide +kernel
theorem dX13_count_29 : decode cX13_count 29 = .ok (.aload_n 0, 1) := by decide +kernel
theorem dX13_count_30 : decode cX13_count 30 = .ok (.getfield 369, 3) := by decide +kernel
theorem dX13_count_33 : decode cX13_count 33 = .ok (.getfield 288, 3) := by decide +kernel
theorem dX13_count_36 : decode cX13_count 36 = .ok (.iload_n 1, 1) := by decide +kernel
theorem dX13_count_37 : decode cX13_count 37 = .ok (.iaload, 1) := by decide +kernel
theorem dX13_count_38 : decode cX13_count 38 = .ok (.iaload, 1) := by decide +kernel
theorem dX13_count_39 : decode cX13_count 39 = .ok (.invokevirtual 56, 3) := by decide +kernel
theorem dX13_count_42 : decode cX13_count 42 = .ok (.ireturn, 1) := by decide +kernel
theorem dX13_countOf_0 : decode cX13_countOf 0 = .ok (.aload_n 0, 1) := by decide +kernel
theorem dX13_countOf_1 : decode cX13_countOf 1 = .ok (.iconst 0, 1) := by decide +kernel
theorem dX13_countOf_2 : decode cX13_countOf 2 = .ok (.putfield 46, 3) := by decide +kernel
theorem dX13_countOf_5 : decode cX13_countOf 5 = .ok (.aload_n 0, 1) := by decide +kernel
theorem dX13_countOf_6 : decode cX13_countOf 6 = .ok (.iload_n 1, 1) := by decide +kernel
theorem dX13_countOf_7 : decode cX13_countOf 7 = .ok (.invokevirtual 413, 3) := by decide +kernel
theorem dX13_countOf_10 : decode cX13_countOf 10 = .ok (.ifCond .ne 9, 3) := by decide +kernel
theorem dX13_countOf_13 : decode cX13_countOf 13 = .ok (.aload_n 0, 1) := by decide +kernel
theorem dX13_countOf_14 : decode cX13_countOf 14 = .ok (.iconst 1, 1) := by decide +kernel
theorem dX13_countOf_15 : decode cX13_countOf 15 = .ok (.invokevirtual 52, 3) := by decide +kernel
theorem dX13_countOf_18 : decode cX13_countOf 18 = .ok (.ireturn, 1) := by decide +kernel
theorem dX13_countOf_19 : decode cX13_countOf 19 = .ok (.iload_n 2, 1) := by decide +kernel
theorem dX13_countOf_20 : decode cX13_countOf 20 = .ok (.iconst 0, 1) := by decide +kernel
theorem dX13_countOf_21 : decode cX13_countOf 21 = .ok (.aload_n 0, 1) := by decide +kernel
theorem dX13_countOf_22 : decode cX13_countOf 22 = .ok (.getfield 369, 3) := by decide +kernel
theorem dX13_countOf_25 : decode cX13_countOf 25 = .ok (.getfield 259, 3) := by decide +kernel
theorem dX13_countOf_28 : decode cX13_countOf 28 = .ok (.aload_n 0, 1) := by decide +kernel
theorem dX13_countOf_29 : decode cX13_countOf 29 = .ok (.getfield 369, 3) := by decide +kernel
theorem dX13_countOf_32 : decode cX13_countOf 32 = .ok (.getfield 282, 3) := by decide +kernel
theorem dX13_countOf_35 : decode cX13_countOf 35 = .ok (.iload_n 1, 1) := by decide +kernel
theorem dX13_countOf_36 : decode cX13_countOf 36 = .ok (.iaload, 1) := by decide +kernel
theorem dX13_countOf_37 : decode cX13_countOf 37 = .ok (.aaload, 1) := by decide +kernel
theorem dX13_countOf_38 : decode cX13_countOf 38 = .ok (.getfield 81, 3) := by decide +kernel
theorem dX13_countOf_41 : decode cX13_countOf 41 = .ok (.iconst 1, 1) := by decide +kernel
theorem dX13_countOf_42 : decode cX13_countOf 42 = .ok (.isub, 1) := by decide +kernel
theorem dX13_countOf_43 : decode cX13_countOf 43 = .ok (.invokestatic 168, 3) := by decide +kernel
theorem dX13_countOf_46 : decode cX13_countOf 46 = .ok (.ifCond .ne 9, 3) := by decide +kernel
theorem dX13_countOf_49 : decode cX13_countOf 49 = .ok (.aload_n 0, 1) := by decide +kernel
theorem dX13_countOf_50 : decode cX13_countOf 50 = .ok (.iconst 2, 1) := by decide +kernel
theorem dX13_countOf_51 : decode cX13_countOf 51 = .ok (.invokevirtual 52, 3) := by decide +kernel
theorem dX13_countOf_54 : decode cX13_countOf 54 = .ok (.ireturn, 1) := by decide +kernel
theorem dX13_countOf_55 : decode cX13_countOf 55 = .ok (.aload_n 0, 1) := by decide +kernel
theorem dX13_countOf_56 : decode cX13_countOf 56 = .ok (.iload_n 1, 1) := by decide +kernel
theorem dX13_countOf_57 : decode cX13_countOf 57 = .ok (.invokevirtual 416, 3) := by decide +kernel
theorem dX13_countOf_60 : decode cX13_countOf 60 = .ok (.aload_n 0, 1) := by decide +kernel
theorem dX13_countOf_61 : decode cX13_countOf 61 = .ok (.aload_n 0, 1) := by decide +kernel
theorem dX13_countOf_62 : decode cX13_countOf 62 = .ok (.getfield 24, 3) := by decide +kernel
theorem dX13_countOf_65 : decode cX13_countOf 65 = .ok (.iload_n 2, 1) := by decide +kernel
theorem dX13_countOf_66 : decode cX13_countOf 66 = .ok (.iaload, 1) := by decide +kernel
theorem dX13_countOf_67 : decode cX13_countOf 67 = .ok (.invokevirtual 56, 3) := by decide +kernel
theorem dX13_countOf_70 : decode cX13_countOf 70 = .ok (.ireturn, 1) := by decide +kernel
theorem dX13_powerRow_0 : decode cX13_powerRow 0 = .ok (.aload_n 0, 1) := by decide +kernel
theorem dX13_powerRow_1 : decode cX13_powerRow 1 = .ok (.iload 4, 2) := by decide +kernel
theorem dX13_powerRow_3 : decode cX13_powerRow 3 = .ok (.lconst 1, 1) := by decide +kernel
theorem dX13_powerRow_4 : decode cX13_powerRow 4 = .ok (.invokevirtual 297, 3) := by decide +kernel
theorem dX13_powerRow_7 : decode cX13_powerRow 7 = .ok (.iconst 0, 1) := by decide +kernel
theorem dX13_powerRow_8 : decode cX13_powerRow 8 = .ok (.istore 5, 2) := by decide +kernel
theorem dX13_powerRow_10 : decode cX13_powerRow 10 = .ok (.iload 5, 2) := by decide +kernel
theorem dX13_powerRow_12 : decode cX13_powerRow 12 = .ok (.iload_n 3, 1) := by decide +kernel
theorem dX13_powerRow_13 : decode cX13_powerRow 13 = .ok (.if_icmp .ge 19, 3) := by decide +kernel
theorem dX13_powerRow_16 : decode cX13_powerRow 16 = .ok (.aload_n 0, 1) := by decide +kernel
theorem dX13_powerRow_17 : decode cX13_powerRow 17 = .ok (.aload_n 1, 1) := by decide +kernel
theorem dX13_powerRow_18 : decode cX13_powerRow 18 = .ok (.iload 4, 2) := by decide +kernel
theorem dX13_powerRow_20 : decode cX13_powerRow 20 = .ok (.iload_n 2, 1) := by decide +kernel
theorem dX13_powerRow_21 : decode cX13_powerRow 21 = .ok (.iload 4, 2) := by decide +kernel
theorem dX13_powerRow_23 : decode cX13_powerRow 23 = .ok (.invokevirtual 334, 3) := by decide +kernel
theorem dX13_powerRow_26 : decode cX13_powerRow 26 = .ok (.iinc 5 1, 3) := by decide +kernel
theorem dX13_powerRow_29 : decode cX13_powerRow 29 = .ok (.goto (-19), 3) := by decide +kernel
theorem dX13_powerRow_32 : decode cX13_powerRow 32 = .ok (.return_, 1) := by decide +kernel
theorem dX13_curve_0 : decode cX13_curve 0 = .ok (.aload_n 0, 1) := by decide +kernel
theorem dX13_curve_1 : decode cX13_curve 1 = .ok (.iconst 0, 1) := by decide +kernel
theorem dX13_curve_2 : decode cX13_curve 2 = .ok (.putfield 46, 3) := by decide +kernel
theorem dX13_curve_5 : decode cX13_curve 5 = .ok (.aload_n 0, 1) := by decide +kernel
theorem dX13_curve_6 : decode cX13_curve 6 = .ok (.iload_n 1, 1) := by decide +kernel
theorem dX13_curve_7 : decode cX13_curve 7 = .ok (.invokevirtual 381, 3) := by decide +kernel
theorem dX13_curve_10 : decode cX13_curve 10 = .ok (.ifCond .ne 10, 3) := by decide +kernel
theorem dX13_curve_13 : decode cX13_curve 13 = .ok (.aload_n 0, 1) := by decide +kernel
theorem dX13_curve_14 : decode cX13_curve 14 = .ok (.iconst 1, 1) := by decide +kernel
theorem dX13_curve_15 : decode cX13_curve 15 = .ok (.invokevirtual 52, 3) := by decide +kernel
theorem dX13_curve_18 : decode cX13_curve 18 = .ok (.i2l, 1) := by decide +kernel
theorem dX13_curve_19 : decode cX13_curve 19 = .ok (.lreturn, 1) := by decide +kernel
theorem dX13_curve_20 : decode cX13_curve 20 = .ok (.iload_n 2, 1) := by decide +kernel
theorem dX13_curve_21 : decode cX13_curve 21 = .ok (.iconst 1, 1) := by decide +kernel
theorem dX13_curve_22 : decode cX13_curve 22 = .ok (.iconst 4, 1) := by decide +kernel
theorem dX13_curve_23 : decode cX13_curve 23 = .ok (.invokestatic 168, 3) := by decide +kernel
theorem dX13_curve_26 : decode cX13_curve 26 = .ok (.ifCond .ne 10, 3) := by decide +kernel
theorem dX13_curve_29 : decode cX13_curve 29 = .ok (.aload_n 0, 1) := by decide +kernel
theorem dX13_curve_30 : decode cX13_curve 30 = .ok (.iconst 2, 1) := by decide +kernel
theorem dX13_curve_31 : decode cX13_curve 31 = .ok (.invokevirtual 52, 3) := by decide +kernel
theorem dX13_curve_34 : decode cX13_curve 34 = .ok (.i2l, 1) := by decide +kernel
theorem dX13_curve_35 : decode cX13_curve 35 = .ok (.lreturn, 1) := by decide +kernel
theorem dX13_curve_36 : decode cX13_curve 36 = .ok (.aload_n 0, 1) := by decide +kernel
theorem dX13_curve_37 : decode cX13_curve 37 = .ok (.getfield 369, 3) := by decide +kernel
theorem dX13_curve_40 : decode cX13_curve 40 = .ok (.getfield 259, 3) := by decide +kernel
theorem dX13_curve_43 : decode cX13_curve 43 = .ok (.iload_n 1, 1) := by decide +kernel
theorem dX13_curve_44 : decode cX13_curve 44 = .ok (.aaload, 1) := by decide +kernel
theorem dX13_curve_45 : decode cX13_curve 45 = .ok (.astore_n 3, 1) := by decide +kernel
theorem dX13_curve_46 : decode cX13_curve 46 = .ok (.aload_n 0, 1) := by decide +kernel
theorem dX13_curve_47 : decode cX13_curve 47 = .ok (.iconst 3, 1) := by decide +kernel
theorem dX13_curve_48 : decode cX13_curve 48 = .ok (.lconst 1, 1) := by decide +kernel
theorem dX13_curve_49 : decode cX13_curve 49 = .ok (.invokevirtual 297, 3) := by decide +kernel
theorem dX13_curve_52 : decode cX13_curve 52 = .ok (.iconst 0, 1) := by decide +kernel
theorem dX13_curve_53 : decode cX13_curve 53 = .ok (.istore 4, 2) := by decide +kernel
theorem dX13_curve_55 : decode cX13_curve 55 = .ok (.iload 4, 2) := by decide +kernel
theorem dX13_curve_57 : decode cX13_curve 57 = .ok (.iload_n 2, 1) := by decide +kernel
theorem dX13_curve_58 : decode cX13_curve 58 = .ok (.if_icmp .ge 24, 3) := by decide +kernel
theorem dX13_curve_61 : decode cX13_curve 61 = .ok (.aload_n 0, 1) := by decide +kernel
theorem dX13_curve_62 : decode cX13_curve 62 = .ok (.getfield 13, 3) := by decide +kernel
theorem dX13_curve_65 : decode cX13_curve 65 = .ok (.bipush 36, 2) := by decide +kernel
theorem dX13_curve_67 : decode cX13_curve 67 = .ok (.dup2, 1) := by decide +kernel
theorem dX13_curve_68 : decode cX13_curve 68 = .ok (.laload, 1) := by decide +kernel
theorem dX13_curve_69 : decode cX13_curve 69 = .ok (.aload_n 3, 1) := by decide +kernel
theorem dX13_curve_70 : decode cX13_curve 70 = .ok (.getfield 81, 3) := by decide +kernel
theorem dX13_curve_73 : decode cX13_curve 73 = .ok (.i2l, 1) := by decide +kernel
theorem dX13_curve_74 : decode cX13_curve 74 = .ok (.lmul, 1) := by decide +kernel
theorem dX13_curve_75 : decode cX13_curve 75 = .ok (.lastore, 1) := by decide +kernel
theorem dX13_curve_76 : decode cX13_curve 76 = .ok (.iinc 4 1, 3) := by decide +kernel
theorem dX13_curve_79 : decode cX13_curve 79 = .ok (.goto (-24), 3) := by decide +kernel
theorem dX13_curve_82 : decode cX13_curve 82 = .ok (.iconst 1, 1) := by decide +kernel
theorem dX13_curve_83 : decode cX13_curve 83 = .ok (.istore 4, 2) := by decide +kernel
theorem dX13_curve_85 : decode cX13_curve 85 = .ok (.iload 4, 2) := by decide +kernel
theorem dX13_curve_87 : decode cX13_curve 87 = .ok (.aload_n 3, 1) := by decide +kernel
theorem dX13_curve_88 : decode cX13_curve 88 = .ok (.getfield 59, 3) := by decide +kernel
theorem dX13_curve_91 : decode cX13_curve 91 = .ok (.if_icmp .ge 124, 3) := by decide +kernel
theorem dX13_curve_94 : decode cX13_curve 94 = .ok (.iconst 1, 1) := by decide +kernel
theorem dX13_curve_95 : decode cX13_curve 95 = .ok (.istore 5, 2) := by decide +kernel
theorem dX13_curve_97 : decode cX13_curve 97 = .ok (.iload 5, 2) := by decide +kernel
theorem dX13_curve_99 : decode cX13_curve 99 = .ok (.aload_n 3, 1) := by decide +kernel
theorem dX13_curve_100 : decode cX13_curve 100 = .ok (.getfield 59, 3) := by decide +kernel
theorem dX13_curve_103 : decode cX13_curve 103 = .ok (.if_icmp .ge 106, 3) := by decide +kernel
theorem dX13_curve_106 : decode cX13_curve 106 = .ok (.iload 4, 2) := by decide +kernel
theorem dX13_curve_108 : decode cX13_curve 108 = .ok (.iload 5, 2) := by decide +kernel
theorem dX13_curve_110 : decode cX13_curve 110 = .ok (.iadd, 1) := by decide +kernel
theorem dX13_curve_111 : decode cX13_curve 111 = .ok (.aload_n 3, 1) := by decide +kernel
theorem dX13_curve_112 : decode cX13_curve 112 = .ok (.getfield 59, 3) := by decide +kernel
theorem dX13_curve_115 : decode cX13_curve 115 = .ok (.if_icmp .ne 51, 3) := by decide +kernel
theorem dX13_curve_118 : decode cX13_curve 118 = .ok (.aload_n 0, 1) := by decide +kernel
theorem dX13_curve_119 : decode cX13_curve 119 = .ok (.invokevirtual 70, 3) := by decide +kernel
theorem dX13_curve_122 : decode cX13_curve 122 = .ok (.aload_n 0, 1) := by decide +kernel
theorem dX13_curve_123 : decode cX13_curve 123 = .ok (.getfield 17, 3) := by decide +kernel
theorem dX13_curve_126 : decode cX13_curve 126 = .ok (.aload_n 3, 1) := by decide +kernel
theorem dX13_curve_127 : decode cX13_curve 127 = .ok (.iload 4, 2) := by decide +kernel
theorem dX13_curve_129 : decode cX13_curve 129 = .ok (.aload_n 3, 1) := by decide +kernel
theorem dX13_curve_130 : decode cX13_curve 130 = .ok (.getfield 81, 3) := by decide +kernel
theorem dX13_curve_133 : decode cX13_curve 133 = .ok (.iconst 1, 1) := by decide +kernel
theorem dX13_curve_134 : decode cX13_curve 134 = .ok (.isub, 1) := by decide +kernel
theorem dX13_curve_135 : decode cX13_curve 135 = .ok (.invokestatic 87, 3) := by decide +kernel
theorem dX13_curve_138 : decode cX13_curve 138 = .ok (.lconst 1, 1) := by decide +kernel
theorem dX13_curve_139 : decode cX13_curve 139 = .ok (.lastore, 1) := by decide +kernel
theorem dX13_curve_140 : decode cX13_curve 140 = .ok (.aload_n 0, 1) := by decide +kernel
theorem dX13_curve_141 : decode cX13_curve 141 = .ok (.aload_n 3, 1) := by decide +kernel
theorem dX13_curve_142 : decode cX13_curve 142 = .ok (.iconst 0, 1) := by decide +kernel
theorem dX13_curve_143 : decode cX13_curve 143 = .ok (.invokevirtual 73, 3) := by decide +kernel
theorem dX13_curve_146 : decode cX13_curve 146 = .ok (.aload_n 0, 1) := by decide +kernel
theorem dX13_curve_147 : decode cX13_curve 147 = .ok (.aload_n 3, 1) := by decide +kernel
theorem dX13_curve_148 : decode cX13_curve 148 = .ok (.iconst 0, 1) := by decide +kernel
theorem dX13_curve_149 : decode cX13_curve 149 = .ok (.iload_n 2, 1) := by decide +kernel
theorem dX13_curve_150 : decode cX13_curve 150 = .ok (.iconst 1, 1) := by decide +kernel
theorem dX13_curve_151 : decode cX13_curve 151 = .ok (.invokevirtual 419, 3) := by decide +kernel
theorem dX13_curve_154 : decode cX13_curve 154 = .ok (.aload_n 0, 1) := by decide +kernel
theorem dX13_curve_155 : decode cX13_curve 155 = .ok (.iconst 3, 1) := by decide +kernel
theorem dX13_curve_156 : decode cX13_curve 156 = .ok (.iconst 1, 1) := by decide +kernel
theorem dX13_curve_157 : decode cX13_curve 157 = .ok (.ldc2_w 322, 3) := by decide +kernel
theorem dX13_curve_160 : decode cX13_curve 160 = .ok (.invokevirtual 324, 3) := by decide +kernel
theorem dX13_curve_163 : decode cX13_curve 163 = .ok (.goto 40, 3) := by decide +kernel
theorem dX13_curve_166 : decode cX13_curve 166 = .ok (.aload_n 0, 1) := by decide +kernel
theorem dX13_curve_167 : decode cX13_curve 167 = .ok (.aload_n 3, 1) := by decide +kernel
theorem dX13_curve_168 : decode cX13_curve 168 = .ok (.iload 4, 2) := by decide +kernel
theorem dX13_curve_170 : decode cX13_curve 170 = .ok (.iload 5, 2) := by decide +kernel
theorem dX13_curve_172 : decode cX13_curve 172 = .ok (.iconst 0, 1) := by decide +kernel
theorem dX13_curve_173 : decode cX13_curve 173 = .ok (.invokevirtual 353, 3) := by decide +kernel
theorem dX13_curve_176 : decode cX13_curve 176 = .ok (.aload_n 0, 1) := by decide +kernel
theorem dX13_curve_177 : decode cX13_curve 177 = .ok (.aload_n 3, 1) := by decide +kernel
theorem dX13_curve_178 : decode cX13_curve 178 = .ok (.iconst 0, 1) := by decide +kernel
theorem dX13_curve_179 : decode cX13_curve 179 = .ok (.iload_n 2, 1) := by decide +kernel
theorem dX13_curve_180 : decode cX13_curve 180 = .ok (.iconst 1, 1) := by decide +kernel
theorem dX13_curve_181 : decode cX13_curve 181 = .ok (.invokevirtual 419, 3) := by decide +kernel
theorem dX13_curve_184 : decode cX13_curve 184 = .ok (.aload_n 0, 1) := by decide +kernel
theorem dX13_curve_185 : decode cX13_curve 185 = .ok (.iconst 3, 1) := by decide +kernel
theorem dX13_curve_186 : decode cX13_curve 186 = .ok (.iconst 1, 1) := by decide +kernel
theorem dX13_curve_187 : decode cX13_curve 187 = .ok (.iload_n 2, 1) := by decide +kernel
theorem dX13_curve_188 : decode cX13_curve 188 = .ok (.iconst 2, 1) := by decide +kernel
theorem dX13_curve_189 : decode cX13_curve 189 = .ok (.irem, 1) := by decide +kernel
theorem dX13_curve_190 : decode cX13_curve 190 = .ok (.ifCond .ne 9, 3) := by decide +kernel
theorem dX13_curve_193 : decode cX13_curve 193 = .ok (.ldc2_w 322, 3) := by decide +kernel
theorem dX13_curve_196 : decode cX13_curve 196 = .ok (.goto 4, 3) := by decide +kernel
theorem dX13_curve_199 : decode cX13_curve 199 = .ok (.lconst 1, 1) := by decide +kernel
theorem dX13_curve_200 : decode cX13_curve 200 = .ok (.invokevirtual 324, 3) := by decide +kernel
theorem dX13_curve_203 : decode cX13_curve 203 = .ok (.iinc 5 1, 3) := by decide +kernel
theorem dX13_curve_206 : decode cX13_curve 206 = .ok (.goto (-109), 3) := by decide +kernel
theorem dX13_curve_209 : decode cX13_curve 209 = .ok (.iinc 4 1, 3) := by decide +kernel
theorem dX13_curve_212 : decode cX13_curve 212 = .ok (.goto (-127), 3) := by decide +kernel
theorem dX13_curve_215 : decode cX13_curve 215 = .ok (.aload_n 0, 1) := by decide +kernel
theorem dX13_curve_216 : decode cX13_curve 216 = .ok (.aload_n 0, 1) := by decide +kernel
theorem dX13_curve_217 : decode cX13_curve 217 = .ok (.getfield 13, 3) := by decide +kernel
theorem dX13_curve_220 : decode cX13_curve 220 = .ok (.bipush 36, 2) := by decide +kernel
theorem dX13_curve_222 : decode cX13_curve 222 = .ok (.laload, 1) := by decide +kernel
theorem dX13_curve_223 : decode cX13_curve 223 = .ok (.invokevirtual 422, 3) := by decide +kernel
theorem dX13_curve_226 : decode cX13_curve 226 = .ok (.lreturn, 1) := by decide +kernel
theorem dX13_isOddPrime_0 : decode cX13_isOddPrime 0 = .ok (.iload_n 0, 1) := by decide +kernel
theorem dX13_isOddPrime_1 : decode cX13_isOddPrime 1 = .ok (.iconst 3, 1) := by decide +kernel
theorem dX13_isOddPrime_2 : decode cX13_isOddPrime 2 = .ok (.sipush 199, 3) := by decide +kernel
theorem dX13_isOddPrime_5 : decode cX13_isOddPrime 5 = .ok (.invokestatic 168, 3) := by decide +kernel
theorem dX13_isOddPrime_8 : decode cX13_isOddPrime 8 = .ok (.ifCond .eq 14, 3) := by decide +kernel
theorem dX13_isOddPrime_11 : decode cX13_isOddPrime 11 = .ok (.iload_n 0, 1) := by decide +kernel
theorem dX13_isOddPrime_12 : decode cX13_isOddPrime 12 = .ok (.invokestatic 256, 3) := by decide +kernel
theorem dX13_isOddPrime_15 : decode cX13_isOddPrime 15 = .ok (.ifCond .eq 7, 3) := by decide +kernel
theorem dX13_isOddPrime_18 : decode cX13_isOddPrime 18 = .ok (.iconst 1, 1) := by decide +kernel
theorem dX13_isOddPrime_19 : decode cX13_isOddPrime 19 = .ok (.goto 4, 3) := by decide +kernel
theorem dX13_isOddPrime_22 : decode cX13_isOddPrime 22 = .ok (.iconst 0, 1) := by decide +kernel
theorem dX13_isOddPrime_23 : decode cX13_isOddPrime 23 = .ok (.ireturn, 1) := by decide +kernel
theorem dX13_signOf_0 : decode cX13_signOf 0 = .ok (.iload_n 0, 1) := by decide +kernel
theorem dX13_signOf_1 : decode cX13_signOf 1 = .ok (.iload_n 1, 1) := by decide +kernel
theorem dX13_signOf_2 : decode cX13_signOf 2 = .ok (.irem, 1) := by decide +kernel
theorem dX13_signOf_3 : decode cX13_signOf 3 = .ok (.iload_n 1, 1) := by decide +kernel
theorem dX13_signOf_4 : decode cX13_signOf 4 = .ok (.iadd, 1) := by decide +kernel
theorem dX13_signOf_5 : decode cX13_signOf 5 = .ok (.iload_n 1, 1) := by decide +kernel
theorem dX13_signOf_6 : decode cX13_signOf 6 = .ok (.irem, 1) := by decide +kernel
theorem dX13_signOf_7 : decode cX13_signOf 7 = .ok (.istore_n 2, 1) := by decide +kernel
theorem dX13_signOf_8 : decode cX13_signOf 8 = .ok (.iload_n 2, 1) := by decide +kernel
theorem dX13_signOf_9 : decode cX13_signOf 9 = .ok (.ifCond .ne 5, 3) := by decide +kernel
theorem dX13_signOf_12 : decode cX13_signOf 12 = .ok (.iconst 0, 1) := by decide +kernel
theorem dX13_signOf_13 : decode cX13_signOf 13 = .ok (.ireturn, 1) := by decide +kernel
theorem dX13_signOf_14 : decode cX13_signOf 14 = .ok (.iconst 1, 1) := by decide +kernel
theorem dX13_signOf_15 : decode cX13_signOf 15 = .ok (.istore_n 3, 1) := by decide +kernel
theorem dX13_signOf_16 : decode cX13_signOf 16 = .ok (.iload_n 3, 1) := by decide +kernel
theorem dX13_signOf_17 : decode cX13_signOf 17 = .ok (.iload_n 1, 1) := by decide +kernel
theorem dX13_signOf_18 : decode cX13_signOf 18 = .ok (.if_icmp .ge 20, 3) := by decide +kernel
theorem dX13_signOf_21 : decode cX13_signOf 21 = .ok (.iload_n 3, 1) := by decide +kernel
theorem dX13_signOf_22 : decode cX13_signOf 22 = .ok (.iload_n 3, 1) := by decide +kernel
theorem dX13_signOf_23 : decode cX13_signOf 23 = .ok (.imul, 1) := by decide +kernel
theorem dX13_signOf_24 : decode cX13_signOf 24 = .ok (.iload_n 1, 1) := by decide +kernel
theorem dX13_signOf_25 : decode cX13_signOf 25 = .ok (.irem, 1) := by decide +kernel
theorem dX13_signOf_26 : decode cX13_signOf 26 = .ok (.iload_n 2, 1) := by decide +kernel
theorem dX13_signOf_27 : decode cX13_signOf 27 = .ok (.if_icmp .ne 5, 3) := by decide +kernel
theorem dX13_signOf_30 : decode cX13_signOf 30 = .ok (.iconst 1, 1) := by decide +kernel
theorem dX13_signOf_31 : decode cX13_signOf 31 = .ok (.ireturn, 1) := by decide +kernel
theorem dX13_signOf_32 : decode cX13_signOf 32 = .ok (.iinc 3 1, 3) := by decide +kernel
theorem dX13_signOf_35 : decode cX13_signOf 35 = .ok (.goto (-19), 3) := by decide +kernel
theorem dX13_signOf_38 : decode cX13_signOf 38 = .ok (.iconst (-1), 1) := by decide +kernel
theorem dX13_signOf_39 : decode cX13_signOf 39 = .ok (.ireturn, 1) := by decide +kernel
theorem dX13_sign_0 : decode cX13_sign 0 = .ok (.aload_n 0, 1) := by decide +kernel
theorem dX13_sign_1 : decode cX13_sign 1 = .ok (.iconst 0, 1) := by decide +kernel
theorem dX13_sign_2 : decode cX13_sign 2 = .ok (.putfield 46, 3) := by decide +kernel
theorem dX13_sign_5 : decode cX13_sign 5 = .ok (.iload_n 2, 1) := by decide +kernel
theorem dX13_sign_6 : decode cX13_sign 6 = .ok (.invokestatic 426, 3) := by decide +kernel
theorem dX13_sign_9 : decode cX13_sign 9 = .ok (.ifCond .eq 15, 3) := by decide +kernel
theorem dX13_sign_12 : decode cX13_sign 12 = .ok (.aload_n 0, 1) := by decide +kernel
theorem dX13_sign_13 : decode cX13_sign 13 = .ok (.iload_n 1, 1) := by decide +kernel
theorem dX13_sign_14 : decode cX13_sign 14 = .ok (.iload_n 2, 1) := by decide +kernel
theorem dX13_sign_15 : decode cX13_sign 15 = .ok (.invokestatic 429, 3) := by decide +kernel
theorem dX13_sign_18 : decode cX13_sign 18 = .ok (.invokevirtual 56, 3) := by decide +kernel
theorem dX13_sign_21 : decode cX13_sign 21 = .ok (.goto 10, 3) := by decide +kernel
theorem dX13_sign_24 : decode cX13_sign 24 = .ok (.aload_n 0, 1) := by decide +kernel
theorem dX13_sign_25 : decode cX13_sign 25 = .ok (.iconst 1, 1) := by decide +kernel
theorem dX13_sign_26 : decode cX13_sign 26 = .ok (.bipush (-2), 2) := by decide +kernel
theorem dX13_sign_28 : decode cX13_sign 28 = .ok (.invokevirtual 391, 3) := by decide +kernel
theorem dX13_sign_31 : decode cX13_sign 31 = .ok (.ireturn, 1) := by decide +kernel
theorem dX13_both_0 : decode cX13_both 0 = .ok (.aload_n 0, 1) := by decide +kernel
theorem dX13_both_1 : decode cX13_both 1 = .ok (.iconst 0, 1) := by decide +kernel
theorem dX13_both_2 : decode cX13_both 2 = .ok (.putfield 46, 3) := by decide +kernel
theorem dX13_both_5 : decode cX13_both 5 = .ok (.iload_n 1, 1) := by decide +kernel
theorem dX13_both_6 : decode cX13_both 6 = .ok (.invokestatic 426, 3) := by decide +kernel
theorem dX13_both_9 : decode cX13_both 9 = .ok (.ifCond .eq 33, 3) := by decide +kernel
theorem dX13_both_12 : decode cX13_both 12 = .ok (.iload_n 2, 1) := by decide +kernel
theorem dX13_both_13 : decode cX13_both 13 = .ok (.invokestatic 426, 3) := by decide +kernel
theorem dX13_both_16 : decode cX13_both 16 = .ok (.ifCond .eq 26, 3) := by decide +kernel
theorem dX13_both_19 : decode cX13_both 19 = .ok (.iload_n 1, 1) := by decide +kernel
theorem dX13_both_20 : decode cX13_both 20 = .ok (.iload_n 2, 1) := by decide +kernel
theorem dX13_both_21 : decode cX13_both 21 = .ok (.if_icmp .eq 21, 3) := by decide +kernel
theorem dX13_both_24 : decode cX13_both 24 = .ok (.aload_n 0, 1) := by decide +kernel
theorem dX13_both_25 : decode cX13_both 25 = .ok (.iload_n 1, 1) := by decide +kernel
theorem dX13_both_26 : decode cX13_both 26 = .ok (.iload_n 2, 1) := by decide +kernel
theorem dX13_both_27 : decode cX13_both 27 = .ok (.invokestatic 429, 3) := by decide +kernel
theorem dX13_both_30 : decode cX13_both 30 = .ok (.iload_n 2, 1) := by decide +kernel
theorem dX13_both_31 : decode cX13_both 31 = .ok (.iload_n 1, 1) := by decide +kernel
theorem dX13_both_32 : decode cX13_both 32 = .ok (.invokestatic 429, 3) := by decide +kernel
theorem dX13_both_35 : decode cX13_both 35 = .ok (.imul, 1) := by decide +kernel
theorem dX13_both_36 : decode cX13_both 36 = .ok (.invokevirtual 56, 3) := by decide +kernel
theorem dX13_both_39 : decode cX13_both 39 = .ok (.goto 10, 3) := by decide +kernel
theorem dX13_both_42 : decode cX13_both 42 = .ok (.aload_n 0, 1) := by decide +kernel
theorem dX13_both_43 : decode cX13_both 43 = .ok (.iconst 1, 1) := by decide +kernel
theorem dX13_both_44 : decode cX13_both 44 = .ok (.bipush (-2), 2) := by decide +kernel
theorem dX13_both_46 : decode cX13_both 46 = .ok (.invokevirtual 391, 3) := by decide +kernel
theorem dX13_both_49 : decode cX13_both 49 = .ok (.ireturn, 1) := by decide +kernel
theorem dX13_isSquare_0 : decode cX13_isSquare 0 = .ok (.iconst 0, 1) := by decide +kernel
theorem dX13_isSquare_1 : decode cX13_isSquare 1 = .ok (.istore_n 1, 1) := by decide +kernel
theorem dX13_isSquare_2 : decode cX13_isSquare 2 = .ok (.iload_n 1, 1) := by decide +kernel
theorem dX13_isSquare_3 : decode cX13_isSquare 3 = .ok (.iload_n 1, 1) := by decide +kernel
theorem dX13_isSquare_4 : decode cX13_isSquare 4 = .ok (.imul, 1) := by decide +kernel
theorem dX13_isSquare_5 : decode cX13_isSquare 5 = .ok (.iload_n 0, 1) := by decide +kernel
theorem dX13_isSquare_6 : decode cX13_isSquare 6 = .ok (.if_icmp .ge 9, 3) := by decide +kernel
theorem dX13_isSquare_9 : decode cX13_isSquare 9 = .ok (.iinc 1 1, 3) := by decide +kernel
theorem dX13_isSquare_12 : decode cX13_isSquare 12 = .ok (.goto (-10), 3) := by decide +kernel
theorem dX13_isSquare_15 : decode cX13_isSquare 15 = .ok (.iload_n 1, 1) := by decide +kernel
theorem dX13_isSquare_16 : decode cX13_isSquare 16 = .ok (.iload_n 1, 1) := by decide +kernel
theorem dX13_isSquare_17 : decode cX13_isSquare 17 = .ok (.imul, 1) := by decide +kernel
theorem dX13_isSquare_18 : decode cX13_isSquare 18 = .ok (.iload_n 0, 1) := by decide +kernel
theorem dX13_isSquare_19 : decode cX13_isSquare 19 = .ok (.if_icmp .ne 7, 3) := by decide +kernel
theorem dX13_isSquare_22 : decode cX13_isSquare 22 = .ok (.iconst 1, 1) := by decide +kernel
theorem dX13_isSquare_23 : decode cX13_isSquare 23 = .ok (.goto 4, 3) := by decide +kernel
theorem dX13_isSquare_26 : decode cX13_isSquare 26 = .ok (.iconst 0, 1) := by decide +kernel
theorem dX13_isSquare_27 : decode cX13_isSquare 27 = .ok (.ireturn, 1) := by decide +kernel
theorem dX13_form_0 : decode cX13_form 0 = .ok (.aload_n 0, 1) := by decide +kernel
theorem dX13_form_1 : decode cX13_form 1 = .ok (.iconst 0, 1) := by decide +kernel
theorem dX13_form_2 : decode cX13_form 2 = .ok (.putfield 46, 3) := by decide +kernel
theorem dX13_form_5 : decode cX13_form 5 = .ok (.iload_n 1, 1) := by decide +kernel
theorem dX13_form_6 : decode cX13_form 6 = .ok (.invokestatic 426, 3) := by decide +kernel
theorem dX13_form_9 : decode cX13_form 9 = .ok (.ifCond .ne 9, 3) := by decide +kernel
theorem dX13_form_12 : decode cX13_form 12 = .ok (.aload_n 0, 1) := by decide +kernel
theorem dX13_form_13 : decode cX13_form 13 = .ok (.iconst 1, 1) := by decide +kernel
theorem dX13_form_14 : decode cX13_form 14 = .ok (.invokevirtual 52, 3) := by decide +kernel
theorem dX13_form_17 : decode cX13_form 17 = .ok (.ireturn, 1) := by decide +kernel
theorem dX13_form_18 : decode cX13_form 18 = .ok (.iload_n 2, 1) := by decide +kernel
theorem dX13_form_19 : decode cX13_form 19 = .ok (.iconst 1, 1) := by decide +kernel
theorem dX13_form_20 : decode cX13_form 20 = .ok (.bipush 99, 2) := by decide +kernel
theorem dX13_form_22 : decode cX13_form 22 = .ok (.invokestatic 168, 3) := by decide +kernel
theorem dX13_form_25 : decode cX13_form 25 = .ok (.ifCond .ne 9, 3) := by decide +kernel
theorem dX13_form_28 : decode cX13_form 28 = .ok (.aload_n 0, 1) := by decide +kernel
theorem dX13_form_29 : decode cX13_form 29 = .ok (.iconst 2, 1) := by decide +kernel
theorem dX13_form_30 : decode cX13_form 30 = .ok (.invokevirtual 52, 3) := by decide +kernel
theorem dX13_form_33 : decode cX13_form 33 = .ok (.ireturn, 1) := by decide +kernel
theorem dX13_form_34 : decode cX13_form 34 = .ok (.iconst 0, 1) := by decide +kernel
theorem dX13_form_35 : decode cX13_form 35 = .ok (.istore_n 3, 1) := by decide +kernel
theorem dX13_form_36 : decode cX13_form 36 = .ok (.iload_n 2, 1) := by decide +kernel
theorem dX13_form_37 : decode cX13_form 37 = .ok (.iload_n 3, 1) := by decide +kernel
theorem dX13_form_38 : decode cX13_form 38 = .ok (.imul, 1) := by decide +kernel
theorem dX13_form_39 : decode cX13_form 39 = .ok (.iload_n 3, 1) := by decide +kernel
theorem dX13_form_40 : decode cX13_form 40 = .ok (.imul, 1) := by decide +kernel
theorem dX13_form_41 : decode cX13_form 41 = .ok (.iload_n 1, 1) := by decide +kernel
theorem dX13_form_42 : decode cX13_form 42 = .ok (.if_icmp .gt 28, 3) := by decide +kernel
theorem dX13_form_45 : decode cX13_form 45 = .ok (.iload_n 1, 1) := by decide +kernel
theorem dX13_form_46 : decode cX13_form 46 = .ok (.iload_n 2, 1) := by decide +kernel
theorem dX13_form_47 : decode cX13_form 47 = .ok (.iload_n 3, 1) := by decide +kernel
theorem dX13_form_48 : decode cX13_form 48 = .ok (.imul, 1) := by decide +kernel
theorem dX13_form_49 : decode cX13_form 49 = .ok (.iload_n 3, 1) := by decide +kernel
theorem dX13_form_50 : decode cX13_form 50 = .ok (.imul, 1) := by decide +kernel
theorem dX13_form_51 : decode cX13_form 51 = .ok (.isub, 1) := by decide +kernel
theorem dX13_form_52 : decode cX13_form 52 = .ok (.invokestatic 432, 3) := by decide +kernel
theorem dX13_form_55 : decode cX13_form 55 = .ok (.ifCond .eq 9, 3) := by decide +kernel
theorem dX13_form_58 : decode cX13_form 58 = .ok (.aload_n 0, 1) := by decide +kernel
theorem dX13_form_59 : decode cX13_form 59 = .ok (.iload_n 3, 1) := by decide +kernel
theorem dX13_form_60 : decode cX13_form 60 = .ok (.invokevirtual 56, 3) := by decide +kernel
theorem dX13_form_63 : decode cX13_form 63 = .ok (.ireturn, 1) := by decide +kernel
theorem dX13_form_64 : decode cX13_form 64 = .ok (.iinc 3 1, 3) := by decide +kernel
theorem dX13_form_67 : decode cX13_form 67 = .ok (.goto (-31), 3) := by decide +kernel
theorem dX13_form_70 : decode cX13_form 70 = .ok (.aload_n 0, 1) := by decide +kernel
theorem dX13_form_71 : decode cX13_form 71 = .ok (.bipush (-2), 2) := by decide +kernel
theorem dX13_form_73 : decode cX13_form 73 = .ok (.invokevirtual 56, 3) := by decide +kernel
theorem dX13_form_76 : decode cX13_form 76 = .ok (.ireturn, 1) := by decide +kernel
