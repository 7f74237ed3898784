theorem dX13_power_0 : decode cX13_power 0 = .ok (.aload_n 0, 1) := by decide +kernel
theorem dX13_power_1 : decode cX13_power 1 = .ok (.iconst 0, 1) := by decide +kernel
theorem dX13_power_2 : decode cX13_power 2 = .ok (.putfield 46, 3) := by decide +kernel
theorem dX13_power_5 : decode cX13_power 5 = .ok (.aload_n 0, 1) := by decide +kernel
theorem dX13_power_6 : decode cX13_power 6 = .ok (.iload_n 1, 1) := by decide +kernel
theorem dX13_power_7 : decode cX13_power 7 = .ok (.invokevirtual 381, 3) := by decide +kernel
theorem dX13_power_10 : decode cX13_power 10 = .ok (.ifCond .ne 9, 3) := by decide +kernel
theorem dX13_power_13 : decode cX13_power 13 = .ok (.aload_n 0, 1) := by decide +kernel
theorem dX13_power_14 : decode cX13_power 14 = .ok (.iconst 1, 1) := by decide +kernel
theorem dX13_power_15 : decode cX13_power 15 = .ok (.invokevirtual 52, 3) := by decide +kernel
theorem dX13_power_18 : decode cX13_power 18 = .ok (.ireturn, 1) := by decide +kernel
theorem dX13_power_19 : decode cX13_power 19 = .ok (.iload_n 2, 1) := by decide +kernel
theorem dX13_power_20 : decode cX13_power 20 = .ok (.iconst 1, 1) := by decide +kernel
theorem dX13_power_21 : decode cX13_power 21 = .ok (.aload_n 0, 1) := by decide +kernel
theorem dX13_power_22 : decode cX13_power 22 = .ok (.getfield 369, 3) := by decide +kernel
theorem dX13_power_25 : decode cX13_power 25 = .ok (.getfield 259, 3) := by decide +kernel
theorem dX13_power_28 : decode cX13_power 28 = .ok (.iload_n 1, 1) := by decide +kernel
theorem dX13_power_29 : decode cX13_power 29 = .ok (.aaload, 1) := by decide +kernel
theorem dX13_power_30 : decode cX13_power 30 = .ok (.getfield 81, 3) := by decide +kernel
theorem dX13_power_33 : decode cX13_power 33 = .ok (.iconst 1, 1) := by decide +kernel
theorem dX13_power_34 : decode cX13_power 34 = .ok (.isub, 1) := by decide +kernel
theorem dX13_power_35 : decode cX13_power 35 = .ok (.invokestatic 168, 3) := by decide +kernel
theorem dX13_power_38 : decode cX13_power 38 = .ok (.ifCond .eq 13, 3) := by decide +kernel
theorem dX13_power_41 : decode cX13_power 41 = .ok (.iload_n 3, 1) := by decide +kernel
theorem dX13_power_42 : decode cX13_power 42 = .ok (.iconst 1, 1) := by decide +kernel
theorem dX13_power_43 : decode cX13_power 43 = .ok (.bipush 12, 2) := by decide +kernel
theorem dX13_power_45 : decode cX13_power 45 = .ok (.invokestatic 168, 3) := by decide +kernel
theorem dX13_power_48 : decode cX13_power 48 = .ok (.ifCond .ne 9, 3) := by decide +kernel
theorem dX13_power_51 : decode cX13_power 51 = .ok (.aload_n 0, 1) := by decide +kernel
theorem dX13_power_52 : decode cX13_power 52 = .ok (.iconst 2, 1) := by decide +kernel
theorem dX13_power_53 : decode cX13_power 53 = .ok (.invokevirtual 52, 3) := by decide +kernel
theorem dX13_power_56 : decode cX13_power 56 = .ok (.ireturn, 1) := by decide +kernel
theorem dX13_power_57 : decode cX13_power 57 = .ok (.aload_n 0, 1) := by decide +kernel
theorem dX13_power_58 : decode cX13_power 58 = .ok (.aload_n 0, 1) := by decide +kernel
theorem dX13_power_59 : decode cX13_power 59 = .ok (.getfield 369, 3) := by decide +kernel
theorem dX13_power_62 : decode cX13_power 62 = .ok (.getfield 259, 3) := by decide +kernel
theorem dX13_power_65 : decode cX13_power 65 = .ok (.iload_n 1, 1) := by decide +kernel
theorem dX13_power_66 : decode cX13_power 66 = .ok (.aaload, 1) := by decide +kernel
theorem dX13_power_67 : decode cX13_power 67 = .ok (.getfield 84, 3) := by decide +kernel
theorem dX13_power_70 : decode cX13_power 70 = .ok (.iload_n 2, 1) := by decide +kernel
theorem dX13_power_71 : decode cX13_power 71 = .ok (.iaload, 1) := by decide +kernel
theorem dX13_power_72 : decode cX13_power 72 = .ok (.aload_n 0, 1) := by decide +kernel
theorem dX13_power_73 : decode cX13_power 73 = .ok (.getfield 369, 3) := by decide +kernel
theorem dX13_power_76 : decode cX13_power 76 = .ok (.getfield 259, 3) := by decide +kernel
theorem dX13_power_79 : decode cX13_power 79 = .ok (.iload_n 1, 1) := by decide +kernel
theorem dX13_power_80 : decode cX13_power 80 = .ok (.aaload, 1) := by decide +kernel
theorem dX13_power_81 : decode cX13_power 81 = .ok (.getfield 81, 3) := by decide +kernel
theorem dX13_power_84 : decode cX13_power 84 = .ok (.iconst 1, 1) := by decide +kernel
theorem dX13_power_85 : decode cX13_power 85 = .ok (.isub, 1) := by decide +kernel
theorem dX13_power_86 : decode cX13_power 86 = .ok (.iload_n 3, 1) := by decide +kernel
theorem dX13_power_87 : decode cX13_power 87 = .ok (.invokestatic 435, 3) := by decide +kernel
theorem dX13_power_90 : decode cX13_power 90 = .ok (.irem, 1) := by decide +kernel
theorem dX13_power_91 : decode cX13_power 91 = .ok (.ifCond .ne 7, 3) := by decide +kernel
theorem dX13_power_94 : decode cX13_power 94 = .ok (.iconst 1, 1) := by decide +kernel
theorem dX13_power_95 : decode cX13_power 95 = .ok (.goto 4, 3) := by decide +kernel
theorem dX13_power_98 : decode cX13_power 98 = .ok (.iconst 0, 1) := by decide +kernel
theorem dX13_power_99 : decode cX13_power 99 = .ok (.invokevirtual 56, 3) := by decide +kernel
theorem dX13_power_102 : decode cX13_power 102 = .ok (.ireturn, 1) := by decide +kernel
theorem dX13_classSums_0 : decode cX13_classSums 0 = .ok (.aload_n 0, 1) := by decide +kernel
theorem dX13_classSums_1 : decode cX13_classSums 1 = .ok (.iconst 0, 1) := by decide +kernel
theorem dX13_classSums_2 : decode cX13_classSums 2 = .ok (.putfield 46, 3) := by decide +kernel
theorem dX13_classSums_5 : decode cX13_classSums 5 = .ok (.iload_n 1, 1) := by decide +kernel
theorem dX13_classSums_6 : decode cX13_classSums 6 = .ok (.bipush 7, 2) := by decide +kernel
theorem dX13_classSums_8 : decode cX13_classSums 8 = .ok (.sipush 199, 3) := by decide +kernel
theorem dX13_classSums_11 : decode cX13_classSums 11 = .ok (.invokestatic 168, 3) := by decide +kernel
theorem dX13_classSums_14 : decode cX13_classSums 14 = .ok (.ifCond .eq 17, 3) := by decide +kernel
theorem dX13_classSums_17 : decode cX13_classSums 17 = .ok (.iload_n 1, 1) := by decide +kernel
theorem dX13_classSums_18 : decode cX13_classSums 18 = .ok (.invokestatic 256, 3) := by decide +kernel
theorem dX13_classSums_21 : decode cX13_classSums 21 = .ok (.ifCond .eq 10, 3) := by decide +kernel
theorem dX13_classSums_24 : decode cX13_classSums 24 = .ok (.iload_n 1, 1) := by decide +kernel
theorem dX13_classSums_25 : decode cX13_classSums 25 = .ok (.iconst 4, 1) := by decide +kernel
theorem dX13_classSums_26 : decode cX13_classSums 26 = .ok (.irem, 1) := by decide +kernel
theorem dX13_classSums_27 : decode cX13_classSums 27 = .ok (.iconst 3, 1) := by decide +kernel
theorem dX13_classSums_28 : decode cX13_classSums 28 = .ok (.if_icmp .eq 9, 3) := by decide +kernel
theorem dX13_classSums_31 : decode cX13_classSums 31 = .ok (.aload_n 0, 1) := by decide +kernel
theorem dX13_classSums_32 : decode cX13_classSums 32 = .ok (.iconst 2, 1) := by decide +kernel
theorem dX13_classSums_33 : decode cX13_classSums 33 = .ok (.invokevirtual 52, 3) := by decide +kernel
theorem dX13_classSums_36 : decode cX13_classSums 36 = .ok (.ireturn, 1) := by decide +kernel
theorem dX13_classSums_37 : decode cX13_classSums 37 = .ok (.iconst 0, 1) := by decide +kernel
theorem dX13_classSums_38 : decode cX13_classSums 38 = .ok (.istore_n 2, 1) := by decide +kernel
theorem dX13_classSums_39 : decode cX13_classSums 39 = .ok (.iconst 1, 1) := by decide +kernel
theorem dX13_classSums_40 : decode cX13_classSums 40 = .ok (.istore_n 3, 1) := by decide +kernel
theorem dX13_classSums_41 : decode cX13_classSums 41 = .ok (.iload_n 3, 1) := by decide +kernel
theorem dX13_classSums_42 : decode cX13_classSums 42 = .ok (.iload_n 1, 1) := by decide +kernel
theorem dX13_classSums_43 : decode cX13_classSums 43 = .ok (.if_icmp .ge 19, 3) := by decide +kernel
theorem dX13_classSums_46 : decode cX13_classSums 46 = .ok (.iload_n 2, 1) := by decide +kernel
theorem dX13_classSums_47 : decode cX13_classSums 47 = .ok (.iload_n 3, 1) := by decide +kernel
theorem dX13_classSums_48 : decode cX13_classSums 48 = .ok (.iload_n 3, 1) := by decide +kernel
theorem dX13_classSums_49 : decode cX13_classSums 49 = .ok (.iload_n 1, 1) := by decide +kernel
theorem dX13_classSums_50 : decode cX13_classSums 50 = .ok (.invokestatic 429, 3) := by decide +kernel
theorem dX13_classSums_53 : decode cX13_classSums 53 = .ok (.imul, 1) := by decide +kernel
theorem dX13_classSums_54 : decode cX13_classSums 54 = .ok (.isub, 1) := by decide +kernel
theorem dX13_classSums_55 : decode cX13_classSums 55 = .ok (.istore_n 2, 1) := by decide +kernel
theorem dX13_classSums_56 : decode cX13_classSums 56 = .ok (.iinc 3 1, 3) := by decide +kernel
theorem dX13_classSums_59 : decode cX13_classSums 59 = .ok (.goto (-18), 3) := by decide +kernel
theorem dX13_classSums_62 : decode cX13_classSums 62 = .ok (.aload_n 0, 1) := by decide +kernel
theorem dX13_classSums_63 : decode cX13_classSums 63 = .ok (.iload_n 2, 1) := by decide +kernel
theorem dX13_classSums_64 : decode cX13_classSums 64 = .ok (.iload_n 1, 1) := by decide +kernel
theorem dX13_classSums_65 : decode cX13_classSums 65 = .ok (.idiv, 1) := by decide +kernel
theorem dX13_classSums_66 : decode cX13_classSums 66 = .ok (.invokevirtual 56, 3) := by decide +kernel
theorem dX13_classSums_69 : decode cX13_classSums 69 = .ok (.ireturn, 1) := by decide +kernel
theorem dX13_classForms_0 : decode cX13_classForms 0 = .ok (.aload_n 0, 1) := by decide +kernel
theorem dX13_classForms_1 : decode cX13_classForms 1 = .ok (.iconst 0, 1) := by decide +kernel
theorem dX13_classForms_2 : decode cX13_classForms 2 = .ok (.putfield 46, 3) := by decide +kernel
theorem dX13_classForms_5 : decode cX13_classForms 5 = .ok (.iload_n 1, 1) := by decide +kernel
theorem dX13_classForms_6 : decode cX13_classForms 6 = .ok (.iconst 3, 1) := by decide +kernel
theorem dX13_classForms_7 : decode cX13_classForms 7 = .ok (.sipush 999, 3) := by decide +kernel
theorem dX13_classForms_10 : decode cX13_classForms 10 = .ok (.invokestatic 168, 3) := by decide +kernel
theorem dX13_classForms_13 : decode cX13_classForms 13 = .ok (.ifCond .eq 16, 3) := by decide +kernel
theorem dX13_classForms_16 : decode cX13_classForms 16 = .ok (.iload_n 1, 1) := by decide +kernel
theorem dX13_classForms_17 : decode cX13_classForms 17 = .ok (.iconst 4, 1) := by decide +kernel
theorem dX13_classForms_18 : decode cX13_classForms 18 = .ok (.irem, 1) := by decide +kernel
theorem dX13_classForms_19 : decode cX13_classForms 19 = .ok (.ifCond .eq 16, 3) := by decide +kernel
theorem dX13_classForms_22 : decode cX13_classForms 22 = .ok (.iload_n 1, 1) := by decide +kernel
theorem dX13_classForms_23 : decode cX13_classForms 23 = .ok (.iconst 4, 1) := by decide +kernel
theorem dX13_classForms_24 : decode cX13_classForms 24 = .ok (.irem, 1) := by decide +kernel
theorem dX13_classForms_25 : decode cX13_classForms 25 = .ok (.iconst 3, 1) := by decide +kernel
theorem dX13_classForms_26 : decode cX13_classForms 26 = .ok (.if_icmp .eq 9, 3) := by decide +kernel
theorem dX13_classForms_29 : decode cX13_classForms 29 = .ok (.aload_n 0, 1) := by decide +kernel
theorem dX13_classForms_30 : decode cX13_classForms 30 = .ok (.iconst 2, 1) := by decide +kernel
theorem dX13_classForms_31 : decode cX13_classForms 31 = .ok (.invokevirtual 52, 3) := by decide +kernel
theorem dX13_classForms_34 : decode cX13_classForms 34 = .ok (.ireturn, 1) := by decide +kernel
theorem dX13_classForms_35 : decode cX13_classForms 35 = .ok (.iconst 0, 1) := by decide +kernel
theorem dX13_classForms_36 : decode cX13_classForms 36 = .ok (.istore_n 2, 1) := by decide +kernel
theorem dX13_classForms_37 : decode cX13_classForms 37 = .ok (.iconst 1, 1) := by decide +kernel
theorem dX13_classForms_38 : decode cX13_classForms 38 = .ok (.istore_n 3, 1) := by decide +kernel
theorem dX13_classForms_39 : decode cX13_classForms 39 = .ok (.iconst 3, 1) := by decide +kernel
theorem dX13_classForms_40 : decode cX13_classForms 40 = .ok (.iload_n 3, 1) := by decide +kernel
theorem dX13_classForms_41 : decode cX13_classForms 41 = .ok (.imul, 1) := by decide +kernel
theorem dX13_classForms_42 : decode cX13_classForms 42 = .ok (.iload_n 3, 1) := by decide +kernel
theorem dX13_classForms_43 : decode cX13_classForms 43 = .ok (.imul, 1) := by decide +kernel
theorem dX13_classForms_44 : decode cX13_classForms 44 = .ok (.iload_n 1, 1) := by decide +kernel
theorem dX13_classForms_45 : decode cX13_classForms 45 = .ok (.if_icmp .gt 110, 3) := by decide +kernel
theorem dX13_classForms_48 : decode cX13_classForms 48 = .ok (.iconst 1, 1) := by decide +kernel
theorem dX13_classForms_49 : decode cX13_classForms 49 = .ok (.iload_n 3, 1) := by decide +kernel
theorem dX13_classForms_50 : decode cX13_classForms 50 = .ok (.isub, 1) := by decide +kernel
theorem dX13_classForms_51 : decode cX13_classForms 51 = .ok (.istore 4, 2) := by decide +kernel
theorem dX13_classForms_53 : decode cX13_classForms 53 = .ok (.iload 4, 2) := by decide +kernel
theorem dX13_classForms_55 : decode cX13_classForms 55 = .ok (.iload_n 3, 1) := by decide +kernel
theorem dX13_classForms_56 : decode cX13_classForms 56 = .ok (.if_icmp .gt 93, 3) := by decide +kernel
theorem dX13_classForms_59 : decode cX13_classForms 59 = .ok (.iload 4, 2) := by decide +kernel
theorem dX13_classForms_61 : decode cX13_classForms 61 = .ok (.iload 4, 2) := by decide +kernel
theorem dX13_classForms_63 : decode cX13_classForms 63 = .ok (.imul, 1) := by decide +kernel
theorem dX13_classForms_64 : decode cX13_classForms 64 = .ok (.iload_n 1, 1) := by decide +kernel
theorem dX13_classForms_65 : decode cX13_classForms 65 = .ok (.iadd, 1) := by decide +kernel
theorem dX13_classForms_66 : decode cX13_classForms 66 = .ok (.iconst 4, 1) := by decide +kernel
theorem dX13_classForms_67 : decode cX13_classForms 67 = .ok (.iload_n 3, 1) := by decide +kernel
theorem dX13_classForms_68 : decode cX13_classForms 68 = .ok (.imul, 1) := by decide +kernel
theorem dX13_classForms_69 : decode cX13_classForms 69 = .ok (.irem, 1) := by decide +kernel
theorem dX13_classForms_70 : decode cX13_classForms 70 = .ok (.ifCond .eq 6, 3) := by decide +kernel
theorem dX13_classForms_73 : decode cX13_classForms 73 = .ok (.goto 70, 3) := by decide +kernel
theorem dX13_classForms_76 : decode cX13_classForms 76 = .ok (.iload 4, 2) := by decide +kernel
theorem dX13_classForms_78 : decode cX13_classForms 78 = .ok (.iload 4, 2) := by decide +kernel
theorem dX13_classForms_80 : decode cX13_classForms 80 = .ok (.imul, 1) := by decide +kernel
theorem dX13_classForms_81 : decode cX13_classForms 81 = .ok (.iload_n 1, 1) := by decide +kernel
theorem dX13_classForms_82 : decode cX13_classForms 82 = .ok (.iadd, 1) := by decide +kernel
theorem dX13_classForms_83 : decode cX13_classForms 83 = .ok (.iconst 4, 1) := by decide +kernel
theorem dX13_classForms_84 : decode cX13_classForms 84 = .ok (.iload_n 3, 1) := by decide +kernel
theorem dX13_classForms_85 : decode cX13_classForms 85 = .ok (.imul, 1) := by decide +kernel
theorem dX13_classForms_86 : decode cX13_classForms 86 = .ok (.idiv, 1) := by decide +kernel
theorem dX13_classForms_87 : decode cX13_classForms 87 = .ok (.istore 5, 2) := by decide +kernel
theorem dX13_classForms_89 : decode cX13_classForms 89 = .ok (.iload 5, 2) := by decide +kernel
theorem dX13_classForms_91 : decode cX13_classForms 91 = .ok (.iload_n 3, 1) := by decide +kernel
theorem dX13_classForms_92 : decode cX13_classForms 92 = .ok (.if_icmp .lt 51, 3) := by decide +kernel
theorem dX13_classForms_95 : decode cX13_classForms 95 = .ok (.iload 5, 2) := by decide +kernel
theorem dX13_classForms_97 : decode cX13_classForms 97 = .ok (.iload_n 3, 1) := by decide +kernel
theorem dX13_classForms_98 : decode cX13_classForms 98 = .ok (.if_icmp .ne 11, 3) := by decide +kernel
theorem dX13_classForms_101 : decode cX13_classForms 101 = .ok (.iload 4, 2) := by decide +kernel
theorem dX13_classForms_103 : decode cX13_classForms 103 = .ok (.ifCond .ge 6, 3) := by decide +kernel
theorem dX13_classForms_106 : decode cX13_classForms 106 = .ok (.goto 37, 3) := by decide +kernel
theorem dX13_classForms_109 : decode cX13_classForms 109 = .ok (.iload_n 2, 1) := by decide +kernel
theorem dX13_classForms_110 : decode cX13_classForms 110 = .ok (.iload_n 3, 1) := by decide +kernel
theorem dX13_classForms_111 : decode cX13_classForms 111 = .ok (.iload 4, 2) := by decide +kernel
theorem dX13_classForms_113 : decode cX13_classForms 113 = .ok (.ifCond .ge 9, 3) := by decide +kernel
theorem dX13_classForms_116 : decode cX13_classForms 116 = .ok (.iload 4, 2) := by decide +kernel
theorem dX13_classForms_118 : decode cX13_classForms 118 = .ok (.ineg, 1) := by decide +kernel
theorem dX13_classForms_119 : decode cX13_classForms 119 = .ok (.goto 5, 3) := by decide +kernel
theorem dX13_classForms_122 : decode cX13_classForms 122 = .ok (.iload 4, 2) := by decide +kernel
theorem dX13_classForms_124 : decode cX13_classForms 124 = .ok (.invokestatic 435, 3) := by decide +kernel
theorem dX13_classForms_127 : decode cX13_classForms 127 = .ok (.iload 5, 2) := by decide +kernel
theorem dX13_classForms_129 : decode cX13_classForms 129 = .ok (.invokestatic 435, 3) := by decide +kernel
theorem dX13_classForms_132 : decode cX13_classForms 132 = .ok (.iconst 1, 1) := by decide +kernel
theorem dX13_classForms_133 : decode cX13_classForms 133 = .ok (.if_icmp .ne 7, 3) := by decide +kernel
theorem dX13_classForms_136 : decode cX13_classForms 136 = .ok (.iconst 1, 1) := by decide +kernel
theorem dX13_classForms_137 : decode cX13_classForms 137 = .ok (.goto 4, 3) := by decide +kernel
theorem dX13_classForms_140 : decode cX13_classForms 140 = .ok (.iconst 0, 1) := by decide +kernel
theorem dX13_classForms_141 : decode cX13_classForms 141 = .ok (.iadd, 1) := by decide +kernel
theorem dX13_classForms_142 : decode cX13_classForms 142 = .ok (.istore_n 2, 1) := by decide +kernel
theorem dX13_classForms_143 : decode cX13_classForms 143 = .ok (.iinc 4 1, 3) := by decide +kernel
theorem dX13_classForms_146 : decode cX13_classForms 146 = .ok (.goto (-93), 3) := by decide +kernel
theorem dX13_classForms_149 : decode cX13_classForms 149 = .ok (.iinc 3 1, 3) := by decide +kernel
theorem dX13_classForms_152 : decode cX13_classForms 152 = .ok (.goto (-113), 3) := by decide +kernel
theorem dX13_classForms_155 : decode cX13_classForms 155 = .ok (.aload_n 0, 1) := by decide +kernel
theorem dX13_classForms_156 : decode cX13_classForms 156 = .ok (.iload_n 2, 1) := by decide +kernel
theorem dX13_classForms_157 : decode cX13_classForms 157 = .ok (.invokevirtual 56, 3) := by decide +kernel
theorem dX13_classForms_160 : decode cX13_classForms 160 = .ok (.ireturn, 1) := by decide +kernel
theorem dX13_meets_0 : decode cX13_meets 0 = .ok (.aload_n 0, 1) := by decide +kernel
theorem dX13_meets_1 : decode cX13_meets 1 = .ok (.iconst 0, 1) := by decide +kernel
theorem dX13_meets_2 : decode cX13_meets 2 = .ok (.putfield 46, 3) := by decide +kernel
theorem dX13_meets_5 : decode cX13_meets 5 = .ok (.aload_n 0, 1) := by decide +kernel
theorem dX13_meets_6 : decode cX13_meets 6 = .ok (.iload_n 1, 1) := by decide +kernel
theorem dX13_meets_7 : decode cX13_meets 7 = .ok (.iload_n 2, 1) := by decide +kernel
theorem dX13_meets_8 : decode cX13_meets 8 = .ok (.iload_n 3, 1) := by decide +kernel
theorem dX13_meets_9 : decode cX13_meets 9 = .ok (.invokevirtual 388, 3) := by decide +kernel
theorem dX13_meets_12 : decode cX13_meets 12 = .ok (.ifCond .ne 9, 3) := by decide +kernel
theorem dX13_meets_15 : decode cX13_meets 15 = .ok (.aload_n 0, 1) := by decide +kernel
theorem dX13_meets_16 : decode cX13_meets 16 = .ok (.iconst 1, 1) := by decide +kernel
theorem dX13_meets_17 : decode cX13_meets 17 = .ok (.invokevirtual 52, 3) := by decide +kernel
theorem dX13_meets_20 : decode cX13_meets 20 = .ok (.ireturn, 1) := by decide +kernel
theorem dX13_meets_21 : decode cX13_meets 21 = .ok (.aload_n 0, 1) := by decide +kernel
theorem dX13_meets_22 : decode cX13_meets 22 = .ok (.getfield 369, 3) := by decide +kernel
theorem dX13_meets_25 : decode cX13_meets 25 = .ok (.getfield 259, 3) := by decide +kernel
theorem dX13_meets_28 : decode cX13_meets 28 = .ok (.iload_n 1, 1) := by decide +kernel
theorem dX13_meets_29 : decode cX13_meets 29 = .ok (.aaload, 1) := by decide +kernel
theorem dX13_meets_30 : decode cX13_meets 30 = .ok (.astore 4, 2) := by decide +kernel
theorem dX13_meets_32 : decode cX13_meets 32 = .ok (.iconst 0, 1) := by decide +kernel
theorem dX13_meets_33 : decode cX13_meets 33 = .ok (.istore 5, 2) := by decide +kernel
theorem dX13_meets_35 : decode cX13_meets 35 = .ok (.iconst 1, 1) := by decide +kernel
theorem dX13_meets_36 : decode cX13_meets 36 = .ok (.istore 6, 2) := by decide +kernel
theorem dX13_meets_38 : decode cX13_meets 38 = .ok (.iload 6, 2) := by decide +kernel
theorem dX13_meets_40 : decode cX13_meets 40 = .ok (.aload 4, 2) := by decide +kernel
theorem dX13_meets_42 : decode cX13_meets 42 = .ok (.getfield 81, 3) := by decide +kernel
theorem dX13_meets_45 : decode cX13_meets 45 = .ok (.iconst 1, 1) := by decide +kernel
theorem dX13_meets_46 : decode cX13_meets 46 = .ok (.isub, 1) := by decide +kernel
theorem dX13_meets_47 : decode cX13_meets 47 = .ok (.if_icmp .ge 57, 3) := by decide +kernel
theorem dX13_meets_50 : decode cX13_meets 50 = .ok (.iload 5, 2) := by decide +kernel
theorem dX13_meets_52 : decode cX13_meets 52 = .ok (.aload 4, 2) := by decide +kernel
theorem dX13_meets_54 : decode cX13_meets 54 = .ok (.getfield 84, 3) := by decide +kernel
theorem dX13_meets_57 : decode cX13_meets 57 = .ok (.iload 6, 2) := by decide +kernel
theorem dX13_meets_59 : decode cX13_meets 59 = .ok (.iaload, 1) := by decide +kernel
theorem dX13_meets_60 : decode cX13_meets 60 = .ok (.aload 4, 2) := by decide +kernel
theorem dX13_meets_62 : decode cX13_meets 62 = .ok (.getfield 59, 3) := by decide +kernel
theorem dX13_meets_65 : decode cX13_meets 65 = .ok (.irem, 1) := by decide +kernel
theorem dX13_meets_66 : decode cX13_meets 66 = .ok (.iload_n 2, 1) := by decide +kernel
theorem dX13_meets_67 : decode cX13_meets 67 = .ok (.if_icmp .ne 27, 3) := by decide +kernel
theorem dX13_meets_70 : decode cX13_meets 70 = .ok (.aload 4, 2) := by decide +kernel
theorem dX13_meets_72 : decode cX13_meets 72 = .ok (.getfield 84, 3) := by decide +kernel
theorem dX13_meets_75 : decode cX13_meets 75 = .ok (.iload 6, 2) := by decide +kernel
theorem dX13_meets_77 : decode cX13_meets 77 = .ok (.iconst 1, 1) := by decide +kernel
theorem dX13_meets_78 : decode cX13_meets 78 = .ok (.iadd, 1) := by decide +kernel
theorem dX13_meets_79 : decode cX13_meets 79 = .ok (.iaload, 1) := by decide +kernel
theorem dX13_meets_80 : decode cX13_meets 80 = .ok (.aload 4, 2) := by decide +kernel
theorem dX13_meets_82 : decode cX13_meets 82 = .ok (.getfield 59, 3) := by decide +kernel
theorem dX13_meets_85 : decode cX13_meets 85 = .ok (.irem, 1) := by decide +kernel
theorem dX13_meets_86 : decode cX13_meets 86 = .ok (.iload_n 3, 1) := by decide +kernel
theorem dX13_meets_87 : decode cX13_meets 87 = .ok (.if_icmp .ne 7, 3) := by decide +kernel
theorem dX13_meets_90 : decode cX13_meets 90 = .ok (.iconst 1, 1) := by decide +kernel
theorem dX13_meets_91 : decode cX13_meets 91 = .ok (.goto 4, 3) := by decide +kernel
theorem dX13_meets_94 : decode cX13_meets 94 = .ok (.iconst 0, 1) := by decide +kernel
theorem dX13_meets_95 : decode cX13_meets 95 = .ok (.iadd, 1) := by decide +kernel
theorem dX13_meets_96 : decode cX13_meets 96 = .ok (.istore 5, 2) := by decide +kernel
theorem dX13_meets_98 : decode cX13_meets 98 = .ok (.iinc 6 1, 3) := by decide +kernel
theorem dX13_meets_101 : decode cX13_meets 101 = .ok (.goto (-63), 3) := by decide +kernel
theorem dX13_meets_104 : decode cX13_meets 104 = .ok (.aload_n 0, 1) := by decide +kernel
theorem dX13_meets_105 : decode cX13_meets 105 = .ok (.iload 5, 2) := by decide +kernel
theorem dX13_meets_107 : decode cX13_meets 107 = .ok (.invokevirtual 56, 3) := by decide +kernel
theorem dX13_meets_110 : decode cX13_meets 110 = .ok (.ireturn, 1) := by decide +kernel
theorem dX13_even_0 : decode cX13_even 0 = .ok (.aload_n 0, 1) := by decide +kernel
theorem dX13_even_1 : decode cX13_even 1 = .ok (.iconst 0, 1) := by decide +kernel
theorem dX13_even_2 : decode cX13_even 2 = .ok (.putfield 46, 3) := by decide +kernel
theorem dX13_even_5 : decode cX13_even 5 = .ok (.aload_n 0, 1) := by decide +kernel
theorem dX13_even_6 : decode cX13_even 6 = .ok (.iload_n 1, 1) := by decide +kernel
theorem dX13_even_7 : decode cX13_even 7 = .ok (.invokevirtual 381, 3) := by decide +kernel
theorem dX13_even_10 : decode cX13_even 10 = .ok (.ifCond .ne 9, 3) := by decide +kernel
theorem dX13_even_13 : decode cX13_even 13 = .ok (.aload_n 0, 1) := by decide +kernel
theorem dX13_even_14 : decode cX13_even 14 = .ok (.iconst 1, 1) := by decide +kernel
theorem dX13_even_15 : decode cX13_even 15 = .ok (.invokevirtual 52, 3) := by decide +kernel
theorem dX13_even_18 : decode cX13_even 18 = .ok (.ireturn, 1) := by decide +kernel
theorem dX13_even_19 : decode cX13_even 19 = .ok (.aload_n 0, 1) := by decide +kernel
theorem dX13_even_20 : decode cX13_even 20 = .ok (.getfield 369, 3) := by decide +kernel
theorem dX13_even_23 : decode cX13_even 23 = .ok (.getfield 259, 3) := by decide +kernel
theorem dX13_even_26 : decode cX13_even 26 = .ok (.iload_n 1, 1) := by decide +kernel
theorem dX13_even_27 : decode cX13_even 27 = .ok (.aaload, 1) := by decide +kernel
theorem dX13_even_28 : decode cX13_even 28 = .ok (.astore_n 2, 1) := by decide +kernel
theorem dX13_even_29 : decode cX13_even 29 = .ok (.iconst (-1), 1) := by decide +kernel
theorem dX13_even_30 : decode cX13_even 30 = .ok (.istore_n 3, 1) := by decide +kernel
theorem dX13_even_31 : decode cX13_even 31 = .ok (.iconst 1, 1) := by decide +kernel
theorem dX13_even_32 : decode cX13_even 32 = .ok (.istore 4, 2) := by decide +kernel
theorem dX13_even_34 : decode cX13_even 34 = .ok (.iload 4, 2) := by decide +kernel
theorem dX13_even_36 : decode cX13_even 36 = .ok (.aload_n 2, 1) := by decide +kernel
theorem dX13_even_37 : decode cX13_even 37 = .ok (.getfield 81, 3) := by decide +kernel
theorem dX13_even_40 : decode cX13_even 40 = .ok (.if_icmp .ge 108, 3) := by decide +kernel
theorem dX13_even_43 : decode cX13_even 43 = .ok (.iconst 0, 1) := by decide +kernel
theorem dX13_even_44 : decode cX13_even 44 = .ok (.istore 5, 2) := by decide +kernel
theorem dX13_even_46 : decode cX13_even 46 = .ok (.iconst 1, 1) := by decide +kernel
theorem dX13_even_47 : decode cX13_even 47 = .ok (.istore 6, 2) := by decide +kernel
theorem dX13_even_49 : decode cX13_even 49 = .ok (.iload 6, 2) := by decide +kernel
theorem dX13_even_51 : decode cX13_even 51 = .ok (.aload_n 2, 1) := by decide +kernel
theorem dX13_even_52 : decode cX13_even 52 = .ok (.getfield 81, 3) := by decide +kernel
theorem dX13_even_55 : decode cX13_even 55 = .ok (.if_icmp .ge 66, 3) := by decide +kernel
theorem dX13_even_58 : decode cX13_even 58 = .ok (.iload 6, 2) := by decide +kernel
theorem dX13_even_60 : decode cX13_even 60 = .ok (.iload 4, 2) := by decide +kernel
theorem dX13_even_62 : decode cX13_even 62 = .ok (.iadd, 1) := by decide +kernel
theorem dX13_even_63 : decode cX13_even 63 = .ok (.aload_n 2, 1) := by decide +kernel
theorem dX13_even_64 : decode cX13_even 64 = .ok (.getfield 81, 3) := by decide +kernel
theorem dX13_even_67 : decode cX13_even 67 = .ok (.irem, 1) := by decide +kernel
theorem dX13_even_68 : decode cX13_even 68 = .ok (.istore 7, 2) := by decide +kernel
theorem dX13_even_70 : decode cX13_even 70 = .ok (.iload 5, 2) := by decide +kernel
theorem dX13_even_72 : decode cX13_even 72 = .ok (.iload 7, 2) := by decide +kernel
theorem dX13_even_74 : decode cX13_even 74 = .ok (.ifCond .eq 37, 3) := by decide +kernel
theorem dX13_even_77 : decode cX13_even 77 = .ok (.aload_n 2, 1) := by decide +kernel
theorem dX13_even_78 : decode cX13_even 78 = .ok (.getfield 84, 3) := by decide +kernel
theorem dX13_even_81 : decode cX13_even 81 = .ok (.iload 6, 2) := by decide +kernel
theorem dX13_even_83 : decode cX13_even 83 = .ok (.iaload, 1) := by decide +kernel
theorem dX13_even_84 : decode cX13_even 84 = .ok (.aload_n 2, 1) := by decide +kernel
theorem dX13_even_85 : decode cX13_even 85 = .ok (.getfield 59, 3) := by decide +kernel
theorem dX13_even_88 : decode cX13_even 88 = .ok (.irem, 1) := by decide +kernel
theorem dX13_even_89 : decode cX13_even 89 = .ok (.ifCond .ne 22, 3) := by decide +kernel
theorem dX13_even_92 : decode cX13_even 92 = .ok (.aload_n 2, 1) := by decide +kernel
theorem dX13_even_93 : decode cX13_even 93 = .ok (.getfield 84, 3) := by decide +kernel
theorem dX13_even_96 : decode cX13_even 96 = .ok (.iload 7, 2) := by decide +kernel
theorem dX13_even_98 : decode cX13_even 98 = .ok (.iaload, 1) := by decide +kernel
theorem dX13_even_99 : decode cX13_even 99 = .ok (.aload_n 2, 1) := by decide +kernel
theorem dX13_even_100 : decode cX13_even 100 = .ok (.getfield 59, 3) := by decide +kernel
theorem dX13_even_103 : decode cX13_even 103 = .ok (.irem, 1) := by decide +kernel
theorem dX13_even_104 : decode cX13_even 104 = .ok (.ifCond .ne 7, 3) := by decide +kernel
theorem dX13_even_107 : decode cX13_even 107 = .ok (.iconst 1, 1) := by decide +kernel
theorem dX13_even_108 : decode cX13_even 108 = .ok (.goto 4, 3) := by decide +kernel
theorem dX13_even_111 : decode cX13_even 111 = .ok (.iconst 0, 1) := by decide +kernel
theorem dX13_even_112 : decode cX13_even 112 = .ok (.iadd, 1) := by decide +kernel
theorem dX13_even_113 : decode cX13_even 113 = .ok (.istore 5, 2) := by decide +kernel
theorem dX13_even_115 : decode cX13_even 115 = .ok (.iinc 6 1, 3) := by decide +kernel
theorem dX13_even_118 : decode cX13_even 118 = .ok (.goto (-69), 3) := by decide +kernel
theorem dX13_even_121 : decode cX13_even 121 = .ok (.iload_n 3, 1) := by decide +kernel
theorem dX13_even_122 : decode cX13_even 122 = .ok (.iconst (-1), 1) := by decide +kernel
theorem dX13_even_123 : decode cX13_even 123 = .ok (.if_icmp .eq 16, 3) := by decide +kernel
theorem dX13_even_126 : decode cX13_even 126 = .ok (.iload_n 3, 1) := by decide +kernel
theorem dX13_even_127 : decode cX13_even 127 = .ok (.iload 5, 2) := by decide +kernel
theorem dX13_even_129 : decode cX13_even 129 = .ok (.if_icmp .eq 10, 3) := by decide +kernel
theorem dX13_even_132 : decode cX13_even 132 = .ok (.aload_n 0, 1) := by decide +kernel
theorem dX13_even_133 : decode cX13_even 133 = .ok (.bipush (-2), 2) := by decide +kernel
theorem dX13_even_135 : decode cX13_even 135 = .ok (.invokevirtual 56, 3) := by decide +kernel
theorem dX13_even_138 : decode cX13_even 138 = .ok (.ireturn, 1) := by decide +kernel
theorem dX13_even_139 : decode cX13_even 139 = .ok (.iload 5, 2) := by decide +kernel
theorem dX13_even_141 : decode cX13_even 141 = .ok (.istore_n 3, 1) := by decide +kernel
theorem dX13_even_142 : decode cX13_even 142 = .ok (.iinc 4 1, 3) := by decide +kernel
theorem dX13_even_145 : decode cX13_even 145 = .ok (.goto (-111), 3) := by decide +kernel
theorem dX13_even_148 : decode cX13_even 148 = .ok (.aload_n 0, 1) := by decide +kernel
theorem dX13_even_149 : decode cX13_even 149 = .ok (.iload_n 3, 1) := by decide +kernel
theorem dX13_even_150 : decode cX13_even 150 = .ok (.invokevirtual 56, 3) := by decide +kernel
theorem dX13_even_153 : decode cX13_even 153 = .ok (.ireturn, 1) := by decide +kernel
theorem dX13_rowOf_0 : decode cX13_rowOf 0 = .ok (.iconst 0, 1) := by decide +kernel
theorem dX13_rowOf_1 : decode cX13_rowOf 1 = .ok (.istore_n 3, 1) := by decide +kernel
theorem dX13_rowOf_2 : decode cX13_rowOf 2 = .ok (.iload_n 3, 1) := by decide +kernel
theorem dX13_rowOf_3 : decode cX13_rowOf 3 = .ok (.aload_n 1, 1) := by decide +kernel
theorem dX13_rowOf_4 : decode cX13_rowOf 4 = .ok (.getfield 81, 3) := by decide +kernel
theorem dX13_rowOf_7 : decode cX13_rowOf 7 = .ok (.if_icmp .ge 53, 3) := by decide +kernel
theorem dX13_rowOf_10 : decode cX13_rowOf 10 = .ok (.aload_n 0, 1) := by decide +kernel
theorem dX13_rowOf_11 : decode cX13_rowOf 11 = .ok (.getfield 31, 3) := by decide +kernel
theorem dX13_rowOf_14 : decode cX13_rowOf 14 = .ok (.iload_n 3, 1) := by decide +kernel
theorem dX13_rowOf_15 : decode cX13_rowOf 15 = .ok (.iload_n 2, 1) := by decide +kernel
theorem dX13_rowOf_16 : decode cX13_rowOf 16 = .ok (.iload_n 3, 1) := by decide +kernel
theorem dX13_rowOf_17 : decode cX13_rowOf 17 = .ok (.iadd, 1) := by decide +kernel
theorem dX13_rowOf_18 : decode cX13_rowOf 18 = .ok (.aload_n 1, 1) := by decide +kernel
theorem dX13_rowOf_19 : decode cX13_rowOf 19 = .ok (.getfield 81, 3) := by decide +kernel
theorem dX13_rowOf_22 : decode cX13_rowOf 22 = .ok (.irem, 1) := by decide +kernel
theorem dX13_rowOf_23 : decode cX13_rowOf 23 = .ok (.ifCond .ne 7, 3) := by decide +kernel
theorem dX13_rowOf_26 : decode cX13_rowOf 26 = .ok (.iconst 1, 1) := by decide +kernel
theorem dX13_rowOf_27 : decode cX13_rowOf 27 = .ok (.goto 26, 3) := by decide +kernel
theorem dX13_rowOf_30 : decode cX13_rowOf 30 = .ok (.aload_n 1, 1) := by decide +kernel
theorem dX13_rowOf_31 : decode cX13_rowOf 31 = .ok (.getfield 84, 3) := by decide +kernel
theorem dX13_rowOf_34 : decode cX13_rowOf 34 = .ok (.iload_n 2, 1) := by decide +kernel
theorem dX13_rowOf_35 : decode cX13_rowOf 35 = .ok (.iload_n 3, 1) := by decide +kernel
theorem dX13_rowOf_36 : decode cX13_rowOf 36 = .ok (.iadd, 1) := by decide +kernel
theorem dX13_rowOf_37 : decode cX13_rowOf 37 = .ok (.aload_n 1, 1) := by decide +kernel
theorem dX13_rowOf_38 : decode cX13_rowOf 38 = .ok (.getfield 81, 3) := by decide +kernel
theorem dX13_rowOf_41 : decode cX13_rowOf 41 = .ok (.irem, 1) := by decide +kernel
theorem dX13_rowOf_42 : decode cX13_rowOf 42 = .ok (.iaload, 1) := by decide +kernel
theorem dX13_rowOf_43 : decode cX13_rowOf 43 = .ok (.iconst 2, 1) := by decide +kernel
theorem dX13_rowOf_44 : decode cX13_rowOf 44 = .ok (.irem, 1) := by decide +kernel
theorem dX13_rowOf_45 : decode cX13_rowOf 45 = .ok (.ifCond .ne 7, 3) := by decide +kernel
theorem dX13_rowOf_48 : decode cX13_rowOf 48 = .ok (.iconst 1, 1) := by decide +kernel
theorem dX13_rowOf_49 : decode cX13_rowOf 49 = .ok (.goto 4, 3) := by decide +kernel
theorem dX13_rowOf_52 : decode cX13_rowOf 52 = .ok (.iconst (-1), 1) := by decide +kernel
theorem dX13_rowOf_53 : decode cX13_rowOf 53 = .ok (.iastore, 1) := by decide +kernel
theorem dX13_rowOf_54 : decode cX13_rowOf 54 = .ok (.iinc 3 1, 3) := by decide +kernel
theorem dX13_rowOf_57 : decode cX13_rowOf 57 = .ok (.goto (-55), 3) := by decide +kernel
theorem dX13_rowOf_60 : decode cX13_rowOf 60 = .ok (.return_, 1) := by decide +kernel
theorem dX13_echoOf_0 : decode cX13_echoOf 0 = .ok (.iconst 0, 1) := by decide +kernel
theorem dX13_echoOf_1 : decode cX13_echoOf 1 = .ok (.istore_n 3, 1) := by decide +kernel
theorem dX13_echoOf_2 : decode cX13_echoOf 2 = .ok (.iconst 0, 1) := by decide +kernel
theorem dX13_echoOf_3 : decode cX13_echoOf 3 = .ok (.istore 4, 2) := by decide +kernel
theorem dX13_echoOf_5 : decode cX13_echoOf 5 = .ok (.iload 4, 2) := by decide +kernel
theorem dX13_echoOf_7 : decode cX13_echoOf 7 = .ok (.iload_n 2, 1) := by decide +kernel
theorem dX13_echoOf_8 : decode cX13_echoOf 8 = .ok (.iadd, 1) := by decide +kernel
theorem dX13_echoOf_9 : decode cX13_echoOf 9 = .ok (.aload_n 1, 1) := by decide +kernel
theorem dX13_echoOf_10 : decode cX13_echoOf 10 = .ok (.getfield 81, 3) := by decide +kernel
theorem dX13_echoOf_13 : decode cX13_echoOf 13 = .ok (.if_icmp .ge 29, 3) := by decide +kernel
theorem dX13_echoOf_16 : decode cX13_echoOf 16 = .ok (.iload_n 3, 1) := by decide +kernel
theorem dX13_echoOf_17 : decode cX13_echoOf 17 = .ok (.aload_n 0, 1) := by decide +kernel
theorem dX13_echoOf_18 : decode cX13_echoOf 18 = .ok (.getfield 31, 3) := by decide +kernel
theorem dX13_echoOf_21 : decode cX13_echoOf 21 = .ok (.iload 4, 2) := by decide +kernel
theorem dX13_echoOf_23 : decode cX13_echoOf 23 = .ok (.iaload, 1) := by decide +kernel
theorem dX13_echoOf_24 : decode cX13_echoOf 24 = .ok (.aload_n 0, 1) := by decide +kernel
theorem dX13_echoOf_25 : decode cX13_echoOf 25 = .ok (.getfield 31, 3) := by decide +kernel
theorem dX13_echoOf_28 : decode cX13_echoOf 28 = .ok (.iload 4, 2) := by decide +kernel
theorem dX13_echoOf_30 : decode cX13_echoOf 30 = .ok (.iload_n 2, 1) := by decide +kernel
theorem dX13_echoOf_31 : decode cX13_echoOf 31 = .ok (.iadd, 1) := by decide +kernel
theorem dX13_echoOf_32 : decode cX13_echoOf 32 = .ok (.iaload, 1) := by decide +kernel
theorem dX13_echoOf_33 : decode cX13_echoOf 33 = .ok (.imul, 1) := by decide +kernel
theorem dX13_echoOf_34 : decode cX13_echoOf 34 = .ok (.iadd, 1) := by decide +kernel
theorem dX13_echoOf_35 : decode cX13_echoOf 35 = .ok (.istore_n 3, 1) := by decide +kernel
theorem dX13_echoOf_36 : decode cX13_echoOf 36 = .ok (.iinc 4 1, 3) := by decide +kernel
theorem dX13_echoOf_39 : decode cX13_echoOf 39 = .ok (.goto (-34), 3) := by decide +kernel
theorem dX13_echoOf_42 : decode cX13_echoOf 42 = .ok (.iload_n 3, 1) := by decide +kernel
theorem dX13_echoOf_43 : decode cX13_echoOf 43 = .ok (.ireturn, 1) := by decide +kernel
theorem dX13_noiseOf_0 : decode cX13_noiseOf 0 = .ok (.aload_n 0, 1) := by decide +kernel
theorem dX13_noiseOf_1 : decode cX13_noiseOf 1 = .ok (.aload_n 1, 1) := by decide +kernel
theorem dX13_noiseOf_2 : decode cX13_noiseOf 2 = .ok (.iload_n 2, 1) := by decide +kernel
theorem dX13_noiseOf_3 : decode cX13_noiseOf 3 = .ok (.invokevirtual 438, 3) := by decide +kernel
theorem dX13_noiseOf_6 : decode cX13_noiseOf 6 = .ok (.lconst 0, 1) := by decide +kernel
theorem dX13_noiseOf_7 : decode cX13_noiseOf 7 = .ok (.lstore_n 3, 1) := by decide +kernel
theorem dX13_noiseOf_8 : decode cX13_noiseOf 8 = .ok (.iconst 1, 1) := by decide +kernel
theorem dX13_noiseOf_9 : decode cX13_noiseOf 9 = .ok (.istore 5, 2) := by decide +kernel
theorem dX13_noiseOf_11 : decode cX13_noiseOf 11 = .ok (.iload 5, 2) := by decide +kernel
theorem dX13_noiseOf_13 : decode cX13_noiseOf 13 = .ok (.aload_n 1, 1) := by decide +kernel
theorem dX13_noiseOf_14 : decode cX13_noiseOf 14 = .ok (.getfield 81, 3) := by decide +kernel
theorem dX13_noiseOf_17 : decode cX13_noiseOf 17 = .ok (.if_icmp .ge 29, 3) := by decide +kernel
theorem dX13_noiseOf_20 : decode cX13_noiseOf 20 = .ok (.lload_n 3, 1) := by decide +kernel
theorem dX13_noiseOf_21 : decode cX13_noiseOf 21 = .ok (.aload_n 0, 1) := by decide +kernel
theorem dX13_noiseOf_22 : decode cX13_noiseOf 22 = .ok (.aload_n 1, 1) := by decide +kernel
theorem dX13_noiseOf_23 : decode cX13_noiseOf 23 = .ok (.iload 5, 2) := by decide +kernel
theorem dX13_noiseOf_25 : decode cX13_noiseOf 25 = .ok (.invokevirtual 441, 3) := by decide +kernel
theorem dX13_noiseOf_28 : decode cX13_noiseOf 28 = .ok (.i2l, 1) := by decide +kernel
theorem dX13_noiseOf_29 : decode cX13_noiseOf 29 = .ok (.aload_n 0, 1) := by decide +kernel
theorem dX13_noiseOf_30 : decode cX13_noiseOf 30 = .ok (.aload_n 1, 1) := by decide +kernel
theorem dX13_noiseOf_31 : decode cX13_noiseOf 31 = .ok (.iload 5, 2) := by decide +kernel
theorem dX13_noiseOf_33 : decode cX13_noiseOf 33 = .ok (.invokevirtual 441, 3) := by decide +kernel
theorem dX13_noiseOf_36 : decode cX13_noiseOf 36 = .ok (.i2l, 1) := by decide +kernel
theorem dX13_noiseOf_37 : decode cX13_noiseOf 37 = .ok (.lmul, 1) := by decide +kernel
theorem dX13_noiseOf_38 : decode cX13_noiseOf 38 = .ok (.ladd, 1) := by decide +kernel
theorem dX13_noiseOf_39 : decode cX13_noiseOf 39 = .ok (.lstore_n 3, 1) := by decide +kernel
theorem dX13_noiseOf_40 : decode cX13_noiseOf 40 = .ok (.iinc 5 1, 3) := by decide +kernel
theorem dX13_noiseOf_43 : decode cX13_noiseOf 43 = .ok (.goto (-32), 3) := by decide +kernel
theorem dX13_noiseOf_46 : decode cX13_noiseOf 46 = .ok (.lload_n 3, 1) := by decide +kernel
theorem dX13_noiseOf_47 : decode cX13_noiseOf 47 = .ok (.lreturn, 1) := by decide +kernel
theorem dX13_refusesTurn_0 : decode cX13_refusesTurn 0 = .ok (.aload_n 0, 1) := by decide +kernel
theorem dX13_refusesTurn_1 : decode cX13_refusesTurn 1 = .ok (.iload_n 1, 1) := by decide +kernel
theorem dX13_refusesTurn_2 : decode cX13_refusesTurn 2 = .ok (.invokevirtual 381, 3) := by decide +kernel
theorem dX13_refusesTurn_5 : decode cX13_refusesTurn 5 = .ok (.ifCond .ne 7, 3) := by decide +kernel
theorem dX13_refusesTurn_8 : decode cX13_refusesTurn 8 = .ok (.iconst 1, 1) := by decide +kernel
theorem dX13_refusesTurn_9 : decode cX13_refusesTurn 9 = .ok (.goto 30, 3) := by decide +kernel
theorem dX13_refusesTurn_12 : decode cX13_refusesTurn 12 = .ok (.iload_n 2, 1) := by decide +kernel
theorem dX13_refusesTurn_13 : decode cX13_refusesTurn 13 = .ok (.iconst 0, 1) := by decide +kernel
theorem dX13_refusesTurn_14 : decode cX13_refusesTurn 14 = .ok (.aload_n 0, 1) := by decide +kernel
theorem dX13_refusesTurn_15 : decode cX13_refusesTurn 15 = .ok (.getfield 369, 3) := by decide +kernel
theorem dX13_refusesTurn_18 : decode cX13_refusesTurn 18 = .ok (.getfield 259, 3) := by decide +kernel
theorem dX13_refusesTurn_21 : decode cX13_refusesTurn 21 = .ok (.iload_n 1, 1) := by decide +kernel
theorem dX13_refusesTurn_22 : decode cX13_refusesTurn 22 = .ok (.aaload, 1) := by decide +kernel
theorem dX13_refusesTurn_23 : decode cX13_refusesTurn 23 = .ok (.getfield 81, 3) := by decide +kernel
theorem dX13_refusesTurn_26 : decode cX13_refusesTurn 26 = .ok (.iconst 1, 1) := by decide +kernel
theorem dX13_refusesTurn_27 : decode cX13_refusesTurn 27 = .ok (.isub, 1) := by decide +kernel
theorem dX13_refusesTurn_28 : decode cX13_refusesTurn 28 = .ok (.invokestatic 168, 3) := by decide +kernel
theorem dX13_refusesTurn_31 : decode cX13_refusesTurn 31 = .ok (.ifCond .eq 7, 3) := by decide +kernel
theorem dX13_refusesTurn_34 : decode cX13_refusesTurn 34 = .ok (.iconst 0, 1) := by decide +kernel
theorem dX13_refusesTurn_35 : decode cX13_refusesTurn 35 = .ok (.goto 4, 3) := by decide +kernel
theorem dX13_refusesTurn_38 : decode cX13_refusesTurn 38 = .ok (.iconst 2, 1) := by decide +kernel
theorem dX13_refusesTurn_39 : decode cX13_refusesTurn 39 = .ok (.ireturn, 1) := by decide +kernel
theorem dX13_echo_0 : decode cX13_echo 0 = .ok (.aload_n 0, 1) := by decide +kernel
theorem dX13_echo_1 : decode cX13_echo 1 = .ok (.iconst 0, 1) := by decide +kernel
theorem dX13_echo_2 : decode cX13_echo 2 = .ok (.putfield 46, 3) := by decide +kernel
theorem dX13_echo_5 : decode cX13_echo 5 = .ok (.aload_n 0, 1) := by decide +kernel
theorem dX13_echo_6 : decode cX13_echo 6 = .ok (.iload_n 1, 1) := by decide +kernel
theorem dX13_echo_7 : decode cX13_echo 7 = .ok (.iload_n 2, 1) := by decide +kernel
theorem dX13_echo_8 : decode cX13_echo 8 = .ok (.invokevirtual 444, 3) := by decide +kernel
theorem dX13_echo_11 : decode cX13_echo 11 = .ok (.istore 4, 2) := by decide +kernel
theorem dX13_echo_13 : decode cX13_echo 13 = .ok (.iload 4, 2) := by decide +kernel
theorem dX13_echo_15 : decode cX13_echo 15 = .ok (.ifCond .ne 28, 3) := by decide +kernel
theorem dX13_echo_18 : decode cX13_echo 18 = .ok (.iload_n 3, 1) := by decide +kernel
theorem dX13_echo_19 : decode cX13_echo 19 = .ok (.iconst 0, 1) := by decide +kernel
theorem dX13_echo_20 : decode cX13_echo 20 = .ok (.aload_n 0, 1) := by decide +kernel
theorem dX13_echo_21 : decode cX13_echo 21 = .ok (.getfield 369, 3) := by decide +kernel
theorem dX13_echo_24 : decode cX13_echo 24 = .ok (.getfield 259, 3) := by decide +kernel
theorem dX13_echo_27 : decode cX13_echo 27 = .ok (.iload_n 1, 1) := by decide +kernel
theorem dX13_echo_28 : decode cX13_echo 28 = .ok (.aaload, 1) := by decide +kernel
theorem dX13_echo_29 : decode cX13_echo 29 = .ok (.getfield 81, 3) := by decide +kernel
theorem dX13_echo_32 : decode cX13_echo 32 = .ok (.iconst 1, 1) := by decide +kernel
theorem dX13_echo_33 : decode cX13_echo 33 = .ok (.isub, 1) := by decide +kernel
theorem dX13_echo_34 : decode cX13_echo 34 = .ok (.invokestatic 168, 3) := by decide +kernel
theorem dX13_echo_37 : decode cX13_echo 37 = .ok (.ifCond .ne 6, 3) := by decide +kernel
theorem dX13_echo_40 : decode cX13_echo 40 = .ok (.iconst 2, 1) := by decide +kernel
theorem dX13_echo_41 : decode cX13_echo 41 = .ok (.istore 4, 2) := by decide +kernel
theorem dX13_echo_43 : decode cX13_echo 43 = .ok (.iload 4, 2) := by decide +kernel
theorem dX13_echo_45 : decode cX13_echo 45 = .ok (.ifCond .le 13, 3) := by decide +kernel
theorem dX13_echo_48 : decode cX13_echo 48 = .ok (.aload_n 0, 1) := by decide +kernel
theorem dX13_echo_49 : decode cX13_echo 49 = .ok (.iload 4, 2) := by decide +kernel
theorem dX13_echo_51 : decode cX13_echo 51 = .ok (.sipush (-1000), 3) := by decide +kernel
theorem dX13_echo_54 : decode cX13_echo 54 = .ok (.invokevirtual 391, 3) := by decide +kernel
theorem dX13_echo_57 : decode cX13_echo 57 = .ok (.ireturn, 1) := by decide +kernel
theorem dX13_echo_58 : decode cX13_echo 58 = .ok (.aload_n 0, 1) := by decide +kernel
theorem dX13_echo_59 : decode cX13_echo 59 = .ok (.aload_n 0, 1) := by decide +kernel
theorem dX13_echo_60 : decode cX13_echo 60 = .ok (.getfield 369, 3) := by decide +kernel
theorem dX13_echo_63 : decode cX13_echo 63 = .ok (.getfield 259, 3) := by decide +kernel
theorem dX13_echo_66 : decode cX13_echo 66 = .ok (.iload_n 1, 1) := by decide +kernel
theorem dX13_echo_67 : decode cX13_echo 67 = .ok (.aaload, 1) := by decide +kernel
theorem dX13_echo_68 : decode cX13_echo 68 = .ok (.iload_n 2, 1) := by decide +kernel
theorem dX13_echo_69 : decode cX13_echo 69 = .ok (.invokevirtual 438, 3) := by decide +kernel
theorem dX13_echo_72 : decode cX13_echo 72 = .ok (.aload_n 0, 1) := by decide +kernel
theorem dX13_echo_73 : decode cX13_echo 73 = .ok (.aload_n 0, 1) := by decide +kernel
theorem dX13_echo_74 : decode cX13_echo 74 = .ok (.aload_n 0, 1) := by decide +kernel
theorem dX13_echo_75 : decode cX13_echo 75 = .ok (.getfield 369, 3) := by decide +kernel
theorem dX13_echo_78 : decode cX13_echo 78 = .ok (.getfield 259, 3) := by decide +kernel
theorem dX13_echo_81 : decode cX13_echo 81 = .ok (.iload_n 1, 1) := by decide +kernel
theorem dX13_echo_82 : decode cX13_echo 82 = .ok (.aaload, 1) := by decide +kernel
theorem dX13_echo_83 : decode cX13_echo 83 = .ok (.iload_n 3, 1) := by decide +kernel
theorem dX13_echo_84 : decode cX13_echo 84 = .ok (.invokevirtual 441, 3) := by decide +kernel
theorem dX13_echo_87 : decode cX13_echo 87 = .ok (.invokevirtual 56, 3) := by decide +kernel
theorem dX13_echo_90 : decode cX13_echo 90 = .ok (.ireturn, 1) := by decide +kernel
theorem dX13_noise_0 : decode cX13_noise 0 = .ok (.aload_n 0, 1) := by decide +kernel
theorem dX13_noise_1 : decode cX13_noise 1 = .ok (.iconst 0, 1) := by decide +kernel
theorem dX13_noise_2 : decode cX13_noise 2 = .ok (.putfield 46, 3) := by decide +kernel
theorem dX13_noise_5 : decode cX13_noise 5 = .ok (.aload_n 0, 1) := by decide +kernel
theorem dX13_noise_6 : decode cX13_noise 6 = .ok (.iload_n 1, 1) := by decide +kernel
theorem dX13_noise_7 : decode cX13_noise 7 = .ok (.iload_n 2, 1) := by decide +kernel
theorem dX13_noise_8 : decode cX13_noise 8 = .ok (.invokevirtual 444, 3) := by decide +kernel
theorem dX13_noise_11 : decode cX13_noise 11 = .ok (.istore_n 3, 1) := by decide +kernel
theorem dX13_noise_12 : decode cX13_noise 12 = .ok (.iload_n 3, 1) := by decide +kernel
theorem dX13_noise_13 : decode cX13_noise 13 = .ok (.ifCond .le 12, 3) := by decide +kernel
theorem dX13_noise_16 : decode cX13_noise 16 = .ok (.aload_n 0, 1) := by decide +kernel
theorem dX13_noise_17 : decode cX13_noise 17 = .ok (.iload_n 3, 1) := by decide +kernel
theorem dX13_noise_18 : decode cX13_noise 18 = .ok (.invokevirtual 52, 3) := by decide +kernel
theorem dX13_noise_21 : decode cX13_noise 21 = .ok (.i2l, 1) := by decide +kernel
theorem dX13_noise_22 : decode cX13_noise 22 = .ok (.goto 21, 3) := by decide +kernel
theorem dX13_noise_25 : decode cX13_noise 25 = .ok (.aload_n 0, 1) := by decide +kernel
theorem dX13_noise_26 : decode cX13_noise 26 = .ok (.aload_n 0, 1) := by decide +kernel
theorem dX13_noise_27 : decode cX13_noise 27 = .ok (.aload_n 0, 1) := by decide +kernel
theorem dX13_noise_28 : decode cX13_noise 28 = .ok (.getfield 369, 3) := by decide +kernel
theorem dX13_noise_31 : decode cX13_noise 31 = .ok (.getfield 259, 3) := by decide +kernel
theorem dX13_noise_34 : decode cX13_noise 34 = .ok (.iload_n 1, 1) := by decide +kernel
theorem dX13_noise_35 : decode cX13_noise 35 = .ok (.aaload, 1) := by decide +kernel
theorem dX13_noise_36 : decode cX13_noise 36 = .ok (.iload_n 2, 1) := by decide +kernel
theorem dX13_noise_37 : decode cX13_noise 37 = .ok (.invokevirtual 447, 3) := by decide +kernel
theorem dX13_noise_40 : decode cX13_noise 40 = .ok (.invokevirtual 422, 3) := by decide +kernel
theorem dX13_noise_43 : decode cX13_noise 43 = .ok (.lreturn, 1) := by decide +kernel
theorem dX13_lowest_0 : decode cX13_lowest 0 = .ok (.aload_n 0, 1) := by decide +kernel
theorem dX13_lowest_1 : decode cX13_lowest 1 = .ok (.iconst 0, 1) := by decide +kernel
theorem dX13_lowest_2 : decode cX13_lowest 2 = .ok (.putfield 46, 3) := by decide +kernel
theorem dX13_lowest_5 : decode cX13_lowest 5 = .ok (.aload_n 0, 1) := by decide +kernel
theorem dX13_lowest_6 : decode cX13_lowest 6 = .ok (.iload_n 1, 1) := by decide +kernel
theorem dX13_lowest_7 : decode cX13_lowest 7 = .ok (.invokevirtual 381, 3) := by decide +kernel
theorem dX13_lowest_10 : decode cX13_lowest 10 = .ok (.ifCond .ne 9, 3) := by decide +kernel
theorem dX13_lowest_13 : decode cX13_lowest 13 = .ok (.aload_n 0, 1) := by decide +kernel
theorem dX13_lowest_14 : decode cX13_lowest 14 = .ok (.iconst 1, 1) := by decide +kernel
theorem dX13_lowest_15 : decode cX13_lowest 15 = .ok (.invokevirtual 52, 3) := by decide +kernel
theorem dX13_lowest_18 : decode cX13_lowest 18 = .ok (.ireturn, 1) := by decide +kernel
theorem dX13_lowest_19 : decode cX13_lowest 19 = .ok (.iconst 0, 1) := by decide +kernel
theorem dX13_lowest_20 : decode cX13_lowest 20 = .ok (.istore_n 2, 1) := by decide +kernel
theorem dX13_lowest_21 : decode cX13_lowest 21 = .ok (.aload_n 0, 1) := by decide +kernel
theorem dX13_lowest_22 : decode cX13_lowest 22 = .ok (.aload_n 0, 1) := by decide +kernel
theorem dX13_lowest_23 : decode cX13_lowest 23 = .ok (.getfield 369, 3) := by decide +kernel
theorem dX13_lowest_26 : decode cX13_lowest 26 = .ok (.getfield 259, 3) := by decide +kernel
theorem dX13_lowest_29 : decode cX13_lowest 29 = .ok (.iload_n 1, 1) := by decide +kernel
theorem dX13_lowest_30 : decode cX13_lowest 30 = .ok (.aaload, 1) := by decide +kernel
theorem dX13_lowest_31 : decode cX13_lowest 31 = .ok (.iconst 0, 1) := by decide +kernel
theorem dX13_lowest_32 : decode cX13_lowest 32 = .ok (.invokevirtual 447, 3) := by decide +kernel
theorem dX13_lowest_35 : decode cX13_lowest 35 = .ok (.lstore_n 3, 1) := by decide +kernel
theorem dX13_lowest_36 : decode cX13_lowest 36 = .ok (.iconst 1, 1) := by decide +kernel
theorem dX13_lowest_37 : decode cX13_lowest 37 = .ok (.istore 5, 2) := by decide +kernel
theorem dX13_lowest_39 : decode cX13_lowest 39 = .ok (.iload 5, 2) := by decide +kernel
theorem dX13_lowest_41 : decode cX13_lowest 41 = .ok (.aload_n 0, 1) := by decide +kernel
theorem dX13_lowest_42 : decode cX13_lowest 42 = .ok (.getfield 369, 3) := by decide +kernel
theorem dX13_lowest_45 : decode cX13_lowest 45 = .ok (.getfield 259, 3) := by decide +kernel
theorem dX13_lowest_48 : decode cX13_lowest 48 = .ok (.iload_n 1, 1) := by decide +kernel
theorem dX13_lowest_49 : decode cX13_lowest 49 = .ok (.aaload, 1) := by decide +kernel
theorem dX13_lowest_50 : decode cX13_lowest 50 = .ok (.getfield 81, 3) := by decide +kernel
theorem dX13_lowest_53 : decode cX13_lowest 53 = .ok (.if_icmp .ge 42, 3) := by decide +kernel
theorem dX13_lowest_56 : decode cX13_lowest 56 = .ok (.aload_n 0, 1) := by decide +kernel
theorem dX13_lowest_57 : decode cX13_lowest 57 = .ok (.aload_n 0, 1) := by decide +kernel
theorem dX13_lowest_58 : decode cX13_lowest 58 = .ok (.getfield 369, 3) := by decide +kernel
theorem dX13_lowest_61 : decode cX13_lowest 61 = .ok (.getfield 259, 3) := by decide +kernel
theorem dX13_lowest_64 : decode cX13_lowest 64 = .ok (.iload_n 1, 1) := by decide +kernel
theorem dX13_lowest_65 : decode cX13_lowest 65 = .ok (.aaload, 1) := by decide +kernel
theorem dX13_lowest_66 : decode cX13_lowest 66 = .ok (.iload 5, 2) := by decide +kernel
theorem dX13_lowest_68 : decode cX13_lowest 68 = .ok (.invokevirtual 447, 3) := by decide +kernel
theorem dX13_lowest_71 : decode cX13_lowest 71 = .ok (.lstore 6, 2) := by decide +kernel
theorem dX13_lowest_73 : decode cX13_lowest 73 = .ok (.lload 6, 2) := by decide +kernel
theorem dX13_lowest_75 : decode cX13_lowest 75 = .ok (.lload_n 3, 1) := by decide +kernel
theorem dX13_lowest_76 : decode cX13_lowest 76 = .ok (.lcmp, 1) := by decide +kernel
theorem dX13_lowest_77 : decode cX13_lowest 77 = .ok (.ifCond .lt 6, 3) := by decide +kernel
theorem dX13_lowest_80 : decode cX13_lowest 80 = .ok (.goto 9, 3) := by decide +kernel
theorem dX13_lowest_83 : decode cX13_lowest 83 = .ok (.lload 6, 2) := by decide +kernel
theorem dX13_lowest_85 : decode cX13_lowest 85 = .ok (.lstore_n 3, 1) := by decide +kernel
theorem dX13_lowest_86 : decode cX13_lowest 86 = .ok (.iload 5, 2) := by decide +kernel
theorem dX13_lowest_88 : decode cX13_lowest 88 = .ok (.istore_n 2, 1) := by decide +kernel
theorem dX13_lowest_89 : decode cX13_lowest 89 = .ok (.iinc 5 1, 3) := by decide +kernel
theorem dX13_lowest_92 : decode cX13_lowest 92 = .ok (.goto (-53), 3) := by decide +kernel
theorem dX13_lowest_95 : decode cX13_lowest 95 = .ok (.aload_n 0, 1) := by decide +kernel
theorem dX13_lowest_96 : decode cX13_lowest 96 = .ok (.iload_n 2, 1) := by decide +kernel
theorem dX13_lowest_97 : decode cX13_lowest 97 = .ok (.invokevirtual 56, 3) := by decide +kernel
theorem dX13_lowest_100 : decode cX13_lowest 100 = .ok (.ireturn, 1) := by decide +kernel
theorem dX13_keeps_0 : decode cX13_keeps 0 = .ok (.iconst 0, 1) := by decide +kernel
theorem dX13_keeps_1 : decode cX13_keeps 1 = .ok (.istore_n 3, 1) := by decide +kernel
theorem dX13_keeps_2 : decode cX13_keeps 2 = .ok (.iload_n 3, 1) := by decide +kernel
theorem dX13_keeps_3 : decode cX13_keeps 3 = .ok (.bipush 49, 2) := by decide +kernel
theorem dX13_keeps_5 : decode cX13_keeps 5 = .ok (.if_icmp .ge 23, 3) := by decide +kernel
theorem dX13_keeps_8 : decode cX13_keeps 8 = .ok (.aload_n 1, 1) := by decide +kernel
theorem dX13_keeps_9 : decode cX13_keeps 9 = .ok (.bipush 49, 2) := by decide +kernel
theorem dX13_keeps_11 : decode cX13_keeps 11 = .ok (.iload_n 2, 1) := by decide +kernel
theorem dX13_keeps_12 : decode cX13_keeps 12 = .ok (.imul, 1) := by decide +kernel
theorem dX13_keeps_13 : decode cX13_keeps 13 = .ok (.iload_n 3, 1) := by decide +kernel
theorem dX13_keeps_14 : decode cX13_keeps 14 = .ok (.iadd, 1) := by decide +kernel
theorem dX13_keeps_15 : decode cX13_keeps 15 = .ok (.aload_n 0, 1) := by decide +kernel
theorem dX13_keeps_16 : decode cX13_keeps 16 = .ok (.getfield 34, 3) := by decide +kernel
theorem dX13_keeps_19 : decode cX13_keeps 19 = .ok (.iload_n 3, 1) := by decide +kernel
theorem dX13_keeps_20 : decode cX13_keeps 20 = .ok (.laload, 1) := by decide +kernel
theorem dX13_keeps_21 : decode cX13_keeps 21 = .ok (.lastore, 1) := by decide +kernel
theorem dX13_keeps_22 : decode cX13_keeps 22 = .ok (.iinc 3 1, 3) := by decide +kernel
theorem dX13_keeps_25 : decode cX13_keeps 25 = .ok (.goto (-23), 3) := by decide +kernel
theorem dX13_keeps_28 : decode cX13_keeps 28 = .ok (.return_, 1) := by decide +kernel
theorem dX13_takes_0 : decode cX13_takes 0 = .ok (.iconst 0, 1) := by decide +kernel
theorem dX13_takes_1 : decode cX13_takes 1 = .ok (.istore_n 3, 1) := by decide +kernel
theorem dX13_takes_2 : decode cX13_takes 2 = .ok (.iload_n 3, 1) := by decide +kernel
theorem dX13_takes_3 : decode cX13_takes 3 = .ok (.bipush 49, 2) := by decide +kernel
theorem dX13_takes_5 : decode cX13_takes 5 = .ok (.if_icmp .ge 23, 3) := by decide +kernel
theorem dX13_takes_8 : decode cX13_takes 8 = .ok (.aload_n 0, 1) := by decide +kernel
theorem dX13_takes_9 : decode cX13_takes 9 = .ok (.getfield 34, 3) := by decide +kernel
theorem dX13_takes_12 : decode cX13_takes 12 = .ok (.iload_n 3, 1) := by decide +kernel
theorem dX13_takes_13 : decode cX13_takes 13 = .ok (.aload_n 1, 1) := by decide +kernel
theorem dX13_takes_14 : decode cX13_takes 14 = .ok (.bipush 49, 2) := by decide +kernel
theorem dX13_takes_16 : decode cX13_takes 16 = .ok (.iload_n 2, 1) := by decide +kernel
theorem dX13_takes_17 : decode cX13_takes 17 = .ok (.imul, 1) := by decide +kernel
theorem dX13_takes_18 : decode cX13_takes 18 = .ok (.iload_n 3, 1) := by decide +kernel
theorem dX13_takes_19 : decode cX13_takes 19 = .ok (.iadd, 1) := by decide +kernel
theorem dX13_takes_20 : decode cX13_takes 20 = .ok (.laload, 1) := by decide +kernel
theorem dX13_takes_21 : decode cX13_takes 21 = .ok (.lastore, 1) := by decide +kernel
theorem dX13_takes_22 : decode cX13_takes 22 = .ok (.iinc 3 1, 3) := by decide +kernel
theorem dX13_takes_25 : decode cX13_takes 25 = .ok (.goto (-23), 3) := by decide +kernel
theorem dX13_takes_28 : decode cX13_takes 28 = .ok (.return_, 1) := by decide +kernel
theorem dX13_acts_0 : decode cX13_acts 0 = .ok (.aload_n 0, 1) := by decide +kernel
theorem dX13_acts_1 : decode cX13_acts 1 = .ok (.getfield 372, 3) := by decide +kernel
theorem dX13_acts_4 : decode cX13_acts 4 = .ok (.bipush 20, 2) := by decide +kernel
theorem dX13_acts_6 : decode cX13_acts 6 = .ok (.if_icmp .ne 43, 3) := by decide +kernel
theorem dX13_acts_9 : decode cX13_acts 9 = .ok (.iconst 0, 1) := by decide +kernel
theorem dX13_acts_10 : decode cX13_acts 10 = .ok (.istore_n 1, 1) := by decide +kernel
theorem dX13_acts_11 : decode cX13_acts 11 = .ok (.iload_n 1, 1) := by decide +kernel
theorem dX13_acts_12 : decode cX13_acts 12 = .ok (.sipush 931, 3) := by decide +kernel
theorem dX13_acts_15 : decode cX13_acts 15 = .ok (.if_icmp .ge 24, 3) := by decide +kernel
theorem dX13_acts_18 : decode cX13_acts 18 = .ok (.aload_n 0, 1) := by decide +kernel
theorem dX13_acts_19 : decode cX13_acts 19 = .ok (.getfield 37, 3) := by decide +kernel
theorem dX13_acts_22 : decode cX13_acts 22 = .ok (.iload_n 1, 1) := by decide +kernel
theorem dX13_acts_23 : decode cX13_acts 23 = .ok (.aload_n 0, 1) := by decide +kernel
theorem dX13_acts_24 : decode cX13_acts 24 = .ok (.getfield 37, 3) := by decide +kernel
theorem dX13_acts_27 : decode cX13_acts 27 = .ok (.iload_n 1, 1) := by decide +kernel
theorem dX13_acts_28 : decode cX13_acts 28 = .ok (.bipush 49, 2) := by decide +kernel
theorem dX13_acts_30 : decode cX13_acts 30 = .ok (.iadd, 1) := by decide +kernel
theorem dX13_acts_31 : decode cX13_acts 31 = .ok (.laload, 1) := by decide +kernel
theorem dX13_acts_32 : decode cX13_acts 32 = .ok (.lastore, 1) := by decide +kernel
theorem dX13_acts_33 : decode cX13_acts 33 = .ok (.iinc 1 1, 3) := by decide +kernel
theorem dX13_acts_36 : decode cX13_acts 36 = .ok (.goto (-25), 3) := by decide +kernel
theorem dX13_acts_39 : decode cX13_acts 39 = .ok (.aload_n 0, 1) := by decide +kernel
theorem dX13_acts_40 : decode cX13_acts 40 = .ok (.dup, 1) := by decide +kernel
theorem dX13_acts_41 : decode cX13_acts 41 = .ok (.getfield 372, 3) := by decide +kernel
theorem dX13_acts_44 : decode cX13_acts 44 = .ok (.iconst 1, 1) := by decide +kernel
theorem dX13_acts_45 : decode cX13_acts 45 = .ok (.isub, 1) := by decide +kernel
theorem dX13_acts_46 : decode cX13_acts 46 = .ok (.putfield 372, 3) := by decide +kernel
theorem dX13_acts_49 : decode cX13_acts 49 = .ok (.aload_n 0, 1) := by decide +kernel
theorem dX13_acts_50 : decode cX13_acts 50 = .ok (.aload_n 0, 1) := by decide +kernel
theorem dX13_acts_51 : decode cX13_acts 51 = .ok (.getfield 37, 3) := by decide +kernel
theorem dX13_acts_54 : decode cX13_acts 54 = .ok (.aload_n 0, 1) := by decide +kernel
theorem dX13_acts_55 : decode cX13_acts 55 = .ok (.getfield 372, 3) := by decide +kernel
theorem dX13_acts_58 : decode cX13_acts 58 = .ok (.invokevirtual 451, 3) := by decide +kernel
theorem dX13_acts_61 : decode cX13_acts 61 = .ok (.aload_n 0, 1) := by decide +kernel
theorem dX13_acts_62 : decode cX13_acts 62 = .ok (.dup, 1) := by decide +kernel
theorem dX13_acts_63 : decode cX13_acts 63 = .ok (.getfield 372, 3) := by decide +kernel
theorem dX13_acts_66 : decode cX13_acts 66 = .ok (.iconst 1, 1) := by decide +kernel
theorem dX13_acts_67 : decode cX13_acts 67 = .ok (.iadd, 1) := by decide +kernel
theorem dX13_acts_68 : decode cX13_acts 68 = .ok (.putfield 372, 3) := by decide +kernel
theorem dX13_acts_71 : decode cX13_acts 71 = .ok (.aload_n 0, 1) := by decide +kernel
theorem dX13_acts_72 : decode cX13_acts 72 = .ok (.iconst 0, 1) := by decide +kernel
theorem dX13_acts_73 : decode cX13_acts 73 = .ok (.putfield 375, 3) := by decide +kernel
theorem dX13_acts_76 : decode cX13_acts 76 = .ok (.aload_n 0, 1) := by decide +kernel
theorem dX13_acts_77 : decode cX13_acts 77 = .ok (.invokevirtual 455, 3) := by decide +kernel
theorem dX13_acts_80 : decode cX13_acts 80 = .ok (.ireturn, 1) := by decide +kernel
theorem dX13_isRegister_0 : decode cX13_isRegister 0 = .ok (.aload_n 0, 1) := by decide +kernel
theorem dX13_isRegister_1 : decode cX13_isRegister 1 = .ok (.getfield 369, 3) := by decide +kernel
theorem dX13_isRegister_4 : decode cX13_isRegister 4 = .ok (.ifnull 16, 3) := by decide +kernel
theorem dX13_isRegister_7 : decode cX13_isRegister 7 = .ok (.iload_n 1, 1) := by decide +kernel
theorem dX13_isRegister_8 : decode cX13_isRegister 8 = .ok (.iconst 0, 1) := by decide +kernel
theorem dX13_isRegister_9 : decode cX13_isRegister 9 = .ok (.iconst 3, 1) := by decide +kernel
theorem dX13_isRegister_10 : decode cX13_isRegister 10 = .ok (.invokestatic 168, 3) := by decide +kernel
theorem dX13_isRegister_13 : decode cX13_isRegister 13 = .ok (.ifCond .eq 7, 3) := by decide +kernel
theorem dX13_isRegister_16 : decode cX13_isRegister 16 = .ok (.iconst 1, 1) := by decide +kernel
theorem dX13_isRegister_17 : decode cX13_isRegister 17 = .ok (.goto 4, 3) := by decide +kernel
theorem dX13_isRegister_20 : decode cX13_isRegister 20 = .ok (.iconst 0, 1) := by decide +kernel
theorem dX13_isRegister_21 : decode cX13_isRegister 21 = .ok (.ireturn, 1) := by decide +kernel
theorem dX13_chosen_0 : decode cX13_chosen 0 = .ok (.aload_n 0, 1) := by decide +kernel
theorem dX13_chosen_1 : decode cX13_chosen 1 = .ok (.getfield 369, 3) := by decide +kernel
theorem dX13_chosen_4 : decode cX13_chosen 4 = .ok (.getfield 259, 3) := by decide +kernel
theorem dX13_chosen_7 : decode cX13_chosen 7 = .ok (.aload_n 0, 1) := by decide +kernel
theorem dX13_chosen_8 : decode cX13_chosen 8 = .ok (.getfield 34, 3) := by decide +kernel
theorem dX13_chosen_11 : decode cX13_chosen 11 = .ok (.iconst 0, 1) := by decide +kernel
theorem dX13_chosen_12 : decode cX13_chosen 12 = .ok (.laload, 1) := by decide +kernel
theorem dX13_chosen_13 : decode cX13_chosen 13 = .ok (.l2i, 1) := by decide +kernel
theorem dX13_chosen_14 : decode cX13_chosen 14 = .ok (.aaload, 1) := by decide +kernel
theorem dX13_chosen_15 : decode cX13_chosen 15 = .ok (.areturn, 1) := by decide +kernel
theorem dX13_loads_0 : decode cX13_loads 0 = .ok (.iconst 0, 1) := by decide +kernel
theorem dX13_loads_1 : decode cX13_loads 1 = .ok (.istore_n 3, 1) := by decide +kernel
theorem dX13_loads_2 : decode cX13_loads 2 = .ok (.iload_n 3, 1) := by decide +kernel
theorem dX13_loads_3 : decode cX13_loads 3 = .ok (.bipush 12, 2) := by decide +kernel
theorem dX13_loads_5 : decode cX13_loads 5 = .ok (.if_icmp .ge 33, 3) := by decide +kernel
theorem dX13_loads_8 : decode cX13_loads 8 = .ok (.aload_n 0, 1) := by decide +kernel
theorem dX13_loads_9 : decode cX13_loads 9 = .ok (.getfield 13, 3) := by decide +kernel
theorem dX13_loads_12 : decode cX13_loads 12 = .ok (.iload_n 2, 1) := by decide +kernel
theorem dX13_loads_13 : decode cX13_loads 13 = .ok (.bipush 12, 2) := by decide +kernel
theorem dX13_loads_15 : decode cX13_loads 15 = .ok (.imul, 1) := by decide +kernel
theorem dX13_loads_16 : decode cX13_loads 16 = .ok (.iload_n 3, 1) := by decide +kernel
theorem dX13_loads_17 : decode cX13_loads 17 = .ok (.iadd, 1) := by decide +kernel
theorem dX13_loads_18 : decode cX13_loads 18 = .ok (.aload_n 0, 1) := by decide +kernel
theorem dX13_loads_19 : decode cX13_loads 19 = .ok (.getfield 34, 3) := by decide +kernel
theorem dX13_loads_22 : decode cX13_loads 22 = .ok (.iconst 1, 1) := by decide +kernel
theorem dX13_loads_23 : decode cX13_loads 23 = .ok (.bipush 12, 2) := by decide +kernel
theorem dX13_loads_25 : decode cX13_loads 25 = .ok (.iload_n 1, 1) := by decide +kernel
theorem dX13_loads_26 : decode cX13_loads 26 = .ok (.imul, 1) := by decide +kernel
theorem dX13_loads_27 : decode cX13_loads 27 = .ok (.iadd, 1) := by decide +kernel
theorem dX13_loads_28 : decode cX13_loads 28 = .ok (.iload_n 3, 1) := by decide +kernel
theorem dX13_loads_29 : decode cX13_loads 29 = .ok (.iadd, 1) := by decide +kernel
theorem dX13_loads_30 : decode cX13_loads 30 = .ok (.laload, 1) := by decide +kernel
theorem dX13_loads_31 : decode cX13_loads 31 = .ok (.lastore, 1) := by decide +kernel
theorem dX13_loads_32 : decode cX13_loads 32 = .ok (.iinc 3 1, 3) := by decide +kernel
theorem dX13_loads_35 : decode cX13_loads 35 = .ok (.goto (-33), 3) := by decide +kernel
theorem dX13_loads_38 : decode cX13_loads 38 = .ok (.return_, 1) := by decide +kernel
theorem dX13_stores_0 : decode cX13_stores 0 = .ok (.aload_n 0, 1) := by decide +kernel
theorem dX13_stores_1 : decode cX13_stores 1 = .ok (.invokevirtual 458, 3) := by decide +kernel
theorem dX13_stores_4 : decode cX13_stores 4 = .ok (.pop, 1) := by decide +kernel
theorem dX13_stores_5 : decode cX13_stores 5 = .ok (.iconst 0, 1) := by decide +kernel
theorem dX13_stores_6 : decode cX13_stores 6 = .ok (.istore_n 3, 1) := by decide +kernel
theorem dX13_stores_7 : decode cX13_stores 7 = .ok (.iload_n 3, 1) := by decide +kernel
theorem dX13_stores_8 : decode cX13_stores 8 = .ok (.bipush 12, 2) := by decide +kernel
theorem dX13_stores_10 : decode cX13_stores 10 = .ok (.if_icmp .ge 33, 3) := by decide +kernel
theorem dX13_stores_13 : decode cX13_stores 13 = .ok (.aload_n 0, 1) := by decide +kernel
theorem dX13_stores_14 : decode cX13_stores 14 = .ok (.getfield 34, 3) := by decide +kernel
theorem dX13_stores_17 : decode cX13_stores 17 = .ok (.iconst 1, 1) := by decide +kernel
theorem dX13_stores_18 : decode cX13_stores 18 = .ok (.bipush 12, 2) := by decide +kernel
theorem dX13_stores_20 : decode cX13_stores 20 = .ok (.iload_n 2, 1) := by decide +kernel
theorem dX13_stores_21 : decode cX13_stores 21 = .ok (.imul, 1) := by decide +kernel
theorem dX13_stores_22 : decode cX13_stores 22 = .ok (.iadd, 1) := by decide +kernel
theorem dX13_stores_23 : decode cX13_stores 23 = .ok (.iload_n 3, 1) := by decide +kernel
theorem dX13_stores_24 : decode cX13_stores 24 = .ok (.iadd, 1) := by decide +kernel
theorem dX13_stores_25 : decode cX13_stores 25 = .ok (.aload_n 0, 1) := by decide +kernel
theorem dX13_stores_26 : decode cX13_stores 26 = .ok (.getfield 13, 3) := by decide +kernel
theorem dX13_stores_29 : decode cX13_stores 29 = .ok (.iload_n 1, 1) := by decide +kernel
theorem dX13_stores_30 : decode cX13_stores 30 = .ok (.bipush 12, 2) := by decide +kernel
theorem dX13_stores_32 : decode cX13_stores 32 = .ok (.imul, 1) := by decide +kernel
theorem dX13_stores_33 : decode cX13_stores 33 = .ok (.iload_n 3, 1) := by decide +kernel
theorem dX13_stores_34 : decode cX13_stores 34 = .ok (.iadd, 1) := by decide +kernel
theorem dX13_stores_35 : decode cX13_stores 35 = .ok (.laload, 1) := by decide +kernel
theorem dX13_stores_36 : decode cX13_stores 36 = .ok (.lastore, 1) := by decide +kernel
theorem dX13_stores_37 : decode cX13_stores 37 = .ok (.iinc 3 1, 3) := by decide +kernel
theorem dX13_stores_40 : decode cX13_stores 40 = .ok (.goto (-33), 3) := by decide +kernel
theorem dX13_stores_43 : decode cX13_stores 43 = .ok (.iconst 1, 1) := by decide +kernel
theorem dX13_stores_44 : decode cX13_stores 44 = .ok (.ireturn, 1) := by decide +kernel
theorem dX13_choose_0 : decode cX13_choose 0 = .ok (.aload_n 0, 1) := by decide +kernel
theorem dX13_choose_1 : decode cX13_choose 1 = .ok (.iconst 0, 1) := by decide +kernel
theorem dX13_choose_2 : decode cX13_choose 2 = .ok (.putfield 46, 3) := by decide +kernel
theorem dX13_choose_5 : decode cX13_choose 5 = .ok (.aload_n 0, 1) := by decide +kernel
theorem dX13_choose_6 : decode cX13_choose 6 = .ok (.iload_n 1, 1) := by decide +kernel
theorem dX13_choose_7 : decode cX13_choose 7 = .ok (.invokevirtual 381, 3) := by decide +kernel
theorem dX13_choose_10 : decode cX13_choose 10 = .ok (.ifCond .ne 9, 3) := by decide +kernel
theorem dX13_choose_13 : decode cX13_choose 13 = .ok (.aload_n 0, 1) := by decide +kernel
theorem dX13_choose_14 : decode cX13_choose 14 = .ok (.iconst 1, 1) := by decide +kernel
theorem dX13_choose_15 : decode cX13_choose 15 = .ok (.invokevirtual 461, 3) := by decide +kernel
theorem dX13_choose_18 : decode cX13_choose 18 = .ok (.ireturn, 1) := by decide +kernel
theorem dX13_choose_19 : decode cX13_choose 19 = .ok (.aload_n 0, 1) := by decide +kernel
theorem dX13_choose_20 : decode cX13_choose 20 = .ok (.invokevirtual 458, 3) := by decide +kernel
theorem dX13_choose_23 : decode cX13_choose 23 = .ok (.pop, 1) := by decide +kernel
theorem dX13_choose_24 : decode cX13_choose 24 = .ok (.iconst 0, 1) := by decide +kernel
theorem dX13_choose_25 : decode cX13_choose 25 = .ok (.istore_n 2, 1) := by decide +kernel
theorem dX13_choose_26 : decode cX13_choose 26 = .ok (.iload_n 2, 1) := by decide +kernel
theorem dX13_choose_27 : decode cX13_choose 27 = .ok (.bipush 49, 2) := by decide +kernel
theorem dX13_choose_29 : decode cX13_choose 29 = .ok (.if_icmp .ge 25, 3) := by decide +kernel
theorem dX13_choose_32 : decode cX13_choose 32 = .ok (.aload_n 0, 1) := by decide +kernel
theorem dX13_choose_33 : decode cX13_choose 33 = .ok (.getfield 34, 3) := by decide +kernel
theorem dX13_choose_36 : decode cX13_choose 36 = .ok (.iload_n 2, 1) := by decide +kernel
theorem dX13_choose_37 : decode cX13_choose 37 = .ok (.iload_n 2, 1) := by decide +kernel
theorem dX13_choose_38 : decode cX13_choose 38 = .ok (.ifCond .ne 8, 3) := by decide +kernel
theorem dX13_choose_41 : decode cX13_choose 41 = .ok (.iload_n 1, 1) := by decide +kernel
theorem dX13_choose_42 : decode cX13_choose 42 = .ok (.i2l, 1) := by decide +kernel
theorem dX13_choose_43 : decode cX13_choose 43 = .ok (.goto 4, 3) := by decide +kernel
theorem dX13_choose_46 : decode cX13_choose 46 = .ok (.lconst 0, 1) := by decide +kernel
theorem dX13_choose_47 : decode cX13_choose 47 = .ok (.lastore, 1) := by decide +kernel
theorem dX13_choose_48 : decode cX13_choose 48 = .ok (.iinc 2 1, 3) := by decide +kernel
theorem dX13_choose_51 : decode cX13_choose 51 = .ok (.goto (-25), 3) := by decide +kernel
theorem dX13_choose_54 : decode cX13_choose 54 = .ok (.iconst 1, 1) := by decide +kernel
theorem dX13_choose_55 : decode cX13_choose 55 = .ok (.ireturn, 1) := by decide +kernel
theorem dX13_register_0 : decode cX13_register 0 = .ok (.aload_n 0, 1) := by decide +kernel
theorem dX13_register_1 : decode cX13_register 1 = .ok (.iconst 0, 1) := by decide +kernel
theorem dX13_register_2 : decode cX13_register 2 = .ok (.putfield 46, 3) := by decide +kernel
theorem dX13_register_5 : decode cX13_register 5 = .ok (.aload_n 0, 1) := by decide +kernel
theorem dX13_register_6 : decode cX13_register 6 = .ok (.iload_n 1, 1) := by decide +kernel
theorem dX13_register_7 : decode cX13_register 7 = .ok (.invokevirtual 464, 3) := by decide +kernel
theorem dX13_register_10 : decode cX13_register 10 = .ok (.ifCond .eq 41, 3) := by decide +kernel
theorem dX13_register_13 : decode cX13_register 13 = .ok (.iload_n 2, 1) := by decide +kernel
theorem dX13_register_14 : decode cX13_register 14 = .ok (.iconst 0, 1) := by decide +kernel
theorem dX13_register_15 : decode cX13_register 15 = .ok (.aload_n 0, 1) := by decide +kernel
theorem dX13_register_16 : decode cX13_register 16 = .ok (.invokevirtual 467, 3) := by decide +kernel
theorem dX13_register_19 : decode cX13_register 19 = .ok (.getfield 64, 3) := by decide +kernel
theorem dX13_register_22 : decode cX13_register 22 = .ok (.iconst 1, 1) := by decide +kernel
theorem dX13_register_23 : decode cX13_register 23 = .ok (.isub, 1) := by decide +kernel
theorem dX13_register_24 : decode cX13_register 24 = .ok (.invokestatic 168, 3) := by decide +kernel
theorem dX13_register_27 : decode cX13_register 27 = .ok (.ifCond .eq 24, 3) := by decide +kernel
theorem dX13_register_30 : decode cX13_register 30 = .ok (.aload_n 0, 1) := by decide +kernel
theorem dX13_register_31 : decode cX13_register 31 = .ok (.aload_n 0, 1) := by decide +kernel
theorem dX13_register_32 : decode cX13_register 32 = .ok (.getfield 34, 3) := by decide +kernel
theorem dX13_register_35 : decode cX13_register 35 = .ok (.iconst 1, 1) := by decide +kernel
theorem dX13_register_36 : decode cX13_register 36 = .ok (.bipush 12, 2) := by decide +kernel
theorem dX13_register_38 : decode cX13_register 38 = .ok (.iload_n 1, 1) := by decide +kernel
theorem dX13_register_39 : decode cX13_register 39 = .ok (.imul, 1) := by decide +kernel
theorem dX13_register_40 : decode cX13_register 40 = .ok (.iadd, 1) := by decide +kernel
theorem dX13_register_41 : decode cX13_register 41 = .ok (.iload_n 2, 1) := by decide +kernel
theorem dX13_register_42 : decode cX13_register 42 = .ok (.iadd, 1) := by decide +kernel
theorem dX13_register_43 : decode cX13_register 43 = .ok (.laload, 1) := by decide +kernel
theorem dX13_register_44 : decode cX13_register 44 = .ok (.l2i, 1) := by decide +kernel
theorem dX13_register_45 : decode cX13_register 45 = .ok (.invokevirtual 56, 3) := by decide +kernel
theorem dX13_register_48 : decode cX13_register 48 = .ok (.goto 11, 3) := by decide +kernel
theorem dX13_register_51 : decode cX13_register 51 = .ok (.aload_n 0, 1) := by decide +kernel
theorem dX13_register_52 : decode cX13_register 52 = .ok (.iconst 1, 1) := by decide +kernel
theorem dX13_register_53 : decode cX13_register 53 = .ok (.ldc_w 410, 3) := by decide +kernel
theorem dX13_register_56 : decode cX13_register 56 = .ok (.invokevirtual 391, 3) := by decide +kernel
theorem dX13_register_59 : decode cX13_register 59 = .ok (.ireturn, 1) := by decide +kernel
theorem dX13_take_0 : decode cX13_take 0 = .ok (.aload_n 0, 1) := by decide +kernel
theorem dX13_take_1 : decode cX13_take 1 = .ok (.iconst 0, 1) := by decide +kernel
theorem dX13_take_2 : decode cX13_take 2 = .ok (.putfield 46, 3) := by decide +kernel
theorem dX13_take_5 : decode cX13_take 5 = .ok (.aload_n 0, 1) := by decide +kernel
theorem dX13_take_6 : decode cX13_take 6 = .ok (.iload_n 1, 1) := by decide +kernel
theorem dX13_take_7 : decode cX13_take 7 = .ok (.invokevirtual 464, 3) := by decide +kernel
theorem dX13_take_10 : decode cX13_take 10 = .ok (.ifCond .eq 11, 3) := by decide +kernel
theorem dX13_take_13 : decode cX13_take 13 = .ok (.aload_n 0, 1) := by decide +kernel
theorem dX13_take_14 : decode cX13_take 14 = .ok (.iload_n 2, 1) := by decide +kernel
theorem dX13_take_15 : decode cX13_take 15 = .ok (.invokevirtual 403, 3) := by decide +kernel
theorem dX13_take_18 : decode cX13_take 18 = .ok (.ifCond .ne 9, 3) := by decide +kernel
theorem dX13_take_21 : decode cX13_take 21 = .ok (.aload_n 0, 1) := by decide +kernel
theorem dX13_take_22 : decode cX13_take 22 = .ok (.iconst 1, 1) := by decide +kernel
theorem dX13_take_23 : decode cX13_take 23 = .ok (.invokevirtual 461, 3) := by decide +kernel
theorem dX13_take_26 : decode cX13_take 26 = .ok (.ireturn, 1) := by decide +kernel
theorem dX13_take_27 : decode cX13_take 27 = .ok (.aload_n 0, 1) := by decide +kernel
theorem dX13_take_28 : decode cX13_take 28 = .ok (.getfield 369, 3) := by decide +kernel
theorem dX13_take_31 : decode cX13_take 31 = .ok (.getfield 316, 3) := by decide +kernel
theorem dX13_take_34 : decode cX13_take 34 = .ok (.iload_n 2, 1) := by decide +kernel
theorem dX13_take_35 : decode cX13_take 35 = .ok (.iaload, 1) := by decide +kernel
theorem dX13_take_36 : decode cX13_take 36 = .ok (.i2l, 1) := by decide +kernel
theorem dX13_take_37 : decode cX13_take 37 = .ok (.aload_n 0, 1) := by decide +kernel
theorem dX13_take_38 : decode cX13_take 38 = .ok (.getfield 34, 3) := by decide +kernel
theorem dX13_take_41 : decode cX13_take 41 = .ok (.iconst 0, 1) := by decide +kernel
theorem dX13_take_42 : decode cX13_take 42 = .ok (.laload, 1) := by decide +kernel
theorem dX13_take_43 : decode cX13_take 43 = .ok (.lcmp, 1) := by decide +kernel
theorem dX13_take_44 : decode cX13_take 44 = .ok (.ifCond .eq 9, 3) := by decide +kernel
theorem dX13_take_47 : decode cX13_take 47 = .ok (.aload_n 0, 1) := by decide +kernel
theorem dX13_take_48 : decode cX13_take 48 = .ok (.iconst 5, 1) := by decide +kernel
theorem dX13_take_49 : decode cX13_take 49 = .ok (.invokevirtual 461, 3) := by decide +kernel
theorem dX13_take_52 : decode cX13_take 52 = .ok (.ireturn, 1) := by decide +kernel
theorem dX13_take_53 : decode cX13_take 53 = .ok (.aload_n 0, 1) := by decide +kernel
theorem dX13_take_54 : decode cX13_take 54 = .ok (.iload_n 2, 1) := by decide +kernel
theorem dX13_take_55 : decode cX13_take 55 = .ok (.iconst 0, 1) := by decide +kernel
theorem dX13_take_56 : decode cX13_take 56 = .ok (.invokevirtual 411, 3) := by decide +kernel
theorem dX13_take_59 : decode cX13_take 59 = .ok (.aload_n 0, 1) := by decide +kernel
theorem dX13_take_60 : decode cX13_take 60 = .ok (.iconst 0, 1) := by decide +kernel
theorem dX13_take_61 : decode cX13_take 61 = .ok (.iload_n 1, 1) := by decide +kernel
theorem dX13_take_62 : decode cX13_take 62 = .ok (.invokevirtual 471, 3) := by decide +kernel
theorem dX13_take_65 : decode cX13_take 65 = .ok (.ireturn, 1) := by decide +kernel
theorem dX13_jacobi_0 : decode cX13_jacobi 0 = .ok (.aload_n 0, 1) := by decide +kernel
theorem dX13_jacobi_1 : decode cX13_jacobi 1 = .ok (.iconst 0, 1) := by decide +kernel
theorem dX13_jacobi_2 : decode cX13_jacobi 2 = .ok (.putfield 46, 3) := by decide +kernel
theorem dX13_jacobi_5 : decode cX13_jacobi 5 = .ok (.aload_n 0, 1) := by decide +kernel
theorem dX13_jacobi_6 : decode cX13_jacobi 6 = .ok (.iload_n 1, 1) := by decide +kernel
theorem dX13_jacobi_7 : decode cX13_jacobi 7 = .ok (.invokevirtual 464, 3) := by decide +kernel
theorem dX13_jacobi_10 : decode cX13_jacobi 10 = .ok (.ifCond .eq 19, 3) := by decide +kernel
theorem dX13_jacobi_13 : decode cX13_jacobi 13 = .ok (.aload_n 0, 1) := by decide +kernel
theorem dX13_jacobi_14 : decode cX13_jacobi 14 = .ok (.aload_n 0, 1) := by decide +kernel
theorem dX13_jacobi_15 : decode cX13_jacobi 15 = .ok (.getfield 34, 3) := by decide +kernel
theorem dX13_jacobi_18 : decode cX13_jacobi 18 = .ok (.iconst 0, 1) := by decide +kernel
theorem dX13_jacobi_19 : decode cX13_jacobi 19 = .ok (.laload, 1) := by decide +kernel
theorem dX13_jacobi_20 : decode cX13_jacobi 20 = .ok (.l2i, 1) := by decide +kernel
theorem dX13_jacobi_21 : decode cX13_jacobi 21 = .ok (.iload_n 2, 1) := by decide +kernel
theorem dX13_jacobi_22 : decode cX13_jacobi 22 = .ok (.iload_n 3, 1) := by decide +kernel
theorem dX13_jacobi_23 : decode cX13_jacobi 23 = .ok (.invokevirtual 388, 3) := by decide +kernel
theorem dX13_jacobi_26 : decode cX13_jacobi 26 = .ok (.ifCond .ne 9, 3) := by decide +kernel
theorem dX13_jacobi_29 : decode cX13_jacobi 29 = .ok (.aload_n 0, 1) := by decide +kernel
theorem dX13_jacobi_30 : decode cX13_jacobi 30 = .ok (.iconst 1, 1) := by decide +kernel
theorem dX13_jacobi_31 : decode cX13_jacobi 31 = .ok (.invokevirtual 461, 3) := by decide +kernel
theorem dX13_jacobi_34 : decode cX13_jacobi 34 = .ok (.ireturn, 1) := by decide +kernel
theorem dX13_jacobi_35 : decode cX13_jacobi 35 = .ok (.aload_n 0, 1) := by decide +kernel
theorem dX13_jacobi_36 : decode cX13_jacobi 36 = .ok (.aload_n 0, 1) := by decide +kernel
theorem dX13_jacobi_37 : decode cX13_jacobi 37 = .ok (.invokevirtual 467, 3) := by decide +kernel
theorem dX13_jacobi_40 : decode cX13_jacobi 40 = .ok (.iload_n 2, 1) := by decide +kernel
theorem dX13_jacobi_41 : decode cX13_jacobi 41 = .ok (.iload_n 3, 1) := by decide +kernel
theorem dX13_jacobi_42 : decode cX13_jacobi 42 = .ok (.iconst 0, 1) := by decide +kernel
theorem dX13_jacobi_43 : decode cX13_jacobi 43 = .ok (.invokevirtual 353, 3) := by decide +kernel
theorem dX13_jacobi_46 : decode cX13_jacobi 46 = .ok (.aload_n 0, 1) := by decide +kernel
theorem dX13_jacobi_47 : decode cX13_jacobi 47 = .ok (.iconst 0, 1) := by decide +kernel
theorem dX13_jacobi_48 : decode cX13_jacobi 48 = .ok (.iload_n 1, 1) := by decide +kernel
theorem dX13_jacobi_49 : decode cX13_jacobi 49 = .ok (.invokevirtual 471, 3) := by decide +kernel
theorem dX13_jacobi_52 : decode cX13_jacobi 52 = .ok (.ireturn, 1) := by decide +kernel
theorem dX13_add_0 : decode cX13_add 0 = .ok (.aload_n 0, 1) := by decide +kernel
theorem dX13_add_1 : decode cX13_add 1 = .ok (.iconst 0, 1) := by decide +kernel
theorem dX13_add_2 : decode cX13_add 2 = .ok (.putfield 46, 3) := by decide +kernel
theorem dX13_add_5 : decode cX13_add 5 = .ok (.aload_n 0, 1) := by decide +kernel
theorem dX13_add_6 : decode cX13_add 6 = .ok (.iload_n 1, 1) := by decide +kernel
theorem dX13_add_7 : decode cX13_add 7 = .ok (.invokevirtual 464, 3) := by decide +kernel
theorem dX13_add_10 : decode cX13_add 10 = .ok (.ifCond .eq 11, 3) := by decide +kernel
theorem dX13_add_13 : decode cX13_add 13 = .ok (.aload_n 0, 1) := by decide +kernel
theorem dX13_add_14 : decode cX13_add 14 = .ok (.iload_n 2, 1) := by decide +kernel
theorem dX13_add_15 : decode cX13_add 15 = .ok (.invokevirtual 464, 3) := by decide +kernel
theorem dX13_add_18 : decode cX13_add 18 = .ok (.ifCond .ne 9, 3) := by decide +kernel
theorem dX13_add_21 : decode cX13_add 21 = .ok (.aload_n 0, 1) := by decide +kernel
theorem dX13_add_22 : decode cX13_add 22 = .ok (.iconst 1, 1) := by decide +kernel
theorem dX13_add_23 : decode cX13_add 23 = .ok (.invokevirtual 461, 3) := by decide +kernel
theorem dX13_add_26 : decode cX13_add 26 = .ok (.ireturn, 1) := by decide +kernel
theorem dX13_add_27 : decode cX13_add 27 = .ok (.iload_n 3, 1) := by decide +kernel
theorem dX13_add_28 : decode cX13_add 28 = .ok (.sipush (-999), 3) := by decide +kernel
theorem dX13_add_31 : decode cX13_add 31 = .ok (.sipush 999, 3) := by decide +kernel
theorem dX13_add_34 : decode cX13_add 34 = .ok (.invokestatic 168, 3) := by decide +kernel
theorem dX13_add_37 : decode cX13_add 37 = .ok (.ifCond .ne 9, 3) := by decide +kernel
theorem dX13_add_40 : decode cX13_add 40 = .ok (.aload_n 0, 1) := by decide +kernel
theorem dX13_add_41 : decode cX13_add 41 = .ok (.iconst 2, 1) := by decide +kernel
theorem dX13_add_42 : decode cX13_add 42 = .ok (.invokevirtual 461, 3) := by decide +kernel
theorem dX13_add_45 : decode cX13_add 45 = .ok (.ireturn, 1) := by decide +kernel
theorem dX13_add_46 : decode cX13_add 46 = .ok (.aload_n 0, 1) := by decide +kernel
theorem dX13_add_47 : decode cX13_add 47 = .ok (.iload_n 1, 1) := by decide +kernel
theorem dX13_add_48 : decode cX13_add 48 = .ok (.iconst 0, 1) := by decide +kernel
theorem dX13_add_49 : decode cX13_add 49 = .ok (.invokevirtual 474, 3) := by decide +kernel
theorem dX13_add_52 : decode cX13_add 52 = .ok (.aload_n 0, 1) := by decide +kernel
theorem dX13_add_53 : decode cX13_add 53 = .ok (.iload_n 2, 1) := by decide +kernel
theorem dX13_add_54 : decode cX13_add 54 = .ok (.iconst 1, 1) := by decide +kernel
theorem dX13_add_55 : decode cX13_add 55 = .ok (.invokevirtual 474, 3) := by decide +kernel
theorem dX13_add_58 : decode cX13_add 58 = .ok (.aload_n 0, 1) := by decide +kernel
theorem dX13_add_59 : decode cX13_add 59 = .ok (.iconst 0, 1) := by decide +kernel
theorem dX13_add_60 : decode cX13_add 60 = .ok (.iconst 1, 1) := by decide +kernel
theorem dX13_add_61 : decode cX13_add 61 = .ok (.iload_n 3, 1) := by decide +kernel
theorem dX13_add_62 : decode cX13_add 62 = .ok (.i2l, 1) := by decide +kernel
theorem dX13_add_63 : decode cX13_add 63 = .ok (.invokevirtual 324, 3) := by decide +kernel
theorem dX13_add_66 : decode cX13_add 66 = .ok (.aload_n 0, 1) := by decide +kernel
theorem dX13_add_67 : decode cX13_add 67 = .ok (.iconst 0, 1) := by decide +kernel
theorem dX13_add_68 : decode cX13_add 68 = .ok (.invokevirtual 290, 3) := by decide +kernel
theorem dX13_add_71 : decode cX13_add 71 = .ok (.ifCond .eq 12, 3) := by decide +kernel
theorem dX13_add_74 : decode cX13_add 74 = .ok (.aload_n 0, 1) := by decide +kernel
theorem dX13_add_75 : decode cX13_add 75 = .ok (.bipush 7, 2) := by decide +kernel
theorem dX13_add_77 : decode cX13_add 77 = .ok (.invokevirtual 461, 3) := by decide +kernel
theorem dX13_add_80 : decode cX13_add 80 = .ok (.goto 9, 3) := by decide +kernel
theorem dX13_add_83 : decode cX13_add 83 = .ok (.aload_n 0, 1) := by decide +kernel
theorem dX13_add_84 : decode cX13_add 84 = .ok (.iconst 0, 1) := by decide +kernel
theorem dX13_add_85 : decode cX13_add 85 = .ok (.iload_n 1, 1) := by decide +kernel
theorem dX13_add_86 : decode cX13_add 86 = .ok (.invokevirtual 471, 3) := by decide +kernel
theorem dX13_add_89 : decode cX13_add 89 = .ok (.ireturn, 1) := by decide +kernel
theorem dX13_times_0 : decode cX13_times 0 = .ok (.aload_n 0, 1) := by decide +kernel
theorem dX13_times_1 : decode cX13_times 1 = .ok (.iconst 0, 1) := by decide +kernel
theorem dX13_times_2 : decode cX13_times 2 = .ok (.putfield 46, 3) := by decide +kernel
theorem dX13_times_5 : decode cX13_times 5 = .ok (.aload_n 0, 1) := by decide +kernel
theorem dX13_times_6 : decode cX13_times 6 = .ok (.iload_n 1, 1) := by decide +kernel
theorem dX13_times_7 : decode cX13_times 7 = .ok (.invokevirtual 464, 3) := by decide +kernel
theorem dX13_times_10 : decode cX13_times 10 = .ok (.ifCond .eq 11, 3) := by decide +kernel
theorem dX13_times_13 : decode cX13_times 13 = .ok (.aload_n 0, 1) := by decide +kernel
theorem dX13_times_14 : decode cX13_times 14 = .ok (.iload_n 2, 1) := by decide +kernel
theorem dX13_times_15 : decode cX13_times 15 = .ok (.invokevirtual 464, 3) := by decide +kernel
theorem dX13_times_18 : decode cX13_times 18 = .ok (.ifCond .ne 9, 3) := by decide +kernel
theorem dX13_times_21 : decode cX13_times 21 = .ok (.aload_n 0, 1) := by decide +kernel
theorem dX13_times_22 : decode cX13_times 22 = .ok (.iconst 1, 1) := by decide +kernel
theorem dX13_times_23 : decode cX13_times 23 = .ok (.invokevirtual 461, 3) := by decide +kernel
theorem dX13_times_26 : decode cX13_times 26 = .ok (.ireturn, 1) := by decide +kernel
theorem dX13_times_27 : decode cX13_times 27 = .ok (.aload_n 0, 1) := by decide +kernel
theorem dX13_times_28 : decode cX13_times 28 = .ok (.iload_n 1, 1) := by decide +kernel
theorem dX13_times_29 : decode cX13_times 29 = .ok (.iconst 0, 1) := by decide +kernel
theorem dX13_times_30 : decode cX13_times 30 = .ok (.invokevirtual 474, 3) := by decide +kernel
theorem dX13_times_33 : decode cX13_times 33 = .ok (.aload_n 0, 1) := by decide +kernel
theorem dX13_times_34 : decode cX13_times 34 = .ok (.iload_n 2, 1) := by decide +kernel
theorem dX13_times_35 : decode cX13_times 35 = .ok (.iconst 1, 1) := by decide +kernel
theorem dX13_times_36 : decode cX13_times 36 = .ok (.invokevirtual 474, 3) := by decide +kernel
theorem dX13_times_39 : decode cX13_times 39 = .ok (.aload_n 0, 1) := by decide +kernel
theorem dX13_times_40 : decode cX13_times 40 = .ok (.aload_n 0, 1) := by decide +kernel
theorem dX13_times_41 : decode cX13_times 41 = .ok (.invokevirtual 467, 3) := by decide +kernel
theorem dX13_times_44 : decode cX13_times 44 = .ok (.iconst 0, 1) := by decide +kernel
theorem dX13_times_45 : decode cX13_times 45 = .ok (.iconst 1, 1) := by decide +kernel
theorem dX13_times_46 : decode cX13_times 46 = .ok (.iconst 2, 1) := by decide +kernel
theorem dX13_times_47 : decode cX13_times 47 = .ok (.invokevirtual 334, 3) := by decide +kernel
theorem dX13_times_50 : decode cX13_times 50 = .ok (.aload_n 0, 1) := by decide +kernel
theorem dX13_times_51 : decode cX13_times 51 = .ok (.iconst 2, 1) := by decide +kernel
theorem dX13_times_52 : decode cX13_times 52 = .ok (.invokevirtual 290, 3) := by decide +kernel
theorem dX13_times_55 : decode cX13_times 55 = .ok (.ifCond .eq 12, 3) := by decide +kernel
theorem dX13_times_58 : decode cX13_times 58 = .ok (.aload_n 0, 1) := by decide +kernel
theorem dX13_times_59 : decode cX13_times 59 = .ok (.bipush 7, 2) := by decide +kernel
theorem dX13_times_61 : decode cX13_times 61 = .ok (.invokevirtual 461, 3) := by decide +kernel
theorem dX13_times_64 : decode cX13_times 64 = .ok (.goto 9, 3) := by decide +kernel
theorem dX13_times_67 : decode cX13_times 67 = .ok (.aload_n 0, 1) := by decide +kernel
theorem dX13_times_68 : decode cX13_times 68 = .ok (.iconst 2, 1) := by decide +kernel
theorem dX13_times_69 : decode cX13_times 69 = .ok (.iload_n 1, 1) := by decide +kernel
theorem dX13_times_70 : decode cX13_times 70 = .ok (.invokevirtual 471, 3) := by decide +kernel
theorem dX13_times_73 : decode cX13_times 73 = .ok (.ireturn, 1) := by decide +kernel
theorem dX13_turn_0 : decode cX13_turn 0 = .ok (.aload_n 0, 1) := by decide +kernel
theorem dX13_turn_1 : decode cX13_turn 1 = .ok (.iconst 0, 1) := by decide +kernel
theorem dX13_turn_2 : decode cX13_turn 2 = .ok (.putfield 46, 3) := by decide +kernel
theorem dX13_turn_5 : decode cX13_turn 5 = .ok (.aload_n 0, 1) := by decide +kernel
theorem dX13_turn_6 : decode cX13_turn 6 = .ok (.iload_n 1, 1) := by decide +kernel
theorem dX13_turn_7 : decode cX13_turn 7 = .ok (.invokevirtual 464, 3) := by decide +kernel
theorem dX13_turn_10 : decode cX13_turn 10 = .ok (.ifCond .ne 9, 3) := by decide +kernel
theorem dX13_turn_13 : decode cX13_turn 13 = .ok (.aload_n 0, 1) := by decide +kernel
theorem dX13_turn_14 : decode cX13_turn 14 = .ok (.iconst 1, 1) := by decide +kernel
theorem dX13_turn_15 : decode cX13_turn 15 = .ok (.invokevirtual 461, 3) := by decide +kernel
theorem dX13_turn_18 : decode cX13_turn 18 = .ok (.ireturn, 1) := by decide +kernel
theorem dX13_turn_19 : decode cX13_turn 19 = .ok (.aload_n 0, 1) := by decide +kernel
theorem dX13_turn_20 : decode cX13_turn 20 = .ok (.invokevirtual 467, 3) := by decide +kernel
theorem dX13_turn_23 : decode cX13_turn 23 = .ok (.iload_n 2, 1) := by decide +kernel
theorem dX13_turn_24 : decode cX13_turn 24 = .ok (.invokevirtual 347, 3) := by decide +kernel
theorem dX13_turn_27 : decode cX13_turn 27 = .ok (.ifCond .ne 9, 3) := by decide +kernel
theorem dX13_turn_30 : decode cX13_turn 30 = .ok (.aload_n 0, 1) := by decide +kernel
theorem dX13_turn_31 : decode cX13_turn 31 = .ok (.iconst 2, 1) := by decide +kernel
theorem dX13_turn_32 : decode cX13_turn 32 = .ok (.invokevirtual 461, 3) := by decide +kernel
theorem dX13_turn_35 : decode cX13_turn 35 = .ok (.ireturn, 1) := by decide +kernel
theorem dX13_turn_36 : decode cX13_turn 36 = .ok (.aload_n 0, 1) := by decide +kernel
theorem dX13_turn_37 : decode cX13_turn 37 = .ok (.iload_n 1, 1) := by decide +kernel
theorem dX13_turn_38 : decode cX13_turn 38 = .ok (.iconst 0, 1) := by decide +kernel
theorem dX13_turn_39 : decode cX13_turn 39 = .ok (.invokevirtual 474, 3) := by decide +kernel
theorem dX13_turn_42 : decode cX13_turn 42 = .ok (.aload_n 0, 1) := by decide +kernel
theorem dX13_turn_43 : decode cX13_turn 43 = .ok (.aload_n 0, 1) := by decide +kernel
theorem dX13_turn_44 : decode cX13_turn 44 = .ok (.invokevirtual 467, 3) := by decide +kernel
theorem dX13_turn_47 : decode cX13_turn 47 = .ok (.iconst 0, 1) := by decide +kernel
theorem dX13_turn_48 : decode cX13_turn 48 = .ok (.iload_n 2, 1) := by decide +kernel
theorem dX13_turn_49 : decode cX13_turn 49 = .ok (.iconst 1, 1) := by decide +kernel
theorem dX13_turn_50 : decode cX13_turn 50 = .ok (.invokevirtual 359, 3) := by decide +kernel
theorem dX13_turn_53 : decode cX13_turn 53 = .ok (.aload_n 0, 1) := by decide +kernel
theorem dX13_turn_54 : decode cX13_turn 54 = .ok (.iconst 1, 1) := by decide +kernel
theorem dX13_turn_55 : decode cX13_turn 55 = .ok (.invokevirtual 290, 3) := by decide +kernel
theorem dX13_turn_58 : decode cX13_turn 58 = .ok (.ifCond .eq 12, 3) := by decide +kernel
theorem dX13_turn_61 : decode cX13_turn 61 = .ok (.aload_n 0, 1) := by decide +kernel
theorem dX13_turn_62 : decode cX13_turn 62 = .ok (.bipush 7, 2) := by decide +kernel
theorem dX13_turn_64 : decode cX13_turn 64 = .ok (.invokevirtual 461, 3) := by decide +kernel
theorem dX13_turn_67 : decode cX13_turn 67 = .ok (.goto 9, 3) := by decide +kernel
theorem dX13_turn_70 : decode cX13_turn 70 = .ok (.aload_n 0, 1) := by decide +kernel
theorem dX13_turn_71 : decode cX13_turn 71 = .ok (.iconst 1, 1) := by decide +kernel
theorem dX13_turn_72 : decode cX13_turn 72 = .ok (.iload_n 1, 1) := by decide +kernel
theorem dX13_turn_73 : decode cX13_turn 73 = .ok (.invokevirtual 471, 3) := by decide +kernel
theorem dX13_turn_76 : decode cX13_turn 76 = .ok (.ireturn, 1) := by decide +kernel
theorem dX13_size_0 : decode cX13_size 0 = .ok (.aload_n 0, 1) := by decide +kernel
theorem dX13_size_1 : decode cX13_size 1 = .ok (.iconst 0, 1) := by decide +kernel
theorem dX13_size_2 : decode cX13_size 2 = .ok (.putfield 46, 3) := by decide +kernel
theorem dX13_size_5 : decode cX13_size 5 = .ok (.aload_n 0, 1) := by decide +kernel
theorem dX13_size_6 : decode cX13_size 6 = .ok (.iload_n 1, 1) := by decide +kernel
theorem dX13_size_7 : decode cX13_size 7 = .ok (.invokevirtual 464, 3) := by decide +kernel
theorem dX13_size_10 : decode cX13_size 10 = .ok (.ifCond .ne 13, 3) := by decide +kernel
theorem dX13_size_13 : decode cX13_size 13 = .ok (.aload_n 0, 1) := by decide +kernel
theorem dX13_size_14 : decode cX13_size 14 = .ok (.iconst 1, 1) := by decide +kernel
theorem dX13_size_15 : decode cX13_size 15 = .ok (.invokevirtual 52, 3) := by decide +kernel
theorem dX13_size_18 : decode cX13_size 18 = .ok (.pop, 1) := by decide +kernel
theorem dX13_size_19 : decode cX13_size 19 = .ok (.ldc2_w 479, 3) := by decide +kernel
theorem dX13_size_22 : decode cX13_size 22 = .ok (.lreturn, 1) := by decide +kernel
theorem dX13_size_23 : decode cX13_size 23 = .ok (.aload_n 0, 1) := by decide +kernel
theorem dX13_size_24 : decode cX13_size 24 = .ok (.iload_n 1, 1) := by decide +kernel
theorem dX13_size_25 : decode cX13_size 25 = .ok (.iconst 0, 1) := by decide +kernel
theorem dX13_size_26 : decode cX13_size 26 = .ok (.invokevirtual 474, 3) := by decide +kernel
theorem dX13_size_29 : decode cX13_size 29 = .ok (.aload_n 0, 1) := by decide +kernel
theorem dX13_size_30 : decode cX13_size 30 = .ok (.iconst 2, 1) := by decide +kernel
theorem dX13_size_31 : decode cX13_size 31 = .ok (.lconst 1, 1) := by decide +kernel
theorem dX13_size_32 : decode cX13_size 32 = .ok (.invokevirtual 297, 3) := by decide +kernel
theorem dX13_size_35 : decode cX13_size 35 = .ok (.iconst 1, 1) := by decide +kernel
theorem dX13_size_36 : decode cX13_size 36 = .ok (.istore_n 2, 1) := by decide +kernel
theorem dX13_size_37 : decode cX13_size 37 = .ok (.iload_n 2, 1) := by decide +kernel
theorem dX13_size_38 : decode cX13_size 38 = .ok (.aload_n 0, 1) := by decide +kernel
theorem dX13_size_39 : decode cX13_size 39 = .ok (.invokevirtual 467, 3) := by decide +kernel
theorem dX13_size_42 : decode cX13_size 42 = .ok (.getfield 59, 3) := by decide +kernel
theorem dX13_size_45 : decode cX13_size 45 = .ok (.if_icmp .ge 81, 3) := by decide +kernel
theorem dX13_size_48 : decode cX13_size 48 = .ok (.aload_n 0, 1) := by decide +kernel
theorem dX13_size_49 : decode cX13_size 49 = .ok (.invokevirtual 467, 3) := by decide +kernel
theorem dX13_size_52 : decode cX13_size 52 = .ok (.iload_n 2, 1) := by decide +kernel
theorem dX13_size_53 : decode cX13_size 53 = .ok (.invokevirtual 347, 3) := by decide +kernel
theorem dX13_size_56 : decode cX13_size 56 = .ok (.ifCond .ne 6, 3) := by decide +kernel
theorem dX13_size_59 : decode cX13_size 59 = .ok (.goto 61, 3) := by decide +kernel
theorem dX13_size_62 : decode cX13_size 62 = .ok (.aload_n 0, 1) := by decide +kernel
theorem dX13_size_63 : decode cX13_size 63 = .ok (.aload_n 0, 1) := by decide +kernel
theorem dX13_size_64 : decode cX13_size 64 = .ok (.invokevirtual 467, 3) := by decide +kernel
theorem dX13_size_67 : decode cX13_size 67 = .ok (.iconst 0, 1) := by decide +kernel
theorem dX13_size_68 : decode cX13_size 68 = .ok (.iload_n 2, 1) := by decide +kernel
theorem dX13_size_69 : decode cX13_size 69 = .ok (.iconst 1, 1) := by decide +kernel
theorem dX13_size_70 : decode cX13_size 70 = .ok (.invokevirtual 359, 3) := by decide +kernel
theorem dX13_size_73 : decode cX13_size 73 = .ok (.aload_n 0, 1) := by decide +kernel
theorem dX13_size_74 : decode cX13_size 74 = .ok (.iconst 1, 1) := by decide +kernel
theorem dX13_size_75 : decode cX13_size 75 = .ok (.invokevirtual 290, 3) := by decide +kernel
theorem dX13_size_78 : decode cX13_size 78 = .ok (.istore_n 3, 1) := by decide +kernel
theorem dX13_size_79 : decode cX13_size 79 = .ok (.iload_n 3, 1) := by decide +kernel
theorem dX13_size_80 : decode cX13_size 80 = .ok (.ifCond .ne 14, 3) := by decide +kernel
theorem dX13_size_83 : decode cX13_size 83 = .ok (.aload_n 0, 1) := by decide +kernel
theorem dX13_size_84 : decode cX13_size 84 = .ok (.aload_n 0, 1) := by decide +kernel
theorem dX13_size_85 : decode cX13_size 85 = .ok (.invokevirtual 467, 3) := by decide +kernel
theorem dX13_size_88 : decode cX13_size 88 = .ok (.iconst 2, 1) := by decide +kernel
theorem dX13_size_89 : decode cX13_size 89 = .ok (.iconst 1, 1) := by decide +kernel
theorem dX13_size_90 : decode cX13_size 90 = .ok (.iconst 2, 1) := by decide +kernel
theorem dX13_size_91 : decode cX13_size 91 = .ok (.invokevirtual 334, 3) := by decide +kernel
theorem dX13_size_94 : decode cX13_size 94 = .ok (.iload_n 3, 1) := by decide +kernel
theorem dX13_size_95 : decode cX13_size 95 = .ok (.ifCond .ne 14, 3) := by decide +kernel
theorem dX13_size_98 : decode cX13_size 98 = .ok (.aload_n 0, 1) := by decide +kernel
theorem dX13_size_99 : decode cX13_size 99 = .ok (.iconst 2, 1) := by decide +kernel
theorem dX13_size_100 : decode cX13_size 100 = .ok (.invokevirtual 290, 3) := by decide +kernel
theorem dX13_size_103 : decode cX13_size 103 = .ok (.ifCond .ne 6, 3) := by decide +kernel
theorem dX13_size_106 : decode cX13_size 106 = .ok (.goto 14, 3) := by decide +kernel
theorem dX13_size_109 : decode cX13_size 109 = .ok (.aload_n 0, 1) := by decide +kernel
theorem dX13_size_110 : decode cX13_size 110 = .ok (.bipush 7, 2) := by decide +kernel
theorem dX13_size_112 : decode cX13_size 112 = .ok (.invokevirtual 52, 3) := by decide +kernel
theorem dX13_size_115 : decode cX13_size 115 = .ok (.pop, 1) := by decide +kernel
theorem dX13_size_116 : decode cX13_size 116 = .ok (.ldc2_w 479, 3) := by decide +kernel
theorem dX13_size_119 : decode cX13_size 119 = .ok (.lreturn, 1) := by decide +kernel
theorem dX13_size_120 : decode cX13_size 120 = .ok (.iinc 2 1, 3) := by decide +kernel
theorem dX13_size_123 : decode cX13_size 123 = .ok (.goto (-86), 3) := by decide +kernel
theorem dX13_size_126 : decode cX13_size 126 = .ok (.aload_n 0, 1) := by decide +kernel
theorem dX13_size_127 : decode cX13_size 127 = .ok (.aload_n 0, 1) := by decide +kernel
theorem dX13_size_128 : decode cX13_size 128 = .ok (.getfield 13, 3) := by decide +kernel
theorem dX13_size_131 : decode cX13_size 131 = .ok (.bipush 24, 2) := by decide +kernel
theorem dX13_size_133 : decode cX13_size 133 = .ok (.laload, 1) := by decide +kernel
theorem dX13_size_134 : decode cX13_size 134 = .ok (.invokevirtual 422, 3) := by decide +kernel
theorem dX13_size_137 : decode cX13_size 137 = .ok (.lreturn, 1) := by decide +kernel
theorem dX13_undo_0 : decode cX13_undo 0 = .ok (.aload_n 0, 1) := by decide +kernel
theorem dX13_undo_1 : decode cX13_undo 1 = .ok (.iconst 0, 1) := by decide +kernel
theorem dX13_undo_2 : decode cX13_undo 2 = .ok (.putfield 46, 3) := by decide +kernel
theorem dX13_undo_5 : decode cX13_undo 5 = .ok (.aload_n 0, 1) := by decide +kernel
theorem dX13_undo_6 : decode cX13_undo 6 = .ok (.getfield 372, 3) := by decide +kernel
theorem dX13_undo_9 : decode cX13_undo 9 = .ok (.ifCond .ne 10, 3) := by decide +kernel
theorem dX13_undo_12 : decode cX13_undo 12 = .ok (.aload_n 0, 1) := by decide +kernel
theorem dX13_undo_13 : decode cX13_undo 13 = .ok (.bipush 6, 2) := by decide +kernel
theorem dX13_undo_15 : decode cX13_undo 15 = .ok (.invokevirtual 461, 3) := by decide +kernel
theorem dX13_undo_18 : decode cX13_undo 18 = .ok (.ireturn, 1) := by decide +kernel
theorem dX13_undo_19 : decode cX13_undo 19 = .ok (.aload_n 0, 1) := by decide +kernel
theorem dX13_undo_20 : decode cX13_undo 20 = .ok (.aload_n 0, 1) := by decide +kernel
theorem dX13_undo_21 : decode cX13_undo 21 = .ok (.getfield 40, 3) := by decide +kernel
theorem dX13_undo_24 : decode cX13_undo 24 = .ok (.aload_n 0, 1) := by decide +kernel
theorem dX13_undo_25 : decode cX13_undo 25 = .ok (.getfield 375, 3) := by decide +kernel
theorem dX13_undo_28 : decode cX13_undo 28 = .ok (.invokevirtual 451, 3) := by decide +kernel
theorem dX13_undo_31 : decode cX13_undo 31 = .ok (.aload_n 0, 1) := by decide +kernel
theorem dX13_undo_32 : decode cX13_undo 32 = .ok (.dup, 1) := by decide +kernel
theorem dX13_undo_33 : decode cX13_undo 33 = .ok (.getfield 375, 3) := by decide +kernel
theorem dX13_undo_36 : decode cX13_undo 36 = .ok (.iconst 1, 1) := by decide +kernel
theorem dX13_undo_37 : decode cX13_undo 37 = .ok (.iadd, 1) := by decide +kernel
theorem dX13_undo_38 : decode cX13_undo 38 = .ok (.putfield 375, 3) := by decide +kernel
theorem dX13_undo_41 : decode cX13_undo 41 = .ok (.aload_n 0, 1) := by decide +kernel
theorem dX13_undo_42 : decode cX13_undo 42 = .ok (.dup, 1) := by decide +kernel
theorem dX13_undo_43 : decode cX13_undo 43 = .ok (.getfield 372, 3) := by decide +kernel
theorem dX13_undo_46 : decode cX13_undo 46 = .ok (.iconst 1, 1) := by decide +kernel
theorem dX13_undo_47 : decode cX13_undo 47 = .ok (.isub, 1) := by decide +kernel
theorem dX13_undo_48 : decode cX13_undo 48 = .ok (.putfield 372, 3) := by decide +kernel
theorem dX13_undo_51 : decode cX13_undo 51 = .ok (.aload_n 0, 1) := by decide +kernel
theorem dX13_undo_52 : decode cX13_undo 52 = .ok (.aload_n 0, 1) := by decide +kernel
theorem dX13_undo_53 : decode cX13_undo 53 = .ok (.getfield 37, 3) := by decide +kernel
theorem dX13_undo_56 : decode cX13_undo 56 = .ok (.aload_n 0, 1) := by decide +kernel
theorem dX13_undo_57 : decode cX13_undo 57 = .ok (.getfield 372, 3) := by decide +kernel
theorem dX13_undo_60 : decode cX13_undo 60 = .ok (.invokevirtual 481, 3) := by decide +kernel
theorem dX13_undo_63 : decode cX13_undo 63 = .ok (.aload_n 0, 1) := by decide +kernel
theorem dX13_undo_64 : decode cX13_undo 64 = .ok (.invokevirtual 455, 3) := by decide +kernel
theorem dX13_undo_67 : decode cX13_undo 67 = .ok (.ireturn, 1) := by decide +kernel
theorem dX13_redo_0 : decode cX13_redo 0 = .ok (.aload_n 0, 1) := by decide +kernel
theorem dX13_redo_1 : decode cX13_redo 1 = .ok (.iconst 0, 1) := by decide +kernel
theorem dX13_redo_2 : decode cX13_redo 2 = .ok (.putfield 46, 3) := by decide +kernel
theorem dX13_redo_5 : decode cX13_redo 5 = .ok (.aload_n 0, 1) := by decide +kernel
theorem dX13_redo_6 : decode cX13_redo 6 = .ok (.getfield 375, 3) := by decide +kernel
theorem dX13_redo_9 : decode cX13_redo 9 = .ok (.ifCond .ne 10, 3) := by decide +kernel
theorem dX13_redo_12 : decode cX13_redo 12 = .ok (.aload_n 0, 1) := by decide +kernel
theorem dX13_redo_13 : decode cX13_redo 13 = .ok (.bipush 6, 2) := by decide +kernel
theorem dX13_redo_15 : decode cX13_redo 15 = .ok (.invokevirtual 461, 3) := by decide +kernel
theorem dX13_redo_18 : decode cX13_redo 18 = .ok (.ireturn, 1) := by decide +kernel
theorem dX13_redo_19 : decode cX13_redo 19 = .ok (.aload_n 0, 1) := by decide +kernel
theorem dX13_redo_20 : decode cX13_redo 20 = .ok (.aload_n 0, 1) := by decide +kernel
theorem dX13_redo_21 : decode cX13_redo 21 = .ok (.getfield 37, 3) := by decide +kernel
theorem dX13_redo_24 : decode cX13_redo 24 = .ok (.aload_n 0, 1) := by decide +kernel
theorem dX13_redo_25 : decode cX13_redo 25 = .ok (.getfield 372, 3) := by decide +kernel
theorem dX13_redo_28 : decode cX13_redo 28 = .ok (.invokevirtual 451, 3) := by decide +kernel
theorem dX13_redo_31 : decode cX13_redo 31 = .ok (.aload_n 0, 1) := by decide +kernel
theorem dX13_redo_32 : decode cX13_redo 32 = .ok (.dup, 1) := by decide +kernel
theorem dX13_redo_33 : decode cX13_redo 33 = .ok (.getfield 372, 3) := by decide +kernel
theorem dX13_redo_36 : decode cX13_redo 36 = .ok (.iconst 1, 1) := by decide +kernel
theorem dX13_redo_37 : decode cX13_redo 37 = .ok (.iadd, 1) := by decide +kernel
theorem dX13_redo_38 : decode cX13_redo 38 = .ok (.putfield 372, 3) := by decide +kernel
theorem dX13_redo_41 : decode cX13_redo 41 = .ok (.aload_n 0, 1) := by decide +kernel
theorem dX13_redo_42 : decode cX13_redo 42 = .ok (.dup, 1) := by decide +kernel
theorem dX13_redo_43 : decode cX13_redo 43 = .ok (.getfield 375, 3) := by decide +kernel
theorem dX13_redo_46 : decode cX13_redo 46 = .ok (.iconst 1, 1) := by decide +kernel
theorem dX13_redo_47 : decode cX13_redo 47 = .ok (.isub, 1) := by decide +kernel
theorem dX13_redo_48 : decode cX13_redo 48 = .ok (.putfield 375, 3) := by decide +kernel
theorem dX13_redo_51 : decode cX13_redo 51 = .ok (.aload_n 0, 1) := by decide +kernel
theorem dX13_redo_52 : decode cX13_redo 52 = .ok (.aload_n 0, 1) := by decide +kernel
theorem dX13_redo_53 : decode cX13_redo 53 = .ok (.getfield 40, 3) := by decide +kernel
theorem dX13_redo_56 : decode cX13_redo 56 = .ok (.aload_n 0, 1) := by decide +kernel
theorem dX13_redo_57 : decode cX13_redo 57 = .ok (.getfield 375, 3) := by decide +kernel
theorem dX13_redo_60 : decode cX13_redo 60 = .ok (.invokevirtual 481, 3) := by decide +kernel
theorem dX13_redo_63 : decode cX13_redo 63 = .ok (.aload_n 0, 1) := by decide +kernel
theorem dX13_redo_64 : decode cX13_redo 64 = .ok (.invokevirtual 455, 3) := by decide +kernel
theorem dX13_redo_67 : decode cX13_redo 67 = .ok (.ireturn, 1) := by decide +kernel
theorem dX13_image_0 : decode cX13_image 0 = .ok (.aload_n 0, 1) := by decide +kernel
theorem dX13_image_1 : decode cX13_image 1 = .ok (.iconst 0, 1) := by decide +kernel
theorem dX13_image_2 : decode cX13_image 2 = .ok (.putfield 46, 3) := by decide +kernel
theorem dX13_image_5 : decode cX13_image 5 = .ok (.aload_n 0, 1) := by decide +kernel
theorem dX13_image_6 : decode cX13_image 6 = .ok (.getfield 369, 3) := by decide +kernel
theorem dX13_image_9 : decode cX13_image 9 = .ok (.ifnonnull 9, 3) := by decide +kernel
theorem dX13_image_12 : decode cX13_image 12 = .ok (.aload_n 0, 1) := by decide +kernel
theorem dX13_image_13 : decode cX13_image 13 = .ok (.iconst 1, 1) := by decide +kernel
theorem dX13_image_14 : decode cX13_image 14 = .ok (.invokevirtual 52, 3) := by decide +kernel
theorem dX13_image_17 : decode cX13_image 17 = .ok (.ireturn, 1) := by decide +kernel
theorem dX13_image_18 : decode cX13_image 18 = .ok (.aload_n 0, 1) := by decide +kernel
theorem dX13_image_19 : decode cX13_image 19 = .ok (.getfield 378, 3) := by decide +kernel
theorem dX13_image_22 : decode cX13_image 22 = .ok (.iconst 4, 1) := by decide +kernel
theorem dX13_image_23 : decode cX13_image 23 = .ok (.if_icmp .ne 9, 3) := by decide +kernel
theorem dX13_image_26 : decode cX13_image 26 = .ok (.aload_n 0, 1) := by decide +kernel
theorem dX13_image_27 : decode cX13_image 27 = .ok (.iconst 3, 1) := by decide +kernel
theorem dX13_image_28 : decode cX13_image 28 = .ok (.invokevirtual 52, 3) := by decide +kernel
theorem dX13_image_31 : decode cX13_image 31 = .ok (.ireturn, 1) := by decide +kernel
theorem dX13_image_32 : decode cX13_image 32 = .ok (.aload_n 0, 1) := by decide +kernel
theorem dX13_image_33 : decode cX13_image 33 = .ok (.aload_n 0, 1) := by decide +kernel
theorem dX13_image_34 : decode cX13_image 34 = .ok (.getfield 43, 3) := by decide +kernel
theorem dX13_image_37 : decode cX13_image 37 = .ok (.aload_n 0, 1) := by decide +kernel
theorem dX13_image_38 : decode cX13_image 38 = .ok (.getfield 378, 3) := by decide +kernel
theorem dX13_image_41 : decode cX13_image 41 = .ok (.invokevirtual 451, 3) := by decide +kernel
theorem dX13_image_44 : decode cX13_image 44 = .ok (.aload_n 0, 1) := by decide +kernel
theorem dX13_image_45 : decode cX13_image 45 = .ok (.dup, 1) := by decide +kernel
theorem dX13_image_46 : decode cX13_image 46 = .ok (.getfield 378, 3) := by decide +kernel
theorem dX13_image_49 : decode cX13_image 49 = .ok (.iconst 1, 1) := by decide +kernel
theorem dX13_image_50 : decode cX13_image 50 = .ok (.iadd, 1) := by decide +kernel
theorem dX13_image_51 : decode cX13_image 51 = .ok (.putfield 378, 3) := by decide +kernel
theorem dX13_image_54 : decode cX13_image 54 = .ok (.aload_n 0, 1) := by decide +kernel
theorem dX13_image_55 : decode cX13_image 55 = .ok (.aload_n 0, 1) := by decide +kernel
theorem dX13_image_56 : decode cX13_image 56 = .ok (.getfield 378, 3) := by decide +kernel
theorem dX13_image_59 : decode cX13_image 59 = .ok (.iconst 1, 1) := by decide +kernel
theorem dX13_image_60 : decode cX13_image 60 = .ok (.isub, 1) := by decide +kernel
theorem dX13_image_61 : decode cX13_image 61 = .ok (.invokevirtual 56, 3) := by decide +kernel
theorem dX13_image_64 : decode cX13_image 64 = .ok (.ireturn, 1) := by decide +kernel
theorem dX13_restore_0 : decode cX13_restore 0 = .ok (.aload_n 0, 1) := by decide +kernel
theorem dX13_restore_1 : decode cX13_restore 1 = .ok (.iconst 0, 1) := by decide +kernel
theorem dX13_restore_2 : decode cX13_restore 2 = .ok (.putfield 46, 3) := by decide +kernel
theorem dX13_restore_5 : decode cX13_restore 5 = .ok (.aload_n 0, 1) := by decide +kernel
theorem dX13_restore_6 : decode cX13_restore 6 = .ok (.getfield 369, 3) := by decide +kernel
theorem dX13_restore_9 : decode cX13_restore 9 = .ok (.ifnull 15, 3) := by decide +kernel
theorem dX13_restore_12 : decode cX13_restore 12 = .ok (.iload_n 1, 1) := by decide +kernel
theorem dX13_restore_13 : decode cX13_restore 13 = .ok (.ifCond .lt 11, 3) := by decide +kernel
theorem dX13_restore_16 : decode cX13_restore 16 = .ok (.iload_n 1, 1) := by decide +kernel
theorem dX13_restore_17 : decode cX13_restore 17 = .ok (.aload_n 0, 1) := by decide +kernel
theorem dX13_restore_18 : decode cX13_restore 18 = .ok (.getfield 378, 3) := by decide +kernel
theorem dX13_restore_21 : decode cX13_restore 21 = .ok (.if_icmp .lt 9, 3) := by decide +kernel
theorem dX13_restore_24 : decode cX13_restore 24 = .ok (.aload_n 0, 1) := by decide +kernel
theorem dX13_restore_25 : decode cX13_restore 25 = .ok (.iconst 1, 1) := by decide +kernel
theorem dX13_restore_26 : decode cX13_restore 26 = .ok (.invokevirtual 461, 3) := by decide +kernel
theorem dX13_restore_29 : decode cX13_restore 29 = .ok (.ireturn, 1) := by decide +kernel
theorem dX13_restore_30 : decode cX13_restore 30 = .ok (.aload_n 0, 1) := by decide +kernel
theorem dX13_restore_31 : decode cX13_restore 31 = .ok (.invokevirtual 458, 3) := by decide +kernel
theorem dX13_restore_34 : decode cX13_restore 34 = .ok (.pop, 1) := by decide +kernel
theorem dX13_restore_35 : decode cX13_restore 35 = .ok (.aload_n 0, 1) := by decide +kernel
theorem dX13_restore_36 : decode cX13_restore 36 = .ok (.aload_n 0, 1) := by decide +kernel
theorem dX13_restore_37 : decode cX13_restore 37 = .ok (.getfield 43, 3) := by decide +kernel
theorem dX13_restore_40 : decode cX13_restore 40 = .ok (.iload_n 1, 1) := by decide +kernel
theorem dX13_restore_41 : decode cX13_restore 41 = .ok (.invokevirtual 481, 3) := by decide +kernel
theorem dX13_restore_44 : decode cX13_restore 44 = .ok (.iconst 1, 1) := by decide +kernel
theorem dX13_restore_45 : decode cX13_restore 45 = .ok (.ireturn, 1) := by decide +kernel
theorem dX13_led_0 : decode cX13_led 0 = .ok (.aload_n 0, 1) := by decide +kernel
theorem dX13_led_1 : decode cX13_led 1 = .ok (.iconst 0, 1) := by decide +kernel
theorem dX13_led_2 : decode cX13_led 2 = .ok (.putfield 46, 3) := by decide +kernel
theorem dX13_led_5 : decode cX13_led 5 = .ok (.iconst 0, 1) := by decide +kernel
theorem dX13_led_6 : decode cX13_led 6 = .ok (.istore_n 3, 1) := by decide +kernel
theorem dX13_led_7 : decode cX13_led 7 = .ok (.iconst 1, 1) := by decide +kernel
theorem dX13_led_8 : decode cX13_led 8 = .ok (.istore 4, 2) := by decide +kernel
theorem dX13_led_10 : decode cX13_led 10 = .ok (.aload_n 0, 1) := by decide +kernel
theorem dX13_led_11 : decode cX13_led 11 = .ok (.iload_n 1, 1) := by decide +kernel
theorem dX13_led_12 : decode cX13_led 12 = .ok (.invokevirtual 381, 3) := by decide +kernel
theorem dX13_led_15 : decode cX13_led 15 = .ok (.ifCond .eq 71, 3) := by decide +kernel
theorem dX13_led_18 : decode cX13_led 18 = .ok (.iload 4, 2) := by decide +kernel
theorem dX13_led_20 : decode cX13_led 20 = .ok (.aload_n 0, 1) := by decide +kernel
theorem dX13_led_21 : decode cX13_led 21 = .ok (.getfield 369, 3) := by decide +kernel
theorem dX13_led_24 : decode cX13_led 24 = .ok (.getfield 259, 3) := by decide +kernel
theorem dX13_led_27 : decode cX13_led 27 = .ok (.iload_n 1, 1) := by decide +kernel
theorem dX13_led_28 : decode cX13_led 28 = .ok (.aaload, 1) := by decide +kernel
theorem dX13_led_29 : decode cX13_led 29 = .ok (.getfield 81, 3) := by decide +kernel
theorem dX13_led_32 : decode cX13_led 32 = .ok (.if_icmp .ge 54, 3) := by decide +kernel
theorem dX13_led_35 : decode cX13_led 35 = .ok (.aload_n 0, 1) := by decide +kernel
theorem dX13_led_36 : decode cX13_led 36 = .ok (.getfield 369, 3) := by decide +kernel
theorem dX13_led_39 : decode cX13_led 39 = .ok (.getfield 259, 3) := by decide +kernel
theorem dX13_led_42 : decode cX13_led 42 = .ok (.iload_n 1, 1) := by decide +kernel
theorem dX13_led_43 : decode cX13_led 43 = .ok (.aaload, 1) := by decide +kernel
theorem dX13_led_44 : decode cX13_led 44 = .ok (.getfield 84, 3) := by decide +kernel
theorem dX13_led_47 : decode cX13_led 47 = .ok (.iload 4, 2) := by decide +kernel
theorem dX13_led_49 : decode cX13_led 49 = .ok (.iaload, 1) := by decide +kernel
theorem dX13_led_50 : decode cX13_led 50 = .ok (.aload_n 0, 1) := by decide +kernel
theorem dX13_led_51 : decode cX13_led 51 = .ok (.getfield 369, 3) := by decide +kernel
theorem dX13_led_54 : decode cX13_led 54 = .ok (.getfield 259, 3) := by decide +kernel
theorem dX13_led_57 : decode cX13_led 57 = .ok (.iload_n 1, 1) := by decide +kernel
theorem dX13_led_58 : decode cX13_led 58 = .ok (.aaload, 1) := by decide +kernel
theorem dX13_led_59 : decode cX13_led 59 = .ok (.getfield 59, 3) := by decide +kernel
theorem dX13_led_62 : decode cX13_led 62 = .ok (.irem, 1) := by decide +kernel
theorem dX13_led_63 : decode cX13_led 63 = .ok (.ifCond .eq 6, 3) := by decide +kernel
theorem dX13_led_66 : decode cX13_led 66 = .ok (.goto 14, 3) := by decide +kernel
theorem dX13_led_69 : decode cX13_led 69 = .ok (.iload_n 3, 1) := by decide +kernel
theorem dX13_led_70 : decode cX13_led 70 = .ok (.iload_n 2, 1) := by decide +kernel
theorem dX13_led_71 : decode cX13_led 71 = .ok (.if_icmp .ne 6, 3) := by decide +kernel
theorem dX13_led_74 : decode cX13_led 74 = .ok (.iload 4, 2) := by decide +kernel
theorem dX13_led_76 : decode cX13_led 76 = .ok (.ireturn, 1) := by decide +kernel
theorem dX13_led_77 : decode cX13_led 77 = .ok (.iinc 3 1, 3) := by decide +kernel
theorem dX13_led_80 : decode cX13_led 80 = .ok (.iinc 4 1, 3) := by decide +kernel
theorem dX13_led_83 : decode cX13_led 83 = .ok (.goto (-73), 3) := by decide +kernel
theorem dX13_led_86 : decode cX13_led 86 = .ok (.aload_n 0, 1) := by decide +kernel
theorem dX13_led_87 : decode cX13_led 87 = .ok (.iconst 1, 1) := by decide +kernel
theorem dX13_led_88 : decode cX13_led 88 = .ok (.putfield 46, 3) := by decide +kernel
theorem dX13_led_91 : decode cX13_led 91 = .ok (.iconst 0, 1) := by decide +kernel
theorem dX13_led_92 : decode cX13_led 92 = .ok (.ireturn, 1) := by decide +kernel
theorem dX13_told_0 : decode cX13_told 0 = .ok (.aload_n 0, 1) := by decide +kernel
theorem dX13_told_1 : decode cX13_told 1 = .ok (.iconst 0, 1) := by decide +kernel
theorem dX13_told_2 : decode cX13_told 2 = .ok (.putfield 46, 3) := by decide +kernel
theorem dX13_told_5 : decode cX13_told 5 = .ok (.iload_n 1, 1) := by decide +kernel
theorem dX13_told_6 : decode cX13_told 6 = .ok (.bipush 7, 2) := by decide +kernel
theorem dX13_told_8 : decode cX13_told 8 = .ok (.if_icmp .ne 8, 3) := by decide +kernel
theorem dX13_told_11 : decode cX13_told 11 = .ok (.aload_n 0, 1) := by decide +kernel
theorem dX13_told_12 : decode cX13_told 12 = .ok (.getfield 362, 3) := by decide +kernel
theorem dX13_told_15 : decode cX13_told 15 = .ok (.ireturn, 1) := by decide +kernel
theorem dX13_told_16 : decode cX13_told 16 = .ok (.iload_n 1, 1) := by decide +kernel
theorem dX13_told_17 : decode cX13_told 17 = .ok (.iconst 0, 1) := by decide +kernel
theorem dX13_told_18 : decode cX13_told 18 = .ok (.bipush 6, 2) := by decide +kernel
theorem dX13_told_20 : decode cX13_told 20 = .ok (.invokestatic 168, 3) := by decide +kernel
theorem dX13_told_23 : decode cX13_told 23 = .ok (.ifCond .ne 5, 3) := by decide +kernel
theorem dX13_told_26 : decode cX13_told 26 = .ok (.iconst (-1), 1) := by decide +kernel
theorem dX13_told_27 : decode cX13_told 27 = .ok (.ireturn, 1) := by decide +kernel
theorem dX13_told_28 : decode cX13_told 28 = .ok (.aload_n 0, 1) := by decide +kernel
theorem dX13_told_29 : decode cX13_told 29 = .ok (.getfield 369, 3) := by decide +kernel
theorem dX13_told_32 : decode cX13_told 32 = .ok (.ifnonnull 5, 3) := by decide +kernel
theorem dX13_told_35 : decode cX13_told 35 = .ok (.iconst 0, 1) := by decide +kernel
theorem dX13_told_36 : decode cX13_told 36 = .ok (.ireturn, 1) := by decide +kernel
theorem dX13_told_37 : decode cX13_told 37 = .ok (.iload_n 1, 1) := by decide +kernel
theorem dX13_told_38 : decode cX13_told 38 = .ok (.tableswitch 80 0 5 #[38, 46, 54, 62, 70, 75], 38) := by decide +kernel
theorem dX13_told_76 : decode cX13_told 76 = .ok (.aload_n 0, 1) := by decide +kernel
theorem dX13_told_77 : decode cX13_told 77 = .ok (.getfield 369, 3) := by decide +kernel
theorem dX13_told_80 : decode cX13_told 80 = .ok (.getfield 237, 3) := by decide +kernel
theorem dX13_told_83 : decode cX13_told 83 = .ok (.ireturn, 1) := by decide +kernel
theorem dX13_told_84 : decode cX13_told 84 = .ok (.aload_n 0, 1) := by decide +kernel
theorem dX13_told_85 : decode cX13_told 85 = .ok (.getfield 369, 3) := by decide +kernel
theorem dX13_told_88 : decode cX13_told 88 = .ok (.getfield 267, 3) := by decide +kernel
theorem dX13_told_91 : decode cX13_told 91 = .ok (.ireturn, 1) := by decide +kernel
theorem dX13_told_92 : decode cX13_told 92 = .ok (.aload_n 0, 1) := by decide +kernel
theorem dX13_told_93 : decode cX13_told 93 = .ok (.getfield 369, 3) := by decide +kernel
theorem dX13_told_96 : decode cX13_told 96 = .ok (.getfield 301, 3) := by decide +kernel
theorem dX13_told_99 : decode cX13_told 99 = .ok (.ireturn, 1) := by decide +kernel
theorem dX13_told_100 : decode cX13_told 100 = .ok (.aload_n 0, 1) := by decide +kernel
theorem dX13_told_101 : decode cX13_told 101 = .ok (.getfield 34, 3) := by decide +kernel
theorem dX13_told_104 : decode cX13_told 104 = .ok (.iconst 0, 1) := by decide +kernel
theorem dX13_told_105 : decode cX13_told 105 = .ok (.laload, 1) := by decide +kernel
theorem dX13_told_106 : decode cX13_told 106 = .ok (.l2i, 1) := by decide +kernel
theorem dX13_told_107 : decode cX13_told 107 = .ok (.ireturn, 1) := by decide +kernel
theorem dX13_told_108 : decode cX13_told 108 = .ok (.aload_n 0, 1) := by decide +kernel
theorem dX13_told_109 : decode cX13_told 109 = .ok (.getfield 372, 3) := by decide +kernel
theorem dX13_told_112 : decode cX13_told 112 = .ok (.ireturn, 1) := by decide +kernel
theorem dX13_told_113 : decode cX13_told 113 = .ok (.aload_n 0, 1) := by decide +kernel
theorem dX13_told_114 : decode cX13_told 114 = .ok (.getfield 375, 3) := by decide +kernel
theorem dX13_told_117 : decode cX13_told 117 = .ok (.ireturn, 1) := by decide +kernel
theorem dX13_told_118 : decode cX13_told 118 = .ok (.aload_n 0, 1) := by decide +kernel
theorem dX13_told_119 : decode cX13_told 119 = .ok (.getfield 378, 3) := by decide +kernel
theorem dX13_told_122 : decode cX13_told 122 = .ok (.ireturn, 1) := by decide +kernel
theorem dX13_trouble_0 : decode cX13_trouble 0 = .ok (.aload_n 0, 1) := by decide +kernel
theorem dX13_trouble_1 : decode cX13_trouble 1 = .ok (.iconst 0, 1) := by decide +kernel
theorem dX13_trouble_2 : decode cX13_trouble 2 = .ok (.putfield 46, 3) := by decide +kernel
theorem dX13_trouble_5 : decode cX13_trouble 5 = .ok (.aload_n 0, 1) := by decide +kernel
theorem dX13_trouble_6 : decode cX13_trouble 6 = .ok (.getfield 49, 3) := by decide +kernel
theorem dX13_trouble_9 : decode cX13_trouble 9 = .ok (.ireturn, 1) := by decide +kernel
theorem dJ9_floorMod_7cf53_0 : decode cJ9_floorMod_7cf53 0 = .ok (.iload_n 0, 1) := by decide +kernel
theorem dJ9_floorMod_7cf53_1 : decode cJ9_floorMod_7cf53 1 = .ok (.iload_n 1, 1) := by decide +kernel
theorem dJ9_floorMod_7cf53_2 : decode cJ9_floorMod_7cf53 2 = .ok (.irem, 1) := by decide +kernel
theorem dJ9_floorMod_7cf53_3 : decode cJ9_floorMod_7cf53 3 = .ok (.istore_n 2, 1) := by decide +kernel
theorem dJ9_floorMod_7cf53_4 : decode cJ9_floorMod_7cf53 4 = .ok (.iload_n 0, 1) := by decide +kernel
theorem dJ9_floorMod_7cf53_5 : decode cJ9_floorMod_7cf53 5 = .ok (.iload_n 1, 1) := by decide +kernel
theorem dJ9_floorMod_7cf53_6 : decode cJ9_floorMod_7cf53 6 = .ok (.ixor, 1) := by decide +kernel
theorem dJ9_floorMod_7cf53_7 : decode cJ9_floorMod_7cf53 7 = .ok (.ifCond .ge 11, 3) := by decide +kernel
theorem dJ9_floorMod_7cf53_10 : decode cJ9_floorMod_7cf53 10 = .ok (.iload_n 2, 1) := by decide +kernel
theorem dJ9_floorMod_7cf53_11 : decode cJ9_floorMod_7cf53 11 = .ok (.ifCond .eq 7, 3) := by decide +kernel
theorem dJ9_floorMod_7cf53_14 : decode cJ9_floorMod_7cf53 14 = .ok (.iload_n 2, 1) := by decide +kernel
theorem dJ9_floorMod_7cf53_15 : decode cJ9_floorMod_7cf53 15 = .ok (.iload_n 1, 1) := by decide +kernel
theorem dJ9_floorMod_7cf53_16 : decode cJ9_floorMod_7cf53 16 = .ok (.iadd, 1) := by decide +kernel
theorem dJ9_floorMod_7cf53_17 : decode cJ9_floorMod_7cf53 17 = .ok (.ireturn, 1) := by decide +kernel
theorem dJ9_floorMod_7cf53_18 : decode cJ9_floorMod_7cf53 18 = .ok (.iload_n 2, 1) := by decide +kernel
theorem dJ9_floorMod_7cf53_19 : decode cJ9_floorMod_7cf53 19 = .ok (.ireturn, 1) := by decide +kernel
theorem dL_led_0 : decode cL_led 0 = .ok (.aload_n 3, 1) := by decide +kernel
theorem dL_led_1 : decode cL_led 1 = .ok (.iconst 0, 1) := by decide +kernel
theorem dL_led_2 : decode cL_led 2 = .ok (.aload_n 0, 1) := by decide +kernel
theorem dL_led_3 : decode cL_led 3 = .ok (.iload_n 1, 1) := by decide +kernel
theorem dL_led_4 : decode cL_led 4 = .ok (.iload_n 2, 1) := by decide +kernel
theorem dL_led_5 : decode cL_led 5 = .ok (.invokevirtual 7, 3) := by decide +kernel
theorem dL_led_8 : decode cL_led 8 = .ok (.i2l, 1) := by decide +kernel
theorem dL_led_9 : decode cL_led 9 = .ok (.lastore, 1) := by decide +kernel
theorem dL_led_10 : decode cL_led 10 = .ok (.goto 7, 3) := by decide +kernel
theorem dL_led_13 : decode cL_led 13 = .ok (.astore 4, 2) := by decide +kernel
theorem dL_led_15 : decode cL_led 15 = .ok (.iconst 1, 1) := by decide +kernel
theorem dL_led_16 : decode cL_led 16 = .ok (.ireturn, 1) := by decide +kernel
theorem dL_led_17 : decode cL_led 17 = .ok (.iconst 0, 1) := by decide +kernel
theorem dL_led_18 : decode cL_led 18 = .ok (.ireturn, 1) := by decide +kernel
theorem dL_law_0 : decode cL_law 0 = .ok (.new 8, 3) := by decide +kernel
theorem dL_law_3 : decode cL_law 3 = .ok (.dup, 1) := by decide +kernel
theorem dL_law_4 : decode cL_law 4 = .ok (.invokespecial 15, 3) := by decide +kernel
theorem dL_law_7 : decode cL_law 7 = .ok (.astore_n 1, 1) := by decide +kernel
theorem dL_law_8 : decode cL_law 8 = .ok (.new 16, 3) := by decide +kernel
theorem dL_law_11 : decode cL_law 11 = .ok (.dup, 1) := by decide +kernel
theorem dL_law_12 : decode cL_law 12 = .ok (.invokespecial 18, 3) := by decide +kernel
theorem dL_law_15 : decode cL_law 15 = .ok (.astore_n 2, 1) := by decide +kernel
theorem dL_law_16 : decode cL_law 16 = .ok (.iconst 1, 1) := by decide +kernel
theorem dL_law_17 : decode cL_law 17 = .ok (.newarray .long, 2) := by decide +kernel
theorem dL_law_19 : decode cL_law 19 = .ok (.astore_n 3, 1) := by decide +kernel
theorem dL_law_20 : decode cL_law 20 = .ok (.iconst 0, 1) := by decide +kernel
theorem dL_law_21 : decode cL_law 21 = .ok (.istore 4, 2) := by decide +kernel
theorem dL_law_23 : decode cL_law 23 = .ok (.iload 4, 2) := by decide +kernel
theorem dL_law_25 : decode cL_law 25 = .ok (.aload_n 0, 1) := by decide +kernel
theorem dL_law_26 : decode cL_law 26 = .ok (.arraylength, 1) := by decide +kernel
theorem dL_law_27 : decode cL_law 27 = .ok (.bipush 6, 2) := by decide +kernel
theorem dL_law_29 : decode cL_law 29 = .ok (.isub, 1) := by decide +kernel
theorem dL_law_30 : decode cL_law 30 = .ok (.if_icmp .gt 1892, 3) := by decide +kernel
theorem dL_law_33 : decode cL_law 33 = .ok (.aload_n 0, 1) := by decide +kernel
theorem dL_law_34 : decode cL_law 34 = .ok (.iload 4, 2) := by decide +kernel
theorem dL_law_36 : decode cL_law 36 = .ok (.iaload, 1) := by decide +kernel
theorem dL_law_37 : decode cL_law 37 = .ok (.bipush 63, 2) := by decide +kernel
theorem dL_law_39 : decode cL_law 39 = .ok (.iand, 1) := by decide +kernel
theorem dL_law_40 : decode cL_law 40 = .ok (.tableswitch 1876 0 45 #[200, 273, 298, 311, 324, 361, 398, 447, 508, 557, 618, 679, 740, 789, 826, 851, 888, 913, 938, 975, 1013, 1050, 1087, 1124, 1173, 1198, 1223, 1272, 1297, 1346, 1384, 1409, 1434, 1471, 1508, 1557, 1606, 1643, 1680, 1706, 1719, 1732, 1745, 1770, 1838, 1863], 200) := by decide +kernel
theorem dL_law_240 : decode cL_law 240 = .ok (.aload_n 1, 1) := by decide +kernel
theorem dL_law_241 : decode cL_law 241 = .ok (.aload_n 0, 1) := by decide +kernel
theorem dL_law_242 : decode cL_law 242 = .ok (.iload 4, 2) := by decide +kernel
theorem dL_law_244 : decode cL_law 244 = .ok (.iconst 1, 1) := by decide +kernel
theorem dL_law_245 : decode cL_law 245 = .ok (.iadd, 1) := by decide +kernel
theorem dL_law_246 : decode cL_law 246 = .ok (.iaload, 1) := by decide +kernel
theorem dL_law_247 : decode cL_law 247 = .ok (.aload_n 0, 1) := by decide +kernel
theorem dL_law_248 : decode cL_law 248 = .ok (.iload 4, 2) := by decide +kernel
theorem dL_law_250 : decode cL_law 250 = .ok (.iconst 2, 1) := by decide +kernel
theorem dL_law_251 : decode cL_law 251 = .ok (.iadd, 1) := by decide +kernel
theorem dL_law_252 : decode cL_law 252 = .ok (.iaload, 1) := by decide +kernel
theorem dL_law_253 : decode cL_law 253 = .ok (.aload_n 0, 1) := by decide +kernel
theorem dL_law_254 : decode cL_law 254 = .ok (.iload 4, 2) := by decide +kernel
theorem dL_law_256 : decode cL_law 256 = .ok (.iconst 3, 1) := by decide +kernel
theorem dL_law_257 : decode cL_law 257 = .ok (.iadd, 1) := by decide +kernel
theorem dL_law_258 : decode cL_law 258 = .ok (.iaload, 1) := by decide +kernel
theorem dL_law_259 : decode cL_law 259 = .ok (.aload_n 0, 1) := by decide +kernel
theorem dL_law_260 : decode cL_law 260 = .ok (.iload 4, 2) := by decide +kernel
theorem dL_law_262 : decode cL_law 262 = .ok (.iconst 4, 1) := by decide +kernel
theorem dL_law_263 : decode cL_law 263 = .ok (.iadd, 1) := by decide +kernel
theorem dL_law_264 : decode cL_law 264 = .ok (.iaload, 1) := by decide +kernel
theorem dL_law_265 : decode cL_law 265 = .ok (.aload_n 0, 1) := by decide +kernel
theorem dL_law_266 : decode cL_law 266 = .ok (.iload 4, 2) := by decide +kernel
theorem dL_law_268 : decode cL_law 268 = .ok (.iconst 5, 1) := by decide +kernel
theorem dL_law_269 : decode cL_law 269 = .ok (.iadd, 1) := by decide +kernel
theorem dL_law_270 : decode cL_law 270 = .ok (.iaload, 1) := by decide +kernel
theorem dL_law_271 : decode cL_law 271 = .ok (.invokevirtual 19, 3) := by decide +kernel
theorem dL_law_274 : decode cL_law 274 = .ok (.aload_n 2, 1) := by decide +kernel
theorem dL_law_275 : decode cL_law 275 = .ok (.aload_n 0, 1) := by decide +kernel
theorem dL_law_276 : decode cL_law 276 = .ok (.iload 4, 2) := by decide +kernel
theorem dL_law_278 : decode cL_law 278 = .ok (.iconst 1, 1) := by decide +kernel
theorem dL_law_279 : decode cL_law 279 = .ok (.iadd, 1) := by decide +kernel
theorem dL_law_280 : decode cL_law 280 = .ok (.iaload, 1) := by decide +kernel
theorem dL_law_281 : decode cL_law 281 = .ok (.aload_n 0, 1) := by decide +kernel
theorem dL_law_282 : decode cL_law 282 = .ok (.iload 4, 2) := by decide +kernel
theorem dL_law_284 : decode cL_law 284 = .ok (.iconst 2, 1) := by decide +kernel
theorem dL_law_285 : decode cL_law 285 = .ok (.iadd, 1) := by decide +kernel
theorem dL_law_286 : decode cL_law 286 = .ok (.iaload, 1) := by decide +kernel
theorem dL_law_287 : decode cL_law 287 = .ok (.aload_n 0, 1) := by decide +kernel
theorem dL_law_288 : decode cL_law 288 = .ok (.iload 4, 2) := by decide +kernel
theorem dL_law_290 : decode cL_law 290 = .ok (.iconst 3, 1) := by decide +kernel
theorem dL_law_291 : decode cL_law 291 = .ok (.iadd, 1) := by decide +kernel
theorem dL_law_292 : decode cL_law 292 = .ok (.iaload, 1) := by decide +kernel
theorem dL_law_293 : decode cL_law 293 = .ok (.aload_n 0, 1) := by decide +kernel
theorem dL_law_294 : decode cL_law 294 = .ok (.iload 4, 2) := by decide +kernel
theorem dL_law_296 : decode cL_law 296 = .ok (.iconst 4, 1) := by decide +kernel
theorem dL_law_297 : decode cL_law 297 = .ok (.iadd, 1) := by decide +kernel
theorem dL_law_298 : decode cL_law 298 = .ok (.iaload, 1) := by decide +kernel
theorem dL_law_299 : decode cL_law 299 = .ok (.aload_n 0, 1) := by decide +kernel
theorem dL_law_300 : decode cL_law 300 = .ok (.iload 4, 2) := by decide +kernel
theorem dL_law_302 : decode cL_law 302 = .ok (.iconst 5, 1) := by decide +kernel
theorem dL_law_303 : decode cL_law 303 = .ok (.iadd, 1) := by decide +kernel
theorem dL_law_304 : decode cL_law 304 = .ok (.iaload, 1) := by decide +kernel
theorem dL_law_305 : decode cL_law 305 = .ok (.invokevirtual 23, 3) := by decide +kernel
theorem dL_law_308 : decode cL_law 308 = .ok (.if_icmp .eq 1608, 3) := by decide +kernel
theorem dL_law_311 : decode cL_law 311 = .ok (.iconst 0, 1) := by decide +kernel
theorem dL_law_312 : decode cL_law 312 = .ok (.ireturn, 1) := by decide +kernel
theorem dL_law_313 : decode cL_law 313 = .ok (.aload_n 1, 1) := by decide +kernel
theorem dL_law_314 : decode cL_law 314 = .ok (.aload_n 0, 1) := by decide +kernel
theorem dL_law_315 : decode cL_law 315 = .ok (.iload 4, 2) := by decide +kernel
theorem dL_law_317 : decode cL_law 317 = .ok (.iconst 1, 1) := by decide +kernel
theorem dL_law_318 : decode cL_law 318 = .ok (.iadd, 1) := by decide +kernel
theorem dL_law_319 : decode cL_law 319 = .ok (.iaload, 1) := by decide +kernel
theorem dL_law_320 : decode cL_law 320 = .ok (.invokevirtual 24, 3) := by decide +kernel
theorem dL_law_323 : decode cL_law 323 = .ok (.aload_n 2, 1) := by decide +kernel
theorem dL_law_324 : decode cL_law 324 = .ok (.aload_n 0, 1) := by decide +kernel
theorem dL_law_325 : decode cL_law 325 = .ok (.iload 4, 2) := by decide +kernel
theorem dL_law_327 : decode cL_law 327 = .ok (.iconst 1, 1) := by decide +kernel
theorem dL_law_328 : decode cL_law 328 = .ok (.iadd, 1) := by decide +kernel
theorem dL_law_329 : decode cL_law 329 = .ok (.iaload, 1) := by decide +kernel
theorem dL_law_330 : decode cL_law 330 = .ok (.invokevirtual 28, 3) := by decide +kernel
theorem dL_law_333 : decode cL_law 333 = .ok (.if_icmp .eq 1583, 3) := by decide +kernel
theorem dL_law_336 : decode cL_law 336 = .ok (.iconst 0, 1) := by decide +kernel
theorem dL_law_337 : decode cL_law 337 = .ok (.ireturn, 1) := by decide +kernel
theorem dL_law_338 : decode cL_law 338 = .ok (.aload_n 1, 1) := by decide +kernel
theorem dL_law_339 : decode cL_law 339 = .ok (.invokevirtual 29, 3) := by decide +kernel
theorem dL_law_342 : decode cL_law 342 = .ok (.aload_n 2, 1) := by decide +kernel
theorem dL_law_343 : decode cL_law 343 = .ok (.invokevirtual 33, 3) := by decide +kernel
theorem dL_law_346 : decode cL_law 346 = .ok (.if_icmp .eq 1570, 3) := by decide +kernel
theorem dL_law_349 : decode cL_law 349 = .ok (.iconst 0, 1) := by decide +kernel
theorem dL_law_350 : decode cL_law 350 = .ok (.ireturn, 1) := by decide +kernel
theorem dL_law_351 : decode cL_law 351 = .ok (.aload_n 1, 1) := by decide +kernel
theorem dL_law_352 : decode cL_law 352 = .ok (.invokevirtual 34, 3) := by decide +kernel
theorem dL_law_355 : decode cL_law 355 = .ok (.aload_n 2, 1) := by decide +kernel
theorem dL_law_356 : decode cL_law 356 = .ok (.invokevirtual 37, 3) := by decide +kernel
theorem dL_law_359 : decode cL_law 359 = .ok (.if_icmp .eq 1557, 3) := by decide +kernel
theorem dL_law_362 : decode cL_law 362 = .ok (.iconst 0, 1) := by decide +kernel
theorem dL_law_363 : decode cL_law 363 = .ok (.ireturn, 1) := by decide +kernel
theorem dL_law_364 : decode cL_law 364 = .ok (.aload_n 1, 1) := by decide +kernel
theorem dL_law_365 : decode cL_law 365 = .ok (.aload_n 0, 1) := by decide +kernel
theorem dL_law_366 : decode cL_law 366 = .ok (.iload 4, 2) := by decide +kernel
theorem dL_law_368 : decode cL_law 368 = .ok (.iconst 1, 1) := by decide +kernel
theorem dL_law_369 : decode cL_law 369 = .ok (.iadd, 1) := by decide +kernel
theorem dL_law_370 : decode cL_law 370 = .ok (.iaload, 1) := by decide +kernel
theorem dL_law_371 : decode cL_law 371 = .ok (.aload_n 0, 1) := by decide +kernel
theorem dL_law_372 : decode cL_law 372 = .ok (.iload 4, 2) := by decide +kernel
theorem dL_law_374 : decode cL_law 374 = .ok (.iconst 2, 1) := by decide +kernel
theorem dL_law_375 : decode cL_law 375 = .ok (.iadd, 1) := by decide +kernel
theorem dL_law_376 : decode cL_law 376 = .ok (.iaload, 1) := by decide +kernel
theorem dL_law_377 : decode cL_law 377 = .ok (.invokevirtual 38, 3) := by decide +kernel
theorem dL_law_380 : decode cL_law 380 = .ok (.aload_n 2, 1) := by decide +kernel
theorem dL_law_381 : decode cL_law 381 = .ok (.aload_n 0, 1) := by decide +kernel
theorem dL_law_382 : decode cL_law 382 = .ok (.iload 4, 2) := by decide +kernel
theorem dL_law_384 : decode cL_law 384 = .ok (.iconst 1, 1) := by decide +kernel
theorem dL_law_385 : decode cL_law 385 = .ok (.iadd, 1) := by decide +kernel
theorem dL_law_386 : decode cL_law 386 = .ok (.iaload, 1) := by decide +kernel
theorem dL_law_387 : decode cL_law 387 = .ok (.aload_n 0, 1) := by decide +kernel
theorem dL_law_388 : decode cL_law 388 = .ok (.iload 4, 2) := by decide +kernel
theorem dL_law_390 : decode cL_law 390 = .ok (.iconst 2, 1) := by decide +kernel
theorem dL_law_391 : decode cL_law 391 = .ok (.iadd, 1) := by decide +kernel
theorem dL_law_392 : decode cL_law 392 = .ok (.iaload, 1) := by decide +kernel
theorem dL_law_393 : decode cL_law 393 = .ok (.invokevirtual 41, 3) := by decide +kernel
theorem dL_law_396 : decode cL_law 396 = .ok (.if_icmp .eq 1520, 3) := by decide +kernel
theorem dL_law_399 : decode cL_law 399 = .ok (.iconst 0, 1) := by decide +kernel
theorem dL_law_400 : decode cL_law 400 = .ok (.ireturn, 1) := by decide +kernel
theorem dL_law_401 : decode cL_law 401 = .ok (.aload_n 1, 1) := by decide +kernel
theorem dL_law_402 : decode cL_law 402 = .ok (.aload_n 0, 1) := by decide +kernel
theorem dL_law_403 : decode cL_law 403 = .ok (.iload 4, 2) := by decide +kernel
theorem dL_law_405 : decode cL_law 405 = .ok (.iconst 1, 1) := by decide +kernel
theorem dL_law_406 : decode cL_law 406 = .ok (.iadd, 1) := by decide +kernel
theorem dL_law_407 : decode cL_law 407 = .ok (.iaload, 1) := by decide +kernel
theorem dL_law_408 : decode cL_law 408 = .ok (.aload_n 0, 1) := by decide +kernel
theorem dL_law_409 : decode cL_law 409 = .ok (.iload 4, 2) := by decide +kernel
theorem dL_law_411 : decode cL_law 411 = .ok (.iconst 2, 1) := by decide +kernel
theorem dL_law_412 : decode cL_law 412 = .ok (.iadd, 1) := by decide +kernel
theorem dL_law_413 : decode cL_law 413 = .ok (.iaload, 1) := by decide +kernel
theorem dL_law_414 : decode cL_law 414 = .ok (.invokevirtual 42, 3) := by decide +kernel
theorem dL_law_417 : decode cL_law 417 = .ok (.aload_n 2, 1) := by decide +kernel
theorem dL_law_418 : decode cL_law 418 = .ok (.aload_n 0, 1) := by decide +kernel
theorem dL_law_419 : decode cL_law 419 = .ok (.iload 4, 2) := by decide +kernel
theorem dL_law_421 : decode cL_law 421 = .ok (.iconst 1, 1) := by decide +kernel
theorem dL_law_422 : decode cL_law 422 = .ok (.iadd, 1) := by decide +kernel
theorem dL_law_423 : decode cL_law 423 = .ok (.iaload, 1) := by decide +kernel
theorem dL_law_424 : decode cL_law 424 = .ok (.aload_n 0, 1) := by decide +kernel
theorem dL_law_425 : decode cL_law 425 = .ok (.iload 4, 2) := by decide +kernel
theorem dL_law_427 : decode cL_law 427 = .ok (.iconst 2, 1) := by decide +kernel
theorem dL_law_428 : decode cL_law 428 = .ok (.iadd, 1) := by decide +kernel
theorem dL_law_429 : decode cL_law 429 = .ok (.iaload, 1) := by decide +kernel
theorem dL_law_430 : decode cL_law 430 = .ok (.invokevirtual 45, 3) := by decide +kernel
theorem dL_law_433 : decode cL_law 433 = .ok (.if_icmp .eq 1483, 3) := by decide +kernel
theorem dL_law_436 : decode cL_law 436 = .ok (.iconst 0, 1) := by decide +kernel
theorem dL_law_437 : decode cL_law 437 = .ok (.ireturn, 1) := by decide +kernel
theorem dL_law_438 : decode cL_law 438 = .ok (.aload_n 1, 1) := by decide +kernel
theorem dL_law_439 : decode cL_law 439 = .ok (.aload_n 0, 1) := by decide +kernel
theorem dL_law_440 : decode cL_law 440 = .ok (.iload 4, 2) := by decide +kernel
theorem dL_law_442 : decode cL_law 442 = .ok (.iconst 1, 1) := by decide +kernel
theorem dL_law_443 : decode cL_law 443 = .ok (.iadd, 1) := by decide +kernel
theorem dL_law_444 : decode cL_law 444 = .ok (.iaload, 1) := by decide +kernel
theorem dL_law_445 : decode cL_law 445 = .ok (.aload_n 0, 1) := by decide +kernel
theorem dL_law_446 : decode cL_law 446 = .ok (.iload 4, 2) := by decide +kernel
theorem dL_law_448 : decode cL_law 448 = .ok (.iconst 2, 1) := by decide +kernel
theorem dL_law_449 : decode cL_law 449 = .ok (.iadd, 1) := by decide +kernel
theorem dL_law_450 : decode cL_law 450 = .ok (.iaload, 1) := by decide +kernel
theorem dL_law_451 : decode cL_law 451 = .ok (.aload_n 0, 1) := by decide +kernel
theorem dL_law_452 : decode cL_law 452 = .ok (.iload 4, 2) := by decide +kernel
theorem dL_law_454 : decode cL_law 454 = .ok (.iconst 3, 1) := by decide +kernel
theorem dL_law_455 : decode cL_law 455 = .ok (.iadd, 1) := by decide +kernel
theorem dL_law_456 : decode cL_law 456 = .ok (.iaload, 1) := by decide +kernel
theorem dL_law_457 : decode cL_law 457 = .ok (.invokevirtual 46, 3) := by decide +kernel
theorem dL_law_460 : decode cL_law 460 = .ok (.aload_n 2, 1) := by decide +kernel
theorem dL_law_461 : decode cL_law 461 = .ok (.aload_n 0, 1) := by decide +kernel
theorem dL_law_462 : decode cL_law 462 = .ok (.iload 4, 2) := by decide +kernel
theorem dL_law_464 : decode cL_law 464 = .ok (.iconst 1, 1) := by decide +kernel
theorem dL_law_465 : decode cL_law 465 = .ok (.iadd, 1) := by decide +kernel
theorem dL_law_466 : decode cL_law 466 = .ok (.iaload, 1) := by decide +kernel
theorem dL_law_467 : decode cL_law 467 = .ok (.aload_n 0, 1) := by decide +kernel
theorem dL_law_468 : decode cL_law 468 = .ok (.iload 4, 2) := by decide +kernel
theorem dL_law_470 : decode cL_law 470 = .ok (.iconst 2, 1) := by decide +kernel
theorem dL_law_471 : decode cL_law 471 = .ok (.iadd, 1) := by decide +kernel
theorem dL_law_472 : decode cL_law 472 = .ok (.iaload, 1) := by decide +kernel
theorem dL_law_473 : decode cL_law 473 = .ok (.aload_n 0, 1) := by decide +kernel
theorem dL_law_474 : decode cL_law 474 = .ok (.iload 4, 2) := by decide +kernel
theorem dL_law_476 : decode cL_law 476 = .ok (.iconst 3, 1) := by decide +kernel
theorem dL_law_477 : decode cL_law 477 = .ok (.iadd, 1) := by decide +kernel
theorem dL_law_478 : decode cL_law 478 = .ok (.iaload, 1) := by decide +kernel
theorem dL_law_479 : decode cL_law 479 = .ok (.invokevirtual 50, 3) := by decide +kernel
theorem dL_law_482 : decode cL_law 482 = .ok (.if_icmp .eq 1434, 3) := by decide +kernel
theorem dL_law_485 : decode cL_law 485 = .ok (.iconst 0, 1) := by decide +kernel
theorem dL_law_486 : decode cL_law 486 = .ok (.ireturn, 1) := by decide +kernel
theorem dL_law_487 : decode cL_law 487 = .ok (.aload_n 1, 1) := by decide +kernel
theorem dL_law_488 : decode cL_law 488 = .ok (.aload_n 0, 1) := by decide +kernel
theorem dL_law_489 : decode cL_law 489 = .ok (.iload 4, 2) := by decide +kernel
theorem dL_law_491 : decode cL_law 491 = .ok (.iconst 1, 1) := by decide +kernel
theorem dL_law_492 : decode cL_law 492 = .ok (.iadd, 1) := by decide +kernel
theorem dL_law_493 : decode cL_law 493 = .ok (.iaload, 1) := by decide +kernel
theorem dL_law_494 : decode cL_law 494 = .ok (.aload_n 0, 1) := by decide +kernel
theorem dL_law_495 : decode cL_law 495 = .ok (.iload 4, 2) := by decide +kernel
theorem dL_law_497 : decode cL_law 497 = .ok (.iconst 2, 1) := by decide +kernel
theorem dL_law_498 : decode cL_law 498 = .ok (.iadd, 1) := by decide +kernel
theorem dL_law_499 : decode cL_law 499 = .ok (.iaload, 1) := by decide +kernel
theorem dL_law_500 : decode cL_law 500 = .ok (.aload_n 0, 1) := by decide +kernel
theorem dL_law_501 : decode cL_law 501 = .ok (.iload 4, 2) := by decide +kernel
theorem dL_law_503 : decode cL_law 503 = .ok (.iconst 3, 1) := by decide +kernel
theorem dL_law_504 : decode cL_law 504 = .ok (.iadd, 1) := by decide +kernel
theorem dL_law_505 : decode cL_law 505 = .ok (.iaload, 1) := by decide +kernel
theorem dL_law_506 : decode cL_law 506 = .ok (.aload_n 0, 1) := by decide +kernel
theorem dL_law_507 : decode cL_law 507 = .ok (.iload 4, 2) := by decide +kernel
theorem dL_law_509 : decode cL_law 509 = .ok (.iconst 4, 1) := by decide +kernel
theorem dL_law_510 : decode cL_law 510 = .ok (.iadd, 1) := by decide +kernel
theorem dL_law_511 : decode cL_law 511 = .ok (.iaload, 1) := by decide +kernel
theorem dL_law_512 : decode cL_law 512 = .ok (.invokevirtual 51, 3) := by decide +kernel
theorem dL_law_515 : decode cL_law 515 = .ok (.aload_n 2, 1) := by decide +kernel
theorem dL_law_516 : decode cL_law 516 = .ok (.aload_n 0, 1) := by decide +kernel
theorem dL_law_517 : decode cL_law 517 = .ok (.iload 4, 2) := by decide +kernel
theorem dL_law_519 : decode cL_law 519 = .ok (.iconst 1, 1) := by decide +kernel
theorem dL_law_520 : decode cL_law 520 = .ok (.iadd, 1) := by decide +kernel
theorem dL_law_521 : decode cL_law 521 = .ok (.iaload, 1) := by decide +kernel
theorem dL_law_522 : decode cL_law 522 = .ok (.aload_n 0, 1) := by decide +kernel
theorem dL_law_523 : decode cL_law 523 = .ok (.iload 4, 2) := by decide +kernel
theorem dL_law_525 : decode cL_law 525 = .ok (.iconst 2, 1) := by decide +kernel
theorem dL_law_526 : decode cL_law 526 = .ok (.iadd, 1) := by decide +kernel
theorem dL_law_527 : decode cL_law 527 = .ok (.iaload, 1) := by decide +kernel
theorem dL_law_528 : decode cL_law 528 = .ok (.aload_n 0, 1) := by decide +kernel
theorem dL_law_529 : decode cL_law 529 = .ok (.iload 4, 2) := by decide +kernel
theorem dL_law_531 : decode cL_law 531 = .ok (.iconst 3, 1) := by decide +kernel
theorem dL_law_532 : decode cL_law 532 = .ok (.iadd, 1) := by decide +kernel
theorem dL_law_533 : decode cL_law 533 = .ok (.iaload, 1) := by decide +kernel
theorem dL_law_534 : decode cL_law 534 = .ok (.aload_n 0, 1) := by decide +kernel
theorem dL_law_535 : decode cL_law 535 = .ok (.iload 4, 2) := by decide +kernel
theorem dL_law_537 : decode cL_law 537 = .ok (.iconst 4, 1) := by decide +kernel
theorem dL_law_538 : decode cL_law 538 = .ok (.iadd, 1) := by decide +kernel
theorem dL_law_539 : decode cL_law 539 = .ok (.iaload, 1) := by decide +kernel
theorem dL_law_540 : decode cL_law 540 = .ok (.invokevirtual 55, 3) := by decide +kernel
theorem dL_law_543 : decode cL_law 543 = .ok (.if_icmp .eq 1373, 3) := by decide +kernel
theorem dL_law_546 : decode cL_law 546 = .ok (.iconst 0, 1) := by decide +kernel
theorem dL_law_547 : decode cL_law 547 = .ok (.ireturn, 1) := by decide +kernel
theorem dL_law_548 : decode cL_law 548 = .ok (.aload_n 1, 1) := by decide +kernel
theorem dL_law_549 : decode cL_law 549 = .ok (.aload_n 0, 1) := by decide +kernel
theorem dL_law_550 : decode cL_law 550 = .ok (.iload 4, 2) := by decide +kernel
theorem dL_law_552 : decode cL_law 552 = .ok (.iconst 1, 1) := by decide +kernel
theorem dL_law_553 : decode cL_law 553 = .ok (.iadd, 1) := by decide +kernel
theorem dL_law_554 : decode cL_law 554 = .ok (.iaload, 1) := by decide +kernel
theorem dL_law_555 : decode cL_law 555 = .ok (.aload_n 0, 1) := by decide +kernel
theorem dL_law_556 : decode cL_law 556 = .ok (.iload 4, 2) := by decide +kernel
theorem dL_law_558 : decode cL_law 558 = .ok (.iconst 2, 1) := by decide +kernel
theorem dL_law_559 : decode cL_law 559 = .ok (.iadd, 1) := by decide +kernel
theorem dL_law_560 : decode cL_law 560 = .ok (.iaload, 1) := by decide +kernel
theorem dL_law_561 : decode cL_law 561 = .ok (.aload_n 0, 1) := by decide +kernel
theorem dL_law_562 : decode cL_law 562 = .ok (.iload 4, 2) := by decide +kernel
theorem dL_law_564 : decode cL_law 564 = .ok (.iconst 3, 1) := by decide +kernel
theorem dL_law_565 : decode cL_law 565 = .ok (.iadd, 1) := by decide +kernel
theorem dL_law_566 : decode cL_law 566 = .ok (.iaload, 1) := by decide +kernel
theorem dL_law_567 : decode cL_law 567 = .ok (.invokevirtual 56, 3) := by decide +kernel
theorem dL_law_570 : decode cL_law 570 = .ok (.aload_n 2, 1) := by decide +kernel
theorem dL_law_571 : decode cL_law 571 = .ok (.aload_n 0, 1) := by decide +kernel
theorem dL_law_572 : decode cL_law 572 = .ok (.iload 4, 2) := by decide +kernel
theorem dL_law_574 : decode cL_law 574 = .ok (.iconst 1, 1) := by decide +kernel
theorem dL_law_575 : decode cL_law 575 = .ok (.iadd, 1) := by decide +kernel
theorem dL_law_576 : decode cL_law 576 = .ok (.iaload, 1) := by decide +kernel
theorem dL_law_577 : decode cL_law 577 = .ok (.aload_n 0, 1) := by decide +kernel
theorem dL_law_578 : decode cL_law 578 = .ok (.iload 4, 2) := by decide +kernel
theorem dL_law_580 : decode cL_law 580 = .ok (.iconst 2, 1) := by decide +kernel
theorem dL_law_581 : decode cL_law 581 = .ok (.iadd, 1) := by decide +kernel
theorem dL_law_582 : decode cL_law 582 = .ok (.iaload, 1) := by decide +kernel
theorem dL_law_583 : decode cL_law 583 = .ok (.aload_n 0, 1) := by decide +kernel
theorem dL_law_584 : decode cL_law 584 = .ok (.iload 4, 2) := by decide +kernel
theorem dL_law_586 : decode cL_law 586 = .ok (.iconst 3, 1) := by decide +kernel
theorem dL_law_587 : decode cL_law 587 = .ok (.iadd, 1) := by decide +kernel
theorem dL_law_588 : decode cL_law 588 = .ok (.iaload, 1) := by decide +kernel
theorem dL_law_589 : decode cL_law 589 = .ok (.invokevirtual 59, 3) := by decide +kernel
theorem dL_law_592 : decode cL_law 592 = .ok (.if_icmp .eq 1324, 3) := by decide +kernel
theorem dL_law_595 : decode cL_law 595 = .ok (.iconst 0, 1) := by decide +kernel
theorem dL_law_596 : decode cL_law 596 = .ok (.ireturn, 1) := by decide +kernel
theorem dL_law_597 : decode cL_law 597 = .ok (.aload_n 1, 1) := by decide +kernel
theorem dL_law_598 : decode cL_law 598 = .ok (.aload_n 0, 1) := by decide +kernel
theorem dL_law_599 : decode cL_law 599 = .ok (.iload 4, 2) := by decide +kernel
theorem dL_law_601 : decode cL_law 601 = .ok (.iconst 1, 1) := by decide +kernel
theorem dL_law_602 : decode cL_law 602 = .ok (.iadd, 1) := by decide +kernel
theorem dL_law_603 : decode cL_law 603 = .ok (.iaload, 1) := by decide +kernel
theorem dL_law_604 : decode cL_law 604 = .ok (.aload_n 0, 1) := by decide +kernel
theorem dL_law_605 : decode cL_law 605 = .ok (.iload 4, 2) := by decide +kernel
theorem dL_law_607 : decode cL_law 607 = .ok (.iconst 2, 1) := by decide +kernel
theorem dL_law_608 : decode cL_law 608 = .ok (.iadd, 1) := by decide +kernel
theorem dL_law_609 : decode cL_law 609 = .ok (.iaload, 1) := by decide +kernel
theorem dL_law_610 : decode cL_law 610 = .ok (.aload_n 0, 1) := by decide +kernel
theorem dL_law_611 : decode cL_law 611 = .ok (.iload 4, 2) := by decide +kernel
theorem dL_law_613 : decode cL_law 613 = .ok (.iconst 3, 1) := by decide +kernel
theorem dL_law_614 : decode cL_law 614 = .ok (.iadd, 1) := by decide +kernel
theorem dL_law_615 : decode cL_law 615 = .ok (.iaload, 1) := by decide +kernel
theorem dL_law_616 : decode cL_law 616 = .ok (.aload_n 0, 1) := by decide +kernel
theorem dL_law_617 : decode cL_law 617 = .ok (.iload 4, 2) := by decide +kernel
theorem dL_law_619 : decode cL_law 619 = .ok (.iconst 4, 1) := by decide +kernel
theorem dL_law_620 : decode cL_law 620 = .ok (.iadd, 1) := by decide +kernel
theorem dL_law_621 : decode cL_law 621 = .ok (.iaload, 1) := by decide +kernel
theorem dL_law_622 : decode cL_law 622 = .ok (.invokevirtual 60, 3) := by decide +kernel
theorem dL_law_625 : decode cL_law 625 = .ok (.aload_n 2, 1) := by decide +kernel
theorem dL_law_626 : decode cL_law 626 = .ok (.aload_n 0, 1) := by decide +kernel
theorem dL_law_627 : decode cL_law 627 = .ok (.iload 4, 2) := by decide +kernel
theorem dL_law_629 : decode cL_law 629 = .ok (.iconst 1, 1) := by decide +kernel
theorem dL_law_630 : decode cL_law 630 = .ok (.iadd, 1) := by decide +kernel
theorem dL_law_631 : decode cL_law 631 = .ok (.iaload, 1) := by decide +kernel
theorem dL_law_632 : decode cL_law 632 = .ok (.aload_n 0, 1) := by decide +kernel
theorem dL_law_633 : decode cL_law 633 = .ok (.iload 4, 2) := by decide +kernel
theorem dL_law_635 : decode cL_law 635 = .ok (.iconst 2, 1) := by decide +kernel
theorem dL_law_636 : decode cL_law 636 = .ok (.iadd, 1) := by decide +kernel
theorem dL_law_637 : decode cL_law 637 = .ok (.iaload, 1) := by decide +kernel
theorem dL_law_638 : decode cL_law 638 = .ok (.aload_n 0, 1) := by decide +kernel
theorem dL_law_639 : decode cL_law 639 = .ok (.iload 4, 2) := by decide +kernel
theorem dL_law_641 : decode cL_law 641 = .ok (.iconst 3, 1) := by decide +kernel
theorem dL_law_642 : decode cL_law 642 = .ok (.iadd, 1) := by decide +kernel
theorem dL_law_643 : decode cL_law 643 = .ok (.iaload, 1) := by decide +kernel
theorem dL_law_644 : decode cL_law 644 = .ok (.aload_n 0, 1) := by decide +kernel
theorem dL_law_645 : decode cL_law 645 = .ok (.iload 4, 2) := by decide +kernel
theorem dL_law_647 : decode cL_law 647 = .ok (.iconst 4, 1) := by decide +kernel
theorem dL_law_648 : decode cL_law 648 = .ok (.iadd, 1) := by decide +kernel
theorem dL_law_649 : decode cL_law 649 = .ok (.iaload, 1) := by decide +kernel
theorem dL_law_650 : decode cL_law 650 = .ok (.invokevirtual 63, 3) := by decide +kernel
theorem dL_law_653 : decode cL_law 653 = .ok (.if_icmp .eq 1263, 3) := by decide +kernel
theorem dL_law_656 : decode cL_law 656 = .ok (.iconst 0, 1) := by decide +kernel
theorem dL_law_657 : decode cL_law 657 = .ok (.ireturn, 1) := by decide +kernel
theorem dL_law_658 : decode cL_law 658 = .ok (.aload_n 1, 1) := by decide +kernel
theorem dL_law_659 : decode cL_law 659 = .ok (.aload_n 0, 1) := by decide +kernel
theorem dL_law_660 : decode cL_law 660 = .ok (.iload 4, 2) := by decide +kernel
theorem dL_law_662 : decode cL_law 662 = .ok (.iconst 1, 1) := by decide +kernel
theorem dL_law_663 : decode cL_law 663 = .ok (.iadd, 1) := by decide +kernel
theorem dL_law_664 : decode cL_law 664 = .ok (.iaload, 1) := by decide +kernel
theorem dL_law_665 : decode cL_law 665 = .ok (.aload_n 0, 1) := by decide +kernel
theorem dL_law_666 : decode cL_law 666 = .ok (.iload 4, 2) := by decide +kernel
theorem dL_law_668 : decode cL_law 668 = .ok (.iconst 2, 1) := by decide +kernel
theorem dL_law_669 : decode cL_law 669 = .ok (.iadd, 1) := by decide +kernel
theorem dL_law_670 : decode cL_law 670 = .ok (.iaload, 1) := by decide +kernel
theorem dL_law_671 : decode cL_law 671 = .ok (.aload_n 0, 1) := by decide +kernel
theorem dL_law_672 : decode cL_law 672 = .ok (.iload 4, 2) := by decide +kernel
theorem dL_law_674 : decode cL_law 674 = .ok (.iconst 3, 1) := by decide +kernel
theorem dL_law_675 : decode cL_law 675 = .ok (.iadd, 1) := by decide +kernel
theorem dL_law_676 : decode cL_law 676 = .ok (.iaload, 1) := by decide +kernel
theorem dL_law_677 : decode cL_law 677 = .ok (.aload_n 0, 1) := by decide +kernel
theorem dL_law_678 : decode cL_law 678 = .ok (.iload 4, 2) := by decide +kernel
theorem dL_law_680 : decode cL_law 680 = .ok (.iconst 4, 1) := by decide +kernel
theorem dL_law_681 : decode cL_law 681 = .ok (.iadd, 1) := by decide +kernel
theorem dL_law_682 : decode cL_law 682 = .ok (.iaload, 1) := by decide +kernel
theorem dL_law_683 : decode cL_law 683 = .ok (.invokevirtual 64, 3) := by decide +kernel
theorem dL_law_686 : decode cL_law 686 = .ok (.aload_n 2, 1) := by decide +kernel
theorem dL_law_687 : decode cL_law 687 = .ok (.aload_n 0, 1) := by decide +kernel
theorem dL_law_688 : decode cL_law 688 = .ok (.iload 4, 2) := by decide +kernel
theorem dL_law_690 : decode cL_law 690 = .ok (.iconst 1, 1) := by decide +kernel
theorem dL_law_691 : decode cL_law 691 = .ok (.iadd, 1) := by decide +kernel
theorem dL_law_692 : decode cL_law 692 = .ok (.iaload, 1) := by decide +kernel
theorem dL_law_693 : decode cL_law 693 = .ok (.aload_n 0, 1) := by decide +kernel
theorem dL_law_694 : decode cL_law 694 = .ok (.iload 4, 2) := by decide +kernel
theorem dL_law_696 : decode cL_law 696 = .ok (.iconst 2, 1) := by decide +kernel
theorem dL_law_697 : decode cL_law 697 = .ok (.iadd, 1) := by decide +kernel
theorem dL_law_698 : decode cL_law 698 = .ok (.iaload, 1) := by decide +kernel
theorem dL_law_699 : decode cL_law 699 = .ok (.aload_n 0, 1) := by decide +kernel
theorem dL_law_700 : decode cL_law 700 = .ok (.iload 4, 2) := by decide +kernel
theorem dL_law_702 : decode cL_law 702 = .ok (.iconst 3, 1) := by decide +kernel
theorem dL_law_703 : decode cL_law 703 = .ok (.iadd, 1) := by decide +kernel
theorem dL_law_704 : decode cL_law 704 = .ok (.iaload, 1) := by decide +kernel
theorem dL_law_705 : decode cL_law 705 = .ok (.aload_n 0, 1) := by decide +kernel
theorem dL_law_706 : decode cL_law 706 = .ok (.iload 4, 2) := by decide +kernel
theorem dL_law_708 : decode cL_law 708 = .ok (.iconst 4, 1) := by decide +kernel
theorem dL_law_709 : decode cL_law 709 = .ok (.iadd, 1) := by decide +kernel
theorem dL_law_710 : decode cL_law 710 = .ok (.iaload, 1) := by decide +kernel
theorem dL_law_711 : decode cL_law 711 = .ok (.invokevirtual 67, 3) := by decide +kernel
theorem dL_law_714 : decode cL_law 714 = .ok (.if_icmp .eq 1202, 3) := by decide +kernel
theorem dL_law_717 : decode cL_law 717 = .ok (.iconst 0, 1) := by decide +kernel
theorem dL_law_718 : decode cL_law 718 = .ok (.ireturn, 1) := by decide +kernel
theorem dL_law_719 : decode cL_law 719 = .ok (.aload_n 1, 1) := by decide +kernel
theorem dL_law_720 : decode cL_law 720 = .ok (.aload_n 0, 1) := by decide +kernel
theorem dL_law_721 : decode cL_law 721 = .ok (.iload 4, 2) := by decide +kernel
theorem dL_law_723 : decode cL_law 723 = .ok (.iconst 1, 1) := by decide +kernel
theorem dL_law_724 : decode cL_law 724 = .ok (.iadd, 1) := by decide +kernel
theorem dL_law_725 : decode cL_law 725 = .ok (.iaload, 1) := by decide +kernel
theorem dL_law_726 : decode cL_law 726 = .ok (.aload_n 0, 1) := by decide +kernel
theorem dL_law_727 : decode cL_law 727 = .ok (.iload 4, 2) := by decide +kernel
theorem dL_law_729 : decode cL_law 729 = .ok (.iconst 2, 1) := by decide +kernel
theorem dL_law_730 : decode cL_law 730 = .ok (.iadd, 1) := by decide +kernel
theorem dL_law_731 : decode cL_law 731 = .ok (.iaload, 1) := by decide +kernel
theorem dL_law_732 : decode cL_law 732 = .ok (.aload_n 0, 1) := by decide +kernel
theorem dL_law_733 : decode cL_law 733 = .ok (.iload 4, 2) := by decide +kernel
theorem dL_law_735 : decode cL_law 735 = .ok (.iconst 3, 1) := by decide +kernel
theorem dL_law_736 : decode cL_law 736 = .ok (.iadd, 1) := by decide +kernel
theorem dL_law_737 : decode cL_law 737 = .ok (.iaload, 1) := by decide +kernel
theorem dL_law_738 : decode cL_law 738 = .ok (.aload_n 0, 1) := by decide +kernel
theorem dL_law_739 : decode cL_law 739 = .ok (.iload 4, 2) := by decide +kernel
theorem dL_law_741 : decode cL_law 741 = .ok (.iconst 4, 1) := by decide +kernel
theorem dL_law_742 : decode cL_law 742 = .ok (.iadd, 1) := by decide +kernel
theorem dL_law_743 : decode cL_law 743 = .ok (.iaload, 1) := by decide +kernel
theorem dL_law_744 : decode cL_law 744 = .ok (.invokevirtual 68, 3) := by decide +kernel
theorem dL_law_747 : decode cL_law 747 = .ok (.aload_n 2, 1) := by decide +kernel
theorem dL_law_748 : decode cL_law 748 = .ok (.aload_n 0, 1) := by decide +kernel
theorem dL_law_749 : decode cL_law 749 = .ok (.iload 4, 2) := by decide +kernel
theorem dL_law_751 : decode cL_law 751 = .ok (.iconst 1, 1) := by decide +kernel
theorem dL_law_752 : decode cL_law 752 = .ok (.iadd, 1) := by decide +kernel
theorem dL_law_753 : decode cL_law 753 = .ok (.iaload, 1) := by decide +kernel
theorem dL_law_754 : decode cL_law 754 = .ok (.aload_n 0, 1) := by decide +kernel
theorem dL_law_755 : decode cL_law 755 = .ok (.iload 4, 2) := by decide +kernel
theorem dL_law_757 : decode cL_law 757 = .ok (.iconst 2, 1) := by decide +kernel
theorem dL_law_758 : decode cL_law 758 = .ok (.iadd, 1) := by decide +kernel
theorem dL_law_759 : decode cL_law 759 = .ok (.iaload, 1) := by decide +kernel
theorem dL_law_760 : decode cL_law 760 = .ok (.aload_n 0, 1) := by decide +kernel
theorem dL_law_761 : decode cL_law 761 = .ok (.iload 4, 2) := by decide +kernel
theorem dL_law_763 : decode cL_law 763 = .ok (.iconst 3, 1) := by decide +kernel
theorem dL_law_764 : decode cL_law 764 = .ok (.iadd, 1) := by decide +kernel
theorem dL_law_765 : decode cL_law 765 = .ok (.iaload, 1) := by decide +kernel
theorem dL_law_766 : decode cL_law 766 = .ok (.aload_n 0, 1) := by decide +kernel
theorem dL_law_767 : decode cL_law 767 = .ok (.iload 4, 2) := by decide +kernel
theorem dL_law_769 : decode cL_law 769 = .ok (.iconst 4, 1) := by decide +kernel
theorem dL_law_770 : decode cL_law 770 = .ok (.iadd, 1) := by decide +kernel
theorem dL_law_771 : decode cL_law 771 = .ok (.iaload, 1) := by decide +kernel
theorem dL_law_772 : decode cL_law 772 = .ok (.invokevirtual 71, 3) := by decide +kernel
theorem dL_law_775 : decode cL_law 775 = .ok (.if_icmp .eq 1141, 3) := by decide +kernel
theorem dL_law_778 : decode cL_law 778 = .ok (.iconst 0, 1) := by decide +kernel
theorem dL_law_779 : decode cL_law 779 = .ok (.ireturn, 1) := by decide +kernel
theorem dL_law_780 : decode cL_law 780 = .ok (.aload_n 1, 1) := by decide +kernel
theorem dL_law_781 : decode cL_law 781 = .ok (.aload_n 0, 1) := by decide +kernel
theorem dL_law_782 : decode cL_law 782 = .ok (.iload 4, 2) := by decide +kernel
theorem dL_law_784 : decode cL_law 784 = .ok (.iconst 1, 1) := by decide +kernel
theorem dL_law_785 : decode cL_law 785 = .ok (.iadd, 1) := by decide +kernel
theorem dL_law_786 : decode cL_law 786 = .ok (.iaload, 1) := by decide +kernel
theorem dL_law_787 : decode cL_law 787 = .ok (.aload_n 0, 1) := by decide +kernel
theorem dL_law_788 : decode cL_law 788 = .ok (.iload 4, 2) := by decide +kernel
theorem dL_law_790 : decode cL_law 790 = .ok (.iconst 2, 1) := by decide +kernel
theorem dL_law_791 : decode cL_law 791 = .ok (.iadd, 1) := by decide +kernel
theorem dL_law_792 : decode cL_law 792 = .ok (.iaload, 1) := by decide +kernel
theorem dL_law_793 : decode cL_law 793 = .ok (.aload_n 0, 1) := by decide +kernel
theorem dL_law_794 : decode cL_law 794 = .ok (.iload 4, 2) := by decide +kernel
theorem dL_law_796 : decode cL_law 796 = .ok (.iconst 3, 1) := by decide +kernel
theorem dL_law_797 : decode cL_law 797 = .ok (.iadd, 1) := by decide +kernel
theorem dL_law_798 : decode cL_law 798 = .ok (.iaload, 1) := by decide +kernel
theorem dL_law_799 : decode cL_law 799 = .ok (.invokevirtual 72, 3) := by decide +kernel
theorem dL_law_802 : decode cL_law 802 = .ok (.aload_n 2, 1) := by decide +kernel
theorem dL_law_803 : decode cL_law 803 = .ok (.aload_n 0, 1) := by decide +kernel
theorem dL_law_804 : decode cL_law 804 = .ok (.iload 4, 2) := by decide +kernel
theorem dL_law_806 : decode cL_law 806 = .ok (.iconst 1, 1) := by decide +kernel
theorem dL_law_807 : decode cL_law 807 = .ok (.iadd, 1) := by decide +kernel
theorem dL_law_808 : decode cL_law 808 = .ok (.iaload, 1) := by decide +kernel
theorem dL_law_809 : decode cL_law 809 = .ok (.aload_n 0, 1) := by decide +kernel
theorem dL_law_810 : decode cL_law 810 = .ok (.iload 4, 2) := by decide +kernel
theorem dL_law_812 : decode cL_law 812 = .ok (.iconst 2, 1) := by decide +kernel
theorem dL_law_813 : decode cL_law 813 = .ok (.iadd, 1) := by decide +kernel
theorem dL_law_814 : decode cL_law 814 = .ok (.iaload, 1) := by decide +kernel
theorem dL_law_815 : decode cL_law 815 = .ok (.aload_n 0, 1) := by decide +kernel
theorem dL_law_816 : decode cL_law 816 = .ok (.iload 4, 2) := by decide +kernel
theorem dL_law_818 : decode cL_law 818 = .ok (.iconst 3, 1) := by decide +kernel
theorem dL_law_819 : decode cL_law 819 = .ok (.iadd, 1) := by decide +kernel
theorem dL_law_820 : decode cL_law 820 = .ok (.iaload, 1) := by decide +kernel
theorem dL_law_821 : decode cL_law 821 = .ok (.invokevirtual 75, 3) := by decide +kernel
theorem dL_law_824 : decode cL_law 824 = .ok (.if_icmp .eq 1092, 3) := by decide +kernel
theorem dL_law_827 : decode cL_law 827 = .ok (.iconst 0, 1) := by decide +kernel
theorem dL_law_828 : decode cL_law 828 = .ok (.ireturn, 1) := by decide +kernel
theorem dL_law_829 : decode cL_law 829 = .ok (.aload_n 1, 1) := by decide +kernel
theorem dL_law_830 : decode cL_law 830 = .ok (.aload_n 0, 1) := by decide +kernel
theorem dL_law_831 : decode cL_law 831 = .ok (.iload 4, 2) := by decide +kernel
theorem dL_law_833 : decode cL_law 833 = .ok (.iconst 1, 1) := by decide +kernel
theorem dL_law_834 : decode cL_law 834 = .ok (.iadd, 1) := by decide +kernel
theorem dL_law_835 : decode cL_law 835 = .ok (.iaload, 1) := by decide +kernel
theorem dL_law_836 : decode cL_law 836 = .ok (.aload_n 0, 1) := by decide +kernel
theorem dL_law_837 : decode cL_law 837 = .ok (.iload 4, 2) := by decide +kernel
theorem dL_law_839 : decode cL_law 839 = .ok (.iconst 2, 1) := by decide +kernel
theorem dL_law_840 : decode cL_law 840 = .ok (.iadd, 1) := by decide +kernel
theorem dL_law_841 : decode cL_law 841 = .ok (.iaload, 1) := by decide +kernel
theorem dL_law_842 : decode cL_law 842 = .ok (.invokevirtual 76, 3) := by decide +kernel
theorem dL_law_845 : decode cL_law 845 = .ok (.aload_n 2, 1) := by decide +kernel
theorem dL_law_846 : decode cL_law 846 = .ok (.aload_n 0, 1) := by decide +kernel
theorem dL_law_847 : decode cL_law 847 = .ok (.iload 4, 2) := by decide +kernel
theorem dL_law_849 : decode cL_law 849 = .ok (.iconst 1, 1) := by decide +kernel
theorem dL_law_850 : decode cL_law 850 = .ok (.iadd, 1) := by decide +kernel
theorem dL_law_851 : decode cL_law 851 = .ok (.iaload, 1) := by decide +kernel
theorem dL_law_852 : decode cL_law 852 = .ok (.aload_n 0, 1) := by decide +kernel
theorem dL_law_853 : decode cL_law 853 = .ok (.iload 4, 2) := by decide +kernel
theorem dL_law_855 : decode cL_law 855 = .ok (.iconst 2, 1) := by decide +kernel
theorem dL_law_856 : decode cL_law 856 = .ok (.iadd, 1) := by decide +kernel
theorem dL_law_857 : decode cL_law 857 = .ok (.iaload, 1) := by decide +kernel
theorem dL_law_858 : decode cL_law 858 = .ok (.invokevirtual 79, 3) := by decide +kernel
theorem dL_law_861 : decode cL_law 861 = .ok (.if_icmp .eq 1055, 3) := by decide +kernel
theorem dL_law_864 : decode cL_law 864 = .ok (.iconst 0, 1) := by decide +kernel
theorem dL_law_865 : decode cL_law 865 = .ok (.ireturn, 1) := by decide +kernel
theorem dL_law_866 : decode cL_law 866 = .ok (.aload_n 1, 1) := by decide +kernel
theorem dL_law_867 : decode cL_law 867 = .ok (.aload_n 0, 1) := by decide +kernel
theorem dL_law_868 : decode cL_law 868 = .ok (.iload 4, 2) := by decide +kernel
theorem dL_law_870 : decode cL_law 870 = .ok (.iconst 1, 1) := by decide +kernel
theorem dL_law_871 : decode cL_law 871 = .ok (.iadd, 1) := by decide +kernel
theorem dL_law_872 : decode cL_law 872 = .ok (.iaload, 1) := by decide +kernel
theorem dL_law_873 : decode cL_law 873 = .ok (.invokevirtual 80, 3) := by decide +kernel
theorem dL_law_876 : decode cL_law 876 = .ok (.aload_n 2, 1) := by decide +kernel
theorem dL_law_877 : decode cL_law 877 = .ok (.aload_n 0, 1) := by decide +kernel
theorem dL_law_878 : decode cL_law 878 = .ok (.iload 4, 2) := by decide +kernel
theorem dL_law_880 : decode cL_law 880 = .ok (.iconst 1, 1) := by decide +kernel
theorem dL_law_881 : decode cL_law 881 = .ok (.iadd, 1) := by decide +kernel
theorem dL_law_882 : decode cL_law 882 = .ok (.iaload, 1) := by decide +kernel
theorem dL_law_883 : decode cL_law 883 = .ok (.invokevirtual 83, 3) := by decide +kernel
theorem dL_law_886 : decode cL_law 886 = .ok (.if_icmp .eq 1030, 3) := by decide +kernel
theorem dL_law_889 : decode cL_law 889 = .ok (.iconst 0, 1) := by decide +kernel
theorem dL_law_890 : decode cL_law 890 = .ok (.ireturn, 1) := by decide +kernel
theorem dL_law_891 : decode cL_law 891 = .ok (.aload_n 1, 1) := by decide +kernel
theorem dL_law_892 : decode cL_law 892 = .ok (.aload_n 0, 1) := by decide +kernel
theorem dL_law_893 : decode cL_law 893 = .ok (.iload 4, 2) := by decide +kernel
theorem dL_law_895 : decode cL_law 895 = .ok (.iconst 1, 1) := by decide +kernel
theorem dL_law_896 : decode cL_law 896 = .ok (.iadd, 1) := by decide +kernel
theorem dL_law_897 : decode cL_law 897 = .ok (.iaload, 1) := by decide +kernel
theorem dL_law_898 : decode cL_law 898 = .ok (.aload_n 0, 1) := by decide +kernel
theorem dL_law_899 : decode cL_law 899 = .ok (.iload 4, 2) := by decide +kernel
theorem dL_law_901 : decode cL_law 901 = .ok (.iconst 2, 1) := by decide +kernel
theorem dL_law_902 : decode cL_law 902 = .ok (.iadd, 1) := by decide +kernel
theorem dL_law_903 : decode cL_law 903 = .ok (.iaload, 1) := by decide +kernel
theorem dL_law_904 : decode cL_law 904 = .ok (.invokevirtual 84, 3) := by decide +kernel
theorem dL_law_907 : decode cL_law 907 = .ok (.aload_n 2, 1) := by decide +kernel
theorem dL_law_908 : decode cL_law 908 = .ok (.aload_n 0, 1) := by decide +kernel
theorem dL_law_909 : decode cL_law 909 = .ok (.iload 4, 2) := by decide +kernel
theorem dL_law_911 : decode cL_law 911 = .ok (.iconst 1, 1) := by decide +kernel
theorem dL_law_912 : decode cL_law 912 = .ok (.iadd, 1) := by decide +kernel
theorem dL_law_913 : decode cL_law 913 = .ok (.iaload, 1) := by decide +kernel
theorem dL_law_914 : decode cL_law 914 = .ok (.aload_n 0, 1) := by decide +kernel
theorem dL_law_915 : decode cL_law 915 = .ok (.iload 4, 2) := by decide +kernel
theorem dL_law_917 : decode cL_law 917 = .ok (.iconst 2, 1) := by decide +kernel
theorem dL_law_918 : decode cL_law 918 = .ok (.iadd, 1) := by decide +kernel
theorem dL_law_919 : decode cL_law 919 = .ok (.iaload, 1) := by decide +kernel
theorem dL_law_920 : decode cL_law 920 = .ok (.invokevirtual 87, 3) := by decide +kernel
theorem dL_law_923 : decode cL_law 923 = .ok (.if_icmp .eq 993, 3) := by decide +kernel
theorem dL_law_926 : decode cL_law 926 = .ok (.iconst 0, 1) := by decide +kernel
theorem dL_law_927 : decode cL_law 927 = .ok (.ireturn, 1) := by decide +kernel
theorem dL_law_928 : decode cL_law 928 = .ok (.aload_n 1, 1) := by decide +kernel
theorem dL_law_929 : decode cL_law 929 = .ok (.aload_n 0, 1) := by decide +kernel
theorem dL_law_930 : decode cL_law 930 = .ok (.iload 4, 2) := by decide +kernel
theorem dL_law_932 : decode cL_law 932 = .ok (.iconst 1, 1) := by decide +kernel
theorem dL_law_933 : decode cL_law 933 = .ok (.iadd, 1) := by decide +kernel
theorem dL_law_934 : decode cL_law 934 = .ok (.iaload, 1) := by decide +kernel
theorem dL_law_935 : decode cL_law 935 = .ok (.invokevirtual 88, 3) := by decide +kernel
theorem dL_law_938 : decode cL_law 938 = .ok (.aload_n 2, 1) := by decide +kernel
theorem dL_law_939 : decode cL_law 939 = .ok (.aload_n 0, 1) := by decide +kernel
theorem dL_law_940 : decode cL_law 940 = .ok (.iload 4, 2) := by decide +kernel
theorem dL_law_942 : decode cL_law 942 = .ok (.iconst 1, 1) := by decide +kernel
theorem dL_law_943 : decode cL_law 943 = .ok (.iadd, 1) := by decide +kernel
theorem dL_law_944 : decode cL_law 944 = .ok (.iaload, 1) := by decide +kernel
theorem dL_law_945 : decode cL_law 945 = .ok (.invokevirtual 91, 3) := by decide +kernel
theorem dL_law_948 : decode cL_law 948 = .ok (.if_icmp .eq 968, 3) := by decide +kernel
theorem dL_law_951 : decode cL_law 951 = .ok (.iconst 0, 1) := by decide +kernel
theorem dL_law_952 : decode cL_law 952 = .ok (.ireturn, 1) := by decide +kernel
theorem dL_law_953 : decode cL_law 953 = .ok (.aload_n 1, 1) := by decide +kernel
theorem dL_law_954 : decode cL_law 954 = .ok (.aload_n 0, 1) := by decide +kernel
theorem dL_law_955 : decode cL_law 955 = .ok (.iload 4, 2) := by decide +kernel
theorem dL_law_957 : decode cL_law 957 = .ok (.iconst 1, 1) := by decide +kernel
theorem dL_law_958 : decode cL_law 958 = .ok (.iadd, 1) := by decide +kernel
theorem dL_law_959 : decode cL_law 959 = .ok (.iaload, 1) := by decide +kernel
theorem dL_law_960 : decode cL_law 960 = .ok (.invokevirtual 92, 3) := by decide +kernel
theorem dL_law_963 : decode cL_law 963 = .ok (.aload_n 2, 1) := by decide +kernel
theorem dL_law_964 : decode cL_law 964 = .ok (.aload_n 0, 1) := by decide +kernel
theorem dL_law_965 : decode cL_law 965 = .ok (.iload 4, 2) := by decide +kernel
theorem dL_law_967 : decode cL_law 967 = .ok (.iconst 1, 1) := by decide +kernel
theorem dL_law_968 : decode cL_law 968 = .ok (.iadd, 1) := by decide +kernel
theorem dL_law_969 : decode cL_law 969 = .ok (.iaload, 1) := by decide +kernel
theorem dL_law_970 : decode cL_law 970 = .ok (.invokevirtual 95, 3) := by decide +kernel
theorem dL_law_973 : decode cL_law 973 = .ok (.if_icmp .eq 943, 3) := by decide +kernel
theorem dL_law_976 : decode cL_law 976 = .ok (.iconst 0, 1) := by decide +kernel
theorem dL_law_977 : decode cL_law 977 = .ok (.ireturn, 1) := by decide +kernel
theorem dL_law_978 : decode cL_law 978 = .ok (.aload_n 1, 1) := by decide +kernel
theorem dL_law_979 : decode cL_law 979 = .ok (.aload_n 0, 1) := by decide +kernel
theorem dL_law_980 : decode cL_law 980 = .ok (.iload 4, 2) := by decide +kernel
theorem dL_law_982 : decode cL_law 982 = .ok (.iconst 1, 1) := by decide +kernel
theorem dL_law_983 : decode cL_law 983 = .ok (.iadd, 1) := by decide +kernel
theorem dL_law_984 : decode cL_law 984 = .ok (.iaload, 1) := by decide +kernel
theorem dL_law_985 : decode cL_law 985 = .ok (.aload_n 0, 1) := by decide +kernel
theorem dL_law_986 : decode cL_law 986 = .ok (.iload 4, 2) := by decide +kernel
theorem dL_law_988 : decode cL_law 988 = .ok (.iconst 2, 1) := by decide +kernel
theorem dL_law_989 : decode cL_law 989 = .ok (.iadd, 1) := by decide +kernel
theorem dL_law_990 : decode cL_law 990 = .ok (.iaload, 1) := by decide +kernel
theorem dL_law_991 : decode cL_law 991 = .ok (.invokevirtual 96, 3) := by decide +kernel
theorem dL_law_994 : decode cL_law 994 = .ok (.aload_n 2, 1) := by decide +kernel
theorem dL_law_995 : decode cL_law 995 = .ok (.aload_n 0, 1) := by decide +kernel
theorem dL_law_996 : decode cL_law 996 = .ok (.iload 4, 2) := by decide +kernel
theorem dL_law_998 : decode cL_law 998 = .ok (.iconst 1, 1) := by decide +kernel
theorem dL_law_999 : decode cL_law 999 = .ok (.iadd, 1) := by decide +kernel
theorem dL_law_1000 : decode cL_law 1000 = .ok (.iaload, 1) := by decide +kernel
theorem dL_law_1001 : decode cL_law 1001 = .ok (.aload_n 0, 1) := by decide +kernel
theorem dL_law_1002 : decode cL_law 1002 = .ok (.iload 4, 2) := by decide +kernel
theorem dL_law_1004 : decode cL_law 1004 = .ok (.iconst 2, 1) := by decide +kernel
theorem dL_law_1005 : decode cL_law 1005 = .ok (.iadd, 1) := by decide +kernel
theorem dL_law_1006 : decode cL_law 1006 = .ok (.iaload, 1) := by decide +kernel
theorem dL_law_1007 : decode cL_law 1007 = .ok (.invokevirtual 99, 3) := by decide +kernel
theorem dL_law_1010 : decode cL_law 1010 = .ok (.if_icmp .eq 906, 3) := by decide +kernel
theorem dL_law_1013 : decode cL_law 1013 = .ok (.iconst 0, 1) := by decide +kernel
theorem dL_law_1014 : decode cL_law 1014 = .ok (.ireturn, 1) := by decide +kernel
theorem dL_law_1015 : decode cL_law 1015 = .ok (.aload_n 1, 1) := by decide +kernel
theorem dL_law_1016 : decode cL_law 1016 = .ok (.aload_n 0, 1) := by decide +kernel
theorem dL_law_1017 : decode cL_law 1017 = .ok (.iload 4, 2) := by decide +kernel
theorem dL_law_1019 : decode cL_law 1019 = .ok (.iconst 1, 1) := by decide +kernel
theorem dL_law_1020 : decode cL_law 1020 = .ok (.iadd, 1) := by decide +kernel
theorem dL_law_1021 : decode cL_law 1021 = .ok (.iaload, 1) := by decide +kernel
theorem dL_law_1022 : decode cL_law 1022 = .ok (.aload_n 0, 1) := by decide +kernel
theorem dL_law_1023 : decode cL_law 1023 = .ok (.iload 4, 2) := by decide +kernel
theorem dL_law_1025 : decode cL_law 1025 = .ok (.iconst 2, 1) := by decide +kernel
theorem dL_law_1026 : decode cL_law 1026 = .ok (.iadd, 1) := by decide +kernel
theorem dL_law_1027 : decode cL_law 1027 = .ok (.iaload, 1) := by decide +kernel
theorem dL_law_1028 : decode cL_law 1028 = .ok (.invokevirtual 100, 3) := by decide +kernel
theorem dL_law_1031 : decode cL_law 1031 = .ok (.aload_n 2, 1) := by decide +kernel
theorem dL_law_1032 : decode cL_law 1032 = .ok (.aload_n 0, 1) := by decide +kernel
theorem dL_law_1033 : decode cL_law 1033 = .ok (.iload 4, 2) := by decide +kernel
theorem dL_law_1035 : decode cL_law 1035 = .ok (.iconst 1, 1) := by decide +kernel
theorem dL_law_1036 : decode cL_law 1036 = .ok (.iadd, 1) := by decide +kernel
theorem dL_law_1037 : decode cL_law 1037 = .ok (.iaload, 1) := by decide +kernel
theorem dL_law_1038 : decode cL_law 1038 = .ok (.aload_n 0, 1) := by decide +kernel
theorem dL_law_1039 : decode cL_law 1039 = .ok (.iload 4, 2) := by decide +kernel
theorem dL_law_1041 : decode cL_law 1041 = .ok (.iconst 2, 1) := by decide +kernel
theorem dL_law_1042 : decode cL_law 1042 = .ok (.iadd, 1) := by decide +kernel
theorem dL_law_1043 : decode cL_law 1043 = .ok (.iaload, 1) := by decide +kernel
theorem dL_law_1044 : decode cL_law 1044 = .ok (.invokevirtual 104, 3) := by decide +kernel
theorem dL_law_1047 : decode cL_law 1047 = .ok (.lcmp, 1) := by decide +kernel
theorem dL_law_1048 : decode cL_law 1048 = .ok (.ifCond .eq 868, 3) := by decide +kernel
theorem dL_law_1051 : decode cL_law 1051 = .ok (.iconst 0, 1) := by decide +kernel
theorem dL_law_1052 : decode cL_law 1052 = .ok (.ireturn, 1) := by decide +kernel
theorem dL_law_1053 : decode cL_law 1053 = .ok (.aload_n 1, 1) := by decide +kernel
theorem dL_law_1054 : decode cL_law 1054 = .ok (.aload_n 0, 1) := by decide +kernel
theorem dL_law_1055 : decode cL_law 1055 = .ok (.iload 4, 2) := by decide +kernel
theorem dL_law_1057 : decode cL_law 1057 = .ok (.iconst 1, 1) := by decide +kernel
theorem dL_law_1058 : decode cL_law 1058 = .ok (.iadd, 1) := by decide +kernel
theorem dL_law_1059 : decode cL_law 1059 = .ok (.iaload, 1) := by decide +kernel
theorem dL_law_1060 : decode cL_law 1060 = .ok (.aload_n 0, 1) := by decide +kernel
theorem dL_law_1061 : decode cL_law 1061 = .ok (.iload 4, 2) := by decide +kernel
theorem dL_law_1063 : decode cL_law 1063 = .ok (.iconst 2, 1) := by decide +kernel
theorem dL_law_1064 : decode cL_law 1064 = .ok (.iadd, 1) := by decide +kernel
theorem dL_law_1065 : decode cL_law 1065 = .ok (.iaload, 1) := by decide +kernel
theorem dL_law_1066 : decode cL_law 1066 = .ok (.invokevirtual 105, 3) := by decide +kernel
theorem dL_law_1069 : decode cL_law 1069 = .ok (.aload_n 2, 1) := by decide +kernel
theorem dL_law_1070 : decode cL_law 1070 = .ok (.aload_n 0, 1) := by decide +kernel
theorem dL_law_1071 : decode cL_law 1071 = .ok (.iload 4, 2) := by decide +kernel
theorem dL_law_1073 : decode cL_law 1073 = .ok (.iconst 1, 1) := by decide +kernel
theorem dL_law_1074 : decode cL_law 1074 = .ok (.iadd, 1) := by decide +kernel
theorem dL_law_1075 : decode cL_law 1075 = .ok (.iaload, 1) := by decide +kernel
theorem dL_law_1076 : decode cL_law 1076 = .ok (.aload_n 0, 1) := by decide +kernel
theorem dL_law_1077 : decode cL_law 1077 = .ok (.iload 4, 2) := by decide +kernel
theorem dL_law_1079 : decode cL_law 1079 = .ok (.iconst 2, 1) := by decide +kernel
theorem dL_law_1080 : decode cL_law 1080 = .ok (.iadd, 1) := by decide +kernel
theorem dL_law_1081 : decode cL_law 1081 = .ok (.iaload, 1) := by decide +kernel
theorem dL_law_1082 : decode cL_law 1082 = .ok (.invokevirtual 108, 3) := by decide +kernel
theorem dL_law_1085 : decode cL_law 1085 = .ok (.if_icmp .eq 831, 3) := by decide +kernel
theorem dL_law_1088 : decode cL_law 1088 = .ok (.iconst 0, 1) := by decide +kernel
theorem dL_law_1089 : decode cL_law 1089 = .ok (.ireturn, 1) := by decide +kernel
theorem dL_law_1090 : decode cL_law 1090 = .ok (.aload_n 1, 1) := by decide +kernel
theorem dL_law_1091 : decode cL_law 1091 = .ok (.aload_n 0, 1) := by decide +kernel
theorem dL_law_1092 : decode cL_law 1092 = .ok (.iload 4, 2) := by decide +kernel
theorem dL_law_1094 : decode cL_law 1094 = .ok (.iconst 1, 1) := by decide +kernel
theorem dL_law_1095 : decode cL_law 1095 = .ok (.iadd, 1) := by decide +kernel
theorem dL_law_1096 : decode cL_law 1096 = .ok (.iaload, 1) := by decide +kernel
theorem dL_law_1097 : decode cL_law 1097 = .ok (.aload_n 0, 1) := by decide +kernel
theorem dL_law_1098 : decode cL_law 1098 = .ok (.iload 4, 2) := by decide +kernel
theorem dL_law_1100 : decode cL_law 1100 = .ok (.iconst 2, 1) := by decide +kernel
theorem dL_law_1101 : decode cL_law 1101 = .ok (.iadd, 1) := by decide +kernel
theorem dL_law_1102 : decode cL_law 1102 = .ok (.iaload, 1) := by decide +kernel
theorem dL_law_1103 : decode cL_law 1103 = .ok (.invokevirtual 109, 3) := by decide +kernel
theorem dL_law_1106 : decode cL_law 1106 = .ok (.aload_n 2, 1) := by decide +kernel
theorem dL_law_1107 : decode cL_law 1107 = .ok (.aload_n 0, 1) := by decide +kernel
theorem dL_law_1108 : decode cL_law 1108 = .ok (.iload 4, 2) := by decide +kernel
theorem dL_law_1110 : decode cL_law 1110 = .ok (.iconst 1, 1) := by decide +kernel
theorem dL_law_1111 : decode cL_law 1111 = .ok (.iadd, 1) := by decide +kernel
theorem dL_law_1112 : decode cL_law 1112 = .ok (.iaload, 1) := by decide +kernel
theorem dL_law_1113 : decode cL_law 1113 = .ok (.aload_n 0, 1) := by decide +kernel
theorem dL_law_1114 : decode cL_law 1114 = .ok (.iload 4, 2) := by decide +kernel
theorem dL_law_1116 : decode cL_law 1116 = .ok (.iconst 2, 1) := by decide +kernel
theorem dL_law_1117 : decode cL_law 1117 = .ok (.iadd, 1) := by decide +kernel
theorem dL_law_1118 : decode cL_law 1118 = .ok (.iaload, 1) := by decide +kernel
theorem dL_law_1119 : decode cL_law 1119 = .ok (.invokevirtual 112, 3) := by decide +kernel
theorem dL_law_1122 : decode cL_law 1122 = .ok (.if_icmp .eq 794, 3) := by decide +kernel
theorem dL_law_1125 : decode cL_law 1125 = .ok (.iconst 0, 1) := by decide +kernel
theorem dL_law_1126 : decode cL_law 1126 = .ok (.ireturn, 1) := by decide +kernel
theorem dL_law_1127 : decode cL_law 1127 = .ok (.aload_n 1, 1) := by decide +kernel
theorem dL_law_1128 : decode cL_law 1128 = .ok (.aload_n 0, 1) := by decide +kernel
theorem dL_law_1129 : decode cL_law 1129 = .ok (.iload 4, 2) := by decide +kernel
theorem dL_law_1131 : decode cL_law 1131 = .ok (.iconst 1, 1) := by decide +kernel
theorem dL_law_1132 : decode cL_law 1132 = .ok (.iadd, 1) := by decide +kernel
theorem dL_law_1133 : decode cL_law 1133 = .ok (.iaload, 1) := by decide +kernel
theorem dL_law_1134 : decode cL_law 1134 = .ok (.aload_n 0, 1) := by decide +kernel
theorem dL_law_1135 : decode cL_law 1135 = .ok (.iload 4, 2) := by decide +kernel
theorem dL_law_1137 : decode cL_law 1137 = .ok (.iconst 2, 1) := by decide +kernel
theorem dL_law_1138 : decode cL_law 1138 = .ok (.iadd, 1) := by decide +kernel
theorem dL_law_1139 : decode cL_law 1139 = .ok (.iaload, 1) := by decide +kernel
theorem dL_law_1140 : decode cL_law 1140 = .ok (.invokevirtual 113, 3) := by decide +kernel
theorem dL_law_1143 : decode cL_law 1143 = .ok (.aload_n 2, 1) := by decide +kernel
theorem dL_law_1144 : decode cL_law 1144 = .ok (.aload_n 0, 1) := by decide +kernel
theorem dL_law_1145 : decode cL_law 1145 = .ok (.iload 4, 2) := by decide +kernel
theorem dL_law_1147 : decode cL_law 1147 = .ok (.iconst 1, 1) := by decide +kernel
theorem dL_law_1148 : decode cL_law 1148 = .ok (.iadd, 1) := by decide +kernel
theorem dL_law_1149 : decode cL_law 1149 = .ok (.iaload, 1) := by decide +kernel
theorem dL_law_1150 : decode cL_law 1150 = .ok (.aload_n 0, 1) := by decide +kernel
theorem dL_law_1151 : decode cL_law 1151 = .ok (.iload 4, 2) := by decide +kernel
theorem dL_law_1153 : decode cL_law 1153 = .ok (.iconst 2, 1) := by decide +kernel
theorem dL_law_1154 : decode cL_law 1154 = .ok (.iadd, 1) := by decide +kernel
theorem dL_law_1155 : decode cL_law 1155 = .ok (.iaload, 1) := by decide +kernel
theorem dL_law_1156 : decode cL_law 1156 = .ok (.invokevirtual 116, 3) := by decide +kernel
theorem dL_law_1159 : decode cL_law 1159 = .ok (.if_icmp .eq 757, 3) := by decide +kernel
theorem dL_law_1162 : decode cL_law 1162 = .ok (.iconst 0, 1) := by decide +kernel
theorem dL_law_1163 : decode cL_law 1163 = .ok (.ireturn, 1) := by decide +kernel
theorem dL_law_1164 : decode cL_law 1164 = .ok (.aload_n 1, 1) := by decide +kernel
theorem dL_law_1165 : decode cL_law 1165 = .ok (.aload_n 0, 1) := by decide +kernel
theorem dL_law_1166 : decode cL_law 1166 = .ok (.iload 4, 2) := by decide +kernel
theorem dL_law_1168 : decode cL_law 1168 = .ok (.iconst 1, 1) := by decide +kernel
theorem dL_law_1169 : decode cL_law 1169 = .ok (.iadd, 1) := by decide +kernel
theorem dL_law_1170 : decode cL_law 1170 = .ok (.iaload, 1) := by decide +kernel
theorem dL_law_1171 : decode cL_law 1171 = .ok (.aload_n 0, 1) := by decide +kernel
theorem dL_law_1172 : decode cL_law 1172 = .ok (.iload 4, 2) := by decide +kernel
theorem dL_law_1174 : decode cL_law 1174 = .ok (.iconst 2, 1) := by decide +kernel
theorem dL_law_1175 : decode cL_law 1175 = .ok (.iadd, 1) := by decide +kernel
theorem dL_law_1176 : decode cL_law 1176 = .ok (.iaload, 1) := by decide +kernel
theorem dL_law_1177 : decode cL_law 1177 = .ok (.aload_n 0, 1) := by decide +kernel
theorem dL_law_1178 : decode cL_law 1178 = .ok (.iload 4, 2) := by decide +kernel
theorem dL_law_1180 : decode cL_law 1180 = .ok (.iconst 3, 1) := by decide +kernel
theorem dL_law_1181 : decode cL_law 1181 = .ok (.iadd, 1) := by decide +kernel
theorem dL_law_1182 : decode cL_law 1182 = .ok (.iaload, 1) := by decide +kernel
theorem dL_law_1183 : decode cL_law 1183 = .ok (.invokevirtual 117, 3) := by decide +kernel
theorem dL_law_1186 : decode cL_law 1186 = .ok (.aload_n 2, 1) := by decide +kernel
theorem dL_law_1187 : decode cL_law 1187 = .ok (.aload_n 0, 1) := by decide +kernel
theorem dL_law_1188 : decode cL_law 1188 = .ok (.iload 4, 2) := by decide +kernel
theorem dL_law_1190 : decode cL_law 1190 = .ok (.iconst 1, 1) := by decide +kernel
theorem dL_law_1191 : decode cL_law 1191 = .ok (.iadd, 1) := by decide +kernel
theorem dL_law_1192 : decode cL_law 1192 = .ok (.iaload, 1) := by decide +kernel
theorem dL_law_1193 : decode cL_law 1193 = .ok (.aload_n 0, 1) := by decide +kernel
theorem dL_law_1194 : decode cL_law 1194 = .ok (.iload 4, 2) := by decide +kernel
theorem dL_law_1196 : decode cL_law 1196 = .ok (.iconst 2, 1) := by decide +kernel
theorem dL_law_1197 : decode cL_law 1197 = .ok (.iadd, 1) := by decide +kernel
theorem dL_law_1198 : decode cL_law 1198 = .ok (.iaload, 1) := by decide +kernel
theorem dL_law_1199 : decode cL_law 1199 = .ok (.aload_n 0, 1) := by decide +kernel
theorem dL_law_1200 : decode cL_law 1200 = .ok (.iload 4, 2) := by decide +kernel
theorem dL_law_1202 : decode cL_law 1202 = .ok (.iconst 3, 1) := by decide +kernel
theorem dL_law_1203 : decode cL_law 1203 = .ok (.iadd, 1) := by decide +kernel
theorem dL_law_1204 : decode cL_law 1204 = .ok (.iaload, 1) := by decide +kernel
theorem dL_law_1205 : decode cL_law 1205 = .ok (.invokevirtual 120, 3) := by decide +kernel
theorem dL_law_1208 : decode cL_law 1208 = .ok (.if_icmp .eq 708, 3) := by decide +kernel
theorem dL_law_1211 : decode cL_law 1211 = .ok (.iconst 0, 1) := by decide +kernel
theorem dL_law_1212 : decode cL_law 1212 = .ok (.ireturn, 1) := by decide +kernel
theorem dL_law_1213 : decode cL_law 1213 = .ok (.aload_n 1, 1) := by decide +kernel
theorem dL_law_1214 : decode cL_law 1214 = .ok (.aload_n 0, 1) := by decide +kernel
theorem dL_law_1215 : decode cL_law 1215 = .ok (.iload 4, 2) := by decide +kernel
theorem dL_law_1217 : decode cL_law 1217 = .ok (.iconst 1, 1) := by decide +kernel
theorem dL_law_1218 : decode cL_law 1218 = .ok (.iadd, 1) := by decide +kernel
theorem dL_law_1219 : decode cL_law 1219 = .ok (.iaload, 1) := by decide +kernel
theorem dL_law_1220 : decode cL_law 1220 = .ok (.invokevirtual 121, 3) := by decide +kernel
theorem dL_law_1223 : decode cL_law 1223 = .ok (.aload_n 2, 1) := by decide +kernel
theorem dL_law_1224 : decode cL_law 1224 = .ok (.aload_n 0, 1) := by decide +kernel
theorem dL_law_1225 : decode cL_law 1225 = .ok (.iload 4, 2) := by decide +kernel
theorem dL_law_1227 : decode cL_law 1227 = .ok (.iconst 1, 1) := by decide +kernel
theorem dL_law_1228 : decode cL_law 1228 = .ok (.iadd, 1) := by decide +kernel
theorem dL_law_1229 : decode cL_law 1229 = .ok (.iaload, 1) := by decide +kernel
theorem dL_law_1230 : decode cL_law 1230 = .ok (.invokevirtual 124, 3) := by decide +kernel
theorem dL_law_1233 : decode cL_law 1233 = .ok (.if_icmp .eq 683, 3) := by decide +kernel
theorem dL_law_1236 : decode cL_law 1236 = .ok (.iconst 0, 1) := by decide +kernel
theorem dL_law_1237 : decode cL_law 1237 = .ok (.ireturn, 1) := by decide +kernel
theorem dL_law_1238 : decode cL_law 1238 = .ok (.aload_n 1, 1) := by decide +kernel
theorem dL_law_1239 : decode cL_law 1239 = .ok (.aload_n 0, 1) := by decide +kernel
theorem dL_law_1240 : decode cL_law 1240 = .ok (.iload 4, 2) := by decide +kernel
theorem dL_law_1242 : decode cL_law 1242 = .ok (.iconst 1, 1) := by decide +kernel
theorem dL_law_1243 : decode cL_law 1243 = .ok (.iadd, 1) := by decide +kernel
theorem dL_law_1244 : decode cL_law 1244 = .ok (.iaload, 1) := by decide +kernel
theorem dL_law_1245 : decode cL_law 1245 = .ok (.invokevirtual 125, 3) := by decide +kernel
theorem dL_law_1248 : decode cL_law 1248 = .ok (.aload_n 2, 1) := by decide +kernel
theorem dL_law_1249 : decode cL_law 1249 = .ok (.aload_n 0, 1) := by decide +kernel
theorem dL_law_1250 : decode cL_law 1250 = .ok (.iload 4, 2) := by decide +kernel
theorem dL_law_1252 : decode cL_law 1252 = .ok (.iconst 1, 1) := by decide +kernel
theorem dL_law_1253 : decode cL_law 1253 = .ok (.iadd, 1) := by decide +kernel
theorem dL_law_1254 : decode cL_law 1254 = .ok (.iaload, 1) := by decide +kernel
theorem dL_law_1255 : decode cL_law 1255 = .ok (.invokevirtual 128, 3) := by decide +kernel
theorem dL_law_1258 : decode cL_law 1258 = .ok (.if_icmp .eq 658, 3) := by decide +kernel
theorem dL_law_1261 : decode cL_law 1261 = .ok (.iconst 0, 1) := by decide +kernel
theorem dL_law_1262 : decode cL_law 1262 = .ok (.ireturn, 1) := by decide +kernel
theorem dL_law_1263 : decode cL_law 1263 = .ok (.aload_n 1, 1) := by decide +kernel
theorem dL_law_1264 : decode cL_law 1264 = .ok (.aload_n 0, 1) := by decide +kernel
theorem dL_law_1265 : decode cL_law 1265 = .ok (.iload 4, 2) := by decide +kernel
theorem dL_law_1267 : decode cL_law 1267 = .ok (.iconst 1, 1) := by decide +kernel
theorem dL_law_1268 : decode cL_law 1268 = .ok (.iadd, 1) := by decide +kernel
theorem dL_law_1269 : decode cL_law 1269 = .ok (.iaload, 1) := by decide +kernel
theorem dL_law_1270 : decode cL_law 1270 = .ok (.aload_n 0, 1) := by decide +kernel
theorem dL_law_1271 : decode cL_law 1271 = .ok (.iload 4, 2) := by decide +kernel
theorem dL_law_1273 : decode cL_law 1273 = .ok (.iconst 2, 1) := by decide +kernel
theorem dL_law_1274 : decode cL_law 1274 = .ok (.iadd, 1) := by decide +kernel
theorem dL_law_1275 : decode cL_law 1275 = .ok (.iaload, 1) := by decide +kernel
theorem dL_law_1276 : decode cL_law 1276 = .ok (.aload_n 0, 1) := by decide +kernel
theorem dL_law_1277 : decode cL_law 1277 = .ok (.iload 4, 2) := by decide +kernel
theorem dL_law_1279 : decode cL_law 1279 = .ok (.iconst 3, 1) := by decide +kernel
theorem dL_law_1280 : decode cL_law 1280 = .ok (.iadd, 1) := by decide +kernel
theorem dL_law_1281 : decode cL_law 1281 = .ok (.iaload, 1) := by decide +kernel
theorem dL_law_1282 : decode cL_law 1282 = .ok (.invokevirtual 129, 3) := by decide +kernel
theorem dL_law_1285 : decode cL_law 1285 = .ok (.aload_n 2, 1) := by decide +kernel
theorem dL_law_1286 : decode cL_law 1286 = .ok (.aload_n 0, 1) := by decide +kernel
theorem dL_law_1287 : decode cL_law 1287 = .ok (.iload 4, 2) := by decide +kernel
theorem dL_law_1289 : decode cL_law 1289 = .ok (.iconst 1, 1) := by decide +kernel
theorem dL_law_1290 : decode cL_law 1290 = .ok (.iadd, 1) := by decide +kernel
theorem dL_law_1291 : decode cL_law 1291 = .ok (.iaload, 1) := by decide +kernel
theorem dL_law_1292 : decode cL_law 1292 = .ok (.aload_n 0, 1) := by decide +kernel
theorem dL_law_1293 : decode cL_law 1293 = .ok (.iload 4, 2) := by decide +kernel
theorem dL_law_1295 : decode cL_law 1295 = .ok (.iconst 2, 1) := by decide +kernel
theorem dL_law_1296 : decode cL_law 1296 = .ok (.iadd, 1) := by decide +kernel
theorem dL_law_1297 : decode cL_law 1297 = .ok (.iaload, 1) := by decide +kernel
theorem dL_law_1298 : decode cL_law 1298 = .ok (.aload_n 0, 1) := by decide +kernel
theorem dL_law_1299 : decode cL_law 1299 = .ok (.iload 4, 2) := by decide +kernel
theorem dL_law_1301 : decode cL_law 1301 = .ok (.iconst 3, 1) := by decide +kernel
theorem dL_law_1302 : decode cL_law 1302 = .ok (.iadd, 1) := by decide +kernel
theorem dL_law_1303 : decode cL_law 1303 = .ok (.iaload, 1) := by decide +kernel
theorem dL_law_1304 : decode cL_law 1304 = .ok (.invokevirtual 132, 3) := by decide +kernel
theorem dL_law_1307 : decode cL_law 1307 = .ok (.if_icmp .eq 609, 3) := by decide +kernel
theorem dL_law_1310 : decode cL_law 1310 = .ok (.iconst 0, 1) := by decide +kernel
theorem dL_law_1311 : decode cL_law 1311 = .ok (.ireturn, 1) := by decide +kernel
theorem dL_law_1312 : decode cL_law 1312 = .ok (.aload_n 1, 1) := by decide +kernel
theorem dL_law_1313 : decode cL_law 1313 = .ok (.aload_n 0, 1) := by decide +kernel
theorem dL_law_1314 : decode cL_law 1314 = .ok (.iload 4, 2) := by decide +kernel
theorem dL_law_1316 : decode cL_law 1316 = .ok (.iconst 1, 1) := by decide +kernel
theorem dL_law_1317 : decode cL_law 1317 = .ok (.iadd, 1) := by decide +kernel
theorem dL_law_1318 : decode cL_law 1318 = .ok (.iaload, 1) := by decide +kernel
theorem dL_law_1319 : decode cL_law 1319 = .ok (.invokevirtual 133, 3) := by decide +kernel
theorem dL_law_1322 : decode cL_law 1322 = .ok (.aload_n 2, 1) := by decide +kernel
theorem dL_law_1323 : decode cL_law 1323 = .ok (.aload_n 0, 1) := by decide +kernel
theorem dL_law_1324 : decode cL_law 1324 = .ok (.iload 4, 2) := by decide +kernel
theorem dL_law_1326 : decode cL_law 1326 = .ok (.iconst 1, 1) := by decide +kernel
theorem dL_law_1327 : decode cL_law 1327 = .ok (.iadd, 1) := by decide +kernel
theorem dL_law_1328 : decode cL_law 1328 = .ok (.iaload, 1) := by decide +kernel
theorem dL_law_1329 : decode cL_law 1329 = .ok (.invokevirtual 136, 3) := by decide +kernel
theorem dL_law_1332 : decode cL_law 1332 = .ok (.if_icmp .eq 584, 3) := by decide +kernel
theorem dL_law_1335 : decode cL_law 1335 = .ok (.iconst 0, 1) := by decide +kernel
theorem dL_law_1336 : decode cL_law 1336 = .ok (.ireturn, 1) := by decide +kernel
theorem dL_law_1337 : decode cL_law 1337 = .ok (.aload_n 1, 1) := by decide +kernel
theorem dL_law_1338 : decode cL_law 1338 = .ok (.aload_n 0, 1) := by decide +kernel
theorem dL_law_1339 : decode cL_law 1339 = .ok (.iload 4, 2) := by decide +kernel
theorem dL_law_1341 : decode cL_law 1341 = .ok (.iconst 1, 1) := by decide +kernel
theorem dL_law_1342 : decode cL_law 1342 = .ok (.iadd, 1) := by decide +kernel
theorem dL_law_1343 : decode cL_law 1343 = .ok (.iaload, 1) := by decide +kernel
theorem dL_law_1344 : decode cL_law 1344 = .ok (.aload_n 0, 1) := by decide +kernel
theorem dL_law_1345 : decode cL_law 1345 = .ok (.iload 4, 2) := by decide +kernel
theorem dL_law_1347 : decode cL_law 1347 = .ok (.iconst 2, 1) := by decide +kernel
theorem dL_law_1348 : decode cL_law 1348 = .ok (.iadd, 1) := by decide +kernel
theorem dL_law_1349 : decode cL_law 1349 = .ok (.iaload, 1) := by decide +kernel
theorem dL_law_1350 : decode cL_law 1350 = .ok (.aload_n 0, 1) := by decide +kernel
theorem dL_law_1351 : decode cL_law 1351 = .ok (.iload 4, 2) := by decide +kernel
theorem dL_law_1353 : decode cL_law 1353 = .ok (.iconst 3, 1) := by decide +kernel
theorem dL_law_1354 : decode cL_law 1354 = .ok (.iadd, 1) := by decide +kernel
theorem dL_law_1355 : decode cL_law 1355 = .ok (.iaload, 1) := by decide +kernel
theorem dL_law_1356 : decode cL_law 1356 = .ok (.invokevirtual 137, 3) := by decide +kernel
theorem dL_law_1359 : decode cL_law 1359 = .ok (.aload_n 2, 1) := by decide +kernel
theorem dL_law_1360 : decode cL_law 1360 = .ok (.aload_n 0, 1) := by decide +kernel
theorem dL_law_1361 : decode cL_law 1361 = .ok (.iload 4, 2) := by decide +kernel
theorem dL_law_1363 : decode cL_law 1363 = .ok (.iconst 1, 1) := by decide +kernel
theorem dL_law_1364 : decode cL_law 1364 = .ok (.iadd, 1) := by decide +kernel
theorem dL_law_1365 : decode cL_law 1365 = .ok (.iaload, 1) := by decide +kernel
theorem dL_law_1366 : decode cL_law 1366 = .ok (.aload_n 0, 1) := by decide +kernel
theorem dL_law_1367 : decode cL_law 1367 = .ok (.iload 4, 2) := by decide +kernel
theorem dL_law_1369 : decode cL_law 1369 = .ok (.iconst 2, 1) := by decide +kernel
theorem dL_law_1370 : decode cL_law 1370 = .ok (.iadd, 1) := by decide +kernel
theorem dL_law_1371 : decode cL_law 1371 = .ok (.iaload, 1) := by decide +kernel
theorem dL_law_1372 : decode cL_law 1372 = .ok (.aload_n 0, 1) := by decide +kernel
theorem dL_law_1373 : decode cL_law 1373 = .ok (.iload 4, 2) := by decide +kernel
theorem dL_law_1375 : decode cL_law 1375 = .ok (.iconst 3, 1) := by decide +kernel
theorem dL_law_1376 : decode cL_law 1376 = .ok (.iadd, 1) := by decide +kernel
theorem dL_law_1377 : decode cL_law 1377 = .ok (.iaload, 1) := by decide +kernel
theorem dL_law_1378 : decode cL_law 1378 = .ok (.invokevirtual 140, 3) := by decide +kernel
theorem dL_law_1381 : decode cL_law 1381 = .ok (.if_icmp .eq 535, 3) := by decide +kernel
theorem dL_law_1384 : decode cL_law 1384 = .ok (.iconst 0, 1) := by decide +kernel
theorem dL_law_1385 : decode cL_law 1385 = .ok (.ireturn, 1) := by decide +kernel
theorem dL_law_1386 : decode cL_law 1386 = .ok (.aload_n 1, 1) := by decide +kernel
theorem dL_law_1387 : decode cL_law 1387 = .ok (.aload_n 0, 1) := by decide +kernel
theorem dL_law_1388 : decode cL_law 1388 = .ok (.iload 4, 2) := by decide +kernel
theorem dL_law_1390 : decode cL_law 1390 = .ok (.iconst 1, 1) := by decide +kernel
theorem dL_law_1391 : decode cL_law 1391 = .ok (.iadd, 1) := by decide +kernel
theorem dL_law_1392 : decode cL_law 1392 = .ok (.iaload, 1) := by decide +kernel
theorem dL_law_1393 : decode cL_law 1393 = .ok (.aload_n 0, 1) := by decide +kernel
theorem dL_law_1394 : decode cL_law 1394 = .ok (.iload 4, 2) := by decide +kernel
theorem dL_law_1396 : decode cL_law 1396 = .ok (.iconst 2, 1) := by decide +kernel
theorem dL_law_1397 : decode cL_law 1397 = .ok (.iadd, 1) := by decide +kernel
theorem dL_law_1398 : decode cL_law 1398 = .ok (.iaload, 1) := by decide +kernel
theorem dL_law_1399 : decode cL_law 1399 = .ok (.invokevirtual 141, 3) := by decide +kernel
theorem dL_law_1402 : decode cL_law 1402 = .ok (.aload_n 2, 1) := by decide +kernel
theorem dL_law_1403 : decode cL_law 1403 = .ok (.aload_n 0, 1) := by decide +kernel
theorem dL_law_1404 : decode cL_law 1404 = .ok (.iload 4, 2) := by decide +kernel
theorem dL_law_1406 : decode cL_law 1406 = .ok (.iconst 1, 1) := by decide +kernel
theorem dL_law_1407 : decode cL_law 1407 = .ok (.iadd, 1) := by decide +kernel
theorem dL_law_1408 : decode cL_law 1408 = .ok (.iaload, 1) := by decide +kernel
theorem dL_law_1409 : decode cL_law 1409 = .ok (.aload_n 0, 1) := by decide +kernel
theorem dL_law_1410 : decode cL_law 1410 = .ok (.iload 4, 2) := by decide +kernel
theorem dL_law_1412 : decode cL_law 1412 = .ok (.iconst 2, 1) := by decide +kernel
theorem dL_law_1413 : decode cL_law 1413 = .ok (.iadd, 1) := by decide +kernel
theorem dL_law_1414 : decode cL_law 1414 = .ok (.iaload, 1) := by decide +kernel
theorem dL_law_1415 : decode cL_law 1415 = .ok (.invokevirtual 144, 3) := by decide +kernel
theorem dL_law_1418 : decode cL_law 1418 = .ok (.lcmp, 1) := by decide +kernel
theorem dL_law_1419 : decode cL_law 1419 = .ok (.ifCond .eq 497, 3) := by decide +kernel
theorem dL_law_1422 : decode cL_law 1422 = .ok (.iconst 0, 1) := by decide +kernel
theorem dL_law_1423 : decode cL_law 1423 = .ok (.ireturn, 1) := by decide +kernel
theorem dL_law_1424 : decode cL_law 1424 = .ok (.aload_n 1, 1) := by decide +kernel
theorem dL_law_1425 : decode cL_law 1425 = .ok (.aload_n 0, 1) := by decide +kernel
theorem dL_law_1426 : decode cL_law 1426 = .ok (.iload 4, 2) := by decide +kernel
theorem dL_law_1428 : decode cL_law 1428 = .ok (.iconst 1, 1) := by decide +kernel
theorem dL_law_1429 : decode cL_law 1429 = .ok (.iadd, 1) := by decide +kernel
theorem dL_law_1430 : decode cL_law 1430 = .ok (.iaload, 1) := by decide +kernel
theorem dL_law_1431 : decode cL_law 1431 = .ok (.invokevirtual 145, 3) := by decide +kernel
theorem dL_law_1434 : decode cL_law 1434 = .ok (.aload_n 2, 1) := by decide +kernel
theorem dL_law_1435 : decode cL_law 1435 = .ok (.aload_n 0, 1) := by decide +kernel
theorem dL_law_1436 : decode cL_law 1436 = .ok (.iload 4, 2) := by decide +kernel
theorem dL_law_1438 : decode cL_law 1438 = .ok (.iconst 1, 1) := by decide +kernel
theorem dL_law_1439 : decode cL_law 1439 = .ok (.iadd, 1) := by decide +kernel
theorem dL_law_1440 : decode cL_law 1440 = .ok (.iaload, 1) := by decide +kernel
theorem dL_law_1441 : decode cL_law 1441 = .ok (.invokevirtual 148, 3) := by decide +kernel
theorem dL_law_1444 : decode cL_law 1444 = .ok (.if_icmp .eq 472, 3) := by decide +kernel
theorem dL_law_1447 : decode cL_law 1447 = .ok (.iconst 0, 1) := by decide +kernel
theorem dL_law_1448 : decode cL_law 1448 = .ok (.ireturn, 1) := by decide +kernel
theorem dL_law_1449 : decode cL_law 1449 = .ok (.aload_n 1, 1) := by decide +kernel
theorem dL_law_1450 : decode cL_law 1450 = .ok (.aload_n 0, 1) := by decide +kernel
theorem dL_law_1451 : decode cL_law 1451 = .ok (.iload 4, 2) := by decide +kernel
theorem dL_law_1453 : decode cL_law 1453 = .ok (.iconst 1, 1) := by decide +kernel
theorem dL_law_1454 : decode cL_law 1454 = .ok (.iadd, 1) := by decide +kernel
theorem dL_law_1455 : decode cL_law 1455 = .ok (.iaload, 1) := by decide +kernel
theorem dL_law_1456 : decode cL_law 1456 = .ok (.invokevirtual 149, 3) := by decide +kernel
theorem dL_law_1459 : decode cL_law 1459 = .ok (.aload_n 2, 1) := by decide +kernel
theorem dL_law_1460 : decode cL_law 1460 = .ok (.aload_n 0, 1) := by decide +kernel
theorem dL_law_1461 : decode cL_law 1461 = .ok (.iload 4, 2) := by decide +kernel
theorem dL_law_1463 : decode cL_law 1463 = .ok (.iconst 1, 1) := by decide +kernel
theorem dL_law_1464 : decode cL_law 1464 = .ok (.iadd, 1) := by decide +kernel
theorem dL_law_1465 : decode cL_law 1465 = .ok (.iaload, 1) := by decide +kernel
theorem dL_law_1466 : decode cL_law 1466 = .ok (.invokevirtual 153, 3) := by decide +kernel
theorem dL_law_1469 : decode cL_law 1469 = .ok (.if_icmp .eq 447, 3) := by decide +kernel
theorem dL_law_1472 : decode cL_law 1472 = .ok (.iconst 0, 1) := by decide +kernel
theorem dL_law_1473 : decode cL_law 1473 = .ok (.ireturn, 1) := by decide +kernel
theorem dL_law_1474 : decode cL_law 1474 = .ok (.aload_n 1, 1) := by decide +kernel
theorem dL_law_1475 : decode cL_law 1475 = .ok (.aload_n 0, 1) := by decide +kernel
theorem dL_law_1476 : decode cL_law 1476 = .ok (.iload 4, 2) := by decide +kernel
theorem dL_law_1478 : decode cL_law 1478 = .ok (.iconst 1, 1) := by decide +kernel
theorem dL_law_1479 : decode cL_law 1479 = .ok (.iadd, 1) := by decide +kernel
theorem dL_law_1480 : decode cL_law 1480 = .ok (.iaload, 1) := by decide +kernel
theorem dL_law_1481 : decode cL_law 1481 = .ok (.aload_n 0, 1) := by decide +kernel
theorem dL_law_1482 : decode cL_law 1482 = .ok (.iload 4, 2) := by decide +kernel
theorem dL_law_1484 : decode cL_law 1484 = .ok (.iconst 2, 1) := by decide +kernel
theorem dL_law_1485 : decode cL_law 1485 = .ok (.iadd, 1) := by decide +kernel
theorem dL_law_1486 : decode cL_law 1486 = .ok (.iaload, 1) := by decide +kernel
theorem dL_law_1487 : decode cL_law 1487 = .ok (.invokevirtual 154, 3) := by decide +kernel
theorem dL_law_1490 : decode cL_law 1490 = .ok (.aload_n 2, 1) := by decide +kernel
theorem dL_law_1491 : decode cL_law 1491 = .ok (.aload_n 0, 1) := by decide +kernel
theorem dL_law_1492 : decode cL_law 1492 = .ok (.iload 4, 2) := by decide +kernel
theorem dL_law_1494 : decode cL_law 1494 = .ok (.iconst 1, 1) := by decide +kernel
theorem dL_law_1495 : decode cL_law 1495 = .ok (.iadd, 1) := by decide +kernel
theorem dL_law_1496 : decode cL_law 1496 = .ok (.iaload, 1) := by decide +kernel
theorem dL_law_1497 : decode cL_law 1497 = .ok (.aload_n 0, 1) := by decide +kernel
theorem dL_law_1498 : decode cL_law 1498 = .ok (.iload 4, 2) := by decide +kernel
theorem dL_law_1500 : decode cL_law 1500 = .ok (.iconst 2, 1) := by decide +kernel
theorem dL_law_1501 : decode cL_law 1501 = .ok (.iadd, 1) := by decide +kernel
theorem dL_law_1502 : decode cL_law 1502 = .ok (.iaload, 1) := by decide +kernel
theorem dL_law_1503 : decode cL_law 1503 = .ok (.invokevirtual 157, 3) := by decide +kernel
theorem dL_law_1506 : decode cL_law 1506 = .ok (.if_icmp .eq 410, 3) := by decide +kernel
theorem dL_law_1509 : decode cL_law 1509 = .ok (.iconst 0, 1) := by decide +kernel
theorem dL_law_1510 : decode cL_law 1510 = .ok (.ireturn, 1) := by decide +kernel
theorem dL_law_1511 : decode cL_law 1511 = .ok (.aload_n 1, 1) := by decide +kernel
theorem dL_law_1512 : decode cL_law 1512 = .ok (.aload_n 0, 1) := by decide +kernel
theorem dL_law_1513 : decode cL_law 1513 = .ok (.iload 4, 2) := by decide +kernel
theorem dL_law_1515 : decode cL_law 1515 = .ok (.iconst 1, 1) := by decide +kernel
theorem dL_law_1516 : decode cL_law 1516 = .ok (.iadd, 1) := by decide +kernel
theorem dL_law_1517 : decode cL_law 1517 = .ok (.iaload, 1) := by decide +kernel
theorem dL_law_1518 : decode cL_law 1518 = .ok (.aload_n 0, 1) := by decide +kernel
theorem dL_law_1519 : decode cL_law 1519 = .ok (.iload 4, 2) := by decide +kernel
theorem dL_law_1521 : decode cL_law 1521 = .ok (.iconst 2, 1) := by decide +kernel
theorem dL_law_1522 : decode cL_law 1522 = .ok (.iadd, 1) := by decide +kernel
theorem dL_law_1523 : decode cL_law 1523 = .ok (.iaload, 1) := by decide +kernel
theorem dL_law_1524 : decode cL_law 1524 = .ok (.invokevirtual 158, 3) := by decide +kernel
theorem dL_law_1527 : decode cL_law 1527 = .ok (.aload_n 2, 1) := by decide +kernel
theorem dL_law_1528 : decode cL_law 1528 = .ok (.aload_n 0, 1) := by decide +kernel
theorem dL_law_1529 : decode cL_law 1529 = .ok (.iload 4, 2) := by decide +kernel
theorem dL_law_1531 : decode cL_law 1531 = .ok (.iconst 1, 1) := by decide +kernel
theorem dL_law_1532 : decode cL_law 1532 = .ok (.iadd, 1) := by decide +kernel
theorem dL_law_1533 : decode cL_law 1533 = .ok (.iaload, 1) := by decide +kernel
theorem dL_law_1534 : decode cL_law 1534 = .ok (.aload_n 0, 1) := by decide +kernel
theorem dL_law_1535 : decode cL_law 1535 = .ok (.iload 4, 2) := by decide +kernel
theorem dL_law_1537 : decode cL_law 1537 = .ok (.iconst 2, 1) := by decide +kernel
theorem dL_law_1538 : decode cL_law 1538 = .ok (.iadd, 1) := by decide +kernel
theorem dL_law_1539 : decode cL_law 1539 = .ok (.iaload, 1) := by decide +kernel
theorem dL_law_1540 : decode cL_law 1540 = .ok (.invokevirtual 162, 3) := by decide +kernel
theorem dL_law_1543 : decode cL_law 1543 = .ok (.if_icmp .eq 373, 3) := by decide +kernel
theorem dL_law_1546 : decode cL_law 1546 = .ok (.iconst 0, 1) := by decide +kernel
theorem dL_law_1547 : decode cL_law 1547 = .ok (.ireturn, 1) := by decide +kernel
theorem dL_law_1548 : decode cL_law 1548 = .ok (.aload_n 1, 1) := by decide +kernel
theorem dL_law_1549 : decode cL_law 1549 = .ok (.aload_n 0, 1) := by decide +kernel
theorem dL_law_1550 : decode cL_law 1550 = .ok (.iload 4, 2) := by decide +kernel
theorem dL_law_1552 : decode cL_law 1552 = .ok (.iconst 1, 1) := by decide +kernel
theorem dL_law_1553 : decode cL_law 1553 = .ok (.iadd, 1) := by decide +kernel
theorem dL_law_1554 : decode cL_law 1554 = .ok (.iaload, 1) := by decide +kernel
theorem dL_law_1555 : decode cL_law 1555 = .ok (.aload_n 0, 1) := by decide +kernel
theorem dL_law_1556 : decode cL_law 1556 = .ok (.iload 4, 2) := by decide +kernel
theorem dL_law_1558 : decode cL_law 1558 = .ok (.iconst 2, 1) := by decide +kernel
theorem dL_law_1559 : decode cL_law 1559 = .ok (.iadd, 1) := by decide +kernel
theorem dL_law_1560 : decode cL_law 1560 = .ok (.iaload, 1) := by decide +kernel
theorem dL_law_1561 : decode cL_law 1561 = .ok (.aload_n 0, 1) := by decide +kernel
theorem dL_law_1562 : decode cL_law 1562 = .ok (.iload 4, 2) := by decide +kernel
theorem dL_law_1564 : decode cL_law 1564 = .ok (.iconst 3, 1) := by decide +kernel
theorem dL_law_1565 : decode cL_law 1565 = .ok (.iadd, 1) := by decide +kernel
theorem dL_law_1566 : decode cL_law 1566 = .ok (.iaload, 1) := by decide +kernel
theorem dL_law_1567 : decode cL_law 1567 = .ok (.invokevirtual 163, 3) := by decide +kernel
theorem dL_law_1570 : decode cL_law 1570 = .ok (.aload_n 2, 1) := by decide +kernel
theorem dL_law_1571 : decode cL_law 1571 = .ok (.aload_n 0, 1) := by decide +kernel
theorem dL_law_1572 : decode cL_law 1572 = .ok (.iload 4, 2) := by decide +kernel
theorem dL_law_1574 : decode cL_law 1574 = .ok (.iconst 1, 1) := by decide +kernel
theorem dL_law_1575 : decode cL_law 1575 = .ok (.iadd, 1) := by decide +kernel
theorem dL_law_1576 : decode cL_law 1576 = .ok (.iaload, 1) := by decide +kernel
theorem dL_law_1577 : decode cL_law 1577 = .ok (.aload_n 0, 1) := by decide +kernel
theorem dL_law_1578 : decode cL_law 1578 = .ok (.iload 4, 2) := by decide +kernel
theorem dL_law_1580 : decode cL_law 1580 = .ok (.iconst 2, 1) := by decide +kernel
theorem dL_law_1581 : decode cL_law 1581 = .ok (.iadd, 1) := by decide +kernel
theorem dL_law_1582 : decode cL_law 1582 = .ok (.iaload, 1) := by decide +kernel
theorem dL_law_1583 : decode cL_law 1583 = .ok (.aload_n 0, 1) := by decide +kernel
theorem dL_law_1584 : decode cL_law 1584 = .ok (.iload 4, 2) := by decide +kernel
theorem dL_law_1586 : decode cL_law 1586 = .ok (.iconst 3, 1) := by decide +kernel
theorem dL_law_1587 : decode cL_law 1587 = .ok (.iadd, 1) := by decide +kernel
theorem dL_law_1588 : decode cL_law 1588 = .ok (.iaload, 1) := by decide +kernel
theorem dL_law_1589 : decode cL_law 1589 = .ok (.invokevirtual 167, 3) := by decide +kernel
theorem dL_law_1592 : decode cL_law 1592 = .ok (.if_icmp .eq 324, 3) := by decide +kernel
theorem dL_law_1595 : decode cL_law 1595 = .ok (.iconst 0, 1) := by decide +kernel
theorem dL_law_1596 : decode cL_law 1596 = .ok (.ireturn, 1) := by decide +kernel
theorem dL_law_1597 : decode cL_law 1597 = .ok (.aload_n 1, 1) := by decide +kernel
theorem dL_law_1598 : decode cL_law 1598 = .ok (.aload_n 0, 1) := by decide +kernel
theorem dL_law_1599 : decode cL_law 1599 = .ok (.iload 4, 2) := by decide +kernel
theorem dL_law_1601 : decode cL_law 1601 = .ok (.iconst 1, 1) := by decide +kernel
theorem dL_law_1602 : decode cL_law 1602 = .ok (.iadd, 1) := by decide +kernel
theorem dL_law_1603 : decode cL_law 1603 = .ok (.iaload, 1) := by decide +kernel
theorem dL_law_1604 : decode cL_law 1604 = .ok (.aload_n 0, 1) := by decide +kernel
theorem dL_law_1605 : decode cL_law 1605 = .ok (.iload 4, 2) := by decide +kernel
theorem dL_law_1607 : decode cL_law 1607 = .ok (.iconst 2, 1) := by decide +kernel
theorem dL_law_1608 : decode cL_law 1608 = .ok (.iadd, 1) := by decide +kernel
theorem dL_law_1609 : decode cL_law 1609 = .ok (.iaload, 1) := by decide +kernel
theorem dL_law_1610 : decode cL_law 1610 = .ok (.aload_n 0, 1) := by decide +kernel
theorem dL_law_1611 : decode cL_law 1611 = .ok (.iload 4, 2) := by decide +kernel
theorem dL_law_1613 : decode cL_law 1613 = .ok (.iconst 3, 1) := by decide +kernel
theorem dL_law_1614 : decode cL_law 1614 = .ok (.iadd, 1) := by decide +kernel
theorem dL_law_1615 : decode cL_law 1615 = .ok (.iaload, 1) := by decide +kernel
theorem dL_law_1616 : decode cL_law 1616 = .ok (.invokevirtual 168, 3) := by decide +kernel
theorem dL_law_1619 : decode cL_law 1619 = .ok (.aload_n 2, 1) := by decide +kernel
theorem dL_law_1620 : decode cL_law 1620 = .ok (.aload_n 0, 1) := by decide +kernel
theorem dL_law_1621 : decode cL_law 1621 = .ok (.iload 4, 2) := by decide +kernel
theorem dL_law_1623 : decode cL_law 1623 = .ok (.iconst 1, 1) := by decide +kernel
theorem dL_law_1624 : decode cL_law 1624 = .ok (.iadd, 1) := by decide +kernel
theorem dL_law_1625 : decode cL_law 1625 = .ok (.iaload, 1) := by decide +kernel
theorem dL_law_1626 : decode cL_law 1626 = .ok (.aload_n 0, 1) := by decide +kernel
theorem dL_law_1627 : decode cL_law 1627 = .ok (.iload 4, 2) := by decide +kernel
theorem dL_law_1629 : decode cL_law 1629 = .ok (.iconst 2, 1) := by decide +kernel
theorem dL_law_1630 : decode cL_law 1630 = .ok (.iadd, 1) := by decide +kernel
theorem dL_law_1631 : decode cL_law 1631 = .ok (.iaload, 1) := by decide +kernel
theorem dL_law_1632 : decode cL_law 1632 = .ok (.aload_n 0, 1) := by decide +kernel
theorem dL_law_1633 : decode cL_law 1633 = .ok (.iload 4, 2) := by decide +kernel
theorem dL_law_1635 : decode cL_law 1635 = .ok (.iconst 3, 1) := by decide +kernel
theorem dL_law_1636 : decode cL_law 1636 = .ok (.iadd, 1) := by decide +kernel
theorem dL_law_1637 : decode cL_law 1637 = .ok (.iaload, 1) := by decide +kernel
theorem dL_law_1638 : decode cL_law 1638 = .ok (.invokevirtual 171, 3) := by decide +kernel
theorem dL_law_1641 : decode cL_law 1641 = .ok (.if_icmp .eq 275, 3) := by decide +kernel
theorem dL_law_1644 : decode cL_law 1644 = .ok (.iconst 0, 1) := by decide +kernel
theorem dL_law_1645 : decode cL_law 1645 = .ok (.ireturn, 1) := by decide +kernel
theorem dL_law_1646 : decode cL_law 1646 = .ok (.aload_n 1, 1) := by decide +kernel
theorem dL_law_1647 : decode cL_law 1647 = .ok (.aload_n 0, 1) := by decide +kernel
theorem dL_law_1648 : decode cL_law 1648 = .ok (.iload 4, 2) := by decide +kernel
theorem dL_law_1650 : decode cL_law 1650 = .ok (.iconst 1, 1) := by decide +kernel
theorem dL_law_1651 : decode cL_law 1651 = .ok (.iadd, 1) := by decide +kernel
theorem dL_law_1652 : decode cL_law 1652 = .ok (.iaload, 1) := by decide +kernel
theorem dL_law_1653 : decode cL_law 1653 = .ok (.aload_n 0, 1) := by decide +kernel
theorem dL_law_1654 : decode cL_law 1654 = .ok (.iload 4, 2) := by decide +kernel
theorem dL_law_1656 : decode cL_law 1656 = .ok (.iconst 2, 1) := by decide +kernel
theorem dL_law_1657 : decode cL_law 1657 = .ok (.iadd, 1) := by decide +kernel
theorem dL_law_1658 : decode cL_law 1658 = .ok (.iaload, 1) := by decide +kernel
theorem dL_law_1659 : decode cL_law 1659 = .ok (.invokevirtual 172, 3) := by decide +kernel
theorem dL_law_1662 : decode cL_law 1662 = .ok (.aload_n 2, 1) := by decide +kernel
theorem dL_law_1663 : decode cL_law 1663 = .ok (.aload_n 0, 1) := by decide +kernel
theorem dL_law_1664 : decode cL_law 1664 = .ok (.iload 4, 2) := by decide +kernel
theorem dL_law_1666 : decode cL_law 1666 = .ok (.iconst 1, 1) := by decide +kernel
theorem dL_law_1667 : decode cL_law 1667 = .ok (.iadd, 1) := by decide +kernel
theorem dL_law_1668 : decode cL_law 1668 = .ok (.iaload, 1) := by decide +kernel
theorem dL_law_1669 : decode cL_law 1669 = .ok (.aload_n 0, 1) := by decide +kernel
theorem dL_law_1670 : decode cL_law 1670 = .ok (.iload 4, 2) := by decide +kernel
theorem dL_law_1672 : decode cL_law 1672 = .ok (.iconst 2, 1) := by decide +kernel
theorem dL_law_1673 : decode cL_law 1673 = .ok (.iadd, 1) := by decide +kernel
theorem dL_law_1674 : decode cL_law 1674 = .ok (.iaload, 1) := by decide +kernel
theorem dL_law_1675 : decode cL_law 1675 = .ok (.invokevirtual 175, 3) := by decide +kernel
theorem dL_law_1678 : decode cL_law 1678 = .ok (.if_icmp .eq 238, 3) := by decide +kernel
theorem dL_law_1681 : decode cL_law 1681 = .ok (.iconst 0, 1) := by decide +kernel
theorem dL_law_1682 : decode cL_law 1682 = .ok (.ireturn, 1) := by decide +kernel
theorem dL_law_1683 : decode cL_law 1683 = .ok (.aload_n 1, 1) := by decide +kernel
theorem dL_law_1684 : decode cL_law 1684 = .ok (.aload_n 0, 1) := by decide +kernel
theorem dL_law_1685 : decode cL_law 1685 = .ok (.iload 4, 2) := by decide +kernel
theorem dL_law_1687 : decode cL_law 1687 = .ok (.iconst 1, 1) := by decide +kernel
theorem dL_law_1688 : decode cL_law 1688 = .ok (.iadd, 1) := by decide +kernel
theorem dL_law_1689 : decode cL_law 1689 = .ok (.iaload, 1) := by decide +kernel
theorem dL_law_1690 : decode cL_law 1690 = .ok (.aload_n 0, 1) := by decide +kernel
theorem dL_law_1691 : decode cL_law 1691 = .ok (.iload 4, 2) := by decide +kernel
theorem dL_law_1693 : decode cL_law 1693 = .ok (.iconst 2, 1) := by decide +kernel
theorem dL_law_1694 : decode cL_law 1694 = .ok (.iadd, 1) := by decide +kernel
theorem dL_law_1695 : decode cL_law 1695 = .ok (.iaload, 1) := by decide +kernel
theorem dL_law_1696 : decode cL_law 1696 = .ok (.invokevirtual 176, 3) := by decide +kernel
theorem dL_law_1699 : decode cL_law 1699 = .ok (.aload_n 2, 1) := by decide +kernel
theorem dL_law_1700 : decode cL_law 1700 = .ok (.aload_n 0, 1) := by decide +kernel
theorem dL_law_1701 : decode cL_law 1701 = .ok (.iload 4, 2) := by decide +kernel
theorem dL_law_1703 : decode cL_law 1703 = .ok (.iconst 1, 1) := by decide +kernel
theorem dL_law_1704 : decode cL_law 1704 = .ok (.iadd, 1) := by decide +kernel
theorem dL_law_1705 : decode cL_law 1705 = .ok (.iaload, 1) := by decide +kernel
theorem dL_law_1706 : decode cL_law 1706 = .ok (.aload_n 0, 1) := by decide +kernel
theorem dL_law_1707 : decode cL_law 1707 = .ok (.iload 4, 2) := by decide +kernel
theorem dL_law_1709 : decode cL_law 1709 = .ok (.iconst 2, 1) := by decide +kernel
theorem dL_law_1710 : decode cL_law 1710 = .ok (.iadd, 1) := by decide +kernel
theorem dL_law_1711 : decode cL_law 1711 = .ok (.iaload, 1) := by decide +kernel
theorem dL_law_1712 : decode cL_law 1712 = .ok (.invokevirtual 179, 3) := by decide +kernel
theorem dL_law_1715 : decode cL_law 1715 = .ok (.if_icmp .eq 201, 3) := by decide +kernel
theorem dL_law_1718 : decode cL_law 1718 = .ok (.iconst 0, 1) := by decide +kernel
theorem dL_law_1719 : decode cL_law 1719 = .ok (.ireturn, 1) := by decide +kernel
theorem dL_law_1720 : decode cL_law 1720 = .ok (.aload_n 1, 1) := by decide +kernel
theorem dL_law_1721 : decode cL_law 1721 = .ok (.aload_n 0, 1) := by decide +kernel
theorem dL_law_1722 : decode cL_law 1722 = .ok (.iload 4, 2) := by decide +kernel
theorem dL_law_1724 : decode cL_law 1724 = .ok (.iconst 1, 1) := by decide +kernel
theorem dL_law_1725 : decode cL_law 1725 = .ok (.iadd, 1) := by decide +kernel
theorem dL_law_1726 : decode cL_law 1726 = .ok (.iaload, 1) := by decide +kernel
theorem dL_law_1727 : decode cL_law 1727 = .ok (.invokevirtual 180, 3) := by decide +kernel
theorem dL_law_1730 : decode cL_law 1730 = .ok (.aload_n 2, 1) := by decide +kernel
theorem dL_law_1731 : decode cL_law 1731 = .ok (.aload_n 0, 1) := by decide +kernel
theorem dL_law_1732 : decode cL_law 1732 = .ok (.iload 4, 2) := by decide +kernel
theorem dL_law_1734 : decode cL_law 1734 = .ok (.iconst 1, 1) := by decide +kernel
theorem dL_law_1735 : decode cL_law 1735 = .ok (.iadd, 1) := by decide +kernel
theorem dL_law_1736 : decode cL_law 1736 = .ok (.iaload, 1) := by decide +kernel
theorem dL_law_1737 : decode cL_law 1737 = .ok (.invokevirtual 184, 3) := by decide +kernel
theorem dL_law_1740 : decode cL_law 1740 = .ok (.lcmp, 1) := by decide +kernel
theorem dL_law_1741 : decode cL_law 1741 = .ok (.ifCond .eq 175, 3) := by decide +kernel
theorem dL_law_1744 : decode cL_law 1744 = .ok (.iconst 0, 1) := by decide +kernel
theorem dL_law_1745 : decode cL_law 1745 = .ok (.ireturn, 1) := by decide +kernel
theorem dL_law_1746 : decode cL_law 1746 = .ok (.aload_n 1, 1) := by decide +kernel
theorem dL_law_1747 : decode cL_law 1747 = .ok (.invokevirtual 185, 3) := by decide +kernel
theorem dL_law_1750 : decode cL_law 1750 = .ok (.aload_n 2, 1) := by decide +kernel
theorem dL_law_1751 : decode cL_law 1751 = .ok (.invokevirtual 189, 3) := by decide +kernel
theorem dL_law_1754 : decode cL_law 1754 = .ok (.if_icmp .eq 162, 3) := by decide +kernel
theorem dL_law_1757 : decode cL_law 1757 = .ok (.iconst 0, 1) := by decide +kernel
theorem dL_law_1758 : decode cL_law 1758 = .ok (.ireturn, 1) := by decide +kernel
theorem dL_law_1759 : decode cL_law 1759 = .ok (.aload_n 1, 1) := by decide +kernel
theorem dL_law_1760 : decode cL_law 1760 = .ok (.invokevirtual 190, 3) := by decide +kernel
theorem dL_law_1763 : decode cL_law 1763 = .ok (.aload_n 2, 1) := by decide +kernel
theorem dL_law_1764 : decode cL_law 1764 = .ok (.invokevirtual 193, 3) := by decide +kernel
theorem dL_law_1767 : decode cL_law 1767 = .ok (.if_icmp .eq 149, 3) := by decide +kernel
theorem dL_law_1770 : decode cL_law 1770 = .ok (.iconst 0, 1) := by decide +kernel
theorem dL_law_1771 : decode cL_law 1771 = .ok (.ireturn, 1) := by decide +kernel
theorem dL_law_1772 : decode cL_law 1772 = .ok (.aload_n 1, 1) := by decide +kernel
theorem dL_law_1773 : decode cL_law 1773 = .ok (.invokevirtual 194, 3) := by decide +kernel
theorem dL_law_1776 : decode cL_law 1776 = .ok (.aload_n 2, 1) := by decide +kernel
theorem dL_law_1777 : decode cL_law 1777 = .ok (.invokevirtual 197, 3) := by decide +kernel
theorem dL_law_1780 : decode cL_law 1780 = .ok (.if_icmp .eq 136, 3) := by decide +kernel
theorem dL_law_1783 : decode cL_law 1783 = .ok (.iconst 0, 1) := by decide +kernel
theorem dL_law_1784 : decode cL_law 1784 = .ok (.ireturn, 1) := by decide +kernel
theorem dL_law_1785 : decode cL_law 1785 = .ok (.aload_n 1, 1) := by decide +kernel
theorem dL_law_1786 : decode cL_law 1786 = .ok (.aload_n 0, 1) := by decide +kernel
theorem dL_law_1787 : decode cL_law 1787 = .ok (.iload 4, 2) := by decide +kernel
theorem dL_law_1789 : decode cL_law 1789 = .ok (.iconst 1, 1) := by decide +kernel
theorem dL_law_1790 : decode cL_law 1790 = .ok (.iadd, 1) := by decide +kernel
theorem dL_law_1791 : decode cL_law 1791 = .ok (.iaload, 1) := by decide +kernel
theorem dL_law_1792 : decode cL_law 1792 = .ok (.invokevirtual 198, 3) := by decide +kernel
theorem dL_law_1795 : decode cL_law 1795 = .ok (.aload_n 2, 1) := by decide +kernel
theorem dL_law_1796 : decode cL_law 1796 = .ok (.aload_n 0, 1) := by decide +kernel
theorem dL_law_1797 : decode cL_law 1797 = .ok (.iload 4, 2) := by decide +kernel
theorem dL_law_1799 : decode cL_law 1799 = .ok (.iconst 1, 1) := by decide +kernel
theorem dL_law_1800 : decode cL_law 1800 = .ok (.iadd, 1) := by decide +kernel
theorem dL_law_1801 : decode cL_law 1801 = .ok (.iaload, 1) := by decide +kernel
theorem dL_law_1802 : decode cL_law 1802 = .ok (.invokevirtual 201, 3) := by decide +kernel
theorem dL_law_1805 : decode cL_law 1805 = .ok (.if_icmp .eq 111, 3) := by decide +kernel
theorem dL_law_1808 : decode cL_law 1808 = .ok (.iconst 0, 1) := by decide +kernel
theorem dL_law_1809 : decode cL_law 1809 = .ok (.ireturn, 1) := by decide +kernel
theorem dL_law_1810 : decode cL_law 1810 = .ok (.aload_n 1, 1) := by decide +kernel
theorem dL_law_1811 : decode cL_law 1811 = .ok (.aload_n 0, 1) := by decide +kernel
theorem dL_law_1812 : decode cL_law 1812 = .ok (.iload 4, 2) := by decide +kernel
theorem dL_law_1814 : decode cL_law 1814 = .ok (.iconst 1, 1) := by decide +kernel
theorem dL_law_1815 : decode cL_law 1815 = .ok (.iadd, 1) := by decide +kernel
theorem dL_law_1816 : decode cL_law 1816 = .ok (.iaload, 1) := by decide +kernel
theorem dL_law_1817 : decode cL_law 1817 = .ok (.aload_n 0, 1) := by decide +kernel
theorem dL_law_1818 : decode cL_law 1818 = .ok (.iload 4, 2) := by decide +kernel
theorem dL_law_1820 : decode cL_law 1820 = .ok (.iconst 2, 1) := by decide +kernel
theorem dL_law_1821 : decode cL_law 1821 = .ok (.iadd, 1) := by decide +kernel
theorem dL_law_1822 : decode cL_law 1822 = .ok (.iaload, 1) := by decide +kernel
theorem dL_law_1823 : decode cL_law 1823 = .ok (.aload_n 3, 1) := by decide +kernel
theorem dL_law_1824 : decode cL_law 1824 = .ok (.invokestatic 202, 3) := by decide +kernel
theorem dL_law_1827 : decode cL_law 1827 = .ok (.istore 5, 2) := by decide +kernel
theorem dL_law_1829 : decode cL_law 1829 = .ok (.aload_n 2, 1) := by decide +kernel
theorem dL_law_1830 : decode cL_law 1830 = .ok (.aload_n 0, 1) := by decide +kernel
theorem dL_law_1831 : decode cL_law 1831 = .ok (.iload 4, 2) := by decide +kernel
theorem dL_law_1833 : decode cL_law 1833 = .ok (.iconst 1, 1) := by decide +kernel
theorem dL_law_1834 : decode cL_law 1834 = .ok (.iadd, 1) := by decide +kernel
theorem dL_law_1835 : decode cL_law 1835 = .ok (.iaload, 1) := by decide +kernel
theorem dL_law_1836 : decode cL_law 1836 = .ok (.aload_n 0, 1) := by decide +kernel
theorem dL_law_1837 : decode cL_law 1837 = .ok (.iload 4, 2) := by decide +kernel
theorem dL_law_1839 : decode cL_law 1839 = .ok (.iconst 2, 1) := by decide +kernel
theorem dL_law_1840 : decode cL_law 1840 = .ok (.iadd, 1) := by decide +kernel
theorem dL_law_1841 : decode cL_law 1841 = .ok (.iaload, 1) := by decide +kernel
theorem dL_law_1842 : decode cL_law 1842 = .ok (.invokevirtual 207, 3) := by decide +kernel
theorem dL_law_1845 : decode cL_law 1845 = .ok (.istore 6, 2) := by decide +kernel
theorem dL_law_1847 : decode cL_law 1847 = .ok (.aload_n 2, 1) := by decide +kernel
theorem dL_law_1848 : decode cL_law 1848 = .ok (.invokevirtual 208, 3) := by decide +kernel
theorem dL_law_1851 : decode cL_law 1851 = .ok (.iload 5, 2) := by decide +kernel
theorem dL_law_1853 : decode cL_law 1853 = .ok (.if_icmp .eq 5, 3) := by decide +kernel
theorem dL_law_1856 : decode cL_law 1856 = .ok (.iconst 0, 1) := by decide +kernel
theorem dL_law_1857 : decode cL_law 1857 = .ok (.ireturn, 1) := by decide +kernel
theorem dL_law_1858 : decode cL_law 1858 = .ok (.iload 5, 2) := by decide +kernel
theorem dL_law_1860 : decode cL_law 1860 = .ok (.ifCond .ne 15, 3) := by decide +kernel
theorem dL_law_1863 : decode cL_law 1863 = .ok (.aload_n 3, 1) := by decide +kernel
theorem dL_law_1864 : decode cL_law 1864 = .ok (.iconst 0, 1) := by decide +kernel
theorem dL_law_1865 : decode cL_law 1865 = .ok (.laload, 1) := by decide +kernel
theorem dL_law_1866 : decode cL_law 1866 = .ok (.iload 6, 2) := by decide +kernel
theorem dL_law_1868 : decode cL_law 1868 = .ok (.i2l, 1) := by decide +kernel
theorem dL_law_1869 : decode cL_law 1869 = .ok (.lcmp, 1) := by decide +kernel
theorem dL_law_1870 : decode cL_law 1870 = .ok (.ifCond .eq 5, 3) := by decide +kernel
theorem dL_law_1873 : decode cL_law 1873 = .ok (.iconst 0, 1) := by decide +kernel
theorem dL_law_1874 : decode cL_law 1874 = .ok (.ireturn, 1) := by decide +kernel
theorem dL_law_1875 : decode cL_law 1875 = .ok (.goto 41, 3) := by decide +kernel
theorem dL_law_1878 : decode cL_law 1878 = .ok (.aload_n 1, 1) := by decide +kernel
theorem dL_law_1879 : decode cL_law 1879 = .ok (.aload_n 0, 1) := by decide +kernel
theorem dL_law_1880 : decode cL_law 1880 = .ok (.iload 4, 2) := by decide +kernel
theorem dL_law_1882 : decode cL_law 1882 = .ok (.iconst 1, 1) := by decide +kernel
theorem dL_law_1883 : decode cL_law 1883 = .ok (.iadd, 1) := by decide +kernel
theorem dL_law_1884 : decode cL_law 1884 = .ok (.iaload, 1) := by decide +kernel
theorem dL_law_1885 : decode cL_law 1885 = .ok (.invokevirtual 211, 3) := by decide +kernel
theorem dL_law_1888 : decode cL_law 1888 = .ok (.aload_n 2, 1) := by decide +kernel
theorem dL_law_1889 : decode cL_law 1889 = .ok (.aload_n 0, 1) := by decide +kernel
theorem dL_law_1890 : decode cL_law 1890 = .ok (.iload 4, 2) := by decide +kernel
theorem dL_law_1892 : decode cL_law 1892 = .ok (.iconst 1, 1) := by decide +kernel
theorem dL_law_1893 : decode cL_law 1893 = .ok (.iadd, 1) := by decide +kernel
theorem dL_law_1894 : decode cL_law 1894 = .ok (.iaload, 1) := by decide +kernel
theorem dL_law_1895 : decode cL_law 1895 = .ok (.invokevirtual 214, 3) := by decide +kernel
theorem dL_law_1898 : decode cL_law 1898 = .ok (.if_icmp .eq 18, 3) := by decide +kernel
theorem dL_law_1901 : decode cL_law 1901 = .ok (.iconst 0, 1) := by decide +kernel
theorem dL_law_1902 : decode cL_law 1902 = .ok (.ireturn, 1) := by decide +kernel
theorem dL_law_1903 : decode cL_law 1903 = .ok (.aload_n 1, 1) := by decide +kernel
theorem dL_law_1904 : decode cL_law 1904 = .ok (.invokevirtual 215, 3) := by decide +kernel
theorem dL_law_1907 : decode cL_law 1907 = .ok (.aload_n 2, 1) := by decide +kernel
theorem dL_law_1908 : decode cL_law 1908 = .ok (.invokevirtual 218, 3) := by decide +kernel
theorem dL_law_1911 : decode cL_law 1911 = .ok (.if_icmp .eq 5, 3) := by decide +kernel
theorem dL_law_1914 : decode cL_law 1914 = .ok (.iconst 0, 1) := by decide +kernel
theorem dL_law_1915 : decode cL_law 1915 = .ok (.ireturn, 1) := by decide +kernel
theorem dL_law_1916 : decode cL_law 1916 = .ok (.iinc 4 6, 3) := by decide +kernel
theorem dL_law_1919 : decode cL_law 1919 = .ok (.goto (-1896), 3) := by decide +kernel
theorem dL_law_1922 : decode cL_law 1922 = .ok (.iconst 1, 1) := by decide +kernel
theorem dL_law_1923 : decode cL_law 1923 = .ok (.ireturn, 1) := by decide +kernel
