theorem dX0_init_0 : decode cX0_init 0 = .ok (.aload_n 0, 1) := by decide +kernel
theorem dX0_init_1 : decode cX0_init 1 = .ok (.invokespecial 3, 3) := by decide +kernel
theorem dX0_init_4 : decode cX0_init 4 = .ok (.aload_n 0, 1) := by decide +kernel
theorem dX0_init_5 : decode cX0_init 5 = .ok (.iconst 4, 1) := by decide +kernel
theorem dX0_init_6 : decode cX0_init 6 = .ok (.anewarray 11, 3) := by decide +kernel
theorem dX0_init_9 : decode cX0_init 9 = .ok (.putfield 13, 3) := by decide +kernel
theorem dX0_init_12 : decode cX0_init 12 = .ok (.aload_n 0, 1) := by decide +kernel
theorem dX0_init_13 : decode cX0_init 13 = .ok (.iconst 4, 1) := by decide +kernel
theorem dX0_init_14 : decode cX0_init 14 = .ok (.anewarray 17, 3) := by decide +kernel
theorem dX0_init_17 : decode cX0_init 17 = .ok (.putfield 19, 3) := by decide +kernel
theorem dX0_init_20 : decode cX0_init 20 = .ok (.aload_n 0, 1) := by decide +kernel
theorem dX0_init_21 : decode cX0_init 21 = .ok (.bipush 8, 2) := by decide +kernel
theorem dX0_init_23 : decode cX0_init 23 = .ok (.bipush 10, 2) := by decide +kernel
theorem dX0_init_25 : decode cX0_init 25 = .ok (.multianewarray 25 2, 4) := by decide +kernel
theorem dX0_init_29 : decode cX0_init 29 = .ok (.putfield 27, 3) := by decide +kernel
theorem dX0_init_32 : decode cX0_init 32 = .ok (.aload_n 0, 1) := by decide +kernel
theorem dX0_init_33 : decode cX0_init 33 = .ok (.bipush 8, 2) := by decide +kernel
theorem dX0_init_35 : decode cX0_init 35 = .ok (.newarray .int, 2) := by decide +kernel
theorem dX0_init_37 : decode cX0_init 37 = .ok (.putfield 30, 3) := by decide +kernel
theorem dX0_init_40 : decode cX0_init 40 = .ok (.aload_n 0, 1) := by decide +kernel
theorem dX0_init_41 : decode cX0_init 41 = .ok (.bipush 16, 2) := by decide +kernel
theorem dX0_init_43 : decode cX0_init 43 = .ok (.newarray .long, 2) := by decide +kernel
theorem dX0_init_45 : decode cX0_init 45 = .ok (.putfield 34, 3) := by decide +kernel
theorem dX0_init_48 : decode cX0_init 48 = .ok (.aload_n 0, 1) := by decide +kernel
theorem dX0_init_49 : decode cX0_init 49 = .ok (.bipush 16, 2) := by decide +kernel
theorem dX0_init_51 : decode cX0_init 51 = .ok (.newarray .int, 2) := by decide +kernel
theorem dX0_init_53 : decode cX0_init 53 = .ok (.putfield 38, 3) := by decide +kernel
theorem dX0_init_56 : decode cX0_init 56 = .ok (.aload_n 0, 1) := by decide +kernel
theorem dX0_init_57 : decode cX0_init 57 = .ok (.bipush 16, 2) := by decide +kernel
theorem dX0_init_59 : decode cX0_init 59 = .ok (.newarray .int, 2) := by decide +kernel
theorem dX0_init_61 : decode cX0_init 61 = .ok (.putfield 41, 3) := by decide +kernel
theorem dX0_init_64 : decode cX0_init 64 = .ok (.aload_n 0, 1) := by decide +kernel
theorem dX0_init_65 : decode cX0_init 65 = .ok (.iconst 0, 1) := by decide +kernel
theorem dX0_init_66 : decode cX0_init 66 = .ok (.putfield 44, 3) := by decide +kernel
theorem dX0_init_69 : decode cX0_init 69 = .ok (.aload_n 0, 1) := by decide +kernel
theorem dX0_init_70 : decode cX0_init 70 = .ok (.iconst 0, 1) := by decide +kernel
theorem dX0_init_71 : decode cX0_init 71 = .ok (.putfield 48, 3) := by decide +kernel
theorem dX0_init_74 : decode cX0_init 74 = .ok (.aload_n 0, 1) := by decide +kernel
theorem dX0_init_75 : decode cX0_init 75 = .ok (.iconst 0, 1) := by decide +kernel
theorem dX0_init_76 : decode cX0_init 76 = .ok (.putfield 51, 3) := by decide +kernel
theorem dX0_init_79 : decode cX0_init 79 = .ok (.aload_n 0, 1) := by decide +kernel
theorem dX0_init_80 : decode cX0_init 80 = .ok (.iconst 0, 1) := by decide +kernel
theorem dX0_init_81 : decode cX0_init 81 = .ok (.putfield 54, 3) := by decide +kernel
theorem dX0_init_84 : decode cX0_init 84 = .ok (.iconst 0, 1) := by decide +kernel
theorem dX0_init_85 : decode cX0_init 85 = .ok (.istore_n 1, 1) := by decide +kernel
theorem dX0_init_86 : decode cX0_init 86 = .ok (.iload_n 1, 1) := by decide +kernel
theorem dX0_init_87 : decode cX0_init 87 = .ok (.aload_n 0, 1) := by decide +kernel
theorem dX0_init_88 : decode cX0_init 88 = .ok (.getfield 13, 3) := by decide +kernel
theorem dX0_init_91 : decode cX0_init 91 = .ok (.arraylength, 1) := by decide +kernel
theorem dX0_init_92 : decode cX0_init 92 = .ok (.if_icmp .ge 22, 3) := by decide +kernel
theorem dX0_init_95 : decode cX0_init 95 = .ok (.aload_n 0, 1) := by decide +kernel
theorem dX0_init_96 : decode cX0_init 96 = .ok (.getfield 13, 3) := by decide +kernel
theorem dX0_init_99 : decode cX0_init 99 = .ok (.iload_n 1, 1) := by decide +kernel
theorem dX0_init_100 : decode cX0_init 100 = .ok (.new 11, 3) := by decide +kernel
theorem dX0_init_103 : decode cX0_init 103 = .ok (.dup, 1) := by decide +kernel
theorem dX0_init_104 : decode cX0_init 104 = .ok (.invokespecial 57, 3) := by decide +kernel
theorem dX0_init_107 : decode cX0_init 107 = .ok (.aastore, 1) := by decide +kernel
theorem dX0_init_108 : decode cX0_init 108 = .ok (.iinc 1 1, 3) := by decide +kernel
theorem dX0_init_111 : decode cX0_init 111 = .ok (.goto (-25), 3) := by decide +kernel
theorem dX0_init_114 : decode cX0_init 114 = .ok (.iconst 0, 1) := by decide +kernel
theorem dX0_init_115 : decode cX0_init 115 = .ok (.istore_n 1, 1) := by decide +kernel
theorem dX0_init_116 : decode cX0_init 116 = .ok (.iload_n 1, 1) := by decide +kernel
theorem dX0_init_117 : decode cX0_init 117 = .ok (.aload_n 0, 1) := by decide +kernel
theorem dX0_init_118 : decode cX0_init 118 = .ok (.getfield 19, 3) := by decide +kernel
theorem dX0_init_121 : decode cX0_init 121 = .ok (.arraylength, 1) := by decide +kernel
theorem dX0_init_122 : decode cX0_init 122 = .ok (.if_icmp .ge 22, 3) := by decide +kernel
theorem dX0_init_125 : decode cX0_init 125 = .ok (.aload_n 0, 1) := by decide +kernel
theorem dX0_init_126 : decode cX0_init 126 = .ok (.getfield 19, 3) := by decide +kernel
theorem dX0_init_129 : decode cX0_init 129 = .ok (.iload_n 1, 1) := by decide +kernel
theorem dX0_init_130 : decode cX0_init 130 = .ok (.new 17, 3) := by decide +kernel
theorem dX0_init_133 : decode cX0_init 133 = .ok (.dup, 1) := by decide +kernel
theorem dX0_init_134 : decode cX0_init 134 = .ok (.invokespecial 58, 3) := by decide +kernel
theorem dX0_init_137 : decode cX0_init 137 = .ok (.aastore, 1) := by decide +kernel
theorem dX0_init_138 : decode cX0_init 138 = .ok (.iinc 1 1, 3) := by decide +kernel
theorem dX0_init_141 : decode cX0_init 141 = .ok (.goto (-25), 3) := by decide +kernel
theorem dX0_init_144 : decode cX0_init 144 = .ok (.return_, 1) := by decide +kernel
theorem dX0_empty_0 : decode cX0_empty 0 = .ok (.aload_n 0, 1) := by decide +kernel
theorem dX0_empty_1 : decode cX0_empty 1 = .ok (.iconst 0, 1) := by decide +kernel
theorem dX0_empty_2 : decode cX0_empty 2 = .ok (.putfield 44, 3) := by decide +kernel
theorem dX0_empty_5 : decode cX0_empty 5 = .ok (.aload_n 0, 1) := by decide +kernel
theorem dX0_empty_6 : decode cX0_empty 6 = .ok (.iconst 0, 1) := by decide +kernel
theorem dX0_empty_7 : decode cX0_empty 7 = .ok (.putfield 48, 3) := by decide +kernel
theorem dX0_empty_10 : decode cX0_empty 10 = .ok (.aload_n 0, 1) := by decide +kernel
theorem dX0_empty_11 : decode cX0_empty 11 = .ok (.iconst 0, 1) := by decide +kernel
theorem dX0_empty_12 : decode cX0_empty 12 = .ok (.putfield 51, 3) := by decide +kernel
theorem dX0_empty_15 : decode cX0_empty 15 = .ok (.aload_n 0, 1) := by decide +kernel
theorem dX0_empty_16 : decode cX0_empty 16 = .ok (.iconst 0, 1) := by decide +kernel
theorem dX0_empty_17 : decode cX0_empty 17 = .ok (.putfield 54, 3) := by decide +kernel
theorem dX0_empty_20 : decode cX0_empty 20 = .ok (.return_, 1) := by decide +kernel
theorem dX0_fieldsHeld_0 : decode cX0_fieldsHeld 0 = .ok (.aload_n 0, 1) := by decide +kernel
theorem dX0_fieldsHeld_1 : decode cX0_fieldsHeld 1 = .ok (.getfield 44, 3) := by decide +kernel
theorem dX0_fieldsHeld_4 : decode cX0_fieldsHeld 4 = .ok (.ireturn, 1) := by decide +kernel
theorem dX0_equationsHeld_0 : decode cX0_equationsHeld 0 = .ok (.aload_n 0, 1) := by decide +kernel
theorem dX0_equationsHeld_1 : decode cX0_equationsHeld 1 = .ok (.getfield 48, 3) := by decide +kernel
theorem dX0_equationsHeld_4 : decode cX0_equationsHeld 4 = .ok (.ireturn, 1) := by decide +kernel
theorem dX0_letsHeld_0 : decode cX0_letsHeld 0 = .ok (.aload_n 0, 1) := by decide +kernel
theorem dX0_letsHeld_1 : decode cX0_letsHeld 1 = .ok (.getfield 51, 3) := by decide +kernel
theorem dX0_letsHeld_4 : decode cX0_letsHeld 4 = .ok (.ireturn, 1) := by decide +kernel
theorem dX0_fieldAt_0 : decode cX0_fieldAt 0 = .ok (.iload_n 1, 1) := by decide +kernel
theorem dX0_fieldAt_1 : decode cX0_fieldAt 1 = .ok (.ifCond .lt 29, 3) := by decide +kernel
theorem dX0_fieldAt_4 : decode cX0_fieldAt 4 = .ok (.iload_n 1, 1) := by decide +kernel
theorem dX0_fieldAt_5 : decode cX0_fieldAt 5 = .ok (.aload_n 0, 1) := by decide +kernel
theorem dX0_fieldAt_6 : decode cX0_fieldAt 6 = .ok (.getfield 44, 3) := by decide +kernel
theorem dX0_fieldAt_9 : decode cX0_fieldAt 9 = .ok (.if_icmp .ge 21, 3) := by decide +kernel
theorem dX0_fieldAt_12 : decode cX0_fieldAt 12 = .ok (.iload_n 1, 1) := by decide +kernel
theorem dX0_fieldAt_13 : decode cX0_fieldAt 13 = .ok (.aload_n 0, 1) := by decide +kernel
theorem dX0_fieldAt_14 : decode cX0_fieldAt 14 = .ok (.getfield 13, 3) := by decide +kernel
theorem dX0_fieldAt_17 : decode cX0_fieldAt 17 = .ok (.arraylength, 1) := by decide +kernel
theorem dX0_fieldAt_18 : decode cX0_fieldAt 18 = .ok (.if_icmp .ge 12, 3) := by decide +kernel
theorem dX0_fieldAt_21 : decode cX0_fieldAt 21 = .ok (.aload_n 0, 1) := by decide +kernel
theorem dX0_fieldAt_22 : decode cX0_fieldAt 22 = .ok (.getfield 13, 3) := by decide +kernel
theorem dX0_fieldAt_25 : decode cX0_fieldAt 25 = .ok (.iload_n 1, 1) := by decide +kernel
theorem dX0_fieldAt_26 : decode cX0_fieldAt 26 = .ok (.aaload, 1) := by decide +kernel
theorem dX0_fieldAt_27 : decode cX0_fieldAt 27 = .ok (.goto 4, 3) := by decide +kernel
theorem dX0_fieldAt_30 : decode cX0_fieldAt 30 = .ok (.aconst_null, 1) := by decide +kernel
theorem dX0_fieldAt_31 : decode cX0_fieldAt 31 = .ok (.areturn, 1) := by decide +kernel
theorem dX0_equationAt_0 : decode cX0_equationAt 0 = .ok (.iload_n 1, 1) := by decide +kernel
theorem dX0_equationAt_1 : decode cX0_equationAt 1 = .ok (.ifCond .lt 29, 3) := by decide +kernel
theorem dX0_equationAt_4 : decode cX0_equationAt 4 = .ok (.iload_n 1, 1) := by decide +kernel
theorem dX0_equationAt_5 : decode cX0_equationAt 5 = .ok (.aload_n 0, 1) := by decide +kernel
theorem dX0_equationAt_6 : decode cX0_equationAt 6 = .ok (.getfield 48, 3) := by decide +kernel
theorem dX0_equationAt_9 : decode cX0_equationAt 9 = .ok (.if_icmp .ge 21, 3) := by decide +kernel
theorem dX0_equationAt_12 : decode cX0_equationAt 12 = .ok (.iload_n 1, 1) := by decide +kernel
theorem dX0_equationAt_13 : decode cX0_equationAt 13 = .ok (.aload_n 0, 1) := by decide +kernel
theorem dX0_equationAt_14 : decode cX0_equationAt 14 = .ok (.getfield 19, 3) := by decide +kernel
theorem dX0_equationAt_17 : decode cX0_equationAt 17 = .ok (.arraylength, 1) := by decide +kernel
theorem dX0_equationAt_18 : decode cX0_equationAt 18 = .ok (.if_icmp .ge 12, 3) := by decide +kernel
theorem dX0_equationAt_21 : decode cX0_equationAt 21 = .ok (.aload_n 0, 1) := by decide +kernel
theorem dX0_equationAt_22 : decode cX0_equationAt 22 = .ok (.getfield 19, 3) := by decide +kernel
theorem dX0_equationAt_25 : decode cX0_equationAt 25 = .ok (.iload_n 1, 1) := by decide +kernel
theorem dX0_equationAt_26 : decode cX0_equationAt 26 = .ok (.aaload, 1) := by decide +kernel
theorem dX0_equationAt_27 : decode cX0_equationAt 27 = .ok (.goto 4, 3) := by decide +kernel
theorem dX0_equationAt_30 : decode cX0_equationAt 30 = .ok (.aconst_null, 1) := by decide +kernel
theorem dX0_equationAt_31 : decode cX0_equationAt 31 = .ok (.areturn, 1) := by decide +kernel
theorem dX0_letFieldAt_0 : decode cX0_letFieldAt 0 = .ok (.iload_n 1, 1) := by decide +kernel
theorem dX0_letFieldAt_1 : decode cX0_letFieldAt 1 = .ok (.ifCond .lt 22, 3) := by decide +kernel
theorem dX0_letFieldAt_4 : decode cX0_letFieldAt 4 = .ok (.iload_n 1, 1) := by decide +kernel
theorem dX0_letFieldAt_5 : decode cX0_letFieldAt 5 = .ok (.aload_n 0, 1) := by decide +kernel
theorem dX0_letFieldAt_6 : decode cX0_letFieldAt 6 = .ok (.getfield 51, 3) := by decide +kernel
theorem dX0_letFieldAt_9 : decode cX0_letFieldAt 9 = .ok (.if_icmp .ge 14, 3) := by decide +kernel
theorem dX0_letFieldAt_12 : decode cX0_letFieldAt 12 = .ok (.aload_n 0, 1) := by decide +kernel
theorem dX0_letFieldAt_13 : decode cX0_letFieldAt 13 = .ok (.getfield 30, 3) := by decide +kernel
theorem dX0_letFieldAt_16 : decode cX0_letFieldAt 16 = .ok (.iload_n 1, 1) := by decide +kernel
theorem dX0_letFieldAt_17 : decode cX0_letFieldAt 17 = .ok (.invokestatic 59, 3) := by decide +kernel
theorem dX0_letFieldAt_20 : decode cX0_letFieldAt 20 = .ok (.goto 4, 3) := by decide +kernel
theorem dX0_letFieldAt_23 : decode cX0_letFieldAt 23 = .ok (.iconst (-1), 1) := by decide +kernel
theorem dX0_letFieldAt_24 : decode cX0_letFieldAt 24 = .ok (.ireturn, 1) := by decide +kernel
theorem dX0_letRowAt_0 : decode cX0_letRowAt 0 = .ok (.iload_n 1, 1) := by decide +kernel
theorem dX0_letRowAt_1 : decode cX0_letRowAt 1 = .ok (.ifCond .lt 22, 3) := by decide +kernel
theorem dX0_letRowAt_4 : decode cX0_letRowAt 4 = .ok (.iload_n 1, 1) := by decide +kernel
theorem dX0_letRowAt_5 : decode cX0_letRowAt 5 = .ok (.aload_n 0, 1) := by decide +kernel
theorem dX0_letRowAt_6 : decode cX0_letRowAt 6 = .ok (.getfield 51, 3) := by decide +kernel
theorem dX0_letRowAt_9 : decode cX0_letRowAt 9 = .ok (.if_icmp .ge 14, 3) := by decide +kernel
theorem dX0_letRowAt_12 : decode cX0_letRowAt 12 = .ok (.aload_n 0, 1) := by decide +kernel
theorem dX0_letRowAt_13 : decode cX0_letRowAt 13 = .ok (.getfield 27, 3) := by decide +kernel
theorem dX0_letRowAt_16 : decode cX0_letRowAt 16 = .ok (.iload_n 1, 1) := by decide +kernel
theorem dX0_letRowAt_17 : decode cX0_letRowAt 17 = .ok (.invokestatic 65, 3) := by decide +kernel
theorem dX0_letRowAt_20 : decode cX0_letRowAt 20 = .ok (.goto 4, 3) := by decide +kernel
theorem dX0_letRowAt_23 : decode cX0_letRowAt 23 = .ok (.aconst_null, 1) := by decide +kernel
theorem dX0_letRowAt_24 : decode cX0_letRowAt 24 = .ok (.areturn, 1) := by decide +kernel
theorem dX0_knows_0 : decode cX0_knows 0 = .ok (.aload_n 0, 1) := by decide +kernel
theorem dX0_knows_1 : decode cX0_knows 1 = .ok (.lload_n 1, 1) := by decide +kernel
theorem dX0_knows_2 : decode cX0_knows 2 = .ok (.invokevirtual 69, 3) := by decide +kernel
theorem dX0_knows_5 : decode cX0_knows 5 = .ok (.ifCond .lt 7, 3) := by decide +kernel
theorem dX0_knows_8 : decode cX0_knows 8 = .ok (.iconst 1, 1) := by decide +kernel
theorem dX0_knows_9 : decode cX0_knows 9 = .ok (.goto 4, 3) := by decide +kernel
theorem dX0_knows_12 : decode cX0_knows 12 = .ok (.iconst 0, 1) := by decide +kernel
theorem dX0_knows_13 : decode cX0_knows 13 = .ok (.ireturn, 1) := by decide +kernel
theorem dX0_find_0 : decode cX0_find 0 = .ok (.aload_n 0, 1) := by decide +kernel
theorem dX0_find_1 : decode cX0_find 1 = .ok (.lload_n 1, 1) := by decide +kernel
theorem dX0_find_2 : decode cX0_find 2 = .ok (.invokevirtual 69, 3) := by decide +kernel
theorem dX0_find_5 : decode cX0_find 5 = .ok (.istore 4, 2) := by decide +kernel
theorem dX0_find_7 : decode cX0_find 7 = .ok (.iload 4, 2) := by decide +kernel
theorem dX0_find_9 : decode cX0_find 9 = .ok (.ifCond .lt 28, 3) := by decide +kernel
theorem dX0_find_12 : decode cX0_find 12 = .ok (.aload_n 0, 1) := by decide +kernel
theorem dX0_find_13 : decode cX0_find 13 = .ok (.getfield 38, 3) := by decide +kernel
theorem dX0_find_16 : decode cX0_find 16 = .ok (.iload 4, 2) := by decide +kernel
theorem dX0_find_18 : decode cX0_find 18 = .ok (.invokestatic 59, 3) := by decide +kernel
theorem dX0_find_21 : decode cX0_find 21 = .ok (.iload_n 3, 1) := by decide +kernel
theorem dX0_find_22 : decode cX0_find 22 = .ok (.if_icmp .ne 15, 3) := by decide +kernel
theorem dX0_find_25 : decode cX0_find 25 = .ok (.aload_n 0, 1) := by decide +kernel
theorem dX0_find_26 : decode cX0_find 26 = .ok (.getfield 41, 3) := by decide +kernel
theorem dX0_find_29 : decode cX0_find 29 = .ok (.iload 4, 2) := by decide +kernel
theorem dX0_find_31 : decode cX0_find 31 = .ok (.invokestatic 59, 3) := by decide +kernel
theorem dX0_find_34 : decode cX0_find 34 = .ok (.goto 4, 3) := by decide +kernel
theorem dX0_find_37 : decode cX0_find 37 = .ok (.iconst (-1), 1) := by decide +kernel
theorem dX0_find_38 : decode cX0_find 38 = .ok (.ireturn, 1) := by decide +kernel
theorem dX0_rankOf_0 : decode cX0_rankOf 0 = .ok (.iconst 0, 1) := by decide +kernel
theorem dX0_rankOf_1 : decode cX0_rankOf 1 = .ok (.istore_n 3, 1) := by decide +kernel
theorem dX0_rankOf_2 : decode cX0_rankOf 2 = .ok (.iload_n 3, 1) := by decide +kernel
theorem dX0_rankOf_3 : decode cX0_rankOf 3 = .ok (.aload_n 0, 1) := by decide +kernel
theorem dX0_rankOf_4 : decode cX0_rankOf 4 = .ok (.getfield 54, 3) := by decide +kernel
theorem dX0_rankOf_7 : decode cX0_rankOf 7 = .ok (.if_icmp .ge 31, 3) := by decide +kernel
theorem dX0_rankOf_10 : decode cX0_rankOf 10 = .ok (.iload_n 3, 1) := by decide +kernel
theorem dX0_rankOf_11 : decode cX0_rankOf 11 = .ok (.aload_n 0, 1) := by decide +kernel
theorem dX0_rankOf_12 : decode cX0_rankOf 12 = .ok (.getfield 34, 3) := by decide +kernel
theorem dX0_rankOf_15 : decode cX0_rankOf 15 = .ok (.arraylength, 1) := by decide +kernel
theorem dX0_rankOf_16 : decode cX0_rankOf 16 = .ok (.if_icmp .ge 22, 3) := by decide +kernel
theorem dX0_rankOf_19 : decode cX0_rankOf 19 = .ok (.aload_n 0, 1) := by decide +kernel
theorem dX0_rankOf_20 : decode cX0_rankOf 20 = .ok (.getfield 34, 3) := by decide +kernel
theorem dX0_rankOf_23 : decode cX0_rankOf 23 = .ok (.iload_n 3, 1) := by decide +kernel
theorem dX0_rankOf_24 : decode cX0_rankOf 24 = .ok (.laload, 1) := by decide +kernel
theorem dX0_rankOf_25 : decode cX0_rankOf 25 = .ok (.lload_n 1, 1) := by decide +kernel
theorem dX0_rankOf_26 : decode cX0_rankOf 26 = .ok (.lcmp, 1) := by decide +kernel
theorem dX0_rankOf_27 : decode cX0_rankOf 27 = .ok (.ifCond .ne 5, 3) := by decide +kernel
theorem dX0_rankOf_30 : decode cX0_rankOf 30 = .ok (.iload_n 3, 1) := by decide +kernel
theorem dX0_rankOf_31 : decode cX0_rankOf 31 = .ok (.ireturn, 1) := by decide +kernel
theorem dX0_rankOf_32 : decode cX0_rankOf 32 = .ok (.iinc 3 1, 3) := by decide +kernel
theorem dX0_rankOf_35 : decode cX0_rankOf 35 = .ok (.goto (-33), 3) := by decide +kernel
theorem dX0_rankOf_38 : decode cX0_rankOf 38 = .ok (.iconst (-1), 1) := by decide +kernel
theorem dX0_rankOf_39 : decode cX0_rankOf 39 = .ok (.ireturn, 1) := by decide +kernel
theorem dX0_tell_0 : decode cX0_tell 0 = .ok (.aload_n 0, 1) := by decide +kernel
theorem dX0_tell_1 : decode cX0_tell 1 = .ok (.getfield 34, 3) := by decide +kernel
theorem dX0_tell_4 : decode cX0_tell 4 = .ok (.aload_n 0, 1) := by decide +kernel
theorem dX0_tell_5 : decode cX0_tell 5 = .ok (.getfield 54, 3) := by decide +kernel
theorem dX0_tell_8 : decode cX0_tell 8 = .ok (.lload_n 1, 1) := by decide +kernel
theorem dX0_tell_9 : decode cX0_tell 9 = .ok (.invokestatic 73, 3) := by decide +kernel
theorem dX0_tell_12 : decode cX0_tell 12 = .ok (.aload_n 0, 1) := by decide +kernel
theorem dX0_tell_13 : decode cX0_tell 13 = .ok (.getfield 38, 3) := by decide +kernel
theorem dX0_tell_16 : decode cX0_tell 16 = .ok (.aload_n 0, 1) := by decide +kernel
theorem dX0_tell_17 : decode cX0_tell 17 = .ok (.getfield 54, 3) := by decide +kernel
theorem dX0_tell_20 : decode cX0_tell 20 = .ok (.iload_n 3, 1) := by decide +kernel
theorem dX0_tell_21 : decode cX0_tell 21 = .ok (.invokestatic 77, 3) := by decide +kernel
theorem dX0_tell_24 : decode cX0_tell 24 = .ok (.aload_n 0, 1) := by decide +kernel
theorem dX0_tell_25 : decode cX0_tell 25 = .ok (.getfield 41, 3) := by decide +kernel
theorem dX0_tell_28 : decode cX0_tell 28 = .ok (.aload_n 0, 1) := by decide +kernel
theorem dX0_tell_29 : decode cX0_tell 29 = .ok (.getfield 54, 3) := by decide +kernel
theorem dX0_tell_32 : decode cX0_tell 32 = .ok (.iload 4, 2) := by decide +kernel
theorem dX0_tell_34 : decode cX0_tell 34 = .ok (.invokestatic 77, 3) := by decide +kernel
theorem dX0_tell_37 : decode cX0_tell 37 = .ok (.aload_n 0, 1) := by decide +kernel
theorem dX0_tell_38 : decode cX0_tell 38 = .ok (.dup, 1) := by decide +kernel
theorem dX0_tell_39 : decode cX0_tell 39 = .ok (.getfield 54, 3) := by decide +kernel
theorem dX0_tell_42 : decode cX0_tell 42 = .ok (.iconst 1, 1) := by decide +kernel
theorem dX0_tell_43 : decode cX0_tell 43 = .ok (.iadd, 1) := by decide +kernel
theorem dX0_tell_44 : decode cX0_tell 44 = .ok (.putfield 54, 3) := by decide +kernel
theorem dX0_tell_47 : decode cX0_tell 47 = .ok (.return_, 1) := by decide +kernel
theorem dX0_tellField_0 : decode cX0_tellField 0 = .ok (.aload_n 0, 1) := by decide +kernel
theorem dX0_tellField_1 : decode cX0_tellField 1 = .ok (.getfield 44, 3) := by decide +kernel
theorem dX0_tellField_4 : decode cX0_tellField 4 = .ok (.aload_n 0, 1) := by decide +kernel
theorem dX0_tellField_5 : decode cX0_tellField 5 = .ok (.getfield 13, 3) := by decide +kernel
theorem dX0_tellField_8 : decode cX0_tellField 8 = .ok (.arraylength, 1) := by decide +kernel
theorem dX0_tellField_9 : decode cX0_tellField 9 = .ok (.if_icmp .ge 50, 3) := by decide +kernel
theorem dX0_tellField_12 : decode cX0_tellField 12 = .ok (.aload_n 0, 1) := by decide +kernel
theorem dX0_tellField_13 : decode cX0_tellField 13 = .ok (.getfield 13, 3) := by decide +kernel
theorem dX0_tellField_16 : decode cX0_tellField 16 = .ok (.aload_n 0, 1) := by decide +kernel
theorem dX0_tellField_17 : decode cX0_tellField 17 = .ok (.getfield 44, 3) := by decide +kernel
theorem dX0_tellField_20 : decode cX0_tellField 20 = .ok (.aaload, 1) := by decide +kernel
theorem dX0_tellField_21 : decode cX0_tellField 21 = .ok (.ifnull 38, 3) := by decide +kernel
theorem dX0_tellField_24 : decode cX0_tellField 24 = .ok (.aload_n 0, 1) := by decide +kernel
theorem dX0_tellField_25 : decode cX0_tellField 25 = .ok (.getfield 13, 3) := by decide +kernel
theorem dX0_tellField_28 : decode cX0_tellField 28 = .ok (.aload_n 0, 1) := by decide +kernel
theorem dX0_tellField_29 : decode cX0_tellField 29 = .ok (.getfield 44, 3) := by decide +kernel
theorem dX0_tellField_32 : decode cX0_tellField 32 = .ok (.aaload, 1) := by decide +kernel
theorem dX0_tellField_33 : decode cX0_tellField 33 = .ok (.iload_n 3, 1) := by decide +kernel
theorem dX0_tellField_34 : decode cX0_tellField 34 = .ok (.iload 4, 2) := by decide +kernel
theorem dX0_tellField_36 : decode cX0_tellField 36 = .ok (.invokevirtual 81, 3) := by decide +kernel
theorem dX0_tellField_39 : decode cX0_tellField 39 = .ok (.aload_n 0, 1) := by decide +kernel
theorem dX0_tellField_40 : decode cX0_tellField 40 = .ok (.lload_n 1, 1) := by decide +kernel
theorem dX0_tellField_41 : decode cX0_tellField 41 = .ok (.iconst 1, 1) := by decide +kernel
theorem dX0_tellField_42 : decode cX0_tellField 42 = .ok (.aload_n 0, 1) := by decide +kernel
theorem dX0_tellField_43 : decode cX0_tellField 43 = .ok (.getfield 44, 3) := by decide +kernel
theorem dX0_tellField_46 : decode cX0_tellField 46 = .ok (.invokevirtual 85, 3) := by decide +kernel
theorem dX0_tellField_49 : decode cX0_tellField 49 = .ok (.aload_n 0, 1) := by decide +kernel
theorem dX0_tellField_50 : decode cX0_tellField 50 = .ok (.dup, 1) := by decide +kernel
theorem dX0_tellField_51 : decode cX0_tellField 51 = .ok (.getfield 44, 3) := by decide +kernel
theorem dX0_tellField_54 : decode cX0_tellField 54 = .ok (.iconst 1, 1) := by decide +kernel
theorem dX0_tellField_55 : decode cX0_tellField 55 = .ok (.iadd, 1) := by decide +kernel
theorem dX0_tellField_56 : decode cX0_tellField 56 = .ok (.putfield 44, 3) := by decide +kernel
theorem dX0_tellField_59 : decode cX0_tellField 59 = .ok (.return_, 1) := by decide +kernel
theorem dX0_nextEquation_0 : decode cX0_nextEquation 0 = .ok (.aload_n 0, 1) := by decide +kernel
theorem dX0_nextEquation_1 : decode cX0_nextEquation 1 = .ok (.getfield 48, 3) := by decide +kernel
theorem dX0_nextEquation_4 : decode cX0_nextEquation 4 = .ok (.aload_n 0, 1) := by decide +kernel
theorem dX0_nextEquation_5 : decode cX0_nextEquation 5 = .ok (.getfield 19, 3) := by decide +kernel
theorem dX0_nextEquation_8 : decode cX0_nextEquation 8 = .ok (.arraylength, 1) := by decide +kernel
theorem dX0_nextEquation_9 : decode cX0_nextEquation 9 = .ok (.if_icmp .ge 15, 3) := by decide +kernel
theorem dX0_nextEquation_12 : decode cX0_nextEquation 12 = .ok (.aload_n 0, 1) := by decide +kernel
theorem dX0_nextEquation_13 : decode cX0_nextEquation 13 = .ok (.getfield 19, 3) := by decide +kernel
theorem dX0_nextEquation_16 : decode cX0_nextEquation 16 = .ok (.aload_n 0, 1) := by decide +kernel
theorem dX0_nextEquation_17 : decode cX0_nextEquation 17 = .ok (.getfield 48, 3) := by decide +kernel
theorem dX0_nextEquation_20 : decode cX0_nextEquation 20 = .ok (.aaload, 1) := by decide +kernel
theorem dX0_nextEquation_21 : decode cX0_nextEquation 21 = .ok (.goto 4, 3) := by decide +kernel
theorem dX0_nextEquation_24 : decode cX0_nextEquation 24 = .ok (.aconst_null, 1) := by decide +kernel
theorem dX0_nextEquation_25 : decode cX0_nextEquation 25 = .ok (.areturn, 1) := by decide +kernel
theorem dX0_tellEquation_0 : decode cX0_tellEquation 0 = .ok (.aload_n 0, 1) := by decide +kernel
theorem dX0_tellEquation_1 : decode cX0_tellEquation 1 = .ok (.lload_n 1, 1) := by decide +kernel
theorem dX0_tellEquation_2 : decode cX0_tellEquation 2 = .ok (.iconst 2, 1) := by decide +kernel
theorem dX0_tellEquation_3 : decode cX0_tellEquation 3 = .ok (.aload_n 0, 1) := by decide +kernel
theorem dX0_tellEquation_4 : decode cX0_tellEquation 4 = .ok (.getfield 48, 3) := by decide +kernel
theorem dX0_tellEquation_7 : decode cX0_tellEquation 7 = .ok (.invokevirtual 85, 3) := by decide +kernel
theorem dX0_tellEquation_10 : decode cX0_tellEquation 10 = .ok (.aload_n 0, 1) := by decide +kernel
theorem dX0_tellEquation_11 : decode cX0_tellEquation 11 = .ok (.dup, 1) := by decide +kernel
theorem dX0_tellEquation_12 : decode cX0_tellEquation 12 = .ok (.getfield 48, 3) := by decide +kernel
theorem dX0_tellEquation_15 : decode cX0_tellEquation 15 = .ok (.iconst 1, 1) := by decide +kernel
theorem dX0_tellEquation_16 : decode cX0_tellEquation 16 = .ok (.iadd, 1) := by decide +kernel
theorem dX0_tellEquation_17 : decode cX0_tellEquation 17 = .ok (.putfield 48, 3) := by decide +kernel
theorem dX0_tellEquation_20 : decode cX0_tellEquation 20 = .ok (.return_, 1) := by decide +kernel
theorem dX0_tellLet_0 : decode cX0_tellLet 0 = .ok (.aload 4, 2) := by decide +kernel
theorem dX0_tellLet_2 : decode cX0_tellLet 2 = .ok (.aload_n 0, 1) := by decide +kernel
theorem dX0_tellLet_3 : decode cX0_tellLet 3 = .ok (.getfield 27, 3) := by decide +kernel
theorem dX0_tellLet_6 : decode cX0_tellLet 6 = .ok (.aload_n 0, 1) := by decide +kernel
theorem dX0_tellLet_7 : decode cX0_tellLet 7 = .ok (.getfield 51, 3) := by decide +kernel
theorem dX0_tellLet_10 : decode cX0_tellLet 10 = .ok (.invokestatic 65, 3) := by decide +kernel
theorem dX0_tellLet_13 : decode cX0_tellLet 13 = .ok (.invokestatic 89, 3) := by decide +kernel
theorem dX0_tellLet_16 : decode cX0_tellLet 16 = .ok (.aload_n 0, 1) := by decide +kernel
theorem dX0_tellLet_17 : decode cX0_tellLet 17 = .ok (.getfield 30, 3) := by decide +kernel
theorem dX0_tellLet_20 : decode cX0_tellLet 20 = .ok (.aload_n 0, 1) := by decide +kernel
theorem dX0_tellLet_21 : decode cX0_tellLet 21 = .ok (.getfield 51, 3) := by decide +kernel
theorem dX0_tellLet_24 : decode cX0_tellLet 24 = .ok (.iload_n 3, 1) := by decide +kernel
theorem dX0_tellLet_25 : decode cX0_tellLet 25 = .ok (.invokestatic 77, 3) := by decide +kernel
theorem dX0_tellLet_28 : decode cX0_tellLet 28 = .ok (.aload_n 0, 1) := by decide +kernel
theorem dX0_tellLet_29 : decode cX0_tellLet 29 = .ok (.lload_n 1, 1) := by decide +kernel
theorem dX0_tellLet_30 : decode cX0_tellLet 30 = .ok (.iconst 3, 1) := by decide +kernel
theorem dX0_tellLet_31 : decode cX0_tellLet 31 = .ok (.aload_n 0, 1) := by decide +kernel
theorem dX0_tellLet_32 : decode cX0_tellLet 32 = .ok (.getfield 51, 3) := by decide +kernel
theorem dX0_tellLet_35 : decode cX0_tellLet 35 = .ok (.invokevirtual 85, 3) := by decide +kernel
theorem dX0_tellLet_38 : decode cX0_tellLet 38 = .ok (.aload_n 0, 1) := by decide +kernel
theorem dX0_tellLet_39 : decode cX0_tellLet 39 = .ok (.dup, 1) := by decide +kernel
theorem dX0_tellLet_40 : decode cX0_tellLet 40 = .ok (.getfield 51, 3) := by decide +kernel
theorem dX0_tellLet_43 : decode cX0_tellLet 43 = .ok (.iconst 1, 1) := by decide +kernel
theorem dX0_tellLet_44 : decode cX0_tellLet 44 = .ok (.iadd, 1) := by decide +kernel
theorem dX0_tellLet_45 : decode cX0_tellLet 45 = .ok (.putfield 51, 3) := by decide +kernel
theorem dX0_tellLet_48 : decode cX0_tellLet 48 = .ok (.return_, 1) := by decide +kernel
theorem dX1_init_0 : decode cX1_init 0 = .ok (.aload_n 0, 1) := by decide +kernel
theorem dX1_init_1 : decode cX1_init 1 = .ok (.invokespecial 1, 3) := by decide +kernel
theorem dX1_init_4 : decode cX1_init 4 = .ok (.aload_n 0, 1) := by decide +kernel
theorem dX1_init_5 : decode cX1_init 5 = .ok (.iconst 3, 1) := by decide +kernel
theorem dX1_init_6 : decode cX1_init 6 = .ok (.newarray .int, 2) := by decide +kernel
theorem dX1_init_8 : decode cX1_init 8 = .ok (.putfield 9, 3) := by decide +kernel
theorem dX1_init_11 : decode cX1_init 11 = .ok (.aload_n 0, 1) := by decide +kernel
theorem dX1_init_12 : decode cX1_init 12 = .ok (.iconst 3, 1) := by decide +kernel
theorem dX1_init_13 : decode cX1_init 13 = .ok (.newarray .int, 2) := by decide +kernel
theorem dX1_init_15 : decode cX1_init 15 = .ok (.putfield 13, 3) := by decide +kernel
theorem dX1_init_18 : decode cX1_init 18 = .ok (.aload_n 0, 1) := by decide +kernel
theorem dX1_init_19 : decode cX1_init 19 = .ok (.sipush 199, 3) := by decide +kernel
theorem dX1_init_22 : decode cX1_init 22 = .ok (.newarray .long, 2) := by decide +kernel
theorem dX1_init_24 : decode cX1_init 24 = .ok (.putfield 18, 3) := by decide +kernel
theorem dX1_init_27 : decode cX1_init 27 = .ok (.aload_n 0, 1) := by decide +kernel
theorem dX1_init_28 : decode cX1_init 28 = .ok (.sipush 199, 3) := by decide +kernel
theorem dX1_init_31 : decode cX1_init 31 = .ok (.newarray .long, 2) := by decide +kernel
theorem dX1_init_33 : decode cX1_init 33 = .ok (.putfield 22, 3) := by decide +kernel
theorem dX1_init_36 : decode cX1_init 36 = .ok (.aload_n 0, 1) := by decide +kernel
theorem dX1_init_37 : decode cX1_init 37 = .ok (.iconst 0, 1) := by decide +kernel
theorem dX1_init_38 : decode cX1_init 38 = .ok (.putfield 25, 3) := by decide +kernel
theorem dX1_init_41 : decode cX1_init 41 = .ok (.aload_n 0, 1) := by decide +kernel
theorem dX1_init_42 : decode cX1_init 42 = .ok (.iconst 0, 1) := by decide +kernel
theorem dX1_init_43 : decode cX1_init 43 = .ok (.putfield 29, 3) := by decide +kernel
theorem dX1_init_46 : decode cX1_init 46 = .ok (.aload_n 0, 1) := by decide +kernel
theorem dX1_init_47 : decode cX1_init 47 = .ok (.iconst 0, 1) := by decide +kernel
theorem dX1_init_48 : decode cX1_init 48 = .ok (.putfield 32, 3) := by decide +kernel
theorem dX1_init_51 : decode cX1_init 51 = .ok (.return_, 1) := by decide +kernel
theorem dX1_begin_0 : decode cX1_begin 0 = .ok (.aload_n 0, 1) := by decide +kernel
theorem dX1_begin_1 : decode cX1_begin 1 = .ok (.iload_n 1, 1) := by decide +kernel
theorem dX1_begin_2 : decode cX1_begin 2 = .ok (.putfield 25, 3) := by decide +kernel
theorem dX1_begin_5 : decode cX1_begin 5 = .ok (.aload_n 0, 1) := by decide +kernel
theorem dX1_begin_6 : decode cX1_begin 6 = .ok (.iconst 0, 1) := by decide +kernel
theorem dX1_begin_7 : decode cX1_begin 7 = .ok (.putfield 29, 3) := by decide +kernel
theorem dX1_begin_10 : decode cX1_begin 10 = .ok (.return_, 1) := by decide +kernel
theorem dX1_append_0 : decode cX1_append 0 = .ok (.aload_n 0, 1) := by decide +kernel
theorem dX1_append_1 : decode cX1_append 1 = .ok (.getfield 9, 3) := by decide +kernel
theorem dX1_append_4 : decode cX1_append 4 = .ok (.aload_n 0, 1) := by decide +kernel
theorem dX1_append_5 : decode cX1_append 5 = .ok (.getfield 29, 3) := by decide +kernel
theorem dX1_append_8 : decode cX1_append 8 = .ok (.iload_n 1, 1) := by decide +kernel
theorem dX1_append_9 : decode cX1_append 9 = .ok (.invokestatic 35, 3) := by decide +kernel
theorem dX1_append_12 : decode cX1_append 12 = .ok (.aload_n 0, 1) := by decide +kernel
theorem dX1_append_13 : decode cX1_append 13 = .ok (.getfield 13, 3) := by decide +kernel
theorem dX1_append_16 : decode cX1_append 16 = .ok (.aload_n 0, 1) := by decide +kernel
theorem dX1_append_17 : decode cX1_append 17 = .ok (.getfield 29, 3) := by decide +kernel
theorem dX1_append_20 : decode cX1_append 20 = .ok (.iload_n 2, 1) := by decide +kernel
theorem dX1_append_21 : decode cX1_append 21 = .ok (.invokestatic 35, 3) := by decide +kernel
theorem dX1_append_24 : decode cX1_append 24 = .ok (.aload_n 0, 1) := by decide +kernel
theorem dX1_append_25 : decode cX1_append 25 = .ok (.dup, 1) := by decide +kernel
theorem dX1_append_26 : decode cX1_append 26 = .ok (.getfield 29, 3) := by decide +kernel
theorem dX1_append_29 : decode cX1_append 29 = .ok (.iconst 1, 1) := by decide +kernel
theorem dX1_append_30 : decode cX1_append 30 = .ok (.iadd, 1) := by decide +kernel
theorem dX1_append_31 : decode cX1_append 31 = .ok (.putfield 29, 3) := by decide +kernel
theorem dX1_append_34 : decode cX1_append 34 = .ok (.return_, 1) := by decide +kernel
theorem dX1_close_0 : decode cX1_close 0 = .ok (.aload_n 0, 1) := by decide +kernel
theorem dX1_close_1 : decode cX1_close 1 = .ok (.iload_n 1, 1) := by decide +kernel
theorem dX1_close_2 : decode cX1_close 2 = .ok (.putfield 32, 3) := by decide +kernel
theorem dX1_close_5 : decode cX1_close 5 = .ok (.return_, 1) := by decide +kernel
theorem dX1_isFull_0 : decode cX1_isFull 0 = .ok (.aload_n 0, 1) := by decide +kernel
theorem dX1_isFull_1 : decode cX1_isFull 1 = .ok (.getfield 29, 3) := by decide +kernel
theorem dX1_isFull_4 : decode cX1_isFull 4 = .ok (.iconst 3, 1) := by decide +kernel
theorem dX1_isFull_5 : decode cX1_isFull 5 = .ok (.if_icmp .lt 7, 3) := by decide +kernel
theorem dX1_isFull_8 : decode cX1_isFull 8 = .ok (.iconst 1, 1) := by decide +kernel
theorem dX1_isFull_9 : decode cX1_isFull 9 = .ok (.goto 4, 3) := by decide +kernel
theorem dX1_isFull_12 : decode cX1_isFull 12 = .ok (.iconst 0, 1) := by decide +kernel
theorem dX1_isFull_13 : decode cX1_isFull 13 = .ok (.ireturn, 1) := by decide +kernel
theorem dX1_prime_0 : decode cX1_prime 0 = .ok (.aload_n 0, 1) := by decide +kernel
theorem dX1_prime_1 : decode cX1_prime 1 = .ok (.getfield 25, 3) := by decide +kernel
theorem dX1_prime_4 : decode cX1_prime 4 = .ok (.ireturn, 1) := by decide +kernel
theorem dX1_result_0 : decode cX1_result 0 = .ok (.aload_n 0, 1) := by decide +kernel
theorem dX1_result_1 : decode cX1_result 1 = .ok (.getfield 32, 3) := by decide +kernel
theorem dX1_result_4 : decode cX1_result 4 = .ok (.ireturn, 1) := by decide +kernel
theorem dX1_valueAt_0 : decode cX1_valueAt 0 = .ok (.aload_n 0, 1) := by decide +kernel
theorem dX1_valueAt_1 : decode cX1_valueAt 1 = .ok (.getfield 9, 3) := by decide +kernel
theorem dX1_valueAt_4 : decode cX1_valueAt 4 = .ok (.iload_n 1, 1) := by decide +kernel
theorem dX1_valueAt_5 : decode cX1_valueAt 5 = .ok (.invokestatic 41, 3) := by decide +kernel
theorem dX1_valueAt_8 : decode cX1_valueAt 8 = .ok (.istore_n 3, 1) := by decide +kernel
theorem dX1_valueAt_9 : decode cX1_valueAt 9 = .ok (.iconst 0, 1) := by decide +kernel
theorem dX1_valueAt_10 : decode cX1_valueAt 10 = .ok (.istore 4, 2) := by decide +kernel
theorem dX1_valueAt_12 : decode cX1_valueAt 12 = .ok (.iload 4, 2) := by decide +kernel
theorem dX1_valueAt_14 : decode cX1_valueAt 14 = .ok (.aload_n 0, 1) := by decide +kernel
theorem dX1_valueAt_15 : decode cX1_valueAt 15 = .ok (.getfield 13, 3) := by decide +kernel
theorem dX1_valueAt_18 : decode cX1_valueAt 18 = .ok (.iload_n 1, 1) := by decide +kernel
theorem dX1_valueAt_19 : decode cX1_valueAt 19 = .ok (.invokestatic 41, 3) := by decide +kernel
theorem dX1_valueAt_22 : decode cX1_valueAt 22 = .ok (.if_icmp .ge 21, 3) := by decide +kernel
theorem dX1_valueAt_25 : decode cX1_valueAt 25 = .ok (.iload_n 3, 1) := by decide +kernel
theorem dX1_valueAt_26 : decode cX1_valueAt 26 = .ok (.iload_n 2, 1) := by decide +kernel
theorem dX1_valueAt_27 : decode cX1_valueAt 27 = .ok (.imul, 1) := by decide +kernel
theorem dX1_valueAt_28 : decode cX1_valueAt 28 = .ok (.i2l, 1) := by decide +kernel
theorem dX1_valueAt_29 : decode cX1_valueAt 29 = .ok (.aload_n 0, 1) := by decide +kernel
theorem dX1_valueAt_30 : decode cX1_valueAt 30 = .ok (.getfield 25, 3) := by decide +kernel
theorem dX1_valueAt_33 : decode cX1_valueAt 33 = .ok (.invokestatic 45, 3) := by decide +kernel
theorem dX1_valueAt_36 : decode cX1_valueAt 36 = .ok (.istore_n 3, 1) := by decide +kernel
theorem dX1_valueAt_37 : decode cX1_valueAt 37 = .ok (.iinc 4 1, 3) := by decide +kernel
theorem dX1_valueAt_40 : decode cX1_valueAt 40 = .ok (.goto (-28), 3) := by decide +kernel
theorem dX1_valueAt_43 : decode cX1_valueAt 43 = .ok (.iload_n 3, 1) := by decide +kernel
theorem dX1_valueAt_44 : decode cX1_valueAt 44 = .ok (.ireturn, 1) := by decide +kernel
theorem dX1_ways_0 : decode cX1_ways 0 = .ok (.aload_n 0, 1) := by decide +kernel
theorem dX1_ways_1 : decode cX1_ways 1 = .ok (.getfield 18, 3) := by decide +kernel
theorem dX1_ways_4 : decode cX1_ways 4 = .ok (.lconst 1, 1) := by decide +kernel
theorem dX1_ways_5 : decode cX1_ways 5 = .ok (.invokestatic 49, 3) := by decide +kernel
theorem dX1_ways_8 : decode cX1_ways 8 = .ok (.iconst 0, 1) := by decide +kernel
theorem dX1_ways_9 : decode cX1_ways 9 = .ok (.istore_n 2, 1) := by decide +kernel
theorem dX1_ways_10 : decode cX1_ways 10 = .ok (.iload_n 2, 1) := by decide +kernel
theorem dX1_ways_11 : decode cX1_ways 11 = .ok (.iconst 1, 1) := by decide +kernel
theorem dX1_ways_12 : decode cX1_ways 12 = .ok (.iadd, 1) := by decide +kernel
theorem dX1_ways_13 : decode cX1_ways 13 = .ok (.aload_n 0, 1) := by decide +kernel
theorem dX1_ways_14 : decode cX1_ways 14 = .ok (.getfield 29, 3) := by decide +kernel
theorem dX1_ways_17 : decode cX1_ways 17 = .ok (.if_icmp .ge 14, 3) := by decide +kernel
theorem dX1_ways_20 : decode cX1_ways 20 = .ok (.aload_n 0, 1) := by decide +kernel
theorem dX1_ways_21 : decode cX1_ways 21 = .ok (.iload_n 2, 1) := by decide +kernel
theorem dX1_ways_22 : decode cX1_ways 22 = .ok (.invokevirtual 53, 3) := by decide +kernel
theorem dX1_ways_25 : decode cX1_ways 25 = .ok (.iinc 2 1, 3) := by decide +kernel
theorem dX1_ways_28 : decode cX1_ways 28 = .ok (.goto (-18), 3) := by decide +kernel
theorem dX1_ways_31 : decode cX1_ways 31 = .ok (.lconst 0, 1) := by decide +kernel
theorem dX1_ways_32 : decode cX1_ways 32 = .ok (.lstore_n 2, 1) := by decide +kernel
theorem dX1_ways_33 : decode cX1_ways 33 = .ok (.iconst 0, 1) := by decide +kernel
theorem dX1_ways_34 : decode cX1_ways 34 = .ok (.istore 4, 2) := by decide +kernel
theorem dX1_ways_36 : decode cX1_ways 36 = .ok (.iload 4, 2) := by decide +kernel
theorem dX1_ways_38 : decode cX1_ways 38 = .ok (.aload_n 0, 1) := by decide +kernel
theorem dX1_ways_39 : decode cX1_ways 39 = .ok (.getfield 25, 3) := by decide +kernel
theorem dX1_ways_42 : decode cX1_ways 42 = .ok (.if_icmp .ge 41, 3) := by decide +kernel
theorem dX1_ways_45 : decode cX1_ways 45 = .ok (.lload_n 2, 1) := by decide +kernel
theorem dX1_ways_46 : decode cX1_ways 46 = .ok (.aload_n 0, 1) := by decide +kernel
theorem dX1_ways_47 : decode cX1_ways 47 = .ok (.getfield 18, 3) := by decide +kernel
theorem dX1_ways_50 : decode cX1_ways 50 = .ok (.iload_n 1, 1) := by decide +kernel
theorem dX1_ways_51 : decode cX1_ways 51 = .ok (.aload_n 0, 1) := by decide +kernel
theorem dX1_ways_52 : decode cX1_ways 52 = .ok (.aload_n 0, 1) := by decide +kernel
theorem dX1_ways_53 : decode cX1_ways 53 = .ok (.getfield 29, 3) := by decide +kernel
theorem dX1_ways_56 : decode cX1_ways 56 = .ok (.iconst 1, 1) := by decide +kernel
theorem dX1_ways_57 : decode cX1_ways 57 = .ok (.isub, 1) := by decide +kernel
theorem dX1_ways_58 : decode cX1_ways 58 = .ok (.iload 4, 2) := by decide +kernel
theorem dX1_ways_60 : decode cX1_ways 60 = .ok (.invokevirtual 57, 3) := by decide +kernel
theorem dX1_ways_63 : decode cX1_ways 63 = .ok (.isub, 1) := by decide +kernel
theorem dX1_ways_64 : decode cX1_ways 64 = .ok (.i2l, 1) := by decide +kernel
theorem dX1_ways_65 : decode cX1_ways 65 = .ok (.aload_n 0, 1) := by decide +kernel
theorem dX1_ways_66 : decode cX1_ways 66 = .ok (.getfield 25, 3) := by decide +kernel
theorem dX1_ways_69 : decode cX1_ways 69 = .ok (.invokestatic 45, 3) := by decide +kernel
theorem dX1_ways_72 : decode cX1_ways 72 = .ok (.invokestatic 61, 3) := by decide +kernel
theorem dX1_ways_75 : decode cX1_ways 75 = .ok (.ladd, 1) := by decide +kernel
theorem dX1_ways_76 : decode cX1_ways 76 = .ok (.lstore_n 2, 1) := by decide +kernel
theorem dX1_ways_77 : decode cX1_ways 77 = .ok (.iinc 4 1, 3) := by decide +kernel
theorem dX1_ways_80 : decode cX1_ways 80 = .ok (.goto (-44), 3) := by decide +kernel
theorem dX1_ways_83 : decode cX1_ways 83 = .ok (.lload_n 2, 1) := by decide +kernel
theorem dX1_ways_84 : decode cX1_ways 84 = .ok (.l2i, 1) := by decide +kernel
theorem dX1_ways_85 : decode cX1_ways 85 = .ok (.ireturn, 1) := by decide +kernel
theorem dX1_spread_0 : decode cX1_spread 0 = .ok (.aload_n 0, 1) := by decide +kernel
theorem dX1_spread_1 : decode cX1_spread 1 = .ok (.getfield 22, 3) := by decide +kernel
theorem dX1_spread_4 : decode cX1_spread 4 = .ok (.lconst 0, 1) := by decide +kernel
theorem dX1_spread_5 : decode cX1_spread 5 = .ok (.invokestatic 49, 3) := by decide +kernel
theorem dX1_spread_8 : decode cX1_spread 8 = .ok (.iconst 0, 1) := by decide +kernel
theorem dX1_spread_9 : decode cX1_spread 9 = .ok (.istore_n 2, 1) := by decide +kernel
theorem dX1_spread_10 : decode cX1_spread 10 = .ok (.iload_n 2, 1) := by decide +kernel
theorem dX1_spread_11 : decode cX1_spread 11 = .ok (.aload_n 0, 1) := by decide +kernel
theorem dX1_spread_12 : decode cX1_spread 12 = .ok (.getfield 25, 3) := by decide +kernel
theorem dX1_spread_15 : decode cX1_spread 15 = .ok (.if_icmp .ge 87, 3) := by decide +kernel
theorem dX1_spread_18 : decode cX1_spread 18 = .ok (.aload_n 0, 1) := by decide +kernel
theorem dX1_spread_19 : decode cX1_spread 19 = .ok (.iload_n 1, 1) := by decide +kernel
theorem dX1_spread_20 : decode cX1_spread 20 = .ok (.iload_n 2, 1) := by decide +kernel
theorem dX1_spread_21 : decode cX1_spread 21 = .ok (.invokevirtual 57, 3) := by decide +kernel
theorem dX1_spread_24 : decode cX1_spread 24 = .ok (.istore_n 3, 1) := by decide +kernel
theorem dX1_spread_25 : decode cX1_spread 25 = .ok (.iconst 0, 1) := by decide +kernel
theorem dX1_spread_26 : decode cX1_spread 26 = .ok (.istore 4, 2) := by decide +kernel
theorem dX1_spread_28 : decode cX1_spread 28 = .ok (.iload 4, 2) := by decide +kernel
theorem dX1_spread_30 : decode cX1_spread 30 = .ok (.aload_n 0, 1) := by decide +kernel
theorem dX1_spread_31 : decode cX1_spread 31 = .ok (.getfield 25, 3) := by decide +kernel
theorem dX1_spread_34 : decode cX1_spread 34 = .ok (.if_icmp .ge 62, 3) := by decide +kernel
theorem dX1_spread_37 : decode cX1_spread 37 = .ok (.aload_n 0, 1) := by decide +kernel
theorem dX1_spread_38 : decode cX1_spread 38 = .ok (.getfield 18, 3) := by decide +kernel
theorem dX1_spread_41 : decode cX1_spread 41 = .ok (.iload 4, 2) := by decide +kernel
theorem dX1_spread_43 : decode cX1_spread 43 = .ok (.invokestatic 61, 3) := by decide +kernel
theorem dX1_spread_46 : decode cX1_spread 46 = .ok (.lstore 5, 2) := by decide +kernel
theorem dX1_spread_48 : decode cX1_spread 48 = .ok (.lload 5, 2) := by decide +kernel
theorem dX1_spread_50 : decode cX1_spread 50 = .ok (.lconst 0, 1) := by decide +kernel
theorem dX1_spread_51 : decode cX1_spread 51 = .ok (.lcmp, 1) := by decide +kernel
theorem dX1_spread_52 : decode cX1_spread 52 = .ok (.ifCond .eq 38, 3) := by decide +kernel
theorem dX1_spread_55 : decode cX1_spread 55 = .ok (.iload 4, 2) := by decide +kernel
theorem dX1_spread_57 : decode cX1_spread 57 = .ok (.iload_n 3, 1) := by decide +kernel
theorem dX1_spread_58 : decode cX1_spread 58 = .ok (.iadd, 1) := by decide +kernel
theorem dX1_spread_59 : decode cX1_spread 59 = .ok (.i2l, 1) := by decide +kernel
theorem dX1_spread_60 : decode cX1_spread 60 = .ok (.aload_n 0, 1) := by decide +kernel
theorem dX1_spread_61 : decode cX1_spread 61 = .ok (.getfield 25, 3) := by decide +kernel
theorem dX1_spread_64 : decode cX1_spread 64 = .ok (.invokestatic 45, 3) := by decide +kernel
theorem dX1_spread_67 : decode cX1_spread 67 = .ok (.istore 7, 2) := by decide +kernel
theorem dX1_spread_69 : decode cX1_spread 69 = .ok (.aload_n 0, 1) := by decide +kernel
theorem dX1_spread_70 : decode cX1_spread 70 = .ok (.getfield 22, 3) := by decide +kernel
theorem dX1_spread_73 : decode cX1_spread 73 = .ok (.iload 7, 2) := by decide +kernel
theorem dX1_spread_75 : decode cX1_spread 75 = .ok (.aload_n 0, 1) := by decide +kernel
theorem dX1_spread_76 : decode cX1_spread 76 = .ok (.getfield 22, 3) := by decide +kernel
theorem dX1_spread_79 : decode cX1_spread 79 = .ok (.iload 7, 2) := by decide +kernel
theorem dX1_spread_81 : decode cX1_spread 81 = .ok (.invokestatic 61, 3) := by decide +kernel
theorem dX1_spread_84 : decode cX1_spread 84 = .ok (.lload 5, 2) := by decide +kernel
theorem dX1_spread_86 : decode cX1_spread 86 = .ok (.ladd, 1) := by decide +kernel
theorem dX1_spread_87 : decode cX1_spread 87 = .ok (.invokestatic 65, 3) := by decide +kernel
theorem dX1_spread_90 : decode cX1_spread 90 = .ok (.iinc 4 1, 3) := by decide +kernel
theorem dX1_spread_93 : decode cX1_spread 93 = .ok (.goto (-65), 3) := by decide +kernel
theorem dX1_spread_96 : decode cX1_spread 96 = .ok (.iinc 2 1, 3) := by decide +kernel
theorem dX1_spread_99 : decode cX1_spread 99 = .ok (.goto (-89), 3) := by decide +kernel
theorem dX1_spread_102 : decode cX1_spread 102 = .ok (.aload_n 0, 1) := by decide +kernel
theorem dX1_spread_103 : decode cX1_spread 103 = .ok (.getfield 22, 3) := by decide +kernel
theorem dX1_spread_106 : decode cX1_spread 106 = .ok (.aload_n 0, 1) := by decide +kernel
theorem dX1_spread_107 : decode cX1_spread 107 = .ok (.getfield 18, 3) := by decide +kernel
theorem dX1_spread_110 : decode cX1_spread 110 = .ok (.invokestatic 69, 3) := by decide +kernel
theorem dX1_spread_113 : decode cX1_spread 113 = .ok (.return_, 1) := by decide +kernel
theorem dX2_init_0 : decode cX2_init 0 = .ok (.aload_n 0, 1) := by decide +kernel
theorem dX2_init_1 : decode cX2_init 1 = .ok (.invokespecial 3, 3) := by decide +kernel
theorem dX2_init_4 : decode cX2_init 4 = .ok (.aload_n 0, 1) := by decide +kernel
theorem dX2_init_5 : decode cX2_init 5 = .ok (.sipush 199, 3) := by decide +kernel
theorem dX2_init_8 : decode cX2_init 8 = .ok (.newarray .int, 2) := by decide +kernel
theorem dX2_init_10 : decode cX2_init 10 = .ok (.putfield 11, 3) := by decide +kernel
theorem dX2_init_13 : decode cX2_init 13 = .ok (.aload_n 0, 1) := by decide +kernel
theorem dX2_init_14 : decode cX2_init 14 = .ok (.sipush 199, 3) := by decide +kernel
theorem dX2_init_17 : decode cX2_init 17 = .ok (.newarray .int, 2) := by decide +kernel
theorem dX2_init_19 : decode cX2_init 19 = .ok (.putfield 15, 3) := by decide +kernel
theorem dX2_init_22 : decode cX2_init 22 = .ok (.aload_n 0, 1) := by decide +kernel
theorem dX2_init_23 : decode cX2_init 23 = .ok (.sipush 199, 3) := by decide +kernel
theorem dX2_init_26 : decode cX2_init 26 = .ok (.newarray .int, 2) := by decide +kernel
theorem dX2_init_28 : decode cX2_init 28 = .ok (.putfield 18, 3) := by decide +kernel
theorem dX2_init_31 : decode cX2_init 31 = .ok (.aload_n 0, 1) := by decide +kernel
theorem dX2_init_32 : decode cX2_init 32 = .ok (.iconst 0, 1) := by decide +kernel
theorem dX2_init_33 : decode cX2_init 33 = .ok (.putfield 21, 3) := by decide +kernel
theorem dX2_init_36 : decode cX2_init 36 = .ok (.aload_n 0, 1) := by decide +kernel
theorem dX2_init_37 : decode cX2_init 37 = .ok (.iconst 0, 1) := by decide +kernel
theorem dX2_init_38 : decode cX2_init 38 = .ok (.putfield 25, 3) := by decide +kernel
theorem dX2_init_41 : decode cX2_init 41 = .ok (.return_, 1) := by decide +kernel
theorem dX2_become_0 : decode cX2_become 0 = .ok (.aload_n 0, 1) := by decide +kernel
theorem dX2_become_1 : decode cX2_become 1 = .ok (.iload_n 1, 1) := by decide +kernel
theorem dX2_become_2 : decode cX2_become 2 = .ok (.putfield 21, 3) := by decide +kernel
theorem dX2_become_5 : decode cX2_become 5 = .ok (.aload_n 0, 1) := by decide +kernel
theorem dX2_become_6 : decode cX2_become 6 = .ok (.iload_n 2, 1) := by decide +kernel
theorem dX2_become_7 : decode cX2_become 7 = .ok (.putfield 25, 3) := by decide +kernel
theorem dX2_become_10 : decode cX2_become 10 = .ok (.iconst 2, 1) := by decide +kernel
theorem dX2_become_11 : decode cX2_become 11 = .ok (.istore_n 3, 1) := by decide +kernel
theorem dX2_become_12 : decode cX2_become 12 = .ok (.iload_n 3, 1) := by decide +kernel
theorem dX2_become_13 : decode cX2_become 13 = .ok (.aload_n 0, 1) := by decide +kernel
theorem dX2_become_14 : decode cX2_become 14 = .ok (.getfield 21, 3) := by decide +kernel
theorem dX2_become_17 : decode cX2_become 17 = .ok (.if_icmp .ge 18, 3) := by decide +kernel
theorem dX2_become_20 : decode cX2_become 20 = .ok (.aload_n 0, 1) := by decide +kernel
theorem dX2_become_21 : decode cX2_become 21 = .ok (.iload_n 3, 1) := by decide +kernel
theorem dX2_become_22 : decode cX2_become 22 = .ok (.invokevirtual 28, 3) := by decide +kernel
theorem dX2_become_25 : decode cX2_become 25 = .ok (.ifCond .eq 4, 3) := by decide +kernel
theorem dX2_become_28 : decode cX2_become 28 = .ok (.return_, 1) := by decide +kernel
theorem dX2_become_29 : decode cX2_become 29 = .ok (.iinc 3 1, 3) := by decide +kernel
theorem dX2_become_32 : decode cX2_become 32 = .ok (.goto (-20), 3) := by decide +kernel
theorem dX2_become_35 : decode cX2_become 35 = .ok (.return_, 1) := by decide +kernel
theorem dX2_fillPowers_0 : decode cX2_fillPowers 0 = .ok (.iconst 1, 1) := by decide +kernel
theorem dX2_fillPowers_1 : decode cX2_fillPowers 1 = .ok (.istore_n 2, 1) := by decide +kernel
theorem dX2_fillPowers_2 : decode cX2_fillPowers 2 = .ok (.iconst 0, 1) := by decide +kernel
theorem dX2_fillPowers_3 : decode cX2_fillPowers 3 = .ok (.istore_n 3, 1) := by decide +kernel
theorem dX2_fillPowers_4 : decode cX2_fillPowers 4 = .ok (.iload_n 3, 1) := by decide +kernel
theorem dX2_fillPowers_5 : decode cX2_fillPowers 5 = .ok (.aload_n 0, 1) := by decide +kernel
theorem dX2_fillPowers_6 : decode cX2_fillPowers 6 = .ok (.getfield 21, 3) := by decide +kernel
theorem dX2_fillPowers_9 : decode cX2_fillPowers 9 = .ok (.iconst 1, 1) := by decide +kernel
theorem dX2_fillPowers_10 : decode cX2_fillPowers 10 = .ok (.isub, 1) := by decide +kernel
theorem dX2_fillPowers_11 : decode cX2_fillPowers 11 = .ok (.if_icmp .ge 50, 3) := by decide +kernel
theorem dX2_fillPowers_14 : decode cX2_fillPowers 14 = .ok (.iload_n 3, 1) := by decide +kernel
theorem dX2_fillPowers_15 : decode cX2_fillPowers 15 = .ok (.ifCond .le 10, 3) := by decide +kernel
theorem dX2_fillPowers_18 : decode cX2_fillPowers 18 = .ok (.iload_n 2, 1) := by decide +kernel
theorem dX2_fillPowers_19 : decode cX2_fillPowers 19 = .ok (.iconst 1, 1) := by decide +kernel
theorem dX2_fillPowers_20 : decode cX2_fillPowers 20 = .ok (.if_icmp .ne 5, 3) := by decide +kernel
theorem dX2_fillPowers_23 : decode cX2_fillPowers 23 = .ok (.iconst 0, 1) := by decide +kernel
theorem dX2_fillPowers_24 : decode cX2_fillPowers 24 = .ok (.ireturn, 1) := by decide +kernel
theorem dX2_fillPowers_25 : decode cX2_fillPowers 25 = .ok (.aload_n 0, 1) := by decide +kernel
theorem dX2_fillPowers_26 : decode cX2_fillPowers 26 = .ok (.getfield 15, 3) := by decide +kernel
theorem dX2_fillPowers_29 : decode cX2_fillPowers 29 = .ok (.iload_n 3, 1) := by decide +kernel
theorem dX2_fillPowers_30 : decode cX2_fillPowers 30 = .ok (.iload_n 2, 1) := by decide +kernel
theorem dX2_fillPowers_31 : decode cX2_fillPowers 31 = .ok (.invokestatic 32, 3) := by decide +kernel
theorem dX2_fillPowers_34 : decode cX2_fillPowers 34 = .ok (.aload_n 0, 1) := by decide +kernel
theorem dX2_fillPowers_35 : decode cX2_fillPowers 35 = .ok (.getfield 11, 3) := by decide +kernel
theorem dX2_fillPowers_38 : decode cX2_fillPowers 38 = .ok (.iload_n 2, 1) := by decide +kernel
theorem dX2_fillPowers_39 : decode cX2_fillPowers 39 = .ok (.iload_n 3, 1) := by decide +kernel
theorem dX2_fillPowers_40 : decode cX2_fillPowers 40 = .ok (.invokestatic 32, 3) := by decide +kernel
theorem dX2_fillPowers_43 : decode cX2_fillPowers 43 = .ok (.iload_n 2, 1) := by decide +kernel
theorem dX2_fillPowers_44 : decode cX2_fillPowers 44 = .ok (.iload_n 1, 1) := by decide +kernel
theorem dX2_fillPowers_45 : decode cX2_fillPowers 45 = .ok (.imul, 1) := by decide +kernel
theorem dX2_fillPowers_46 : decode cX2_fillPowers 46 = .ok (.i2l, 1) := by decide +kernel
theorem dX2_fillPowers_47 : decode cX2_fillPowers 47 = .ok (.aload_n 0, 1) := by decide +kernel
theorem dX2_fillPowers_48 : decode cX2_fillPowers 48 = .ok (.getfield 21, 3) := by decide +kernel
theorem dX2_fillPowers_51 : decode cX2_fillPowers 51 = .ok (.invokestatic 38, 3) := by decide +kernel
theorem dX2_fillPowers_54 : decode cX2_fillPowers 54 = .ok (.istore_n 2, 1) := by decide +kernel
theorem dX2_fillPowers_55 : decode cX2_fillPowers 55 = .ok (.iinc 3 1, 3) := by decide +kernel
theorem dX2_fillPowers_58 : decode cX2_fillPowers 58 = .ok (.goto (-54), 3) := by decide +kernel
theorem dX2_fillPowers_61 : decode cX2_fillPowers 61 = .ok (.iconst 1, 1) := by decide +kernel
theorem dX2_fillPowers_62 : decode cX2_fillPowers 62 = .ok (.ireturn, 1) := by decide +kernel
theorem dX2_prime_0 : decode cX2_prime 0 = .ok (.aload_n 0, 1) := by decide +kernel
theorem dX2_prime_1 : decode cX2_prime 1 = .ok (.getfield 21, 3) := by decide +kernel
theorem dX2_prime_4 : decode cX2_prime 4 = .ok (.ireturn, 1) := by decide +kernel
theorem dX2_order_0 : decode cX2_order 0 = .ok (.aload_n 0, 1) := by decide +kernel
theorem dX2_order_1 : decode cX2_order 1 = .ok (.getfield 25, 3) := by decide +kernel
theorem dX2_order_4 : decode cX2_order 4 = .ok (.ireturn, 1) := by decide +kernel
theorem dX2_root_0 : decode cX2_root 0 = .ok (.aload_n 0, 1) := by decide +kernel
theorem dX2_root_1 : decode cX2_root 1 = .ok (.getfield 15, 3) := by decide +kernel
theorem dX2_root_4 : decode cX2_root 4 = .ok (.iconst 1, 1) := by decide +kernel
theorem dX2_root_5 : decode cX2_root 5 = .ok (.invokestatic 42, 3) := by decide +kernel
theorem dX2_root_8 : decode cX2_root 8 = .ok (.ireturn, 1) := by decide +kernel
theorem dX2_rowLength_0 : decode cX2_rowLength 0 = .ok (.aload_n 0, 1) := by decide +kernel
theorem dX2_rowLength_1 : decode cX2_rowLength 1 = .ok (.getfield 25, 3) := by decide +kernel
theorem dX2_rowLength_4 : decode cX2_rowLength 4 = .ok (.invokestatic 46, 3) := by decide +kernel
theorem dX2_rowLength_7 : decode cX2_rowLength 7 = .ok (.ireturn, 1) := by decide +kernel
theorem dX2_hasUnit_0 : decode cX2_hasUnit 0 = .ok (.iload_n 1, 1) := by decide +kernel
theorem dX2_hasUnit_1 : decode cX2_hasUnit 1 = .ok (.ifCond .le 15, 3) := by decide +kernel
theorem dX2_hasUnit_4 : decode cX2_hasUnit 4 = .ok (.iload_n 1, 1) := by decide +kernel
theorem dX2_hasUnit_5 : decode cX2_hasUnit 5 = .ok (.aload_n 0, 1) := by decide +kernel
theorem dX2_hasUnit_6 : decode cX2_hasUnit 6 = .ok (.getfield 21, 3) := by decide +kernel
theorem dX2_hasUnit_9 : decode cX2_hasUnit 9 = .ok (.if_icmp .ge 7, 3) := by decide +kernel
theorem dX2_hasUnit_12 : decode cX2_hasUnit 12 = .ok (.iconst 1, 1) := by decide +kernel
theorem dX2_hasUnit_13 : decode cX2_hasUnit 13 = .ok (.goto 4, 3) := by decide +kernel
theorem dX2_hasUnit_16 : decode cX2_hasUnit 16 = .ok (.iconst 0, 1) := by decide +kernel
theorem dX2_hasUnit_17 : decode cX2_hasUnit 17 = .ok (.ireturn, 1) := by decide +kernel
theorem dX2_hasNumber_0 : decode cX2_hasNumber 0 = .ok (.iload_n 1, 1) := by decide +kernel
theorem dX2_hasNumber_1 : decode cX2_hasNumber 1 = .ok (.ifCond .lt 15, 3) := by decide +kernel
theorem dX2_hasNumber_4 : decode cX2_hasNumber 4 = .ok (.iload_n 1, 1) := by decide +kernel
theorem dX2_hasNumber_5 : decode cX2_hasNumber 5 = .ok (.aload_n 0, 1) := by decide +kernel
theorem dX2_hasNumber_6 : decode cX2_hasNumber 6 = .ok (.getfield 21, 3) := by decide +kernel
theorem dX2_hasNumber_9 : decode cX2_hasNumber 9 = .ok (.if_icmp .ge 7, 3) := by decide +kernel
theorem dX2_hasNumber_12 : decode cX2_hasNumber 12 = .ok (.iconst 1, 1) := by decide +kernel
theorem dX2_hasNumber_13 : decode cX2_hasNumber 13 = .ok (.goto 4, 3) := by decide +kernel
theorem dX2_hasNumber_16 : decode cX2_hasNumber 16 = .ok (.iconst 0, 1) := by decide +kernel
theorem dX2_hasNumber_17 : decode cX2_hasNumber 17 = .ok (.ireturn, 1) := by decide +kernel
theorem dX2_hasCharacter_0 : decode cX2_hasCharacter 0 = .ok (.iload_n 1, 1) := by decide +kernel
theorem dX2_hasCharacter_1 : decode cX2_hasCharacter 1 = .ok (.ifCond .lt 15, 3) := by decide +kernel
theorem dX2_hasCharacter_4 : decode cX2_hasCharacter 4 = .ok (.iload_n 1, 1) := by decide +kernel
theorem dX2_hasCharacter_5 : decode cX2_hasCharacter 5 = .ok (.aload_n 0, 1) := by decide +kernel
theorem dX2_hasCharacter_6 : decode cX2_hasCharacter 6 = .ok (.getfield 25, 3) := by decide +kernel
theorem dX2_hasCharacter_9 : decode cX2_hasCharacter 9 = .ok (.if_icmp .ge 7, 3) := by decide +kernel
theorem dX2_hasCharacter_12 : decode cX2_hasCharacter 12 = .ok (.iconst 1, 1) := by decide +kernel
theorem dX2_hasCharacter_13 : decode cX2_hasCharacter 13 = .ok (.goto 4, 3) := by decide +kernel
theorem dX2_hasCharacter_16 : decode cX2_hasCharacter 16 = .ok (.iconst 0, 1) := by decide +kernel
theorem dX2_hasCharacter_17 : decode cX2_hasCharacter 17 = .ok (.ireturn, 1) := by decide +kernel
theorem dX2_hasTurn_0 : decode cX2_hasTurn 0 = .ok (.iload_n 1, 1) := by decide +kernel
theorem dX2_hasTurn_1 : decode cX2_hasTurn 1 = .ok (.ifCond .le 27, 3) := by decide +kernel
theorem dX2_hasTurn_4 : decode cX2_hasTurn 4 = .ok (.iload_n 1, 1) := by decide +kernel
theorem dX2_hasTurn_5 : decode cX2_hasTurn 5 = .ok (.aload_n 0, 1) := by decide +kernel
theorem dX2_hasTurn_6 : decode cX2_hasTurn 6 = .ok (.getfield 25, 3) := by decide +kernel
theorem dX2_hasTurn_9 : decode cX2_hasTurn 9 = .ok (.if_icmp .ge 19, 3) := by decide +kernel
theorem dX2_hasTurn_12 : decode cX2_hasTurn 12 = .ok (.iload_n 1, 1) := by decide +kernel
theorem dX2_hasTurn_13 : decode cX2_hasTurn 13 = .ok (.aload_n 0, 1) := by decide +kernel
theorem dX2_hasTurn_14 : decode cX2_hasTurn 14 = .ok (.getfield 25, 3) := by decide +kernel
theorem dX2_hasTurn_17 : decode cX2_hasTurn 17 = .ok (.invokestatic 52, 3) := by decide +kernel
theorem dX2_hasTurn_20 : decode cX2_hasTurn 20 = .ok (.iconst 1, 1) := by decide +kernel
theorem dX2_hasTurn_21 : decode cX2_hasTurn 21 = .ok (.if_icmp .ne 7, 3) := by decide +kernel
theorem dX2_hasTurn_24 : decode cX2_hasTurn 24 = .ok (.iconst 1, 1) := by decide +kernel
theorem dX2_hasTurn_25 : decode cX2_hasTurn 25 = .ok (.goto 4, 3) := by decide +kernel
theorem dX2_hasTurn_28 : decode cX2_hasTurn 28 = .ok (.iconst 0, 1) := by decide +kernel
theorem dX2_hasTurn_29 : decode cX2_hasTurn 29 = .ok (.ireturn, 1) := by decide +kernel
theorem dX2_logOf_0 : decode cX2_logOf 0 = .ok (.aload_n 0, 1) := by decide +kernel
theorem dX2_logOf_1 : decode cX2_logOf 1 = .ok (.getfield 11, 3) := by decide +kernel
theorem dX2_logOf_4 : decode cX2_logOf 4 = .ok (.iload_n 1, 1) := by decide +kernel
theorem dX2_logOf_5 : decode cX2_logOf 5 = .ok (.invokestatic 42, 3) := by decide +kernel
theorem dX2_logOf_8 : decode cX2_logOf 8 = .ok (.ireturn, 1) := by decide +kernel
theorem dX2_characterAt_0 : decode cX2_characterAt 0 = .ok (.iload_n 2, 1) := by decide +kernel
theorem dX2_characterAt_1 : decode cX2_characterAt 1 = .ok (.ifCond .ne 14, 3) := by decide +kernel
theorem dX2_characterAt_4 : decode cX2_characterAt 4 = .ok (.iload_n 1, 1) := by decide +kernel
theorem dX2_characterAt_5 : decode cX2_characterAt 5 = .ok (.ifCond .ne 7, 3) := by decide +kernel
theorem dX2_characterAt_8 : decode cX2_characterAt 8 = .ok (.iconst 0, 1) := by decide +kernel
theorem dX2_characterAt_9 : decode cX2_characterAt 9 = .ok (.goto 5, 3) := by decide +kernel
theorem dX2_characterAt_12 : decode cX2_characterAt 12 = .ok (.bipush (-2), 2) := by decide +kernel
theorem dX2_characterAt_14 : decode cX2_characterAt 14 = .ok (.ireturn, 1) := by decide +kernel
theorem dX2_characterAt_15 : decode cX2_characterAt 15 = .ok (.iload_n 1, 1) := by decide +kernel
theorem dX2_characterAt_16 : decode cX2_characterAt 16 = .ok (.aload_n 0, 1) := by decide +kernel
theorem dX2_characterAt_17 : decode cX2_characterAt 17 = .ok (.getfield 11, 3) := by decide +kernel
theorem dX2_characterAt_20 : decode cX2_characterAt 20 = .ok (.iload_n 2, 1) := by decide +kernel
theorem dX2_characterAt_21 : decode cX2_characterAt 21 = .ok (.invokestatic 42, 3) := by decide +kernel
theorem dX2_characterAt_24 : decode cX2_characterAt 24 = .ok (.imul, 1) := by decide +kernel
theorem dX2_characterAt_25 : decode cX2_characterAt 25 = .ok (.i2l, 1) := by decide +kernel
theorem dX2_characterAt_26 : decode cX2_characterAt 26 = .ok (.aload_n 0, 1) := by decide +kernel
theorem dX2_characterAt_27 : decode cX2_characterAt 27 = .ok (.getfield 25, 3) := by decide +kernel
theorem dX2_characterAt_30 : decode cX2_characterAt 30 = .ok (.invokestatic 38, 3) := by decide +kernel
theorem dX2_characterAt_33 : decode cX2_characterAt 33 = .ok (.ireturn, 1) := by decide +kernel
theorem dX2_jacobiSum_0 : decode cX2_jacobiSum 0 = .ok (.aload_n 3, 1) := by decide +kernel
theorem dX2_jacobiSum_1 : decode cX2_jacobiSum 1 = .ok (.invokevirtual 58, 3) := by decide +kernel
theorem dX2_jacobiSum_4 : decode cX2_jacobiSum 4 = .ok (.iconst 0, 1) := by decide +kernel
theorem dX2_jacobiSum_5 : decode cX2_jacobiSum 5 = .ok (.istore 5, 2) := by decide +kernel
theorem dX2_jacobiSum_7 : decode cX2_jacobiSum 7 = .ok (.iload 5, 2) := by decide +kernel
theorem dX2_jacobiSum_9 : decode cX2_jacobiSum 9 = .ok (.aload_n 0, 1) := by decide +kernel
theorem dX2_jacobiSum_10 : decode cX2_jacobiSum 10 = .ok (.getfield 21, 3) := by decide +kernel
theorem dX2_jacobiSum_13 : decode cX2_jacobiSum 13 = .ok (.if_icmp .ge 65, 3) := by decide +kernel
theorem dX2_jacobiSum_16 : decode cX2_jacobiSum 16 = .ok (.aload_n 0, 1) := by decide +kernel
theorem dX2_jacobiSum_17 : decode cX2_jacobiSum 17 = .ok (.iload_n 1, 1) := by decide +kernel
theorem dX2_jacobiSum_18 : decode cX2_jacobiSum 18 = .ok (.iload 5, 2) := by decide +kernel
theorem dX2_jacobiSum_20 : decode cX2_jacobiSum 20 = .ok (.invokevirtual 61, 3) := by decide +kernel
theorem dX2_jacobiSum_23 : decode cX2_jacobiSum 23 = .ok (.istore 6, 2) := by decide +kernel
theorem dX2_jacobiSum_25 : decode cX2_jacobiSum 25 = .ok (.aload_n 0, 1) := by decide +kernel
theorem dX2_jacobiSum_26 : decode cX2_jacobiSum 26 = .ok (.iload_n 2, 1) := by decide +kernel
theorem dX2_jacobiSum_27 : decode cX2_jacobiSum 27 = .ok (.iconst 1, 1) := by decide +kernel
theorem dX2_jacobiSum_28 : decode cX2_jacobiSum 28 = .ok (.iload 5, 2) := by decide +kernel
theorem dX2_jacobiSum_30 : decode cX2_jacobiSum 30 = .ok (.isub, 1) := by decide +kernel
theorem dX2_jacobiSum_31 : decode cX2_jacobiSum 31 = .ok (.i2l, 1) := by decide +kernel
theorem dX2_jacobiSum_32 : decode cX2_jacobiSum 32 = .ok (.aload_n 0, 1) := by decide +kernel
theorem dX2_jacobiSum_33 : decode cX2_jacobiSum 33 = .ok (.getfield 21, 3) := by decide +kernel
theorem dX2_jacobiSum_36 : decode cX2_jacobiSum 36 = .ok (.invokestatic 38, 3) := by decide +kernel
theorem dX2_jacobiSum_39 : decode cX2_jacobiSum 39 = .ok (.invokevirtual 61, 3) := by decide +kernel
theorem dX2_jacobiSum_42 : decode cX2_jacobiSum 42 = .ok (.istore 7, 2) := by decide +kernel
theorem dX2_jacobiSum_44 : decode cX2_jacobiSum 44 = .ok (.iload 6, 2) := by decide +kernel
theorem dX2_jacobiSum_46 : decode cX2_jacobiSum 46 = .ok (.bipush (-2), 2) := by decide +kernel
theorem dX2_jacobiSum_48 : decode cX2_jacobiSum 48 = .ok (.if_icmp .eq 24, 3) := by decide +kernel
theorem dX2_jacobiSum_51 : decode cX2_jacobiSum 51 = .ok (.iload 7, 2) := by decide +kernel
theorem dX2_jacobiSum_53 : decode cX2_jacobiSum 53 = .ok (.bipush (-2), 2) := by decide +kernel
theorem dX2_jacobiSum_55 : decode cX2_jacobiSum 55 = .ok (.if_icmp .eq 17, 3) := by decide +kernel
theorem dX2_jacobiSum_58 : decode cX2_jacobiSum 58 = .ok (.aload_n 3, 1) := by decide +kernel
theorem dX2_jacobiSum_59 : decode cX2_jacobiSum 59 = .ok (.iload 6, 2) := by decide +kernel
theorem dX2_jacobiSum_61 : decode cX2_jacobiSum 61 = .ok (.iload 7, 2) := by decide +kernel
theorem dX2_jacobiSum_63 : decode cX2_jacobiSum 63 = .ok (.iadd, 1) := by decide +kernel
theorem dX2_jacobiSum_64 : decode cX2_jacobiSum 64 = .ok (.lconst 1, 1) := by decide +kernel
theorem dX2_jacobiSum_65 : decode cX2_jacobiSum 65 = .ok (.aload_n 0, 1) := by decide +kernel
theorem dX2_jacobiSum_66 : decode cX2_jacobiSum 66 = .ok (.getfield 25, 3) := by decide +kernel
theorem dX2_jacobiSum_69 : decode cX2_jacobiSum 69 = .ok (.invokevirtual 64, 3) := by decide +kernel
theorem dX2_jacobiSum_72 : decode cX2_jacobiSum 72 = .ok (.iinc 5 1, 3) := by decide +kernel
theorem dX2_jacobiSum_75 : decode cX2_jacobiSum 75 = .ok (.goto (-68), 3) := by decide +kernel
theorem dX2_jacobiSum_78 : decode cX2_jacobiSum 78 = .ok (.aload_n 3, 1) := by decide +kernel
theorem dX2_jacobiSum_79 : decode cX2_jacobiSum 79 = .ok (.aload 4, 2) := by decide +kernel
theorem dX2_jacobiSum_81 : decode cX2_jacobiSum 81 = .ok (.aload_n 0, 1) := by decide +kernel
theorem dX2_jacobiSum_82 : decode cX2_jacobiSum 82 = .ok (.getfield 25, 3) := by decide +kernel
theorem dX2_jacobiSum_85 : decode cX2_jacobiSum 85 = .ok (.invokevirtual 68, 3) := by decide +kernel
theorem dX2_jacobiSum_88 : decode cX2_jacobiSum 88 = .ok (.return_, 1) := by decide +kernel
theorem dX2_partOf_0 : decode cX2_partOf 0 = .ok (.aload_n 0, 1) := by decide +kernel
theorem dX2_partOf_1 : decode cX2_partOf 1 = .ok (.getfield 25, 3) := by decide +kernel
theorem dX2_partOf_4 : decode cX2_partOf 4 = .ok (.iconst 1, 1) := by decide +kernel
theorem dX2_partOf_5 : decode cX2_partOf 5 = .ok (.if_icmp .ge 7, 3) := by decide +kernel
theorem dX2_partOf_8 : decode cX2_partOf 8 = .ok (.iconst 0, 1) := by decide +kernel
theorem dX2_partOf_9 : decode cX2_partOf 9 = .ok (.goto 14, 3) := by decide +kernel
theorem dX2_partOf_12 : decode cX2_partOf 12 = .ok (.aload_n 0, 1) := by decide +kernel
theorem dX2_partOf_13 : decode cX2_partOf 13 = .ok (.getfield 21, 3) := by decide +kernel
theorem dX2_partOf_16 : decode cX2_partOf 16 = .ok (.iconst 1, 1) := by decide +kernel
theorem dX2_partOf_17 : decode cX2_partOf 17 = .ok (.isub, 1) := by decide +kernel
theorem dX2_partOf_18 : decode cX2_partOf 18 = .ok (.aload_n 0, 1) := by decide +kernel
theorem dX2_partOf_19 : decode cX2_partOf 19 = .ok (.getfield 25, 3) := by decide +kernel
theorem dX2_partOf_22 : decode cX2_partOf 22 = .ok (.idiv, 1) := by decide +kernel
theorem dX2_partOf_23 : decode cX2_partOf 23 = .ok (.istore_n 3, 1) := by decide +kernel
theorem dX2_partOf_24 : decode cX2_partOf 24 = .ok (.aload_n 0, 1) := by decide +kernel
theorem dX2_partOf_25 : decode cX2_partOf 25 = .ok (.getfield 15, 3) := by decide +kernel
theorem dX2_partOf_28 : decode cX2_partOf 28 = .ok (.iload_n 2, 1) := by decide +kernel
theorem dX2_partOf_29 : decode cX2_partOf 29 = .ok (.iload_n 3, 1) := by decide +kernel
theorem dX2_partOf_30 : decode cX2_partOf 30 = .ok (.imul, 1) := by decide +kernel
theorem dX2_partOf_31 : decode cX2_partOf 31 = .ok (.i2l, 1) := by decide +kernel
theorem dX2_partOf_32 : decode cX2_partOf 32 = .ok (.aload_n 0, 1) := by decide +kernel
theorem dX2_partOf_33 : decode cX2_partOf 33 = .ok (.getfield 21, 3) := by decide +kernel
theorem dX2_partOf_36 : decode cX2_partOf 36 = .ok (.iconst 1, 1) := by decide +kernel
theorem dX2_partOf_37 : decode cX2_partOf 37 = .ok (.isub, 1) := by decide +kernel
theorem dX2_partOf_38 : decode cX2_partOf 38 = .ok (.invokestatic 38, 3) := by decide +kernel
theorem dX2_partOf_41 : decode cX2_partOf 41 = .ok (.invokestatic 42, 3) := by decide +kernel
theorem dX2_partOf_44 : decode cX2_partOf 44 = .ok (.i2l, 1) := by decide +kernel
theorem dX2_partOf_45 : decode cX2_partOf 45 = .ok (.lstore 4, 2) := by decide +kernel
theorem dX2_partOf_47 : decode cX2_partOf 47 = .ok (.lconst 0, 1) := by decide +kernel
theorem dX2_partOf_48 : decode cX2_partOf 48 = .ok (.lstore 6, 2) := by decide +kernel
theorem dX2_partOf_50 : decode cX2_partOf 50 = .ok (.aload_n 0, 1) := by decide +kernel
theorem dX2_partOf_51 : decode cX2_partOf 51 = .ok (.invokevirtual 72, 3) := by decide +kernel
theorem dX2_partOf_54 : decode cX2_partOf 54 = .ok (.iconst 1, 1) := by decide +kernel
theorem dX2_partOf_55 : decode cX2_partOf 55 = .ok (.isub, 1) := by decide +kernel
theorem dX2_partOf_56 : decode cX2_partOf 56 = .ok (.istore 8, 2) := by decide +kernel
theorem dX2_partOf_58 : decode cX2_partOf 58 = .ok (.iload 8, 2) := by decide +kernel
theorem dX2_partOf_60 : decode cX2_partOf 60 = .ok (.ifCond .lt 31, 3) := by decide +kernel
theorem dX2_partOf_63 : decode cX2_partOf 63 = .ok (.lload 6, 2) := by decide +kernel
theorem dX2_partOf_65 : decode cX2_partOf 65 = .ok (.lload 4, 2) := by decide +kernel
theorem dX2_partOf_67 : decode cX2_partOf 67 = .ok (.lmul, 1) := by decide +kernel
theorem dX2_partOf_68 : decode cX2_partOf 68 = .ok (.aload_n 1, 1) := by decide +kernel
theorem dX2_partOf_69 : decode cX2_partOf 69 = .ok (.iload 8, 2) := by decide +kernel
theorem dX2_partOf_71 : decode cX2_partOf 71 = .ok (.invokestatic 76, 3) := by decide +kernel
theorem dX2_partOf_74 : decode cX2_partOf 74 = .ok (.ladd, 1) := by decide +kernel
theorem dX2_partOf_75 : decode cX2_partOf 75 = .ok (.aload_n 0, 1) := by decide +kernel
theorem dX2_partOf_76 : decode cX2_partOf 76 = .ok (.getfield 21, 3) := by decide +kernel
theorem dX2_partOf_79 : decode cX2_partOf 79 = .ok (.invokestatic 38, 3) := by decide +kernel
theorem dX2_partOf_82 : decode cX2_partOf 82 = .ok (.i2l, 1) := by decide +kernel
theorem dX2_partOf_83 : decode cX2_partOf 83 = .ok (.lstore 6, 2) := by decide +kernel
theorem dX2_partOf_85 : decode cX2_partOf 85 = .ok (.iinc 8 (-1), 3) := by decide +kernel
theorem dX2_partOf_88 : decode cX2_partOf 88 = .ok (.goto (-30), 3) := by decide +kernel
theorem dX2_partOf_91 : decode cX2_partOf 91 = .ok (.lload 6, 2) := by decide +kernel
theorem dX2_partOf_93 : decode cX2_partOf 93 = .ok (.l2i, 1) := by decide +kernel
theorem dX2_partOf_94 : decode cX2_partOf 94 = .ok (.ireturn, 1) := by decide +kernel
theorem dX2_isPower_0 : decode cX2_isPower 0 = .ok (.aload_n 0, 1) := by decide +kernel
theorem dX2_isPower_1 : decode cX2_isPower 1 = .ok (.iload_n 1, 1) := by decide +kernel
theorem dX2_isPower_2 : decode cX2_isPower 2 = .ok (.invokevirtual 80, 3) := by decide +kernel
theorem dX2_isPower_5 : decode cX2_isPower 5 = .ok (.i2l, 1) := by decide +kernel
theorem dX2_isPower_6 : decode cX2_isPower 6 = .ok (.iload_n 2, 1) := by decide +kernel
theorem dX2_isPower_7 : decode cX2_isPower 7 = .ok (.aload_n 0, 1) := by decide +kernel
theorem dX2_isPower_8 : decode cX2_isPower 8 = .ok (.getfield 21, 3) := by decide +kernel
theorem dX2_isPower_11 : decode cX2_isPower 11 = .ok (.iconst 1, 1) := by decide +kernel
theorem dX2_isPower_12 : decode cX2_isPower 12 = .ok (.isub, 1) := by decide +kernel
theorem dX2_isPower_13 : decode cX2_isPower 13 = .ok (.invokestatic 52, 3) := by decide +kernel
theorem dX2_isPower_16 : decode cX2_isPower 16 = .ok (.invokestatic 38, 3) := by decide +kernel
theorem dX2_isPower_19 : decode cX2_isPower 19 = .ok (.ifCond .ne 7, 3) := by decide +kernel
theorem dX2_isPower_22 : decode cX2_isPower 22 = .ok (.iconst 1, 1) := by decide +kernel
theorem dX2_isPower_23 : decode cX2_isPower 23 = .ok (.goto 4, 3) := by decide +kernel
theorem dX2_isPower_26 : decode cX2_isPower 26 = .ok (.iconst 0, 1) := by decide +kernel
theorem dX2_isPower_27 : decode cX2_isPower 27 = .ok (.ireturn, 1) := by decide +kernel
theorem dX2_meetings_0 : decode cX2_meetings 0 = .ok (.iconst 0, 1) := by decide +kernel
theorem dX2_meetings_1 : decode cX2_meetings 1 = .ok (.istore_n 3, 1) := by decide +kernel
theorem dX2_meetings_2 : decode cX2_meetings 2 = .ok (.iconst 1, 1) := by decide +kernel
theorem dX2_meetings_3 : decode cX2_meetings 3 = .ok (.istore 4, 2) := by decide +kernel
theorem dX2_meetings_5 : decode cX2_meetings 5 = .ok (.iload 4, 2) := by decide +kernel
theorem dX2_meetings_7 : decode cX2_meetings 7 = .ok (.aload_n 0, 1) := by decide +kernel
theorem dX2_meetings_8 : decode cX2_meetings 8 = .ok (.getfield 21, 3) := by decide +kernel
theorem dX2_meetings_11 : decode cX2_meetings 11 = .ok (.iconst 1, 1) := by decide +kernel
theorem dX2_meetings_12 : decode cX2_meetings 12 = .ok (.isub, 1) := by decide +kernel
theorem dX2_meetings_13 : decode cX2_meetings 13 = .ok (.if_icmp .ge 50, 3) := by decide +kernel
theorem dX2_meetings_16 : decode cX2_meetings 16 = .ok (.aload_n 0, 1) := by decide +kernel
theorem dX2_meetings_17 : decode cX2_meetings 17 = .ok (.iload 4, 2) := by decide +kernel
theorem dX2_meetings_19 : decode cX2_meetings 19 = .ok (.invokevirtual 80, 3) := by decide +kernel
theorem dX2_meetings_22 : decode cX2_meetings 22 = .ok (.i2l, 1) := by decide +kernel
theorem dX2_meetings_23 : decode cX2_meetings 23 = .ok (.aload_n 0, 1) := by decide +kernel
theorem dX2_meetings_24 : decode cX2_meetings 24 = .ok (.getfield 25, 3) := by decide +kernel
theorem dX2_meetings_27 : decode cX2_meetings 27 = .ok (.invokestatic 38, 3) := by decide +kernel
theorem dX2_meetings_30 : decode cX2_meetings 30 = .ok (.iload_n 1, 1) := by decide +kernel
theorem dX2_meetings_31 : decode cX2_meetings 31 = .ok (.if_icmp .ne 26, 3) := by decide +kernel
theorem dX2_meetings_34 : decode cX2_meetings 34 = .ok (.aload_n 0, 1) := by decide +kernel
theorem dX2_meetings_35 : decode cX2_meetings 35 = .ok (.iload 4, 2) := by decide +kernel
theorem dX2_meetings_37 : decode cX2_meetings 37 = .ok (.iconst 1, 1) := by decide +kernel
theorem dX2_meetings_38 : decode cX2_meetings 38 = .ok (.iadd, 1) := by decide +kernel
theorem dX2_meetings_39 : decode cX2_meetings 39 = .ok (.invokevirtual 80, 3) := by decide +kernel
theorem dX2_meetings_42 : decode cX2_meetings 42 = .ok (.i2l, 1) := by decide +kernel
theorem dX2_meetings_43 : decode cX2_meetings 43 = .ok (.aload_n 0, 1) := by decide +kernel
theorem dX2_meetings_44 : decode cX2_meetings 44 = .ok (.getfield 25, 3) := by decide +kernel
theorem dX2_meetings_47 : decode cX2_meetings 47 = .ok (.invokestatic 38, 3) := by decide +kernel
theorem dX2_meetings_50 : decode cX2_meetings 50 = .ok (.iload_n 2, 1) := by decide +kernel
theorem dX2_meetings_51 : decode cX2_meetings 51 = .ok (.if_icmp .ne 6, 3) := by decide +kernel
theorem dX2_meetings_54 : decode cX2_meetings 54 = .ok (.iinc 3 1, 3) := by decide +kernel
theorem dX2_meetings_57 : decode cX2_meetings 57 = .ok (.iinc 4 1, 3) := by decide +kernel
theorem dX2_meetings_60 : decode cX2_meetings 60 = .ok (.goto (-55), 3) := by decide +kernel
theorem dX2_meetings_63 : decode cX2_meetings 63 = .ok (.iload_n 3, 1) := by decide +kernel
theorem dX2_meetings_64 : decode cX2_meetings 64 = .ok (.ireturn, 1) := by decide +kernel
theorem dX2_isOrderPower_0 : decode cX2_isOrderPower 0 = .ok (.aload_n 0, 1) := by decide +kernel
theorem dX2_isOrderPower_1 : decode cX2_isOrderPower 1 = .ok (.iload_n 1, 1) := by decide +kernel
theorem dX2_isOrderPower_2 : decode cX2_isOrderPower 2 = .ok (.invokevirtual 80, 3) := by decide +kernel
theorem dX2_isOrderPower_5 : decode cX2_isOrderPower 5 = .ok (.i2l, 1) := by decide +kernel
theorem dX2_isOrderPower_6 : decode cX2_isOrderPower 6 = .ok (.aload_n 0, 1) := by decide +kernel
theorem dX2_isOrderPower_7 : decode cX2_isOrderPower 7 = .ok (.getfield 25, 3) := by decide +kernel
theorem dX2_isOrderPower_10 : decode cX2_isOrderPower 10 = .ok (.invokestatic 38, 3) := by decide +kernel
theorem dX2_isOrderPower_13 : decode cX2_isOrderPower 13 = .ok (.ifCond .ne 7, 3) := by decide +kernel
theorem dX2_isOrderPower_16 : decode cX2_isOrderPower 16 = .ok (.iconst 1, 1) := by decide +kernel
theorem dX2_isOrderPower_17 : decode cX2_isOrderPower 17 = .ok (.goto 4, 3) := by decide +kernel
theorem dX2_isOrderPower_20 : decode cX2_isOrderPower 20 = .ok (.iconst 0, 1) := by decide +kernel
theorem dX2_isOrderPower_21 : decode cX2_isOrderPower 21 = .ok (.ireturn, 1) := by decide +kernel
theorem dX2_evenness_0 : decode cX2_evenness 0 = .ok (.iconst 0, 1) := by decide +kernel
theorem dX2_evenness_1 : decode cX2_evenness 1 = .ok (.istore_n 1, 1) := by decide +kernel
theorem dX2_evenness_2 : decode cX2_evenness 2 = .ok (.iload_n 1, 1) := by decide +kernel
theorem dX2_evenness_3 : decode cX2_evenness 3 = .ok (.aload_n 0, 1) := by decide +kernel
theorem dX2_evenness_4 : decode cX2_evenness 4 = .ok (.getfield 21, 3) := by decide +kernel
theorem dX2_evenness_7 : decode cX2_evenness 7 = .ok (.if_icmp .ge 18, 3) := by decide +kernel
theorem dX2_evenness_10 : decode cX2_evenness 10 = .ok (.aload_n 0, 1) := by decide +kernel
theorem dX2_evenness_11 : decode cX2_evenness 11 = .ok (.getfield 18, 3) := by decide +kernel
theorem dX2_evenness_14 : decode cX2_evenness 14 = .ok (.iload_n 1, 1) := by decide +kernel
theorem dX2_evenness_15 : decode cX2_evenness 15 = .ok (.iconst 0, 1) := by decide +kernel
theorem dX2_evenness_16 : decode cX2_evenness 16 = .ok (.invokestatic 32, 3) := by decide +kernel
theorem dX2_evenness_19 : decode cX2_evenness 19 = .ok (.iinc 1 1, 3) := by decide +kernel
theorem dX2_evenness_22 : decode cX2_evenness 22 = .ok (.goto (-20), 3) := by decide +kernel
theorem dX2_evenness_25 : decode cX2_evenness 25 = .ok (.iconst 1, 1) := by decide +kernel
theorem dX2_evenness_26 : decode cX2_evenness 26 = .ok (.istore_n 1, 1) := by decide +kernel
theorem dX2_evenness_27 : decode cX2_evenness 27 = .ok (.iload_n 1, 1) := by decide +kernel
theorem dX2_evenness_28 : decode cX2_evenness 28 = .ok (.aload_n 0, 1) := by decide +kernel
theorem dX2_evenness_29 : decode cX2_evenness 29 = .ok (.getfield 21, 3) := by decide +kernel
theorem dX2_evenness_32 : decode cX2_evenness 32 = .ok (.if_icmp .ge 71, 3) := by decide +kernel
theorem dX2_evenness_35 : decode cX2_evenness 35 = .ok (.iconst 1, 1) := by decide +kernel
theorem dX2_evenness_36 : decode cX2_evenness 36 = .ok (.istore_n 2, 1) := by decide +kernel
theorem dX2_evenness_37 : decode cX2_evenness 37 = .ok (.iload_n 2, 1) := by decide +kernel
theorem dX2_evenness_38 : decode cX2_evenness 38 = .ok (.aload_n 0, 1) := by decide +kernel
theorem dX2_evenness_39 : decode cX2_evenness 39 = .ok (.getfield 21, 3) := by decide +kernel
theorem dX2_evenness_42 : decode cX2_evenness 42 = .ok (.if_icmp .ge 55, 3) := by decide +kernel
theorem dX2_evenness_45 : decode cX2_evenness 45 = .ok (.aload_n 0, 1) := by decide +kernel
theorem dX2_evenness_46 : decode cX2_evenness 46 = .ok (.iload_n 1, 1) := by decide +kernel
theorem dX2_evenness_47 : decode cX2_evenness 47 = .ok (.invokevirtual 83, 3) := by decide +kernel
theorem dX2_evenness_50 : decode cX2_evenness 50 = .ok (.ifCond .eq 47, 3) := by decide +kernel
theorem dX2_evenness_53 : decode cX2_evenness 53 = .ok (.aload_n 0, 1) := by decide +kernel
theorem dX2_evenness_54 : decode cX2_evenness 54 = .ok (.iload_n 2, 1) := by decide +kernel
theorem dX2_evenness_55 : decode cX2_evenness 55 = .ok (.invokevirtual 83, 3) := by decide +kernel
theorem dX2_evenness_58 : decode cX2_evenness 58 = .ok (.ifCond .eq 33, 3) := by decide +kernel
theorem dX2_evenness_61 : decode cX2_evenness 61 = .ok (.iload_n 1, 1) := by decide +kernel
theorem dX2_evenness_62 : decode cX2_evenness 62 = .ok (.iload_n 2, 1) := by decide +kernel
theorem dX2_evenness_63 : decode cX2_evenness 63 = .ok (.isub, 1) := by decide +kernel
theorem dX2_evenness_64 : decode cX2_evenness 64 = .ok (.i2l, 1) := by decide +kernel
theorem dX2_evenness_65 : decode cX2_evenness 65 = .ok (.aload_n 0, 1) := by decide +kernel
theorem dX2_evenness_66 : decode cX2_evenness 66 = .ok (.getfield 21, 3) := by decide +kernel
theorem dX2_evenness_69 : decode cX2_evenness 69 = .ok (.invokestatic 38, 3) := by decide +kernel
theorem dX2_evenness_72 : decode cX2_evenness 72 = .ok (.istore_n 3, 1) := by decide +kernel
theorem dX2_evenness_73 : decode cX2_evenness 73 = .ok (.aload_n 0, 1) := by decide +kernel
theorem dX2_evenness_74 : decode cX2_evenness 74 = .ok (.getfield 18, 3) := by decide +kernel
theorem dX2_evenness_77 : decode cX2_evenness 77 = .ok (.iload_n 3, 1) := by decide +kernel
theorem dX2_evenness_78 : decode cX2_evenness 78 = .ok (.aload_n 0, 1) := by decide +kernel
theorem dX2_evenness_79 : decode cX2_evenness 79 = .ok (.getfield 18, 3) := by decide +kernel
theorem dX2_evenness_82 : decode cX2_evenness 82 = .ok (.iload_n 3, 1) := by decide +kernel
theorem dX2_evenness_83 : decode cX2_evenness 83 = .ok (.invokestatic 42, 3) := by decide +kernel
theorem dX2_evenness_86 : decode cX2_evenness 86 = .ok (.iconst 1, 1) := by decide +kernel
theorem dX2_evenness_87 : decode cX2_evenness 87 = .ok (.iadd, 1) := by decide +kernel
theorem dX2_evenness_88 : decode cX2_evenness 88 = .ok (.invokestatic 32, 3) := by decide +kernel
theorem dX2_evenness_91 : decode cX2_evenness 91 = .ok (.iinc 2 1, 3) := by decide +kernel
theorem dX2_evenness_94 : decode cX2_evenness 94 = .ok (.goto (-57), 3) := by decide +kernel
theorem dX2_evenness_97 : decode cX2_evenness 97 = .ok (.iinc 1 1, 3) := by decide +kernel
theorem dX2_evenness_100 : decode cX2_evenness 100 = .ok (.goto (-73), 3) := by decide +kernel
theorem dX2_evenness_103 : decode cX2_evenness 103 = .ok (.aload_n 0, 1) := by decide +kernel
theorem dX2_evenness_104 : decode cX2_evenness 104 = .ok (.getfield 18, 3) := by decide +kernel
theorem dX2_evenness_107 : decode cX2_evenness 107 = .ok (.iconst 1, 1) := by decide +kernel
theorem dX2_evenness_108 : decode cX2_evenness 108 = .ok (.invokestatic 42, 3) := by decide +kernel
theorem dX2_evenness_111 : decode cX2_evenness 111 = .ok (.istore_n 1, 1) := by decide +kernel
theorem dX2_evenness_112 : decode cX2_evenness 112 = .ok (.iconst 2, 1) := by decide +kernel
theorem dX2_evenness_113 : decode cX2_evenness 113 = .ok (.istore_n 2, 1) := by decide +kernel
theorem dX2_evenness_114 : decode cX2_evenness 114 = .ok (.iload_n 2, 1) := by decide +kernel
theorem dX2_evenness_115 : decode cX2_evenness 115 = .ok (.aload_n 0, 1) := by decide +kernel
theorem dX2_evenness_116 : decode cX2_evenness 116 = .ok (.getfield 21, 3) := by decide +kernel
theorem dX2_evenness_119 : decode cX2_evenness 119 = .ok (.if_icmp .ge 24, 3) := by decide +kernel
theorem dX2_evenness_122 : decode cX2_evenness 122 = .ok (.aload_n 0, 1) := by decide +kernel
theorem dX2_evenness_123 : decode cX2_evenness 123 = .ok (.getfield 18, 3) := by decide +kernel
theorem dX2_evenness_126 : decode cX2_evenness 126 = .ok (.iload_n 2, 1) := by decide +kernel
theorem dX2_evenness_127 : decode cX2_evenness 127 = .ok (.invokestatic 42, 3) := by decide +kernel
theorem dX2_evenness_130 : decode cX2_evenness 130 = .ok (.iload_n 1, 1) := by decide +kernel
theorem dX2_evenness_131 : decode cX2_evenness 131 = .ok (.if_icmp .eq 6, 3) := by decide +kernel
theorem dX2_evenness_134 : decode cX2_evenness 134 = .ok (.bipush (-2), 2) := by decide +kernel
theorem dX2_evenness_136 : decode cX2_evenness 136 = .ok (.ireturn, 1) := by decide +kernel
theorem dX2_evenness_137 : decode cX2_evenness 137 = .ok (.iinc 2 1, 3) := by decide +kernel
theorem dX2_evenness_140 : decode cX2_evenness 140 = .ok (.goto (-26), 3) := by decide +kernel
theorem dX2_evenness_143 : decode cX2_evenness 143 = .ok (.iload_n 1, 1) := by decide +kernel
theorem dX2_evenness_144 : decode cX2_evenness 144 = .ok (.ireturn, 1) := by decide +kernel
theorem dX2_powerOfRank_0 : decode cX2_powerOfRank 0 = .ok (.iconst 0, 1) := by decide +kernel
theorem dX2_powerOfRank_1 : decode cX2_powerOfRank 1 = .ok (.istore_n 2, 1) := by decide +kernel
theorem dX2_powerOfRank_2 : decode cX2_powerOfRank 2 = .ok (.iconst 1, 1) := by decide +kernel
theorem dX2_powerOfRank_3 : decode cX2_powerOfRank 3 = .ok (.istore_n 3, 1) := by decide +kernel
theorem dX2_powerOfRank_4 : decode cX2_powerOfRank 4 = .ok (.iload_n 3, 1) := by decide +kernel
theorem dX2_powerOfRank_5 : decode cX2_powerOfRank 5 = .ok (.aload_n 0, 1) := by decide +kernel
theorem dX2_powerOfRank_6 : decode cX2_powerOfRank 6 = .ok (.getfield 21, 3) := by decide +kernel
theorem dX2_powerOfRank_9 : decode cX2_powerOfRank 9 = .ok (.if_icmp .ge 27, 3) := by decide +kernel
theorem dX2_powerOfRank_12 : decode cX2_powerOfRank 12 = .ok (.aload_n 0, 1) := by decide +kernel
theorem dX2_powerOfRank_13 : decode cX2_powerOfRank 13 = .ok (.iload_n 3, 1) := by decide +kernel
theorem dX2_powerOfRank_14 : decode cX2_powerOfRank 14 = .ok (.invokevirtual 83, 3) := by decide +kernel
theorem dX2_powerOfRank_17 : decode cX2_powerOfRank 17 = .ok (.ifCond .eq 13, 3) := by decide +kernel
theorem dX2_powerOfRank_20 : decode cX2_powerOfRank 20 = .ok (.iload_n 2, 1) := by decide +kernel
theorem dX2_powerOfRank_21 : decode cX2_powerOfRank 21 = .ok (.iload_n 1, 1) := by decide +kernel
theorem dX2_powerOfRank_22 : decode cX2_powerOfRank 22 = .ok (.if_icmp .ne 5, 3) := by decide +kernel
theorem dX2_powerOfRank_25 : decode cX2_powerOfRank 25 = .ok (.iload_n 3, 1) := by decide +kernel
theorem dX2_powerOfRank_26 : decode cX2_powerOfRank 26 = .ok (.ireturn, 1) := by decide +kernel
theorem dX2_powerOfRank_27 : decode cX2_powerOfRank 27 = .ok (.iinc 2 1, 3) := by decide +kernel
theorem dX2_powerOfRank_30 : decode cX2_powerOfRank 30 = .ok (.iinc 3 1, 3) := by decide +kernel
theorem dX2_powerOfRank_33 : decode cX2_powerOfRank 33 = .ok (.goto (-29), 3) := by decide +kernel
theorem dX2_powerOfRank_36 : decode cX2_powerOfRank 36 = .ok (.iconst (-1), 1) := by decide +kernel
theorem dX2_powerOfRank_37 : decode cX2_powerOfRank 37 = .ok (.ireturn, 1) := by decide +kernel
theorem dX2_pointsOfCurve_0 : decode cX2_pointsOfCurve 0 = .ok (.lconst 1, 1) := by decide +kernel
theorem dX2_pointsOfCurve_1 : decode cX2_pointsOfCurve 1 = .ok (.lstore 5, 2) := by decide +kernel
theorem dX2_pointsOfCurve_3 : decode cX2_pointsOfCurve 3 = .ok (.iconst 0, 1) := by decide +kernel
theorem dX2_pointsOfCurve_4 : decode cX2_pointsOfCurve 4 = .ok (.istore 7, 2) := by decide +kernel
theorem dX2_pointsOfCurve_6 : decode cX2_pointsOfCurve 6 = .ok (.iload 7, 2) := by decide +kernel
theorem dX2_pointsOfCurve_8 : decode cX2_pointsOfCurve 8 = .ok (.iload_n 1, 1) := by decide +kernel
theorem dX2_pointsOfCurve_9 : decode cX2_pointsOfCurve 9 = .ok (.if_icmp .ge 19, 3) := by decide +kernel
theorem dX2_pointsOfCurve_12 : decode cX2_pointsOfCurve 12 = .ok (.lload 5, 2) := by decide +kernel
theorem dX2_pointsOfCurve_14 : decode cX2_pointsOfCurve 14 = .ok (.aload_n 0, 1) := by decide +kernel
theorem dX2_pointsOfCurve_15 : decode cX2_pointsOfCurve 15 = .ok (.getfield 21, 3) := by decide +kernel
theorem dX2_pointsOfCurve_18 : decode cX2_pointsOfCurve 18 = .ok (.i2l, 1) := by decide +kernel
theorem dX2_pointsOfCurve_19 : decode cX2_pointsOfCurve 19 = .ok (.lmul, 1) := by decide +kernel
theorem dX2_pointsOfCurve_20 : decode cX2_pointsOfCurve 20 = .ok (.lstore 5, 2) := by decide +kernel
theorem dX2_pointsOfCurve_22 : decode cX2_pointsOfCurve 22 = .ok (.iinc 7 1, 3) := by decide +kernel
theorem dX2_pointsOfCurve_25 : decode cX2_pointsOfCurve 25 = .ok (.goto (-19), 3) := by decide +kernel
theorem dX2_pointsOfCurve_28 : decode cX2_pointsOfCurve 28 = .ok (.iconst 1, 1) := by decide +kernel
theorem dX2_pointsOfCurve_29 : decode cX2_pointsOfCurve 29 = .ok (.istore 7, 2) := by decide +kernel
theorem dX2_pointsOfCurve_31 : decode cX2_pointsOfCurve 31 = .ok (.iload 7, 2) := by decide +kernel
theorem dX2_pointsOfCurve_33 : decode cX2_pointsOfCurve 33 = .ok (.aload_n 0, 1) := by decide +kernel
theorem dX2_pointsOfCurve_34 : decode cX2_pointsOfCurve 34 = .ok (.getfield 25, 3) := by decide +kernel
theorem dX2_pointsOfCurve_37 : decode cX2_pointsOfCurve 37 = .ok (.if_icmp .ge 68, 3) := by decide +kernel
theorem dX2_pointsOfCurve_40 : decode cX2_pointsOfCurve 40 = .ok (.iconst 1, 1) := by decide +kernel
theorem dX2_pointsOfCurve_41 : decode cX2_pointsOfCurve 41 = .ok (.istore 8, 2) := by decide +kernel
theorem dX2_pointsOfCurve_43 : decode cX2_pointsOfCurve 43 = .ok (.iload 8, 2) := by decide +kernel
theorem dX2_pointsOfCurve_45 : decode cX2_pointsOfCurve 45 = .ok (.aload_n 0, 1) := by decide +kernel
theorem dX2_pointsOfCurve_46 : decode cX2_pointsOfCurve 46 = .ok (.getfield 25, 3) := by decide +kernel
theorem dX2_pointsOfCurve_49 : decode cX2_pointsOfCurve 49 = .ok (.if_icmp .ge 50, 3) := by decide +kernel
theorem dX2_pointsOfCurve_52 : decode cX2_pointsOfCurve 52 = .ok (.lload 5, 2) := by decide +kernel
theorem dX2_pointsOfCurve_54 : decode cX2_pointsOfCurve 54 = .ok (.iload 7, 2) := by decide +kernel
theorem dX2_pointsOfCurve_56 : decode cX2_pointsOfCurve 56 = .ok (.iload 8, 2) := by decide +kernel
theorem dX2_pointsOfCurve_58 : decode cX2_pointsOfCurve 58 = .ok (.iadd, 1) := by decide +kernel
theorem dX2_pointsOfCurve_59 : decode cX2_pointsOfCurve 59 = .ok (.aload_n 0, 1) := by decide +kernel
theorem dX2_pointsOfCurve_60 : decode cX2_pointsOfCurve 60 = .ok (.getfield 25, 3) := by decide +kernel
theorem dX2_pointsOfCurve_63 : decode cX2_pointsOfCurve 63 = .ok (.if_icmp .ne 14, 3) := by decide +kernel
theorem dX2_pointsOfCurve_66 : decode cX2_pointsOfCurve 66 = .ok (.aload_n 0, 1) := by decide +kernel
theorem dX2_pointsOfCurve_67 : decode cX2_pointsOfCurve 67 = .ok (.iload 7, 2) := by decide +kernel
theorem dX2_pointsOfCurve_69 : decode cX2_pointsOfCurve 69 = .ok (.iload_n 1, 1) := by decide +kernel
theorem dX2_pointsOfCurve_70 : decode cX2_pointsOfCurve 70 = .ok (.invokevirtual 86, 3) := by decide +kernel
theorem dX2_pointsOfCurve_73 : decode cX2_pointsOfCurve 73 = .ok (.i2l, 1) := by decide +kernel
theorem dX2_pointsOfCurve_74 : decode cX2_pointsOfCurve 74 = .ok (.goto 16, 3) := by decide +kernel
theorem dX2_pointsOfCurve_77 : decode cX2_pointsOfCurve 77 = .ok (.aload_n 0, 1) := by decide +kernel
theorem dX2_pointsOfCurve_78 : decode cX2_pointsOfCurve 78 = .ok (.iload 7, 2) := by decide +kernel
theorem dX2_pointsOfCurve_80 : decode cX2_pointsOfCurve 80 = .ok (.iload 8, 2) := by decide +kernel
theorem dX2_pointsOfCurve_82 : decode cX2_pointsOfCurve 82 = .ok (.iload_n 1, 1) := by decide +kernel
theorem dX2_pointsOfCurve_83 : decode cX2_pointsOfCurve 83 = .ok (.aload_n 2, 1) := by decide +kernel
theorem dX2_pointsOfCurve_84 : decode cX2_pointsOfCurve 84 = .ok (.aload_n 3, 1) := by decide +kernel
theorem dX2_pointsOfCurve_85 : decode cX2_pointsOfCurve 85 = .ok (.aload 4, 2) := by decide +kernel
theorem dX2_pointsOfCurve_87 : decode cX2_pointsOfCurve 87 = .ok (.invokevirtual 89, 3) := by decide +kernel
theorem dX2_pointsOfCurve_90 : decode cX2_pointsOfCurve 90 = .ok (.ladd, 1) := by decide +kernel
theorem dX2_pointsOfCurve_91 : decode cX2_pointsOfCurve 91 = .ok (.lstore 5, 2) := by decide +kernel
theorem dX2_pointsOfCurve_93 : decode cX2_pointsOfCurve 93 = .ok (.iinc 8 1, 3) := by decide +kernel
theorem dX2_pointsOfCurve_96 : decode cX2_pointsOfCurve 96 = .ok (.goto (-53), 3) := by decide +kernel
theorem dX2_pointsOfCurve_99 : decode cX2_pointsOfCurve 99 = .ok (.iinc 7 1, 3) := by decide +kernel
theorem dX2_pointsOfCurve_102 : decode cX2_pointsOfCurve 102 = .ok (.goto (-71), 3) := by decide +kernel
theorem dX2_pointsOfCurve_105 : decode cX2_pointsOfCurve 105 = .ok (.lload 5, 2) := by decide +kernel
theorem dX2_pointsOfCurve_107 : decode cX2_pointsOfCurve 107 = .ok (.lreturn, 1) := by decide +kernel
theorem dX2_oppositePair_0 : decode cX2_oppositePair 0 = .ok (.aload_n 0, 1) := by decide +kernel
theorem dX2_oppositePair_1 : decode cX2_oppositePair 1 = .ok (.iload_n 1, 1) := by decide +kernel
theorem dX2_oppositePair_2 : decode cX2_oppositePair 2 = .ok (.aload_n 0, 1) := by decide +kernel
theorem dX2_oppositePair_3 : decode cX2_oppositePair 3 = .ok (.getfield 21, 3) := by decide +kernel
theorem dX2_oppositePair_6 : decode cX2_oppositePair 6 = .ok (.iconst 1, 1) := by decide +kernel
theorem dX2_oppositePair_7 : decode cX2_oppositePair 7 = .ok (.isub, 1) := by decide +kernel
theorem dX2_oppositePair_8 : decode cX2_oppositePair 8 = .ok (.invokevirtual 61, 3) := by decide +kernel
theorem dX2_oppositePair_11 : decode cX2_oppositePair 11 = .ok (.ifCond .eq 7, 3) := by decide +kernel
theorem dX2_oppositePair_14 : decode cX2_oppositePair 14 = .ok (.iconst 1, 1) := by decide +kernel
theorem dX2_oppositePair_15 : decode cX2_oppositePair 15 = .ok (.goto 4, 3) := by decide +kernel
theorem dX2_oppositePair_18 : decode cX2_oppositePair 18 = .ok (.iconst 0, 1) := by decide +kernel
theorem dX2_oppositePair_19 : decode cX2_oppositePair 19 = .ok (.istore_n 3, 1) := by decide +kernel
theorem dX2_oppositePair_20 : decode cX2_oppositePair 20 = .ok (.iload_n 3, 1) := by decide +kernel
theorem dX2_oppositePair_21 : decode cX2_oppositePair 21 = .ok (.ifCond .eq 14, 3) := by decide +kernel
theorem dX2_oppositePair_24 : decode cX2_oppositePair 24 = .ok (.iload_n 2, 1) := by decide +kernel
theorem dX2_oppositePair_25 : decode cX2_oppositePair 25 = .ok (.iconst 2, 1) := by decide +kernel
theorem dX2_oppositePair_26 : decode cX2_oppositePair 26 = .ok (.irem, 1) := by decide +kernel
theorem dX2_oppositePair_27 : decode cX2_oppositePair 27 = .ok (.iconst 1, 1) := by decide +kernel
theorem dX2_oppositePair_28 : decode cX2_oppositePair 28 = .ok (.if_icmp .ne 7, 3) := by decide +kernel
theorem dX2_oppositePair_31 : decode cX2_oppositePair 31 = .ok (.iconst 1, 1) := by decide +kernel
theorem dX2_oppositePair_32 : decode cX2_oppositePair 32 = .ok (.goto 4, 3) := by decide +kernel
theorem dX2_oppositePair_35 : decode cX2_oppositePair 35 = .ok (.iconst (-1), 1) := by decide +kernel
theorem dX2_oppositePair_36 : decode cX2_oppositePair 36 = .ok (.ireturn, 1) := by decide +kernel
theorem dX2_liftedSum_0 : decode cX2_liftedSum 0 = .ok (.aload_n 0, 1) := by decide +kernel
theorem dX2_liftedSum_1 : decode cX2_liftedSum 1 = .ok (.iload_n 1, 1) := by decide +kernel
theorem dX2_liftedSum_2 : decode cX2_liftedSum 2 = .ok (.iload_n 2, 1) := by decide +kernel
theorem dX2_liftedSum_3 : decode cX2_liftedSum 3 = .ok (.aload 4, 2) := by decide +kernel
theorem dX2_liftedSum_5 : decode cX2_liftedSum 5 = .ok (.aload 5, 2) := by decide +kernel
theorem dX2_liftedSum_7 : decode cX2_liftedSum 7 = .ok (.invokevirtual 93, 3) := by decide +kernel
theorem dX2_liftedSum_10 : decode cX2_liftedSum 10 = .ok (.aload 5, 2) := by decide +kernel
theorem dX2_liftedSum_12 : decode cX2_liftedSum 12 = .ok (.aload 6, 2) := by decide +kernel
theorem dX2_liftedSum_14 : decode cX2_liftedSum 14 = .ok (.invokestatic 97, 3) := by decide +kernel
theorem dX2_liftedSum_17 : decode cX2_liftedSum 17 = .ok (.iconst 1, 1) := by decide +kernel
theorem dX2_liftedSum_18 : decode cX2_liftedSum 18 = .ok (.istore 7, 2) := by decide +kernel
theorem dX2_liftedSum_20 : decode cX2_liftedSum 20 = .ok (.iload 7, 2) := by decide +kernel
theorem dX2_liftedSum_22 : decode cX2_liftedSum 22 = .ok (.iload_n 3, 1) := by decide +kernel
theorem dX2_liftedSum_23 : decode cX2_liftedSum 23 = .ok (.if_icmp .ge 24, 3) := by decide +kernel
theorem dX2_liftedSum_26 : decode cX2_liftedSum 26 = .ok (.aload 4, 2) := by decide +kernel
theorem dX2_liftedSum_28 : decode cX2_liftedSum 28 = .ok (.aload 6, 2) := by decide +kernel
theorem dX2_liftedSum_30 : decode cX2_liftedSum 30 = .ok (.aload 5, 2) := by decide +kernel
theorem dX2_liftedSum_32 : decode cX2_liftedSum 32 = .ok (.aload 6, 2) := by decide +kernel
theorem dX2_liftedSum_34 : decode cX2_liftedSum 34 = .ok (.aload_n 0, 1) := by decide +kernel
theorem dX2_liftedSum_35 : decode cX2_liftedSum 35 = .ok (.getfield 25, 3) := by decide +kernel
theorem dX2_liftedSum_38 : decode cX2_liftedSum 38 = .ok (.invokevirtual 101, 3) := by decide +kernel
theorem dX2_liftedSum_41 : decode cX2_liftedSum 41 = .ok (.iinc 7 1, 3) := by decide +kernel
theorem dX2_liftedSum_44 : decode cX2_liftedSum 44 = .ok (.goto (-24), 3) := by decide +kernel
theorem dX2_liftedSum_47 : decode cX2_liftedSum 47 = .ok (.iload_n 3, 1) := by decide +kernel
theorem dX2_liftedSum_48 : decode cX2_liftedSum 48 = .ok (.iconst 2, 1) := by decide +kernel
theorem dX2_liftedSum_49 : decode cX2_liftedSum 49 = .ok (.irem, 1) := by decide +kernel
theorem dX2_liftedSum_50 : decode cX2_liftedSum 50 = .ok (.ifCond .ne 13, 3) := by decide +kernel
theorem dX2_liftedSum_53 : decode cX2_liftedSum 53 = .ok (.aload 6, 2) := by decide +kernel
theorem dX2_liftedSum_55 : decode cX2_liftedSum 55 = .ok (.iconst 0, 1) := by decide +kernel
theorem dX2_liftedSum_56 : decode cX2_liftedSum 56 = .ok (.invokestatic 76, 3) := by decide +kernel
theorem dX2_liftedSum_59 : decode cX2_liftedSum 59 = .ok (.lneg, 1) := by decide +kernel
theorem dX2_liftedSum_60 : decode cX2_liftedSum 60 = .ok (.goto 9, 3) := by decide +kernel
theorem dX2_liftedSum_63 : decode cX2_liftedSum 63 = .ok (.aload 6, 2) := by decide +kernel
theorem dX2_liftedSum_65 : decode cX2_liftedSum 65 = .ok (.iconst 0, 1) := by decide +kernel
theorem dX2_liftedSum_66 : decode cX2_liftedSum 66 = .ok (.invokestatic 76, 3) := by decide +kernel
theorem dX2_liftedSum_69 : decode cX2_liftedSum 69 = .ok (.lreturn, 1) := by decide +kernel
theorem dX3_init_0 : decode cX3_init 0 = .ok (.aload_n 0, 1) := by decide +kernel
theorem dX3_init_1 : decode cX3_init 1 = .ok (.invokespecial 3, 3) := by decide +kernel
theorem dX3_init_4 : decode cX3_init 4 = .ok (.aload_n 0, 1) := by decide +kernel
theorem dX3_init_5 : decode cX3_init 5 = .ok (.new 9, 3) := by decide +kernel
theorem dX3_init_8 : decode cX3_init 8 = .ok (.dup, 1) := by decide +kernel
theorem dX3_init_9 : decode cX3_init 9 = .ok (.invokespecial 11, 3) := by decide +kernel
theorem dX3_init_12 : decode cX3_init 12 = .ok (.putfield 12, 3) := by decide +kernel
theorem dX3_init_15 : decode cX3_init 15 = .ok (.aload_n 0, 1) := by decide +kernel
theorem dX3_init_16 : decode cX3_init 16 = .ok (.new 18, 3) := by decide +kernel
theorem dX3_init_19 : decode cX3_init 19 = .ok (.dup, 1) := by decide +kernel
theorem dX3_init_20 : decode cX3_init 20 = .ok (.invokespecial 20, 3) := by decide +kernel
theorem dX3_init_23 : decode cX3_init 23 = .ok (.putfield 21, 3) := by decide +kernel
theorem dX3_init_26 : decode cX3_init 26 = .ok (.aload_n 0, 1) := by decide +kernel
theorem dX3_init_27 : decode cX3_init 27 = .ok (.bipush 9, 2) := by decide +kernel
theorem dX3_init_29 : decode cX3_init 29 = .ok (.bipush 10, 2) := by decide +kernel
theorem dX3_init_31 : decode cX3_init 31 = .ok (.multianewarray 25 2, 4) := by decide +kernel
theorem dX3_init_35 : decode cX3_init 35 = .ok (.putfield 27, 3) := by decide +kernel
theorem dX3_init_38 : decode cX3_init 38 = .ok (.aload_n 0, 1) := by decide +kernel
theorem dX3_init_39 : decode cX3_init 39 = .ok (.bipush 9, 2) := by decide +kernel
theorem dX3_init_41 : decode cX3_init 41 = .ok (.bipush 10, 2) := by decide +kernel
theorem dX3_init_43 : decode cX3_init 43 = .ok (.multianewarray 25 2, 4) := by decide +kernel
theorem dX3_init_47 : decode cX3_init 47 = .ok (.putfield 30, 3) := by decide +kernel
theorem dX3_init_50 : decode cX3_init 50 = .ok (.aload_n 0, 1) := by decide +kernel
theorem dX3_init_51 : decode cX3_init 51 = .ok (.bipush 9, 2) := by decide +kernel
theorem dX3_init_53 : decode cX3_init 53 = .ok (.bipush 10, 2) := by decide +kernel
theorem dX3_init_55 : decode cX3_init 55 = .ok (.multianewarray 25 2, 4) := by decide +kernel
theorem dX3_init_59 : decode cX3_init 59 = .ok (.putfield 33, 3) := by decide +kernel
theorem dX3_init_62 : decode cX3_init 62 = .ok (.aload_n 0, 1) := by decide +kernel
theorem dX3_init_63 : decode cX3_init 63 = .ok (.new 36, 3) := by decide +kernel
theorem dX3_init_66 : decode cX3_init 66 = .ok (.dup, 1) := by decide +kernel
theorem dX3_init_67 : decode cX3_init 67 = .ok (.invokespecial 38, 3) := by decide +kernel
theorem dX3_init_70 : decode cX3_init 70 = .ok (.putfield 39, 3) := by decide +kernel
theorem dX3_init_73 : decode cX3_init 73 = .ok (.aload_n 0, 1) := by decide +kernel
theorem dX3_init_74 : decode cX3_init 74 = .ok (.new 43, 3) := by decide +kernel
theorem dX3_init_77 : decode cX3_init 77 = .ok (.dup, 1) := by decide +kernel
theorem dX3_init_78 : decode cX3_init 78 = .ok (.invokespecial 45, 3) := by decide +kernel
theorem dX3_init_81 : decode cX3_init 81 = .ok (.putfield 46, 3) := by decide +kernel
theorem dX3_init_84 : decode cX3_init 84 = .ok (.aload_n 0, 1) := by decide +kernel
theorem dX3_init_85 : decode cX3_init 85 = .ok (.iconst (-1), 1) := by decide +kernel
theorem dX3_init_86 : decode cX3_init 86 = .ok (.putfield 50, 3) := by decide +kernel
theorem dX3_init_89 : decode cX3_init 89 = .ok (.aload_n 0, 1) := by decide +kernel
theorem dX3_init_90 : decode cX3_init 90 = .ok (.lconst 0, 1) := by decide +kernel
theorem dX3_init_91 : decode cX3_init 91 = .ok (.putfield 54, 3) := by decide +kernel
theorem dX3_init_94 : decode cX3_init 94 = .ok (.aload_n 0, 1) := by decide +kernel
theorem dX3_init_95 : decode cX3_init 95 = .ok (.iconst 0, 1) := by decide +kernel
theorem dX3_init_96 : decode cX3_init 96 = .ok (.putfield 58, 3) := by decide +kernel
theorem dX3_init_99 : decode cX3_init 99 = .ok (.aload_n 0, 1) := by decide +kernel
theorem dX3_init_100 : decode cX3_init 100 = .ok (.iconst 0, 1) := by decide +kernel
theorem dX3_init_101 : decode cX3_init 101 = .ok (.putfield 61, 3) := by decide +kernel
theorem dX3_init_104 : decode cX3_init 104 = .ok (.aload_n 0, 1) := by decide +kernel
theorem dX3_init_105 : decode cX3_init 105 = .ok (.iconst 0, 1) := by decide +kernel
theorem dX3_init_106 : decode cX3_init 106 = .ok (.putfield 64, 3) := by decide +kernel
theorem dX3_init_109 : decode cX3_init 109 = .ok (.aload_n 0, 1) := by decide +kernel
theorem dX3_init_110 : decode cX3_init 110 = .ok (.iconst (-1), 1) := by decide +kernel
theorem dX3_init_111 : decode cX3_init 111 = .ok (.putfield 67, 3) := by decide +kernel
theorem dX3_init_114 : decode cX3_init 114 = .ok (.aload_n 0, 1) := by decide +kernel
theorem dX3_init_115 : decode cX3_init 115 = .ok (.iconst 0, 1) := by decide +kernel
theorem dX3_init_116 : decode cX3_init 116 = .ok (.putfield 70, 3) := by decide +kernel
theorem dX3_init_119 : decode cX3_init 119 = .ok (.return_, 1) := by decide +kernel
theorem dX3_tape_0 : decode cX3_tape 0 = .ok (.aload_n 0, 1) := by decide +kernel
theorem dX3_tape_1 : decode cX3_tape 1 = .ok (.getfield 12, 3) := by decide +kernel
theorem dX3_tape_4 : decode cX3_tape 4 = .ok (.areturn, 1) := by decide +kernel
theorem dX3_read_0 : decode cX3_read 0 = .ok (.aload_n 0, 1) := by decide +kernel
theorem dX3_read_1 : decode cX3_read 1 = .ok (.iconst 0, 1) := by decide +kernel
theorem dX3_read_2 : decode cX3_read 2 = .ok (.putfield 64, 3) := by decide +kernel
theorem dX3_read_5 : decode cX3_read 5 = .ok (.aload_n 0, 1) := by decide +kernel
theorem dX3_read_6 : decode cX3_read 6 = .ok (.getfield 39, 3) := by decide +kernel
theorem dX3_read_9 : decode cX3_read 9 = .ok (.invokevirtual 74, 3) := by decide +kernel
theorem dX3_read_12 : decode cX3_read 12 = .ok (.aload_n 0, 1) := by decide +kernel
theorem dX3_read_13 : decode cX3_read 13 = .ok (.getfield 12, 3) := by decide +kernel
theorem dX3_read_16 : decode cX3_read 16 = .ok (.iload_n 1, 1) := by decide +kernel
theorem dX3_read_17 : decode cX3_read 17 = .ok (.invokevirtual 77, 3) := by decide +kernel
theorem dX3_read_20 : decode cX3_read 20 = .ok (.iconst 0, 1) := by decide +kernel
theorem dX3_read_21 : decode cX3_read 21 = .ok (.istore_n 2, 1) := by decide +kernel
theorem dX3_read_22 : decode cX3_read 22 = .ok (.iload_n 2, 1) := by decide +kernel
theorem dX3_read_23 : decode cX3_read 23 = .ok (.sipush 900, 3) := by decide +kernel
theorem dX3_read_26 : decode cX3_read 26 = .ok (.if_icmp .gt 55, 3) := by decide +kernel
theorem dX3_read_29 : decode cX3_read 29 = .ok (.aload_n 0, 1) := by decide +kernel
theorem dX3_read_30 : decode cX3_read 30 = .ok (.invokevirtual 81, 3) := by decide +kernel
theorem dX3_read_33 : decode cX3_read 33 = .ok (.ifCond .ne 8, 3) := by decide +kernel
theorem dX3_read_36 : decode cX3_read 36 = .ok (.aload_n 0, 1) := by decide +kernel
theorem dX3_read_37 : decode cX3_read 37 = .ok (.getfield 64, 3) := by decide +kernel
theorem dX3_read_40 : decode cX3_read 40 = .ok (.ireturn, 1) := by decide +kernel
theorem dX3_read_41 : decode cX3_read 41 = .ok (.aload_n 0, 1) := by decide +kernel
theorem dX3_read_42 : decode cX3_read 42 = .ok (.getfield 12, 3) := by decide +kernel
theorem dX3_read_45 : decode cX3_read 45 = .ok (.invokevirtual 85, 3) := by decide +kernel
theorem dX3_read_48 : decode cX3_read 48 = .ok (.ifCond .eq 20, 3) := by decide +kernel
theorem dX3_read_51 : decode cX3_read 51 = .ok (.aload_n 0, 1) := by decide +kernel
theorem dX3_read_52 : decode cX3_read 52 = .ok (.getfield 39, 3) := by decide +kernel
theorem dX3_read_55 : decode cX3_read 55 = .ok (.invokevirtual 88, 3) := by decide +kernel
theorem dX3_read_58 : decode cX3_read 58 = .ok (.ifCond .le 7, 3) := by decide +kernel
theorem dX3_read_61 : decode cX3_read 61 = .ok (.iconst 0, 1) := by decide +kernel
theorem dX3_read_62 : decode cX3_read 62 = .ok (.goto 5, 3) := by decide +kernel
theorem dX3_read_65 : decode cX3_read 65 = .ok (.bipush 6, 2) := by decide +kernel
theorem dX3_read_67 : decode cX3_read 67 = .ok (.ireturn, 1) := by decide +kernel
theorem dX3_read_68 : decode cX3_read 68 = .ok (.aload_n 0, 1) := by decide +kernel
theorem dX3_read_69 : decode cX3_read 69 = .ok (.getfield 12, 3) := by decide +kernel
theorem dX3_read_72 : decode cX3_read 72 = .ok (.invokevirtual 92, 3) := by decide +kernel
theorem dX3_read_75 : decode cX3_read 75 = .ok (.iinc 2 1, 3) := by decide +kernel
theorem dX3_read_78 : decode cX3_read 78 = .ok (.goto (-56), 3) := by decide +kernel
theorem dX3_read_81 : decode cX3_read 81 = .ok (.iconst 1, 1) := by decide +kernel
theorem dX3_read_82 : decode cX3_read 82 = .ok (.ireturn, 1) := by decide +kernel
theorem dX3_faultPlace_0 : decode cX3_faultPlace 0 = .ok (.aload_n 0, 1) := by decide +kernel
theorem dX3_faultPlace_1 : decode cX3_faultPlace 1 = .ok (.getfield 64, 3) := by decide +kernel
theorem dX3_faultPlace_4 : decode cX3_faultPlace 4 = .ok (.bipush 7, 2) := by decide +kernel
theorem dX3_faultPlace_6 : decode cX3_faultPlace 6 = .ok (.if_icmp .ne 10, 3) := by decide +kernel
theorem dX3_faultPlace_9 : decode cX3_faultPlace 9 = .ok (.aload_n 0, 1) := by decide +kernel
theorem dX3_faultPlace_10 : decode cX3_faultPlace 10 = .ok (.getfield 67, 3) := by decide +kernel
theorem dX3_faultPlace_13 : decode cX3_faultPlace 13 = .ok (.goto 10, 3) := by decide +kernel
theorem dX3_faultPlace_16 : decode cX3_faultPlace 16 = .ok (.aload_n 0, 1) := by decide +kernel
theorem dX3_faultPlace_17 : decode cX3_faultPlace 17 = .ok (.getfield 12, 3) := by decide +kernel
theorem dX3_faultPlace_20 : decode cX3_faultPlace 20 = .ok (.invokevirtual 95, 3) := by decide +kernel
theorem dX3_faultPlace_23 : decode cX3_faultPlace 23 = .ok (.ireturn, 1) := by decide +kernel
theorem dX3_exchange_0 : decode cX3_exchange 0 = .ok (.aload_n 0, 1) := by decide +kernel
theorem dX3_exchange_1 : decode cX3_exchange 1 = .ok (.getfield 39, 3) := by decide +kernel
theorem dX3_exchange_4 : decode cX3_exchange 4 = .ok (.astore_n 2, 1) := by decide +kernel
theorem dX3_exchange_5 : decode cX3_exchange 5 = .ok (.aload_n 1, 1) := by decide +kernel
theorem dX3_exchange_6 : decode cX3_exchange 6 = .ok (.ifnull 8, 3) := by decide +kernel
theorem dX3_exchange_9 : decode cX3_exchange 9 = .ok (.aload_n 0, 1) := by decide +kernel
theorem dX3_exchange_10 : decode cX3_exchange 10 = .ok (.aload_n 1, 1) := by decide +kernel
theorem dX3_exchange_11 : decode cX3_exchange 11 = .ok (.putfield 39, 3) := by decide +kernel
theorem dX3_exchange_14 : decode cX3_exchange 14 = .ok (.aload_n 2, 1) := by decide +kernel
theorem dX3_exchange_15 : decode cX3_exchange 15 = .ok (.areturn, 1) := by decide +kernel
theorem dX3_blame_0 : decode cX3_blame 0 = .ok (.aload_n 0, 1) := by decide +kernel
theorem dX3_blame_1 : decode cX3_blame 1 = .ok (.iload_n 1, 1) := by decide +kernel
theorem dX3_blame_2 : decode cX3_blame 2 = .ok (.putfield 64, 3) := by decide +kernel
theorem dX3_blame_5 : decode cX3_blame 5 = .ok (.iconst 0, 1) := by decide +kernel
theorem dX3_blame_6 : decode cX3_blame 6 = .ok (.ireturn, 1) := by decide +kernel
theorem dX3_readLine_0 : decode cX3_readLine 0 = .ok (.aload_n 0, 1) := by decide +kernel
theorem dX3_readLine_1 : decode cX3_readLine 1 = .ok (.iconst 0, 1) := by decide +kernel
theorem dX3_readLine_2 : decode cX3_readLine 2 = .ok (.putfield 70, 3) := by decide +kernel
theorem dX3_readLine_5 : decode cX3_readLine 5 = .ok (.aload_n 0, 1) := by decide +kernel
theorem dX3_readLine_6 : decode cX3_readLine 6 = .ok (.getfield 12, 3) := by decide +kernel
theorem dX3_readLine_9 : decode cX3_readLine 9 = .ok (.iconst 0, 1) := by decide +kernel
theorem dX3_readLine_10 : decode cX3_readLine 10 = .ok (.invokevirtual 98, 3) := by decide +kernel
theorem dX3_readLine_13 : decode cX3_readLine 13 = .ok (.ifCond .eq 11, 3) := by decide +kernel
theorem dX3_readLine_16 : decode cX3_readLine 16 = .ok (.aload_n 0, 1) := by decide +kernel
theorem dX3_readLine_17 : decode cX3_readLine 17 = .ok (.invokevirtual 102, 3) := by decide +kernel
theorem dX3_readLine_20 : decode cX3_readLine 20 = .ok (.istore_n 1, 1) := by decide +kernel
theorem dX3_readLine_21 : decode cX3_readLine 21 = .ok (.goto 47, 3) := by decide +kernel
theorem dX3_readLine_24 : decode cX3_readLine 24 = .ok (.aload_n 0, 1) := by decide +kernel
theorem dX3_readLine_25 : decode cX3_readLine 25 = .ok (.getfield 12, 3) := by decide +kernel
theorem dX3_readLine_28 : decode cX3_readLine 28 = .ok (.iconst 1, 1) := by decide +kernel
theorem dX3_readLine_29 : decode cX3_readLine 29 = .ok (.invokevirtual 98, 3) := by decide +kernel
theorem dX3_readLine_32 : decode cX3_readLine 32 = .ok (.ifCond .eq 11, 3) := by decide +kernel
theorem dX3_readLine_35 : decode cX3_readLine 35 = .ok (.aload_n 0, 1) := by decide +kernel
theorem dX3_readLine_36 : decode cX3_readLine 36 = .ok (.invokevirtual 105, 3) := by decide +kernel
theorem dX3_readLine_39 : decode cX3_readLine 39 = .ok (.istore_n 1, 1) := by decide +kernel
theorem dX3_readLine_40 : decode cX3_readLine 40 = .ok (.goto 28, 3) := by decide +kernel
theorem dX3_readLine_43 : decode cX3_readLine 43 = .ok (.aload_n 0, 1) := by decide +kernel
theorem dX3_readLine_44 : decode cX3_readLine 44 = .ok (.getfield 12, 3) := by decide +kernel
theorem dX3_readLine_47 : decode cX3_readLine 47 = .ok (.iconst 2, 1) := by decide +kernel
theorem dX3_readLine_48 : decode cX3_readLine 48 = .ok (.invokevirtual 98, 3) := by decide +kernel
theorem dX3_readLine_51 : decode cX3_readLine 51 = .ok (.ifCond .eq 11, 3) := by decide +kernel
theorem dX3_readLine_54 : decode cX3_readLine 54 = .ok (.aload_n 0, 1) := by decide +kernel
theorem dX3_readLine_55 : decode cX3_readLine 55 = .ok (.invokevirtual 108, 3) := by decide +kernel
theorem dX3_readLine_58 : decode cX3_readLine 58 = .ok (.istore_n 1, 1) := by decide +kernel
theorem dX3_readLine_59 : decode cX3_readLine 59 = .ok (.goto 9, 3) := by decide +kernel
theorem dX3_readLine_62 : decode cX3_readLine 62 = .ok (.aload_n 0, 1) := by decide +kernel
theorem dX3_readLine_63 : decode cX3_readLine 63 = .ok (.iconst 1, 1) := by decide +kernel
theorem dX3_readLine_64 : decode cX3_readLine 64 = .ok (.invokevirtual 111, 3) := by decide +kernel
theorem dX3_readLine_67 : decode cX3_readLine 67 = .ok (.ireturn, 1) := by decide +kernel
theorem dX3_readLine_68 : decode cX3_readLine 68 = .ok (.iload_n 1, 1) := by decide +kernel
theorem dX3_readLine_69 : decode cX3_readLine 69 = .ok (.ifCond .ne 5, 3) := by decide +kernel
theorem dX3_readLine_72 : decode cX3_readLine 72 = .ok (.iconst 0, 1) := by decide +kernel
theorem dX3_readLine_73 : decode cX3_readLine 73 = .ok (.ireturn, 1) := by decide +kernel
theorem dX3_readLine_74 : decode cX3_readLine 74 = .ok (.aload_n 0, 1) := by decide +kernel
theorem dX3_readLine_75 : decode cX3_readLine 75 = .ok (.getfield 12, 3) := by decide +kernel
theorem dX3_readLine_78 : decode cX3_readLine 78 = .ok (.invokevirtual 85, 3) := by decide +kernel
theorem dX3_readLine_81 : decode cX3_readLine 81 = .ok (.ifCond .ne 21, 3) := by decide +kernel
theorem dX3_readLine_84 : decode cX3_readLine 84 = .ok (.aload_n 0, 1) := by decide +kernel
theorem dX3_readLine_85 : decode cX3_readLine 85 = .ok (.getfield 12, 3) := by decide +kernel
theorem dX3_readLine_88 : decode cX3_readLine 88 = .ok (.bipush 59, 2) := by decide +kernel
theorem dX3_readLine_90 : decode cX3_readLine 90 = .ok (.invokevirtual 114, 3) := by decide +kernel
theorem dX3_readLine_93 : decode cX3_readLine 93 = .ok (.ifCond .ne 9, 3) := by decide +kernel
theorem dX3_readLine_96 : decode cX3_readLine 96 = .ok (.aload_n 0, 1) := by decide +kernel
theorem dX3_readLine_97 : decode cX3_readLine 97 = .ok (.iconst 1, 1) := by decide +kernel
theorem dX3_readLine_98 : decode cX3_readLine 98 = .ok (.invokevirtual 111, 3) := by decide +kernel
theorem dX3_readLine_101 : decode cX3_readLine 101 = .ok (.ireturn, 1) := by decide +kernel
theorem dX3_readLine_102 : decode cX3_readLine 102 = .ok (.aload_n 0, 1) := by decide +kernel
theorem dX3_readLine_103 : decode cX3_readLine 103 = .ok (.getfield 70, 3) := by decide +kernel
theorem dX3_readLine_106 : decode cX3_readLine 106 = .ok (.ifCond .eq 12, 3) := by decide +kernel
theorem dX3_readLine_109 : decode cX3_readLine 109 = .ok (.aload_n 0, 1) := by decide +kernel
theorem dX3_readLine_110 : decode cX3_readLine 110 = .ok (.bipush 7, 2) := by decide +kernel
theorem dX3_readLine_112 : decode cX3_readLine 112 = .ok (.invokevirtual 111, 3) := by decide +kernel
theorem dX3_readLine_115 : decode cX3_readLine 115 = .ok (.ifCond .eq 7, 3) := by decide +kernel
theorem dX3_readLine_118 : decode cX3_readLine 118 = .ok (.iconst 1, 1) := by decide +kernel
theorem dX3_readLine_119 : decode cX3_readLine 119 = .ok (.goto 4, 3) := by decide +kernel
theorem dX3_readLine_122 : decode cX3_readLine 122 = .ok (.iconst 0, 1) := by decide +kernel
theorem dX3_readLine_123 : decode cX3_readLine 123 = .ok (.ireturn, 1) := by decide +kernel
theorem dX3_takeWord_0 : decode cX3_takeWord 0 = .ok (.aload_n 0, 1) := by decide +kernel
theorem dX3_takeWord_1 : decode cX3_takeWord 1 = .ok (.getfield 12, 3) := by decide +kernel
theorem dX3_takeWord_4 : decode cX3_takeWord 4 = .ok (.iload_n 1, 1) := by decide +kernel
theorem dX3_takeWord_5 : decode cX3_takeWord 5 = .ok (.invokevirtual 98, 3) := by decide +kernel
theorem dX3_takeWord_8 : decode cX3_takeWord 8 = .ok (.ifCond .ne 9, 3) := by decide +kernel
theorem dX3_takeWord_11 : decode cX3_takeWord 11 = .ok (.aload_n 0, 1) := by decide +kernel
theorem dX3_takeWord_12 : decode cX3_takeWord 12 = .ok (.iconst 1, 1) := by decide +kernel
theorem dX3_takeWord_13 : decode cX3_takeWord 13 = .ok (.invokevirtual 111, 3) := by decide +kernel
theorem dX3_takeWord_16 : decode cX3_takeWord 16 = .ok (.ireturn, 1) := by decide +kernel
theorem dX3_takeWord_17 : decode cX3_takeWord 17 = .ok (.aload_n 0, 1) := by decide +kernel
theorem dX3_takeWord_18 : decode cX3_takeWord 18 = .ok (.getfield 12, 3) := by decide +kernel
theorem dX3_takeWord_21 : decode cX3_takeWord 21 = .ok (.invokevirtual 92, 3) := by decide +kernel
theorem dX3_takeWord_24 : decode cX3_takeWord 24 = .ok (.iconst 1, 1) := by decide +kernel
theorem dX3_takeWord_25 : decode cX3_takeWord 25 = .ok (.ireturn, 1) := by decide +kernel
theorem dX3_takeSign_0 : decode cX3_takeSign 0 = .ok (.aload_n 0, 1) := by decide +kernel
theorem dX3_takeSign_1 : decode cX3_takeSign 1 = .ok (.getfield 12, 3) := by decide +kernel
theorem dX3_takeSign_4 : decode cX3_takeSign 4 = .ok (.iload_n 1, 1) := by decide +kernel
theorem dX3_takeSign_5 : decode cX3_takeSign 5 = .ok (.invokevirtual 114, 3) := by decide +kernel
theorem dX3_takeSign_8 : decode cX3_takeSign 8 = .ok (.ifCond .ne 9, 3) := by decide +kernel
theorem dX3_takeSign_11 : decode cX3_takeSign 11 = .ok (.aload_n 0, 1) := by decide +kernel
theorem dX3_takeSign_12 : decode cX3_takeSign 12 = .ok (.iconst 1, 1) := by decide +kernel
theorem dX3_takeSign_13 : decode cX3_takeSign 13 = .ok (.invokevirtual 111, 3) := by decide +kernel
theorem dX3_takeSign_16 : decode cX3_takeSign 16 = .ok (.ireturn, 1) := by decide +kernel
theorem dX3_takeSign_17 : decode cX3_takeSign 17 = .ok (.aload_n 0, 1) := by decide +kernel
theorem dX3_takeSign_18 : decode cX3_takeSign 18 = .ok (.getfield 12, 3) := by decide +kernel
theorem dX3_takeSign_21 : decode cX3_takeSign 21 = .ok (.invokevirtual 92, 3) := by decide +kernel
theorem dX3_takeSign_24 : decode cX3_takeSign 24 = .ok (.iconst 1, 1) := by decide +kernel
theorem dX3_takeSign_25 : decode cX3_takeSign 25 = .ok (.ireturn, 1) := by decide +kernel
theorem dX3_takeWhole_0 : decode cX3_takeWhole 0 = .ok (.aload_n 0, 1) := by decide +kernel
theorem dX3_takeWhole_1 : decode cX3_takeWhole 1 = .ok (.getfield 12, 3) := by decide +kernel
theorem dX3_takeWhole_4 : decode cX3_takeWhole 4 = .ok (.invokevirtual 118, 3) := by decide +kernel
theorem dX3_takeWhole_7 : decode cX3_takeWhole 7 = .ok (.ifCond .ne 9, 3) := by decide +kernel
theorem dX3_takeWhole_10 : decode cX3_takeWhole 10 = .ok (.aload_n 0, 1) := by decide +kernel
theorem dX3_takeWhole_11 : decode cX3_takeWhole 11 = .ok (.iconst 1, 1) := by decide +kernel
theorem dX3_takeWhole_12 : decode cX3_takeWhole 12 = .ok (.invokevirtual 111, 3) := by decide +kernel
theorem dX3_takeWhole_15 : decode cX3_takeWhole 15 = .ok (.ireturn, 1) := by decide +kernel
theorem dX3_takeWhole_16 : decode cX3_takeWhole 16 = .ok (.iload_n 1, 1) := by decide +kernel
theorem dX3_takeWhole_17 : decode cX3_takeWhole 17 = .ok (.ifCond .ne 9, 3) := by decide +kernel
theorem dX3_takeWhole_20 : decode cX3_takeWhole 20 = .ok (.aload_n 0, 1) := by decide +kernel
theorem dX3_takeWhole_21 : decode cX3_takeWhole 21 = .ok (.iconst 4, 1) := by decide +kernel
theorem dX3_takeWhole_22 : decode cX3_takeWhole 22 = .ok (.invokevirtual 111, 3) := by decide +kernel
theorem dX3_takeWhole_25 : decode cX3_takeWhole 25 = .ok (.ireturn, 1) := by decide +kernel
theorem dX3_takeWhole_26 : decode cX3_takeWhole 26 = .ok (.aload_n 0, 1) := by decide +kernel
theorem dX3_takeWhole_27 : decode cX3_takeWhole 27 = .ok (.aload_n 0, 1) := by decide +kernel
theorem dX3_takeWhole_28 : decode cX3_takeWhole 28 = .ok (.getfield 12, 3) := by decide +kernel
theorem dX3_takeWhole_31 : decode cX3_takeWhole 31 = .ok (.invokevirtual 121, 3) := by decide +kernel
theorem dX3_takeWhole_34 : decode cX3_takeWhole 34 = .ok (.putfield 58, 3) := by decide +kernel
theorem dX3_takeWhole_37 : decode cX3_takeWhole 37 = .ok (.aload_n 0, 1) := by decide +kernel
theorem dX3_takeWhole_38 : decode cX3_takeWhole 38 = .ok (.getfield 12, 3) := by decide +kernel
theorem dX3_takeWhole_41 : decode cX3_takeWhole 41 = .ok (.invokevirtual 92, 3) := by decide +kernel
theorem dX3_takeWhole_44 : decode cX3_takeWhole 44 = .ok (.iconst 1, 1) := by decide +kernel
theorem dX3_takeWhole_45 : decode cX3_takeWhole 45 = .ok (.ireturn, 1) := by decide +kernel
theorem dX3_takeNewName_0 : decode cX3_takeNewName 0 = .ok (.aload_n 0, 1) := by decide +kernel
theorem dX3_takeNewName_1 : decode cX3_takeNewName 1 = .ok (.getfield 12, 3) := by decide +kernel
theorem dX3_takeNewName_4 : decode cX3_takeNewName 4 = .ok (.invokevirtual 124, 3) := by decide +kernel
theorem dX3_takeNewName_7 : decode cX3_takeNewName 7 = .ok (.ifCond .ne 9, 3) := by decide +kernel
theorem dX3_takeNewName_10 : decode cX3_takeNewName 10 = .ok (.aload_n 0, 1) := by decide +kernel
theorem dX3_takeNewName_11 : decode cX3_takeNewName 11 = .ok (.iconst 1, 1) := by decide +kernel
theorem dX3_takeNewName_12 : decode cX3_takeNewName 12 = .ok (.invokevirtual 111, 3) := by decide +kernel
theorem dX3_takeNewName_15 : decode cX3_takeNewName 15 = .ok (.ireturn, 1) := by decide +kernel
theorem dX3_takeNewName_16 : decode cX3_takeNewName 16 = .ok (.aload_n 0, 1) := by decide +kernel
theorem dX3_takeNewName_17 : decode cX3_takeNewName 17 = .ok (.getfield 39, 3) := by decide +kernel
theorem dX3_takeNewName_20 : decode cX3_takeNewName 20 = .ok (.aload_n 0, 1) := by decide +kernel
theorem dX3_takeNewName_21 : decode cX3_takeNewName 21 = .ok (.getfield 12, 3) := by decide +kernel
theorem dX3_takeNewName_24 : decode cX3_takeNewName 24 = .ok (.invokevirtual 127, 3) := by decide +kernel
theorem dX3_takeNewName_27 : decode cX3_takeNewName 27 = .ok (.invokevirtual 131, 3) := by decide +kernel
theorem dX3_takeNewName_30 : decode cX3_takeNewName 30 = .ok (.ifCond .eq 9, 3) := by decide +kernel
theorem dX3_takeNewName_33 : decode cX3_takeNewName 33 = .ok (.aload_n 0, 1) := by decide +kernel
theorem dX3_takeNewName_34 : decode cX3_takeNewName 34 = .ok (.iconst 3, 1) := by decide +kernel
theorem dX3_takeNewName_35 : decode cX3_takeNewName 35 = .ok (.invokevirtual 111, 3) := by decide +kernel
theorem dX3_takeNewName_38 : decode cX3_takeNewName 38 = .ok (.ireturn, 1) := by decide +kernel
theorem dX3_takeNewName_39 : decode cX3_takeNewName 39 = .ok (.aload_n 0, 1) := by decide +kernel
theorem dX3_takeNewName_40 : decode cX3_takeNewName 40 = .ok (.aload_n 0, 1) := by decide +kernel
theorem dX3_takeNewName_41 : decode cX3_takeNewName 41 = .ok (.getfield 12, 3) := by decide +kernel
theorem dX3_takeNewName_44 : decode cX3_takeNewName 44 = .ok (.invokevirtual 127, 3) := by decide +kernel
theorem dX3_takeNewName_47 : decode cX3_takeNewName 47 = .ok (.putfield 54, 3) := by decide +kernel
theorem dX3_takeNewName_50 : decode cX3_takeNewName 50 = .ok (.aload_n 0, 1) := by decide +kernel
theorem dX3_takeNewName_51 : decode cX3_takeNewName 51 = .ok (.aload_n 0, 1) := by decide +kernel
theorem dX3_takeNewName_52 : decode cX3_takeNewName 52 = .ok (.getfield 12, 3) := by decide +kernel
theorem dX3_takeNewName_55 : decode cX3_takeNewName 55 = .ok (.invokevirtual 95, 3) := by decide +kernel
theorem dX3_takeNewName_58 : decode cX3_takeNewName 58 = .ok (.putfield 67, 3) := by decide +kernel
theorem dX3_takeNewName_61 : decode cX3_takeNewName 61 = .ok (.aload_n 0, 1) := by decide +kernel
theorem dX3_takeNewName_62 : decode cX3_takeNewName 62 = .ok (.getfield 12, 3) := by decide +kernel
theorem dX3_takeNewName_65 : decode cX3_takeNewName 65 = .ok (.invokevirtual 92, 3) := by decide +kernel
theorem dX3_takeNewName_68 : decode cX3_takeNewName 68 = .ok (.iconst 1, 1) := by decide +kernel
theorem dX3_takeNewName_69 : decode cX3_takeNewName 69 = .ok (.ireturn, 1) := by decide +kernel
theorem dX3_takeInField_0 : decode cX3_takeInField 0 = .ok (.aload_n 0, 1) := by decide +kernel
theorem dX3_takeInField_1 : decode cX3_takeInField 1 = .ok (.iconst 4, 1) := by decide +kernel
theorem dX3_takeInField_2 : decode cX3_takeInField 2 = .ok (.invokevirtual 135, 3) := by decide +kernel
theorem dX3_takeInField_5 : decode cX3_takeInField 5 = .ok (.ifCond .ne 5, 3) := by decide +kernel
theorem dX3_takeInField_8 : decode cX3_takeInField 8 = .ok (.iconst 0, 1) := by decide +kernel
theorem dX3_takeInField_9 : decode cX3_takeInField 9 = .ok (.ireturn, 1) := by decide +kernel
theorem dX3_takeInField_10 : decode cX3_takeInField 10 = .ok (.aload_n 0, 1) := by decide +kernel
theorem dX3_takeInField_11 : decode cX3_takeInField 11 = .ok (.getfield 12, 3) := by decide +kernel
theorem dX3_takeInField_14 : decode cX3_takeInField 14 = .ok (.invokevirtual 124, 3) := by decide +kernel
theorem dX3_takeInField_17 : decode cX3_takeInField 17 = .ok (.ifCond .ne 9, 3) := by decide +kernel
theorem dX3_takeInField_20 : decode cX3_takeInField 20 = .ok (.aload_n 0, 1) := by decide +kernel
theorem dX3_takeInField_21 : decode cX3_takeInField 21 = .ok (.iconst 1, 1) := by decide +kernel
theorem dX3_takeInField_22 : decode cX3_takeInField 22 = .ok (.invokevirtual 111, 3) := by decide +kernel
theorem dX3_takeInField_25 : decode cX3_takeInField 25 = .ok (.ireturn, 1) := by decide +kernel
theorem dX3_takeInField_26 : decode cX3_takeInField 26 = .ok (.aload_n 0, 1) := by decide +kernel
theorem dX3_takeInField_27 : decode cX3_takeInField 27 = .ok (.aload_n 0, 1) := by decide +kernel
theorem dX3_takeInField_28 : decode cX3_takeInField 28 = .ok (.getfield 39, 3) := by decide +kernel
theorem dX3_takeInField_31 : decode cX3_takeInField 31 = .ok (.aload_n 0, 1) := by decide +kernel
theorem dX3_takeInField_32 : decode cX3_takeInField 32 = .ok (.getfield 12, 3) := by decide +kernel
theorem dX3_takeInField_35 : decode cX3_takeInField 35 = .ok (.invokevirtual 127, 3) := by decide +kernel
theorem dX3_takeInField_38 : decode cX3_takeInField 38 = .ok (.iconst 1, 1) := by decide +kernel
theorem dX3_takeInField_39 : decode cX3_takeInField 39 = .ok (.invokevirtual 138, 3) := by decide +kernel
theorem dX3_takeInField_42 : decode cX3_takeInField 42 = .ok (.putfield 50, 3) := by decide +kernel
theorem dX3_takeInField_45 : decode cX3_takeInField 45 = .ok (.aload_n 0, 1) := by decide +kernel
theorem dX3_takeInField_46 : decode cX3_takeInField 46 = .ok (.getfield 39, 3) := by decide +kernel
theorem dX3_takeInField_49 : decode cX3_takeInField 49 = .ok (.aload_n 0, 1) := by decide +kernel
theorem dX3_takeInField_50 : decode cX3_takeInField 50 = .ok (.getfield 50, 3) := by decide +kernel
theorem dX3_takeInField_53 : decode cX3_takeInField 53 = .ok (.invokevirtual 142, 3) := by decide +kernel
theorem dX3_takeInField_56 : decode cX3_takeInField 56 = .ok (.astore_n 1, 1) := by decide +kernel
theorem dX3_takeInField_57 : decode cX3_takeInField 57 = .ok (.aload_n 1, 1) := by decide +kernel
theorem dX3_takeInField_58 : decode cX3_takeInField 58 = .ok (.ifnonnull 9, 3) := by decide +kernel
theorem dX3_takeInField_61 : decode cX3_takeInField 61 = .ok (.aload_n 0, 1) := by decide +kernel
theorem dX3_takeInField_62 : decode cX3_takeInField 62 = .ok (.iconst 2, 1) := by decide +kernel
theorem dX3_takeInField_63 : decode cX3_takeInField 63 = .ok (.invokevirtual 111, 3) := by decide +kernel
theorem dX3_takeInField_66 : decode cX3_takeInField 66 = .ok (.ireturn, 1) := by decide +kernel
theorem dX3_takeInField_67 : decode cX3_takeInField 67 = .ok (.aload_n 0, 1) := by decide +kernel
theorem dX3_takeInField_68 : decode cX3_takeInField 68 = .ok (.aload_n 1, 1) := by decide +kernel
theorem dX3_takeInField_69 : decode cX3_takeInField 69 = .ok (.putfield 46, 3) := by decide +kernel
theorem dX3_takeInField_72 : decode cX3_takeInField 72 = .ok (.aload_n 0, 1) := by decide +kernel
theorem dX3_takeInField_73 : decode cX3_takeInField 73 = .ok (.getfield 12, 3) := by decide +kernel
theorem dX3_takeInField_76 : decode cX3_takeInField 76 = .ok (.invokevirtual 92, 3) := by decide +kernel
theorem dX3_takeInField_79 : decode cX3_takeInField 79 = .ok (.iconst 1, 1) := by decide +kernel
theorem dX3_takeInField_80 : decode cX3_takeInField 80 = .ok (.ireturn, 1) := by decide +kernel
theorem dX3_readField_0 : decode cX3_readField 0 = .ok (.aload_n 0, 1) := by decide +kernel
theorem dX3_readField_1 : decode cX3_readField 1 = .ok (.getfield 39, 3) := by decide +kernel
theorem dX3_readField_4 : decode cX3_readField 4 = .ok (.invokevirtual 88, 3) := by decide +kernel
theorem dX3_readField_7 : decode cX3_readField 7 = .ok (.iconst 4, 1) := by decide +kernel
theorem dX3_readField_8 : decode cX3_readField 8 = .ok (.if_icmp .lt 9, 3) := by decide +kernel
theorem dX3_readField_11 : decode cX3_readField 11 = .ok (.aload_n 0, 1) := by decide +kernel
theorem dX3_readField_12 : decode cX3_readField 12 = .ok (.iconst 5, 1) := by decide +kernel
theorem dX3_readField_13 : decode cX3_readField 13 = .ok (.invokevirtual 111, 3) := by decide +kernel
theorem dX3_readField_16 : decode cX3_readField 16 = .ok (.ireturn, 1) := by decide +kernel
theorem dX3_readField_17 : decode cX3_readField 17 = .ok (.aload_n 0, 1) := by decide +kernel
theorem dX3_readField_18 : decode cX3_readField 18 = .ok (.getfield 12, 3) := by decide +kernel
theorem dX3_readField_21 : decode cX3_readField 21 = .ok (.invokevirtual 92, 3) := by decide +kernel
theorem dX3_readField_24 : decode cX3_readField 24 = .ok (.aload_n 0, 1) := by decide +kernel
theorem dX3_readField_25 : decode cX3_readField 25 = .ok (.invokevirtual 146, 3) := by decide +kernel
theorem dX3_readField_28 : decode cX3_readField 28 = .ok (.ifCond .eq 20, 3) := by decide +kernel
theorem dX3_readField_31 : decode cX3_readField 31 = .ok (.aload_n 0, 1) := by decide +kernel
theorem dX3_readField_32 : decode cX3_readField 32 = .ok (.aload_n 0, 1) := by decide +kernel
theorem dX3_readField_33 : decode cX3_readField 33 = .ok (.getfield 12, 3) := by decide +kernel
theorem dX3_readField_36 : decode cX3_readField 36 = .ok (.invokevirtual 121, 3) := by decide +kernel
theorem dX3_readField_39 : decode cX3_readField 39 = .ok (.invokestatic 149, 3) := by decide +kernel
theorem dX3_readField_42 : decode cX3_readField 42 = .ok (.invokevirtual 154, 3) := by decide +kernel
theorem dX3_readField_45 : decode cX3_readField 45 = .ok (.ifCond .ne 5, 3) := by decide +kernel
theorem dX3_readField_48 : decode cX3_readField 48 = .ok (.iconst 0, 1) := by decide +kernel
theorem dX3_readField_49 : decode cX3_readField 49 = .ok (.ireturn, 1) := by decide +kernel
theorem dX3_readField_50 : decode cX3_readField 50 = .ok (.aload_n 0, 1) := by decide +kernel
theorem dX3_readField_51 : decode cX3_readField 51 = .ok (.getfield 58, 3) := by decide +kernel
theorem dX3_readField_54 : decode cX3_readField 54 = .ok (.istore_n 1, 1) := by decide +kernel
theorem dX3_readField_55 : decode cX3_readField 55 = .ok (.aload_n 0, 1) := by decide +kernel
theorem dX3_readField_56 : decode cX3_readField 56 = .ok (.iconst 3, 1) := by decide +kernel
theorem dX3_readField_57 : decode cX3_readField 57 = .ok (.invokevirtual 135, 3) := by decide +kernel
theorem dX3_readField_60 : decode cX3_readField 60 = .ok (.ifCond .eq 21, 3) := by decide +kernel
theorem dX3_readField_63 : decode cX3_readField 63 = .ok (.aload_n 0, 1) := by decide +kernel
theorem dX3_readField_64 : decode cX3_readField 64 = .ok (.iload_n 1, 1) := by decide +kernel
theorem dX3_readField_65 : decode cX3_readField 65 = .ok (.aload_n 0, 1) := by decide +kernel
theorem dX3_readField_66 : decode cX3_readField 66 = .ok (.getfield 12, 3) := by decide +kernel
theorem dX3_readField_69 : decode cX3_readField 69 = .ok (.invokevirtual 121, 3) := by decide +kernel
theorem dX3_readField_72 : decode cX3_readField 72 = .ok (.invokestatic 158, 3) := by decide +kernel
theorem dX3_readField_75 : decode cX3_readField 75 = .ok (.invokevirtual 154, 3) := by decide +kernel
theorem dX3_readField_78 : decode cX3_readField 78 = .ok (.ifCond .ne 5, 3) := by decide +kernel
theorem dX3_readField_81 : decode cX3_readField 81 = .ok (.iconst 0, 1) := by decide +kernel
theorem dX3_readField_82 : decode cX3_readField 82 = .ok (.ireturn, 1) := by decide +kernel
theorem dX3_readField_83 : decode cX3_readField 83 = .ok (.aload_n 0, 1) := by decide +kernel
theorem dX3_readField_84 : decode cX3_readField 84 = .ok (.getfield 39, 3) := by decide +kernel
theorem dX3_readField_87 : decode cX3_readField 87 = .ok (.aload_n 0, 1) := by decide +kernel
theorem dX3_readField_88 : decode cX3_readField 88 = .ok (.getfield 54, 3) := by decide +kernel
theorem dX3_readField_91 : decode cX3_readField 91 = .ok (.iload_n 1, 1) := by decide +kernel
theorem dX3_readField_92 : decode cX3_readField 92 = .ok (.aload_n 0, 1) := by decide +kernel
theorem dX3_readField_93 : decode cX3_readField 93 = .ok (.getfield 58, 3) := by decide +kernel
theorem dX3_readField_96 : decode cX3_readField 96 = .ok (.invokevirtual 162, 3) := by decide +kernel
theorem dX3_readField_99 : decode cX3_readField 99 = .ok (.iconst 1, 1) := by decide +kernel
theorem dX3_readField_100 : decode cX3_readField 100 = .ok (.ireturn, 1) := by decide +kernel
theorem dX3_isOrderFor_0 : decode cX3_isOrderFor 0 = .ok (.iload_n 1, 1) := by decide +kernel
theorem dX3_isOrderFor_1 : decode cX3_isOrderFor 1 = .ok (.iconst 2, 1) := by decide +kernel
theorem dX3_isOrderFor_2 : decode cX3_isOrderFor 2 = .ok (.if_icmp .lt 21, 3) := by decide +kernel
theorem dX3_isOrderFor_5 : decode cX3_isOrderFor 5 = .ok (.iload_n 1, 1) := by decide +kernel
theorem dX3_isOrderFor_6 : decode cX3_isOrderFor 6 = .ok (.bipush 12, 2) := by decide +kernel
theorem dX3_isOrderFor_8 : decode cX3_isOrderFor 8 = .ok (.if_icmp .gt 15, 3) := by decide +kernel
theorem dX3_isOrderFor_11 : decode cX3_isOrderFor 11 = .ok (.iload_n 0, 1) := by decide +kernel
theorem dX3_isOrderFor_12 : decode cX3_isOrderFor 12 = .ok (.iconst 1, 1) := by decide +kernel
theorem dX3_isOrderFor_13 : decode cX3_isOrderFor 13 = .ok (.isub, 1) := by decide +kernel
theorem dX3_isOrderFor_14 : decode cX3_isOrderFor 14 = .ok (.iload_n 1, 1) := by decide +kernel
theorem dX3_isOrderFor_15 : decode cX3_isOrderFor 15 = .ok (.irem, 1) := by decide +kernel
theorem dX3_isOrderFor_16 : decode cX3_isOrderFor 16 = .ok (.ifCond .ne 7, 3) := by decide +kernel
theorem dX3_isOrderFor_19 : decode cX3_isOrderFor 19 = .ok (.iconst 1, 1) := by decide +kernel
theorem dX3_isOrderFor_20 : decode cX3_isOrderFor 20 = .ok (.goto 4, 3) := by decide +kernel
theorem dX3_isOrderFor_23 : decode cX3_isOrderFor 23 = .ok (.iconst 0, 1) := by decide +kernel
theorem dX3_isOrderFor_24 : decode cX3_isOrderFor 24 = .ok (.ireturn, 1) := by decide +kernel
theorem dX3_readEquation_0 : decode cX3_readEquation 0 = .ok (.aload_n 0, 1) := by decide +kernel
theorem dX3_readEquation_1 : decode cX3_readEquation 1 = .ok (.getfield 39, 3) := by decide +kernel
theorem dX3_readEquation_4 : decode cX3_readEquation 4 = .ok (.invokevirtual 166, 3) := by decide +kernel
theorem dX3_readEquation_7 : decode cX3_readEquation 7 = .ok (.astore_n 1, 1) := by decide +kernel
theorem dX3_readEquation_8 : decode cX3_readEquation 8 = .ok (.aload_n 1, 1) := by decide +kernel
theorem dX3_readEquation_9 : decode cX3_readEquation 9 = .ok (.ifnonnull 9, 3) := by decide +kernel
theorem dX3_readEquation_12 : decode cX3_readEquation 12 = .ok (.aload_n 0, 1) := by decide +kernel
theorem dX3_readEquation_13 : decode cX3_readEquation 13 = .ok (.iconst 5, 1) := by decide +kernel
theorem dX3_readEquation_14 : decode cX3_readEquation 14 = .ok (.invokevirtual 111, 3) := by decide +kernel
theorem dX3_readEquation_17 : decode cX3_readEquation 17 = .ok (.ireturn, 1) := by decide +kernel
theorem dX3_readEquation_18 : decode cX3_readEquation 18 = .ok (.aload_n 0, 1) := by decide +kernel
theorem dX3_readEquation_19 : decode cX3_readEquation 19 = .ok (.getfield 12, 3) := by decide +kernel
theorem dX3_readEquation_22 : decode cX3_readEquation 22 = .ok (.invokevirtual 92, 3) := by decide +kernel
theorem dX3_readEquation_25 : decode cX3_readEquation 25 = .ok (.aload_n 0, 1) := by decide +kernel
theorem dX3_readEquation_26 : decode cX3_readEquation 26 = .ok (.invokevirtual 146, 3) := by decide +kernel
theorem dX3_readEquation_29 : decode cX3_readEquation 29 = .ok (.ifCond .eq 18, 3) := by decide +kernel
theorem dX3_readEquation_32 : decode cX3_readEquation 32 = .ok (.aload_n 0, 1) := by decide +kernel
theorem dX3_readEquation_33 : decode cX3_readEquation 33 = .ok (.invokevirtual 170, 3) := by decide +kernel
theorem dX3_readEquation_36 : decode cX3_readEquation 36 = .ok (.ifCond .eq 11, 3) := by decide +kernel
theorem dX3_readEquation_39 : decode cX3_readEquation 39 = .ok (.aload_n 0, 1) := by decide +kernel
theorem dX3_readEquation_40 : decode cX3_readEquation 40 = .ok (.iconst 5, 1) := by decide +kernel
theorem dX3_readEquation_41 : decode cX3_readEquation 41 = .ok (.invokevirtual 135, 3) := by decide +kernel
theorem dX3_readEquation_44 : decode cX3_readEquation 44 = .ok (.ifCond .ne 5, 3) := by decide +kernel
theorem dX3_readEquation_47 : decode cX3_readEquation 47 = .ok (.iconst 0, 1) := by decide +kernel
theorem dX3_readEquation_48 : decode cX3_readEquation 48 = .ok (.ireturn, 1) := by decide +kernel
theorem dX3_readEquation_49 : decode cX3_readEquation 49 = .ok (.aload_n 1, 1) := by decide +kernel
theorem dX3_readEquation_50 : decode cX3_readEquation 50 = .ok (.aload_n 0, 1) := by decide +kernel
theorem dX3_readEquation_51 : decode cX3_readEquation 51 = .ok (.getfield 46, 3) := by decide +kernel
theorem dX3_readEquation_54 : decode cX3_readEquation 54 = .ok (.invokevirtual 173, 3) := by decide +kernel
theorem dX3_readEquation_57 : decode cX3_readEquation 57 = .ok (.invokevirtual 176, 3) := by decide +kernel
theorem dX3_readEquation_60 : decode cX3_readEquation 60 = .ok (.aload_n 0, 1) := by decide +kernel
theorem dX3_readEquation_61 : decode cX3_readEquation 61 = .ok (.aload_n 1, 1) := by decide +kernel
theorem dX3_readEquation_62 : decode cX3_readEquation 62 = .ok (.invokevirtual 181, 3) := by decide +kernel
theorem dX3_readEquation_65 : decode cX3_readEquation 65 = .ok (.ifCond .eq 12, 3) := by decide +kernel
theorem dX3_readEquation_68 : decode cX3_readEquation 68 = .ok (.aload_n 0, 1) := by decide +kernel
theorem dX3_readEquation_69 : decode cX3_readEquation 69 = .ok (.bipush 7, 2) := by decide +kernel
theorem dX3_readEquation_71 : decode cX3_readEquation 71 = .ok (.invokevirtual 135, 3) := by decide +kernel
theorem dX3_readEquation_74 : decode cX3_readEquation 74 = .ok (.ifCond .ne 5, 3) := by decide +kernel
theorem dX3_readEquation_77 : decode cX3_readEquation 77 = .ok (.iconst 0, 1) := by decide +kernel
theorem dX3_readEquation_78 : decode cX3_readEquation 78 = .ok (.ireturn, 1) := by decide +kernel
theorem dX3_readEquation_79 : decode cX3_readEquation 79 = .ok (.aload_n 0, 1) := by decide +kernel
theorem dX3_readEquation_80 : decode cX3_readEquation 80 = .ok (.aload_n 0, 1) := by decide +kernel
theorem dX3_readEquation_81 : decode cX3_readEquation 81 = .ok (.getfield 12, 3) := by decide +kernel
theorem dX3_readEquation_84 : decode cX3_readEquation 84 = .ok (.iconst 0, 1) := by decide +kernel
theorem dX3_readEquation_85 : decode cX3_readEquation 85 = .ok (.aload_n 0, 1) := by decide +kernel
theorem dX3_readEquation_86 : decode cX3_readEquation 86 = .ok (.getfield 46, 3) := by decide +kernel
theorem dX3_readEquation_89 : decode cX3_readEquation 89 = .ok (.invokevirtual 173, 3) := by decide +kernel
theorem dX3_readEquation_92 : decode cX3_readEquation 92 = .ok (.iconst 1, 1) := by decide +kernel
theorem dX3_readEquation_93 : decode cX3_readEquation 93 = .ok (.isub, 1) := by decide +kernel
theorem dX3_readEquation_94 : decode cX3_readEquation 94 = .ok (.invokevirtual 185, 3) := by decide +kernel
theorem dX3_readEquation_97 : decode cX3_readEquation 97 = .ok (.invokevirtual 154, 3) := by decide +kernel
theorem dX3_readEquation_100 : decode cX3_readEquation 100 = .ok (.ifCond .ne 5, 3) := by decide +kernel
theorem dX3_readEquation_103 : decode cX3_readEquation 103 = .ok (.iconst 0, 1) := by decide +kernel
theorem dX3_readEquation_104 : decode cX3_readEquation 104 = .ok (.ireturn, 1) := by decide +kernel
theorem dX3_readEquation_105 : decode cX3_readEquation 105 = .ok (.aload_n 1, 1) := by decide +kernel
theorem dX3_readEquation_106 : decode cX3_readEquation 106 = .ok (.aload_n 0, 1) := by decide +kernel
theorem dX3_readEquation_107 : decode cX3_readEquation 107 = .ok (.getfield 58, 3) := by decide +kernel
theorem dX3_readEquation_110 : decode cX3_readEquation 110 = .ok (.invokevirtual 188, 3) := by decide +kernel
theorem dX3_readEquation_113 : decode cX3_readEquation 113 = .ok (.aload_n 0, 1) := by decide +kernel
theorem dX3_readEquation_114 : decode cX3_readEquation 114 = .ok (.getfield 39, 3) := by decide +kernel
theorem dX3_readEquation_117 : decode cX3_readEquation 117 = .ok (.aload_n 0, 1) := by decide +kernel
theorem dX3_readEquation_118 : decode cX3_readEquation 118 = .ok (.getfield 54, 3) := by decide +kernel
theorem dX3_readEquation_121 : decode cX3_readEquation 121 = .ok (.invokevirtual 191, 3) := by decide +kernel
theorem dX3_readEquation_124 : decode cX3_readEquation 124 = .ok (.iconst 1, 1) := by decide +kernel
theorem dX3_readEquation_125 : decode cX3_readEquation 125 = .ok (.ireturn, 1) := by decide +kernel
theorem dX3_readTerms_0 : decode cX3_readTerms 0 = .ok (.iconst 0, 1) := by decide +kernel
theorem dX3_readTerms_1 : decode cX3_readTerms 1 = .ok (.istore_n 2, 1) := by decide +kernel
theorem dX3_readTerms_2 : decode cX3_readTerms 2 = .ok (.iload_n 2, 1) := by decide +kernel
theorem dX3_readTerms_3 : decode cX3_readTerms 3 = .ok (.iconst 3, 1) := by decide +kernel
theorem dX3_readTerms_4 : decode cX3_readTerms 4 = .ok (.if_icmp .gt 40, 3) := by decide +kernel
theorem dX3_readTerms_7 : decode cX3_readTerms 7 = .ok (.aload_n 0, 1) := by decide +kernel
theorem dX3_readTerms_8 : decode cX3_readTerms 8 = .ok (.aload_n 1, 1) := by decide +kernel
theorem dX3_readTerms_9 : decode cX3_readTerms 9 = .ok (.invokevirtual 195, 3) := by decide +kernel
theorem dX3_readTerms_12 : decode cX3_readTerms 12 = .ok (.ifCond .ne 5, 3) := by decide +kernel
theorem dX3_readTerms_15 : decode cX3_readTerms 15 = .ok (.iconst 0, 1) := by decide +kernel
theorem dX3_readTerms_16 : decode cX3_readTerms 16 = .ok (.ireturn, 1) := by decide +kernel
theorem dX3_readTerms_17 : decode cX3_readTerms 17 = .ok (.aload_n 0, 1) := by decide +kernel
theorem dX3_readTerms_18 : decode cX3_readTerms 18 = .ok (.getfield 12, 3) := by decide +kernel
theorem dX3_readTerms_21 : decode cX3_readTerms 21 = .ok (.bipush 44, 2) := by decide +kernel
theorem dX3_readTerms_23 : decode cX3_readTerms 23 = .ok (.invokevirtual 114, 3) := by decide +kernel
theorem dX3_readTerms_26 : decode cX3_readTerms 26 = .ok (.ifCond .ne 5, 3) := by decide +kernel
theorem dX3_readTerms_29 : decode cX3_readTerms 29 = .ok (.iconst 1, 1) := by decide +kernel
theorem dX3_readTerms_30 : decode cX3_readTerms 30 = .ok (.ireturn, 1) := by decide +kernel
theorem dX3_readTerms_31 : decode cX3_readTerms 31 = .ok (.aload_n 0, 1) := by decide +kernel
theorem dX3_readTerms_32 : decode cX3_readTerms 32 = .ok (.getfield 12, 3) := by decide +kernel
theorem dX3_readTerms_35 : decode cX3_readTerms 35 = .ok (.invokevirtual 92, 3) := by decide +kernel
theorem dX3_readTerms_38 : decode cX3_readTerms 38 = .ok (.iinc 2 1, 3) := by decide +kernel
theorem dX3_readTerms_41 : decode cX3_readTerms 41 = .ok (.goto (-39), 3) := by decide +kernel
theorem dX3_readTerms_44 : decode cX3_readTerms 44 = .ok (.aload_n 0, 1) := by decide +kernel
theorem dX3_readTerms_45 : decode cX3_readTerms 45 = .ok (.iconst 1, 1) := by decide +kernel
theorem dX3_readTerms_46 : decode cX3_readTerms 46 = .ok (.invokevirtual 111, 3) := by decide +kernel
theorem dX3_readTerms_49 : decode cX3_readTerms 49 = .ok (.ireturn, 1) := by decide +kernel
theorem dX3_readTerm_0 : decode cX3_readTerm 0 = .ok (.aload_n 0, 1) := by decide +kernel
theorem dX3_readTerm_1 : decode cX3_readTerm 1 = .ok (.getfield 12, 3) := by decide +kernel
theorem dX3_readTerm_4 : decode cX3_readTerm 4 = .ok (.iconst 1, 1) := by decide +kernel
theorem dX3_readTerm_5 : decode cX3_readTerm 5 = .ok (.aload_n 1, 1) := by decide +kernel
theorem dX3_readTerm_6 : decode cX3_readTerm 6 = .ok (.invokevirtual 198, 3) := by decide +kernel
theorem dX3_readTerm_9 : decode cX3_readTerm 9 = .ok (.iconst 1, 1) := by decide +kernel
theorem dX3_readTerm_10 : decode cX3_readTerm 10 = .ok (.isub, 1) := by decide +kernel
theorem dX3_readTerm_11 : decode cX3_readTerm 11 = .ok (.invokevirtual 185, 3) := by decide +kernel
theorem dX3_readTerm_14 : decode cX3_readTerm 14 = .ok (.istore_n 2, 1) := by decide +kernel
theorem dX3_readTerm_15 : decode cX3_readTerm 15 = .ok (.iload_n 2, 1) := by decide +kernel
theorem dX3_readTerm_16 : decode cX3_readTerm 16 = .ok (.ifCond .eq 16, 3) := by decide +kernel
theorem dX3_readTerm_19 : decode cX3_readTerm 19 = .ok (.aload_n 1, 1) := by decide +kernel
theorem dX3_readTerm_20 : decode cX3_readTerm 20 = .ok (.invokevirtual 199, 3) := by decide +kernel
theorem dX3_readTerm_23 : decode cX3_readTerm 23 = .ok (.ifCond .eq 9, 3) := by decide +kernel
theorem dX3_readTerm_26 : decode cX3_readTerm 26 = .ok (.aload_n 0, 1) := by decide +kernel
theorem dX3_readTerm_27 : decode cX3_readTerm 27 = .ok (.iconst 5, 1) := by decide +kernel
theorem dX3_readTerm_28 : decode cX3_readTerm 28 = .ok (.invokevirtual 111, 3) := by decide +kernel
theorem dX3_readTerm_31 : decode cX3_readTerm 31 = .ok (.ireturn, 1) := by decide +kernel
theorem dX3_readTerm_32 : decode cX3_readTerm 32 = .ok (.aload_n 0, 1) := by decide +kernel
theorem dX3_readTerm_33 : decode cX3_readTerm 33 = .ok (.iload_n 2, 1) := by decide +kernel
theorem dX3_readTerm_34 : decode cX3_readTerm 34 = .ok (.invokevirtual 154, 3) := by decide +kernel
theorem dX3_readTerm_37 : decode cX3_readTerm 37 = .ok (.ifCond .ne 5, 3) := by decide +kernel
theorem dX3_readTerm_40 : decode cX3_readTerm 40 = .ok (.iconst 0, 1) := by decide +kernel
theorem dX3_readTerm_41 : decode cX3_readTerm 41 = .ok (.ireturn, 1) := by decide +kernel
theorem dX3_readTerm_42 : decode cX3_readTerm 42 = .ok (.aload_n 0, 1) := by decide +kernel
theorem dX3_readTerm_43 : decode cX3_readTerm 43 = .ok (.getfield 58, 3) := by decide +kernel
theorem dX3_readTerm_46 : decode cX3_readTerm 46 = .ok (.istore_n 3, 1) := by decide +kernel
theorem dX3_readTerm_47 : decode cX3_readTerm 47 = .ok (.aload_n 0, 1) := by decide +kernel
theorem dX3_readTerm_48 : decode cX3_readTerm 48 = .ok (.bipush 6, 2) := by decide +kernel
theorem dX3_readTerm_50 : decode cX3_readTerm 50 = .ok (.invokevirtual 135, 3) := by decide +kernel
theorem dX3_readTerm_53 : decode cX3_readTerm 53 = .ok (.ifCond .eq 20, 3) := by decide +kernel
theorem dX3_readTerm_56 : decode cX3_readTerm 56 = .ok (.aload_n 0, 1) := by decide +kernel
theorem dX3_readTerm_57 : decode cX3_readTerm 57 = .ok (.aload_n 0, 1) := by decide +kernel
theorem dX3_readTerm_58 : decode cX3_readTerm 58 = .ok (.getfield 12, 3) := by decide +kernel
theorem dX3_readTerm_61 : decode cX3_readTerm 61 = .ok (.iconst 1, 1) := by decide +kernel
theorem dX3_readTerm_62 : decode cX3_readTerm 62 = .ok (.bipush 12, 2) := by decide +kernel
theorem dX3_readTerm_64 : decode cX3_readTerm 64 = .ok (.invokevirtual 185, 3) := by decide +kernel
theorem dX3_readTerm_67 : decode cX3_readTerm 67 = .ok (.invokevirtual 154, 3) := by decide +kernel
theorem dX3_readTerm_70 : decode cX3_readTerm 70 = .ok (.ifCond .ne 5, 3) := by decide +kernel
theorem dX3_readTerm_73 : decode cX3_readTerm 73 = .ok (.iconst 0, 1) := by decide +kernel
theorem dX3_readTerm_74 : decode cX3_readTerm 74 = .ok (.ireturn, 1) := by decide +kernel
theorem dX3_readTerm_75 : decode cX3_readTerm 75 = .ok (.aload_n 1, 1) := by decide +kernel
theorem dX3_readTerm_76 : decode cX3_readTerm 76 = .ok (.iload_n 3, 1) := by decide +kernel
theorem dX3_readTerm_77 : decode cX3_readTerm 77 = .ok (.aload_n 0, 1) := by decide +kernel
theorem dX3_readTerm_78 : decode cX3_readTerm 78 = .ok (.getfield 58, 3) := by decide +kernel
theorem dX3_readTerm_81 : decode cX3_readTerm 81 = .ok (.invokevirtual 202, 3) := by decide +kernel
theorem dX3_readTerm_84 : decode cX3_readTerm 84 = .ok (.iconst 1, 1) := by decide +kernel
theorem dX3_readTerm_85 : decode cX3_readTerm 85 = .ok (.ireturn, 1) := by decide +kernel
theorem dX3_readLet_0 : decode cX3_readLet 0 = .ok (.aload_n 0, 1) := by decide +kernel
theorem dX3_readLet_1 : decode cX3_readLet 1 = .ok (.getfield 39, 3) := by decide +kernel
theorem dX3_readLet_4 : decode cX3_readLet 4 = .ok (.invokevirtual 206, 3) := by decide +kernel
theorem dX3_readLet_7 : decode cX3_readLet 7 = .ok (.bipush 8, 2) := by decide +kernel
theorem dX3_readLet_9 : decode cX3_readLet 9 = .ok (.if_icmp .lt 9, 3) := by decide +kernel
theorem dX3_readLet_12 : decode cX3_readLet 12 = .ok (.aload_n 0, 1) := by decide +kernel
theorem dX3_readLet_13 : decode cX3_readLet 13 = .ok (.iconst 5, 1) := by decide +kernel
theorem dX3_readLet_14 : decode cX3_readLet 14 = .ok (.invokevirtual 111, 3) := by decide +kernel
theorem dX3_readLet_17 : decode cX3_readLet 17 = .ok (.ireturn, 1) := by decide +kernel
theorem dX3_readLet_18 : decode cX3_readLet 18 = .ok (.aload_n 0, 1) := by decide +kernel
theorem dX3_readLet_19 : decode cX3_readLet 19 = .ok (.getfield 12, 3) := by decide +kernel
theorem dX3_readLet_22 : decode cX3_readLet 22 = .ok (.invokevirtual 92, 3) := by decide +kernel
theorem dX3_readLet_25 : decode cX3_readLet 25 = .ok (.aload_n 0, 1) := by decide +kernel
theorem dX3_readLet_26 : decode cX3_readLet 26 = .ok (.invokevirtual 146, 3) := by decide +kernel
theorem dX3_readLet_29 : decode cX3_readLet 29 = .ok (.ifCond .eq 27, 3) := by decide +kernel
theorem dX3_readLet_32 : decode cX3_readLet 32 = .ok (.aload_n 0, 1) := by decide +kernel
theorem dX3_readLet_33 : decode cX3_readLet 33 = .ok (.invokevirtual 170, 3) := by decide +kernel
theorem dX3_readLet_36 : decode cX3_readLet 36 = .ok (.ifCond .eq 20, 3) := by decide +kernel
theorem dX3_readLet_39 : decode cX3_readLet 39 = .ok (.aload_n 0, 1) := by decide +kernel
theorem dX3_readLet_40 : decode cX3_readLet 40 = .ok (.bipush 8, 2) := by decide +kernel
theorem dX3_readLet_42 : decode cX3_readLet 42 = .ok (.invokevirtual 135, 3) := by decide +kernel
theorem dX3_readLet_45 : decode cX3_readLet 45 = .ok (.ifCond .eq 11, 3) := by decide +kernel
theorem dX3_readLet_48 : decode cX3_readLet 48 = .ok (.aload_n 0, 1) := by decide +kernel
theorem dX3_readLet_49 : decode cX3_readLet 49 = .ok (.iconst 0, 1) := by decide +kernel
theorem dX3_readLet_50 : decode cX3_readLet 50 = .ok (.invokevirtual 209, 3) := by decide +kernel
theorem dX3_readLet_53 : decode cX3_readLet 53 = .ok (.ifCond .ne 5, 3) := by decide +kernel
theorem dX3_readLet_56 : decode cX3_readLet 56 = .ok (.iconst 0, 1) := by decide +kernel
theorem dX3_readLet_57 : decode cX3_readLet 57 = .ok (.ireturn, 1) := by decide +kernel
theorem dX3_readLet_58 : decode cX3_readLet 58 = .ok (.aload_n 0, 1) := by decide +kernel
theorem dX3_readLet_59 : decode cX3_readLet 59 = .ok (.getfield 39, 3) := by decide +kernel
theorem dX3_readLet_62 : decode cX3_readLet 62 = .ok (.aload_n 0, 1) := by decide +kernel
theorem dX3_readLet_63 : decode cX3_readLet 63 = .ok (.getfield 54, 3) := by decide +kernel
theorem dX3_readLet_66 : decode cX3_readLet 66 = .ok (.aload_n 0, 1) := by decide +kernel
theorem dX3_readLet_67 : decode cX3_readLet 67 = .ok (.getfield 50, 3) := by decide +kernel
theorem dX3_readLet_70 : decode cX3_readLet 70 = .ok (.aload_n 0, 1) := by decide +kernel
theorem dX3_readLet_71 : decode cX3_readLet 71 = .ok (.getfield 27, 3) := by decide +kernel
theorem dX3_readLet_74 : decode cX3_readLet 74 = .ok (.iconst 0, 1) := by decide +kernel
theorem dX3_readLet_75 : decode cX3_readLet 75 = .ok (.invokestatic 212, 3) := by decide +kernel
theorem dX3_readLet_78 : decode cX3_readLet 78 = .ok (.invokevirtual 218, 3) := by decide +kernel
theorem dX3_readLet_81 : decode cX3_readLet 81 = .ok (.iconst 1, 1) := by decide +kernel
theorem dX3_readLet_82 : decode cX3_readLet 82 = .ok (.ireturn, 1) := by decide +kernel
theorem dX3_readSum_0 : decode cX3_readSum 0 = .ok (.aload_n 0, 1) := by decide +kernel
theorem dX3_readSum_1 : decode cX3_readSum 1 = .ok (.getfield 27, 3) := by decide +kernel
theorem dX3_readSum_4 : decode cX3_readSum 4 = .ok (.iload_n 1, 1) := by decide +kernel
theorem dX3_readSum_5 : decode cX3_readSum 5 = .ok (.invokestatic 212, 3) := by decide +kernel
theorem dX3_readSum_8 : decode cX3_readSum 8 = .ok (.astore_n 2, 1) := by decide +kernel
theorem dX3_readSum_9 : decode cX3_readSum 9 = .ok (.aload_n 0, 1) := by decide +kernel
theorem dX3_readSum_10 : decode cX3_readSum 10 = .ok (.getfield 30, 3) := by decide +kernel
theorem dX3_readSum_13 : decode cX3_readSum 13 = .ok (.iload_n 1, 1) := by decide +kernel
theorem dX3_readSum_14 : decode cX3_readSum 14 = .ok (.invokestatic 212, 3) := by decide +kernel
theorem dX3_readSum_17 : decode cX3_readSum 17 = .ok (.astore_n 3, 1) := by decide +kernel
theorem dX3_readSum_18 : decode cX3_readSum 18 = .ok (.aload_n 0, 1) := by decide +kernel
theorem dX3_readSum_19 : decode cX3_readSum 19 = .ok (.iload_n 1, 1) := by decide +kernel
theorem dX3_readSum_20 : decode cX3_readSum 20 = .ok (.invokevirtual 222, 3) := by decide +kernel
theorem dX3_readSum_23 : decode cX3_readSum 23 = .ok (.ifCond .ne 5, 3) := by decide +kernel
theorem dX3_readSum_26 : decode cX3_readSum 26 = .ok (.iconst 0, 1) := by decide +kernel
theorem dX3_readSum_27 : decode cX3_readSum 27 = .ok (.ireturn, 1) := by decide +kernel
theorem dX3_readSum_28 : decode cX3_readSum 28 = .ok (.aload_n 3, 1) := by decide +kernel
theorem dX3_readSum_29 : decode cX3_readSum 29 = .ok (.aload_n 2, 1) := by decide +kernel
theorem dX3_readSum_30 : decode cX3_readSum 30 = .ok (.invokestatic 225, 3) := by decide +kernel
theorem dX3_readSum_33 : decode cX3_readSum 33 = .ok (.iconst 0, 1) := by decide +kernel
theorem dX3_readSum_34 : decode cX3_readSum 34 = .ok (.istore 4, 2) := by decide +kernel
theorem dX3_readSum_36 : decode cX3_readSum 36 = .ok (.iload 4, 2) := by decide +kernel
theorem dX3_readSum_38 : decode cX3_readSum 38 = .ok (.sipush 900, 3) := by decide +kernel
theorem dX3_readSum_41 : decode cX3_readSum 41 = .ok (.if_icmp .gt 96, 3) := by decide +kernel
theorem dX3_readSum_44 : decode cX3_readSum 44 = .ok (.aload_n 0, 1) := by decide +kernel
theorem dX3_readSum_45 : decode cX3_readSum 45 = .ok (.getfield 12, 3) := by decide +kernel
theorem dX3_readSum_48 : decode cX3_readSum 48 = .ok (.bipush 45, 2) := by decide +kernel
theorem dX3_readSum_50 : decode cX3_readSum 50 = .ok (.invokevirtual 114, 3) := by decide +kernel
theorem dX3_readSum_53 : decode cX3_readSum 53 = .ok (.istore 5, 2) := by decide +kernel
theorem dX3_readSum_55 : decode cX3_readSum 55 = .ok (.iload 5, 2) := by decide +kernel
theorem dX3_readSum_57 : decode cX3_readSum 57 = .ok (.ifCond .ne 17, 3) := by decide +kernel
theorem dX3_readSum_60 : decode cX3_readSum 60 = .ok (.aload_n 0, 1) := by decide +kernel
theorem dX3_readSum_61 : decode cX3_readSum 61 = .ok (.getfield 12, 3) := by decide +kernel
theorem dX3_readSum_64 : decode cX3_readSum 64 = .ok (.bipush 43, 2) := by decide +kernel
theorem dX3_readSum_66 : decode cX3_readSum 66 = .ok (.invokevirtual 114, 3) := by decide +kernel
theorem dX3_readSum_69 : decode cX3_readSum 69 = .ok (.ifCond .ne 5, 3) := by decide +kernel
theorem dX3_readSum_72 : decode cX3_readSum 72 = .ok (.iconst 1, 1) := by decide +kernel
theorem dX3_readSum_73 : decode cX3_readSum 73 = .ok (.ireturn, 1) := by decide +kernel
theorem dX3_readSum_74 : decode cX3_readSum 74 = .ok (.aload_n 0, 1) := by decide +kernel
theorem dX3_readSum_75 : decode cX3_readSum 75 = .ok (.getfield 12, 3) := by decide +kernel
theorem dX3_readSum_78 : decode cX3_readSum 78 = .ok (.invokevirtual 92, 3) := by decide +kernel
theorem dX3_readSum_81 : decode cX3_readSum 81 = .ok (.aload_n 0, 1) := by decide +kernel
theorem dX3_readSum_82 : decode cX3_readSum 82 = .ok (.iload_n 1, 1) := by decide +kernel
theorem dX3_readSum_83 : decode cX3_readSum 83 = .ok (.invokevirtual 222, 3) := by decide +kernel
theorem dX3_readSum_86 : decode cX3_readSum 86 = .ok (.ifCond .ne 5, 3) := by decide +kernel
theorem dX3_readSum_89 : decode cX3_readSum 89 = .ok (.iconst 0, 1) := by decide +kernel
theorem dX3_readSum_90 : decode cX3_readSum 90 = .ok (.ireturn, 1) := by decide +kernel
theorem dX3_readSum_91 : decode cX3_readSum 91 = .ok (.aload_n 2, 1) := by decide +kernel
theorem dX3_readSum_92 : decode cX3_readSum 92 = .ok (.aload_n 3, 1) := by decide +kernel
theorem dX3_readSum_93 : decode cX3_readSum 93 = .ok (.iload 5, 2) := by decide +kernel
theorem dX3_readSum_95 : decode cX3_readSum 95 = .ok (.ifCond .eq 9, 3) := by decide +kernel
theorem dX3_readSum_98 : decode cX3_readSum 98 = .ok (.ldc2_w 229, 3) := by decide +kernel
theorem dX3_readSum_101 : decode cX3_readSum 101 = .ok (.goto 4, 3) := by decide +kernel
theorem dX3_readSum_104 : decode cX3_readSum 104 = .ok (.lconst 1, 1) := by decide +kernel
theorem dX3_readSum_105 : decode cX3_readSum 105 = .ok (.invokestatic 231, 3) := by decide +kernel
theorem dX3_readSum_108 : decode cX3_readSum 108 = .ok (.aload_n 0, 1) := by decide +kernel
theorem dX3_readSum_109 : decode cX3_readSum 109 = .ok (.aload_n 0, 1) := by decide +kernel
theorem dX3_readSum_110 : decode cX3_readSum 110 = .ok (.getfield 70, 3) := by decide +kernel
theorem dX3_readSum_113 : decode cX3_readSum 113 = .ok (.ifCond .ne 10, 3) := by decide +kernel
theorem dX3_readSum_116 : decode cX3_readSum 116 = .ok (.aload_n 2, 1) := by decide +kernel
theorem dX3_readSum_117 : decode cX3_readSum 117 = .ok (.invokestatic 235, 3) := by decide +kernel
theorem dX3_readSum_120 : decode cX3_readSum 120 = .ok (.ifCond .eq 7, 3) := by decide +kernel
theorem dX3_readSum_123 : decode cX3_readSum 123 = .ok (.iconst 1, 1) := by decide +kernel
theorem dX3_readSum_124 : decode cX3_readSum 124 = .ok (.goto 4, 3) := by decide +kernel
theorem dX3_readSum_127 : decode cX3_readSum 127 = .ok (.iconst 0, 1) := by decide +kernel
theorem dX3_readSum_128 : decode cX3_readSum 128 = .ok (.putfield 70, 3) := by decide +kernel
theorem dX3_readSum_131 : decode cX3_readSum 131 = .ok (.iinc 4 1, 3) := by decide +kernel
theorem dX3_readSum_134 : decode cX3_readSum 134 = .ok (.goto (-98), 3) := by decide +kernel
theorem dX3_readSum_137 : decode cX3_readSum 137 = .ok (.aload_n 0, 1) := by decide +kernel
theorem dX3_readSum_138 : decode cX3_readSum 138 = .ok (.iconst 1, 1) := by decide +kernel
theorem dX3_readSum_139 : decode cX3_readSum 139 = .ok (.invokevirtual 111, 3) := by decide +kernel
theorem dX3_readSum_142 : decode cX3_readSum 142 = .ok (.ireturn, 1) := by decide +kernel
theorem dX3_readProduct_0 : decode cX3_readProduct 0 = .ok (.aload_n 0, 1) := by decide +kernel
theorem dX3_readProduct_1 : decode cX3_readProduct 1 = .ok (.getfield 30, 3) := by decide +kernel
theorem dX3_readProduct_4 : decode cX3_readProduct 4 = .ok (.iload_n 1, 1) := by decide +kernel
theorem dX3_readProduct_5 : decode cX3_readProduct 5 = .ok (.invokestatic 212, 3) := by decide +kernel
theorem dX3_readProduct_8 : decode cX3_readProduct 8 = .ok (.astore_n 2, 1) := by decide +kernel
theorem dX3_readProduct_9 : decode cX3_readProduct 9 = .ok (.aload_n 0, 1) := by decide +kernel
theorem dX3_readProduct_10 : decode cX3_readProduct 10 = .ok (.getfield 33, 3) := by decide +kernel
theorem dX3_readProduct_13 : decode cX3_readProduct 13 = .ok (.iload_n 1, 1) := by decide +kernel
theorem dX3_readProduct_14 : decode cX3_readProduct 14 = .ok (.invokestatic 212, 3) := by decide +kernel
theorem dX3_readProduct_17 : decode cX3_readProduct 17 = .ok (.astore_n 3, 1) := by decide +kernel
theorem dX3_readProduct_18 : decode cX3_readProduct 18 = .ok (.aload_n 0, 1) := by decide +kernel
theorem dX3_readProduct_19 : decode cX3_readProduct 19 = .ok (.iload_n 1, 1) := by decide +kernel
theorem dX3_readProduct_20 : decode cX3_readProduct 20 = .ok (.invokevirtual 239, 3) := by decide +kernel
theorem dX3_readProduct_23 : decode cX3_readProduct 23 = .ok (.ifCond .ne 5, 3) := by decide +kernel
theorem dX3_readProduct_26 : decode cX3_readProduct 26 = .ok (.iconst 0, 1) := by decide +kernel
theorem dX3_readProduct_27 : decode cX3_readProduct 27 = .ok (.ireturn, 1) := by decide +kernel
theorem dX3_readProduct_28 : decode cX3_readProduct 28 = .ok (.aload_n 3, 1) := by decide +kernel
theorem dX3_readProduct_29 : decode cX3_readProduct 29 = .ok (.aload_n 2, 1) := by decide +kernel
theorem dX3_readProduct_30 : decode cX3_readProduct 30 = .ok (.invokestatic 225, 3) := by decide +kernel
theorem dX3_readProduct_33 : decode cX3_readProduct 33 = .ok (.iconst 0, 1) := by decide +kernel
theorem dX3_readProduct_34 : decode cX3_readProduct 34 = .ok (.istore 4, 2) := by decide +kernel
theorem dX3_readProduct_36 : decode cX3_readProduct 36 = .ok (.iload 4, 2) := by decide +kernel
theorem dX3_readProduct_38 : decode cX3_readProduct 38 = .ok (.sipush 900, 3) := by decide +kernel
theorem dX3_readProduct_41 : decode cX3_readProduct 41 = .ok (.if_icmp .gt 80, 3) := by decide +kernel
theorem dX3_readProduct_44 : decode cX3_readProduct 44 = .ok (.aload_n 0, 1) := by decide +kernel
theorem dX3_readProduct_45 : decode cX3_readProduct 45 = .ok (.getfield 12, 3) := by decide +kernel
theorem dX3_readProduct_48 : decode cX3_readProduct 48 = .ok (.bipush 42, 2) := by decide +kernel
theorem dX3_readProduct_50 : decode cX3_readProduct 50 = .ok (.invokevirtual 114, 3) := by decide +kernel
theorem dX3_readProduct_53 : decode cX3_readProduct 53 = .ok (.ifCond .ne 5, 3) := by decide +kernel
theorem dX3_readProduct_56 : decode cX3_readProduct 56 = .ok (.iconst 1, 1) := by decide +kernel
theorem dX3_readProduct_57 : decode cX3_readProduct 57 = .ok (.ireturn, 1) := by decide +kernel
theorem dX3_readProduct_58 : decode cX3_readProduct 58 = .ok (.aload_n 0, 1) := by decide +kernel
theorem dX3_readProduct_59 : decode cX3_readProduct 59 = .ok (.getfield 12, 3) := by decide +kernel
theorem dX3_readProduct_62 : decode cX3_readProduct 62 = .ok (.invokevirtual 92, 3) := by decide +kernel
theorem dX3_readProduct_65 : decode cX3_readProduct 65 = .ok (.aload_n 0, 1) := by decide +kernel
theorem dX3_readProduct_66 : decode cX3_readProduct 66 = .ok (.iload_n 1, 1) := by decide +kernel
theorem dX3_readProduct_67 : decode cX3_readProduct 67 = .ok (.invokevirtual 239, 3) := by decide +kernel
theorem dX3_readProduct_70 : decode cX3_readProduct 70 = .ok (.ifCond .ne 5, 3) := by decide +kernel
theorem dX3_readProduct_73 : decode cX3_readProduct 73 = .ok (.iconst 0, 1) := by decide +kernel
theorem dX3_readProduct_74 : decode cX3_readProduct 74 = .ok (.ireturn, 1) := by decide +kernel
theorem dX3_readProduct_75 : decode cX3_readProduct 75 = .ok (.aload_n 0, 1) := by decide +kernel
theorem dX3_readProduct_76 : decode cX3_readProduct 76 = .ok (.getfield 21, 3) := by decide +kernel
theorem dX3_readProduct_79 : decode cX3_readProduct 79 = .ok (.aload_n 2, 1) := by decide +kernel
theorem dX3_readProduct_80 : decode cX3_readProduct 80 = .ok (.aload_n 3, 1) := by decide +kernel
theorem dX3_readProduct_81 : decode cX3_readProduct 81 = .ok (.aload_n 2, 1) := by decide +kernel
theorem dX3_readProduct_82 : decode cX3_readProduct 82 = .ok (.aload_n 0, 1) := by decide +kernel
theorem dX3_readProduct_83 : decode cX3_readProduct 83 = .ok (.getfield 46, 3) := by decide +kernel
theorem dX3_readProduct_86 : decode cX3_readProduct 86 = .ok (.invokevirtual 242, 3) := by decide +kernel
theorem dX3_readProduct_89 : decode cX3_readProduct 89 = .ok (.invokevirtual 245, 3) := by decide +kernel
theorem dX3_readProduct_92 : decode cX3_readProduct 92 = .ok (.aload_n 0, 1) := by decide +kernel
theorem dX3_readProduct_93 : decode cX3_readProduct 93 = .ok (.aload_n 0, 1) := by decide +kernel
theorem dX3_readProduct_94 : decode cX3_readProduct 94 = .ok (.getfield 70, 3) := by decide +kernel
theorem dX3_readProduct_97 : decode cX3_readProduct 97 = .ok (.ifCond .ne 10, 3) := by decide +kernel
theorem dX3_readProduct_100 : decode cX3_readProduct 100 = .ok (.aload_n 2, 1) := by decide +kernel
theorem dX3_readProduct_101 : decode cX3_readProduct 101 = .ok (.invokestatic 235, 3) := by decide +kernel
theorem dX3_readProduct_104 : decode cX3_readProduct 104 = .ok (.ifCond .eq 7, 3) := by decide +kernel
theorem dX3_readProduct_107 : decode cX3_readProduct 107 = .ok (.iconst 1, 1) := by decide +kernel
theorem dX3_readProduct_108 : decode cX3_readProduct 108 = .ok (.goto 4, 3) := by decide +kernel
theorem dX3_readProduct_111 : decode cX3_readProduct 111 = .ok (.iconst 0, 1) := by decide +kernel
theorem dX3_readProduct_112 : decode cX3_readProduct 112 = .ok (.putfield 70, 3) := by decide +kernel
theorem dX3_readProduct_115 : decode cX3_readProduct 115 = .ok (.iinc 4 1, 3) := by decide +kernel
theorem dX3_readProduct_118 : decode cX3_readProduct 118 = .ok (.goto (-82), 3) := by decide +kernel
theorem dX3_readProduct_121 : decode cX3_readProduct 121 = .ok (.aload_n 0, 1) := by decide +kernel
theorem dX3_readProduct_122 : decode cX3_readProduct 122 = .ok (.iconst 1, 1) := by decide +kernel
theorem dX3_readProduct_123 : decode cX3_readProduct 123 = .ok (.invokevirtual 111, 3) := by decide +kernel
theorem dX3_readProduct_126 : decode cX3_readProduct 126 = .ok (.ireturn, 1) := by decide +kernel
theorem dX3_readAtom_0 : decode cX3_readAtom 0 = .ok (.aload_n 0, 1) := by decide +kernel
theorem dX3_readAtom_1 : decode cX3_readAtom 1 = .ok (.getfield 33, 3) := by decide +kernel
theorem dX3_readAtom_4 : decode cX3_readAtom 4 = .ok (.iload_n 1, 1) := by decide +kernel
theorem dX3_readAtom_5 : decode cX3_readAtom 5 = .ok (.invokestatic 212, 3) := by decide +kernel
theorem dX3_readAtom_8 : decode cX3_readAtom 8 = .ok (.astore_n 2, 1) := by decide +kernel
theorem dX3_readAtom_9 : decode cX3_readAtom 9 = .ok (.aload_n 0, 1) := by decide +kernel
theorem dX3_readAtom_10 : decode cX3_readAtom 10 = .ok (.getfield 12, 3) := by decide +kernel
theorem dX3_readAtom_13 : decode cX3_readAtom 13 = .ok (.invokevirtual 118, 3) := by decide +kernel
theorem dX3_readAtom_16 : decode cX3_readAtom 16 = .ok (.ifCond .eq 21, 3) := by decide +kernel
theorem dX3_readAtom_19 : decode cX3_readAtom 19 = .ok (.aload_n 0, 1) := by decide +kernel
theorem dX3_readAtom_20 : decode cX3_readAtom 20 = .ok (.iconst 1, 1) := by decide +kernel
theorem dX3_readAtom_21 : decode cX3_readAtom 21 = .ok (.invokevirtual 154, 3) := by decide +kernel
theorem dX3_readAtom_24 : decode cX3_readAtom 24 = .ok (.istore_n 3, 1) := by decide +kernel
theorem dX3_readAtom_25 : decode cX3_readAtom 25 = .ok (.aload_n 2, 1) := by decide +kernel
theorem dX3_readAtom_26 : decode cX3_readAtom 26 = .ok (.aload_n 0, 1) := by decide +kernel
theorem dX3_readAtom_27 : decode cX3_readAtom 27 = .ok (.getfield 58, 3) := by decide +kernel
theorem dX3_readAtom_30 : decode cX3_readAtom 30 = .ok (.i2l, 1) := by decide +kernel
theorem dX3_readAtom_31 : decode cX3_readAtom 31 = .ok (.invokestatic 249, 3) := by decide +kernel
theorem dX3_readAtom_34 : decode cX3_readAtom 34 = .ok (.goto 132, 3) := by decide +kernel
theorem dX3_readAtom_37 : decode cX3_readAtom 37 = .ok (.aload_n 0, 1) := by decide +kernel
theorem dX3_readAtom_38 : decode cX3_readAtom 38 = .ok (.getfield 12, 3) := by decide +kernel
theorem dX3_readAtom_41 : decode cX3_readAtom 41 = .ok (.invokevirtual 124, 3) := by decide +kernel
theorem dX3_readAtom_44 : decode cX3_readAtom 44 = .ok (.ifCond .eq 12, 3) := by decide +kernel
theorem dX3_readAtom_47 : decode cX3_readAtom 47 = .ok (.aload_n 0, 1) := by decide +kernel
theorem dX3_readAtom_48 : decode cX3_readAtom 48 = .ok (.aload_n 2, 1) := by decide +kernel
theorem dX3_readAtom_49 : decode cX3_readAtom 49 = .ok (.invokevirtual 253, 3) := by decide +kernel
theorem dX3_readAtom_52 : decode cX3_readAtom 52 = .ok (.istore_n 3, 1) := by decide +kernel
theorem dX3_readAtom_53 : decode cX3_readAtom 53 = .ok (.goto 113, 3) := by decide +kernel
theorem dX3_readAtom_56 : decode cX3_readAtom 56 = .ok (.aload_n 0, 1) := by decide +kernel
theorem dX3_readAtom_57 : decode cX3_readAtom 57 = .ok (.getfield 12, 3) := by decide +kernel
theorem dX3_readAtom_60 : decode cX3_readAtom 60 = .ok (.bipush 9, 2) := by decide +kernel
theorem dX3_readAtom_62 : decode cX3_readAtom 62 = .ok (.invokevirtual 98, 3) := by decide +kernel
theorem dX3_readAtom_65 : decode cX3_readAtom 65 = .ok (.ifCond .eq 47, 3) := by decide +kernel
theorem dX3_readAtom_68 : decode cX3_readAtom 68 = .ok (.aload_n 0, 1) := by decide +kernel
theorem dX3_readAtom_69 : decode cX3_readAtom 69 = .ok (.getfield 12, 3) := by decide +kernel
theorem dX3_readAtom_72 : decode cX3_readAtom 72 = .ok (.invokevirtual 92, 3) := by decide +kernel
theorem dX3_readAtom_75 : decode cX3_readAtom 75 = .ok (.aload_n 0, 1) := by decide +kernel
theorem dX3_readAtom_76 : decode cX3_readAtom 76 = .ok (.aload_n 0, 1) := by decide +kernel
theorem dX3_readAtom_77 : decode cX3_readAtom 77 = .ok (.getfield 12, 3) := by decide +kernel
theorem dX3_readAtom_80 : decode cX3_readAtom 80 = .ok (.iconst 0, 1) := by decide +kernel
theorem dX3_readAtom_81 : decode cX3_readAtom 81 = .ok (.bipush 99, 2) := by decide +kernel
theorem dX3_readAtom_83 : decode cX3_readAtom 83 = .ok (.invokevirtual 185, 3) := by decide +kernel
theorem dX3_readAtom_86 : decode cX3_readAtom 86 = .ok (.invokevirtual 154, 3) := by decide +kernel
theorem dX3_readAtom_89 : decode cX3_readAtom 89 = .ok (.istore_n 3, 1) := by decide +kernel
theorem dX3_readAtom_90 : decode cX3_readAtom 90 = .ok (.aload_n 0, 1) := by decide +kernel
theorem dX3_readAtom_91 : decode cX3_readAtom 91 = .ok (.getfield 21, 3) := by decide +kernel
theorem dX3_readAtom_94 : decode cX3_readAtom 94 = .ok (.aload_n 0, 1) := by decide +kernel
theorem dX3_readAtom_95 : decode cX3_readAtom 95 = .ok (.getfield 58, 3) := by decide +kernel
theorem dX3_readAtom_98 : decode cX3_readAtom 98 = .ok (.aload_n 2, 1) := by decide +kernel
theorem dX3_readAtom_99 : decode cX3_readAtom 99 = .ok (.aload_n 0, 1) := by decide +kernel
theorem dX3_readAtom_100 : decode cX3_readAtom 100 = .ok (.getfield 46, 3) := by decide +kernel
theorem dX3_readAtom_103 : decode cX3_readAtom 103 = .ok (.invokevirtual 242, 3) := by decide +kernel
theorem dX3_readAtom_106 : decode cX3_readAtom 106 = .ok (.invokevirtual 256, 3) := by decide +kernel
theorem dX3_readAtom_109 : decode cX3_readAtom 109 = .ok (.goto 57, 3) := by decide +kernel
theorem dX3_readAtom_112 : decode cX3_readAtom 112 = .ok (.aload_n 0, 1) := by decide +kernel
theorem dX3_readAtom_113 : decode cX3_readAtom 113 = .ok (.getfield 12, 3) := by decide +kernel
theorem dX3_readAtom_116 : decode cX3_readAtom 116 = .ok (.bipush 10, 2) := by decide +kernel
theorem dX3_readAtom_118 : decode cX3_readAtom 118 = .ok (.invokevirtual 98, 3) := by decide +kernel
theorem dX3_readAtom_121 : decode cX3_readAtom 121 = .ok (.ifCond .eq 38, 3) := by decide +kernel
theorem dX3_readAtom_124 : decode cX3_readAtom 124 = .ok (.aload_n 0, 1) := by decide +kernel
theorem dX3_readAtom_125 : decode cX3_readAtom 125 = .ok (.getfield 12, 3) := by decide +kernel
theorem dX3_readAtom_128 : decode cX3_readAtom 128 = .ok (.invokevirtual 92, 3) := by decide +kernel
theorem dX3_readAtom_131 : decode cX3_readAtom 131 = .ok (.aload_n 0, 1) := by decide +kernel
theorem dX3_readAtom_132 : decode cX3_readAtom 132 = .ok (.invokevirtual 260, 3) := by decide +kernel
theorem dX3_readAtom_135 : decode cX3_readAtom 135 = .ok (.istore_n 3, 1) := by decide +kernel
theorem dX3_readAtom_136 : decode cX3_readAtom 136 = .ok (.aload_n 0, 1) := by decide +kernel
theorem dX3_readAtom_137 : decode cX3_readAtom 137 = .ok (.getfield 46, 3) := by decide +kernel
theorem dX3_readAtom_140 : decode cX3_readAtom 140 = .ok (.aload_n 0, 1) := by decide +kernel
theorem dX3_readAtom_141 : decode cX3_readAtom 141 = .ok (.getfield 61, 3) := by decide +kernel
theorem dX3_readAtom_144 : decode cX3_readAtom 144 = .ok (.aload_n 0, 1) := by decide +kernel
theorem dX3_readAtom_145 : decode cX3_readAtom 145 = .ok (.getfield 58, 3) := by decide +kernel
theorem dX3_readAtom_148 : decode cX3_readAtom 148 = .ok (.aload_n 0, 1) := by decide +kernel
theorem dX3_readAtom_149 : decode cX3_readAtom 149 = .ok (.getfield 21, 3) := by decide +kernel
theorem dX3_readAtom_152 : decode cX3_readAtom 152 = .ok (.aload_n 2, 1) := by decide +kernel
theorem dX3_readAtom_153 : decode cX3_readAtom 153 = .ok (.invokevirtual 263, 3) := by decide +kernel
theorem dX3_readAtom_156 : decode cX3_readAtom 156 = .ok (.goto 10, 3) := by decide +kernel
theorem dX3_readAtom_159 : decode cX3_readAtom 159 = .ok (.aload_n 0, 1) := by decide +kernel
theorem dX3_readAtom_160 : decode cX3_readAtom 160 = .ok (.iload_n 1, 1) := by decide +kernel
theorem dX3_readAtom_161 : decode cX3_readAtom 161 = .ok (.aload_n 2, 1) := by decide +kernel
theorem dX3_readAtom_162 : decode cX3_readAtom 162 = .ok (.invokevirtual 267, 3) := by decide +kernel
theorem dX3_readAtom_165 : decode cX3_readAtom 165 = .ok (.istore_n 3, 1) := by decide +kernel
theorem dX3_readAtom_166 : decode cX3_readAtom 166 = .ok (.aload_n 0, 1) := by decide +kernel
theorem dX3_readAtom_167 : decode cX3_readAtom 167 = .ok (.aload_n 0, 1) := by decide +kernel
theorem dX3_readAtom_168 : decode cX3_readAtom 168 = .ok (.getfield 70, 3) := by decide +kernel
theorem dX3_readAtom_171 : decode cX3_readAtom 171 = .ok (.ifCond .ne 10, 3) := by decide +kernel
theorem dX3_readAtom_174 : decode cX3_readAtom 174 = .ok (.aload_n 2, 1) := by decide +kernel
theorem dX3_readAtom_175 : decode cX3_readAtom 175 = .ok (.invokestatic 235, 3) := by decide +kernel
theorem dX3_readAtom_178 : decode cX3_readAtom 178 = .ok (.ifCond .eq 7, 3) := by decide +kernel
theorem dX3_readAtom_181 : decode cX3_readAtom 181 = .ok (.iconst 1, 1) := by decide +kernel
theorem dX3_readAtom_182 : decode cX3_readAtom 182 = .ok (.goto 4, 3) := by decide +kernel
theorem dX3_readAtom_185 : decode cX3_readAtom 185 = .ok (.iconst 0, 1) := by decide +kernel
theorem dX3_readAtom_186 : decode cX3_readAtom 186 = .ok (.putfield 70, 3) := by decide +kernel
theorem dX3_readAtom_189 : decode cX3_readAtom 189 = .ok (.iload_n 3, 1) := by decide +kernel
theorem dX3_readAtom_190 : decode cX3_readAtom 190 = .ok (.ireturn, 1) := by decide +kernel
theorem dX3_readLetName_0 : decode cX3_readLetName 0 = .ok (.aload_n 0, 1) := by decide +kernel
theorem dX3_readLetName_1 : decode cX3_readLetName 1 = .ok (.getfield 39, 3) := by decide +kernel
theorem dX3_readLetName_4 : decode cX3_readLetName 4 = .ok (.aload_n 0, 1) := by decide +kernel
theorem dX3_readLetName_5 : decode cX3_readLetName 5 = .ok (.getfield 12, 3) := by decide +kernel
theorem dX3_readLetName_8 : decode cX3_readLetName 8 = .ok (.invokevirtual 127, 3) := by decide +kernel
theorem dX3_readLetName_11 : decode cX3_readLetName 11 = .ok (.iconst 3, 1) := by decide +kernel
theorem dX3_readLetName_12 : decode cX3_readLetName 12 = .ok (.invokevirtual 138, 3) := by decide +kernel
theorem dX3_readLetName_15 : decode cX3_readLetName 15 = .ok (.istore_n 2, 1) := by decide +kernel
theorem dX3_readLetName_16 : decode cX3_readLetName 16 = .ok (.iload_n 2, 1) := by decide +kernel
theorem dX3_readLetName_17 : decode cX3_readLetName 17 = .ok (.ifCond .lt 18, 3) := by decide +kernel
theorem dX3_readLetName_20 : decode cX3_readLetName 20 = .ok (.aload_n 0, 1) := by decide +kernel
theorem dX3_readLetName_21 : decode cX3_readLetName 21 = .ok (.getfield 39, 3) := by decide +kernel
theorem dX3_readLetName_24 : decode cX3_readLetName 24 = .ok (.iload_n 2, 1) := by decide +kernel
theorem dX3_readLetName_25 : decode cX3_readLetName 25 = .ok (.invokevirtual 271, 3) := by decide +kernel
theorem dX3_readLetName_28 : decode cX3_readLetName 28 = .ok (.aload_n 0, 1) := by decide +kernel
theorem dX3_readLetName_29 : decode cX3_readLetName 29 = .ok (.getfield 50, 3) := by decide +kernel
theorem dX3_readLetName_32 : decode cX3_readLetName 32 = .ok (.if_icmp .eq 9, 3) := by decide +kernel
theorem dX3_readLetName_35 : decode cX3_readLetName 35 = .ok (.aload_n 0, 1) := by decide +kernel
theorem dX3_readLetName_36 : decode cX3_readLetName 36 = .ok (.iconst 2, 1) := by decide +kernel
theorem dX3_readLetName_37 : decode cX3_readLetName 37 = .ok (.invokevirtual 111, 3) := by decide +kernel
theorem dX3_readLetName_40 : decode cX3_readLetName 40 = .ok (.ireturn, 1) := by decide +kernel
theorem dX3_readLetName_41 : decode cX3_readLetName 41 = .ok (.aload_n 0, 1) := by decide +kernel
theorem dX3_readLetName_42 : decode cX3_readLetName 42 = .ok (.getfield 39, 3) := by decide +kernel
theorem dX3_readLetName_45 : decode cX3_readLetName 45 = .ok (.iload_n 2, 1) := by decide +kernel
theorem dX3_readLetName_46 : decode cX3_readLetName 46 = .ok (.invokevirtual 275, 3) := by decide +kernel
theorem dX3_readLetName_49 : decode cX3_readLetName 49 = .ok (.aload_n 1, 1) := by decide +kernel
theorem dX3_readLetName_50 : decode cX3_readLetName 50 = .ok (.invokestatic 225, 3) := by decide +kernel
theorem dX3_readLetName_53 : decode cX3_readLetName 53 = .ok (.aload_n 0, 1) := by decide +kernel
theorem dX3_readLetName_54 : decode cX3_readLetName 54 = .ok (.getfield 12, 3) := by decide +kernel
theorem dX3_readLetName_57 : decode cX3_readLetName 57 = .ok (.invokevirtual 92, 3) := by decide +kernel
theorem dX3_readLetName_60 : decode cX3_readLetName 60 = .ok (.iconst 1, 1) := by decide +kernel
theorem dX3_readLetName_61 : decode cX3_readLetName 61 = .ok (.ireturn, 1) := by decide +kernel
theorem dX3_takeTwoCharacters_0 : decode cX3_takeTwoCharacters 0 = .ok (.aload_n 0, 1) := by decide +kernel
theorem dX3_takeTwoCharacters_1 : decode cX3_takeTwoCharacters 1 = .ok (.getfield 46, 3) := by decide +kernel
theorem dX3_takeTwoCharacters_4 : decode cX3_takeTwoCharacters 4 = .ok (.invokevirtual 242, 3) := by decide +kernel
theorem dX3_takeTwoCharacters_7 : decode cX3_takeTwoCharacters 7 = .ok (.iconst 1, 1) := by decide +kernel
theorem dX3_takeTwoCharacters_8 : decode cX3_takeTwoCharacters 8 = .ok (.isub, 1) := by decide +kernel
theorem dX3_takeTwoCharacters_9 : decode cX3_takeTwoCharacters 9 = .ok (.istore_n 1, 1) := by decide +kernel
theorem dX3_takeTwoCharacters_10 : decode cX3_takeTwoCharacters 10 = .ok (.aload_n 0, 1) := by decide +kernel
theorem dX3_takeTwoCharacters_11 : decode cX3_takeTwoCharacters 11 = .ok (.aload_n 0, 1) := by decide +kernel
theorem dX3_takeTwoCharacters_12 : decode cX3_takeTwoCharacters 12 = .ok (.getfield 12, 3) := by decide +kernel
theorem dX3_takeTwoCharacters_15 : decode cX3_takeTwoCharacters 15 = .ok (.iconst 0, 1) := by decide +kernel
theorem dX3_takeTwoCharacters_16 : decode cX3_takeTwoCharacters 16 = .ok (.iload_n 1, 1) := by decide +kernel
theorem dX3_takeTwoCharacters_17 : decode cX3_takeTwoCharacters 17 = .ok (.invokevirtual 185, 3) := by decide +kernel
theorem dX3_takeTwoCharacters_20 : decode cX3_takeTwoCharacters 20 = .ok (.invokevirtual 154, 3) := by decide +kernel
theorem dX3_takeTwoCharacters_23 : decode cX3_takeTwoCharacters 23 = .ok (.ifCond .ne 5, 3) := by decide +kernel
theorem dX3_takeTwoCharacters_26 : decode cX3_takeTwoCharacters 26 = .ok (.iconst 0, 1) := by decide +kernel
theorem dX3_takeTwoCharacters_27 : decode cX3_takeTwoCharacters 27 = .ok (.ireturn, 1) := by decide +kernel
theorem dX3_takeTwoCharacters_28 : decode cX3_takeTwoCharacters 28 = .ok (.aload_n 0, 1) := by decide +kernel
theorem dX3_takeTwoCharacters_29 : decode cX3_takeTwoCharacters 29 = .ok (.aload_n 0, 1) := by decide +kernel
theorem dX3_takeTwoCharacters_30 : decode cX3_takeTwoCharacters 30 = .ok (.getfield 58, 3) := by decide +kernel
theorem dX3_takeTwoCharacters_33 : decode cX3_takeTwoCharacters 33 = .ok (.putfield 61, 3) := by decide +kernel
theorem dX3_takeTwoCharacters_36 : decode cX3_takeTwoCharacters 36 = .ok (.aload_n 0, 1) := by decide +kernel
theorem dX3_takeTwoCharacters_37 : decode cX3_takeTwoCharacters 37 = .ok (.bipush 44, 2) := by decide +kernel
theorem dX3_takeTwoCharacters_39 : decode cX3_takeTwoCharacters 39 = .ok (.invokevirtual 279, 3) := by decide +kernel
theorem dX3_takeTwoCharacters_42 : decode cX3_takeTwoCharacters 42 = .ok (.ifCond .eq 23, 3) := by decide +kernel
theorem dX3_takeTwoCharacters_45 : decode cX3_takeTwoCharacters 45 = .ok (.aload_n 0, 1) := by decide +kernel
theorem dX3_takeTwoCharacters_46 : decode cX3_takeTwoCharacters 46 = .ok (.aload_n 0, 1) := by decide +kernel
theorem dX3_takeTwoCharacters_47 : decode cX3_takeTwoCharacters 47 = .ok (.getfield 12, 3) := by decide +kernel
theorem dX3_takeTwoCharacters_50 : decode cX3_takeTwoCharacters 50 = .ok (.iconst 0, 1) := by decide +kernel
theorem dX3_takeTwoCharacters_51 : decode cX3_takeTwoCharacters 51 = .ok (.iload_n 1, 1) := by decide +kernel
theorem dX3_takeTwoCharacters_52 : decode cX3_takeTwoCharacters 52 = .ok (.invokevirtual 185, 3) := by decide +kernel
theorem dX3_takeTwoCharacters_55 : decode cX3_takeTwoCharacters 55 = .ok (.invokevirtual 154, 3) := by decide +kernel
theorem dX3_takeTwoCharacters_58 : decode cX3_takeTwoCharacters 58 = .ok (.ifCond .eq 7, 3) := by decide +kernel
theorem dX3_takeTwoCharacters_61 : decode cX3_takeTwoCharacters 61 = .ok (.iconst 1, 1) := by decide +kernel
theorem dX3_takeTwoCharacters_62 : decode cX3_takeTwoCharacters 62 = .ok (.goto 4, 3) := by decide +kernel
theorem dX3_takeTwoCharacters_65 : decode cX3_takeTwoCharacters 65 = .ok (.iconst 0, 1) := by decide +kernel
theorem dX3_takeTwoCharacters_66 : decode cX3_takeTwoCharacters 66 = .ok (.ireturn, 1) := by decide +kernel
theorem dX3_readDeeper_0 : decode cX3_readDeeper 0 = .ok (.aload_n 0, 1) := by decide +kernel
theorem dX3_readDeeper_1 : decode cX3_readDeeper 1 = .ok (.getfield 12, 3) := by decide +kernel
theorem dX3_readDeeper_4 : decode cX3_readDeeper 4 = .ok (.bipush 40, 2) := by decide +kernel
theorem dX3_readDeeper_6 : decode cX3_readDeeper 6 = .ok (.invokevirtual 114, 3) := by decide +kernel
theorem dX3_readDeeper_9 : decode cX3_readDeeper 9 = .ok (.istore_n 3, 1) := by decide +kernel
theorem dX3_readDeeper_10 : decode cX3_readDeeper 10 = .ok (.aload_n 0, 1) := by decide +kernel
theorem dX3_readDeeper_11 : decode cX3_readDeeper 11 = .ok (.getfield 12, 3) := by decide +kernel
theorem dX3_readDeeper_14 : decode cX3_readDeeper 14 = .ok (.bipush 12, 2) := by decide +kernel
theorem dX3_readDeeper_16 : decode cX3_readDeeper 16 = .ok (.invokevirtual 98, 3) := by decide +kernel
theorem dX3_readDeeper_19 : decode cX3_readDeeper 19 = .ok (.istore 4, 2) := by decide +kernel
theorem dX3_readDeeper_21 : decode cX3_readDeeper 21 = .ok (.iload_n 3, 1) := by decide +kernel
theorem dX3_readDeeper_22 : decode cX3_readDeeper 22 = .ok (.ifCond .ne 26, 3) := by decide +kernel
theorem dX3_readDeeper_25 : decode cX3_readDeeper 25 = .ok (.iload 4, 2) := by decide +kernel
theorem dX3_readDeeper_27 : decode cX3_readDeeper 27 = .ok (.ifCond .ne 21, 3) := by decide +kernel
theorem dX3_readDeeper_30 : decode cX3_readDeeper 30 = .ok (.aload_n 0, 1) := by decide +kernel
theorem dX3_readDeeper_31 : decode cX3_readDeeper 31 = .ok (.getfield 12, 3) := by decide +kernel
theorem dX3_readDeeper_34 : decode cX3_readDeeper 34 = .ok (.bipush 11, 2) := by decide +kernel
theorem dX3_readDeeper_36 : decode cX3_readDeeper 36 = .ok (.invokevirtual 98, 3) := by decide +kernel
theorem dX3_readDeeper_39 : decode cX3_readDeeper 39 = .ok (.ifCond .ne 9, 3) := by decide +kernel
theorem dX3_readDeeper_42 : decode cX3_readDeeper 42 = .ok (.aload_n 0, 1) := by decide +kernel
theorem dX3_readDeeper_43 : decode cX3_readDeeper 43 = .ok (.iconst 1, 1) := by decide +kernel
theorem dX3_readDeeper_44 : decode cX3_readDeeper 44 = .ok (.invokevirtual 111, 3) := by decide +kernel
theorem dX3_readDeeper_47 : decode cX3_readDeeper 47 = .ok (.ireturn, 1) := by decide +kernel
theorem dX3_readDeeper_48 : decode cX3_readDeeper 48 = .ok (.iload_n 1, 1) := by decide +kernel
theorem dX3_readDeeper_49 : decode cX3_readDeeper 49 = .ok (.bipush 8, 2) := by decide +kernel
theorem dX3_readDeeper_51 : decode cX3_readDeeper 51 = .ok (.if_icmp .lt 9, 3) := by decide +kernel
theorem dX3_readDeeper_54 : decode cX3_readDeeper 54 = .ok (.aload_n 0, 1) := by decide +kernel
theorem dX3_readDeeper_55 : decode cX3_readDeeper 55 = .ok (.iconst 5, 1) := by decide +kernel
theorem dX3_readDeeper_56 : decode cX3_readDeeper 56 = .ok (.invokevirtual 111, 3) := by decide +kernel
theorem dX3_readDeeper_59 : decode cX3_readDeeper 59 = .ok (.ireturn, 1) := by decide +kernel
theorem dX3_readDeeper_60 : decode cX3_readDeeper 60 = .ok (.aload_n 0, 1) := by decide +kernel
theorem dX3_readDeeper_61 : decode cX3_readDeeper 61 = .ok (.getfield 12, 3) := by decide +kernel
theorem dX3_readDeeper_64 : decode cX3_readDeeper 64 = .ok (.invokevirtual 92, 3) := by decide +kernel
theorem dX3_readDeeper_67 : decode cX3_readDeeper 67 = .ok (.iload_n 3, 1) := by decide +kernel
theorem dX3_readDeeper_68 : decode cX3_readDeeper 68 = .ok (.ifCond .eq 46, 3) := by decide +kernel
theorem dX3_readDeeper_71 : decode cX3_readDeeper 71 = .ok (.aload_n 0, 1) := by decide +kernel
theorem dX3_readDeeper_72 : decode cX3_readDeeper 72 = .ok (.iload_n 1, 1) := by decide +kernel
theorem dX3_readDeeper_73 : decode cX3_readDeeper 73 = .ok (.iconst 1, 1) := by decide +kernel
theorem dX3_readDeeper_74 : decode cX3_readDeeper 74 = .ok (.iadd, 1) := by decide +kernel
theorem dX3_readDeeper_75 : decode cX3_readDeeper 75 = .ok (.invokevirtual 209, 3) := by decide +kernel
theorem dX3_readDeeper_78 : decode cX3_readDeeper 78 = .ok (.ifCond .eq 16, 3) := by decide +kernel
theorem dX3_readDeeper_81 : decode cX3_readDeeper 81 = .ok (.aload_n 0, 1) := by decide +kernel
theorem dX3_readDeeper_82 : decode cX3_readDeeper 82 = .ok (.bipush 41, 2) := by decide +kernel
theorem dX3_readDeeper_84 : decode cX3_readDeeper 84 = .ok (.invokevirtual 279, 3) := by decide +kernel
theorem dX3_readDeeper_87 : decode cX3_readDeeper 87 = .ok (.ifCond .eq 7, 3) := by decide +kernel
theorem dX3_readDeeper_90 : decode cX3_readDeeper 90 = .ok (.iconst 1, 1) := by decide +kernel
theorem dX3_readDeeper_91 : decode cX3_readDeeper 91 = .ok (.goto 4, 3) := by decide +kernel
theorem dX3_readDeeper_94 : decode cX3_readDeeper 94 = .ok (.iconst 0, 1) := by decide +kernel
theorem dX3_readDeeper_95 : decode cX3_readDeeper 95 = .ok (.istore 5, 2) := by decide +kernel
theorem dX3_readDeeper_97 : decode cX3_readDeeper 97 = .ok (.aload_n 0, 1) := by decide +kernel
theorem dX3_readDeeper_98 : decode cX3_readDeeper 98 = .ok (.getfield 27, 3) := by decide +kernel
theorem dX3_readDeeper_101 : decode cX3_readDeeper 101 = .ok (.iload_n 1, 1) := by decide +kernel
theorem dX3_readDeeper_102 : decode cX3_readDeeper 102 = .ok (.iconst 1, 1) := by decide +kernel
theorem dX3_readDeeper_103 : decode cX3_readDeeper 103 = .ok (.iadd, 1) := by decide +kernel
theorem dX3_readDeeper_104 : decode cX3_readDeeper 104 = .ok (.invokestatic 212, 3) := by decide +kernel
theorem dX3_readDeeper_107 : decode cX3_readDeeper 107 = .ok (.aload_n 2, 1) := by decide +kernel
theorem dX3_readDeeper_108 : decode cX3_readDeeper 108 = .ok (.invokestatic 225, 3) := by decide +kernel
theorem dX3_readDeeper_111 : decode cX3_readDeeper 111 = .ok (.iload 5, 2) := by decide +kernel
theorem dX3_readDeeper_113 : decode cX3_readDeeper 113 = .ok (.ireturn, 1) := by decide +kernel
theorem dX3_readDeeper_114 : decode cX3_readDeeper 114 = .ok (.iload 4, 2) := by decide +kernel
theorem dX3_readDeeper_116 : decode cX3_readDeeper 116 = .ok (.ifCond .eq 26, 3) := by decide +kernel
theorem dX3_readDeeper_119 : decode cX3_readDeeper 119 = .ok (.aload_n 0, 1) := by decide +kernel
theorem dX3_readDeeper_120 : decode cX3_readDeeper 120 = .ok (.aload_n 0, 1) := by decide +kernel
theorem dX3_readDeeper_121 : decode cX3_readDeeper 121 = .ok (.getfield 46, 3) := by decide +kernel
theorem dX3_readDeeper_124 : decode cX3_readDeeper 124 = .ok (.aload_n 0, 1) := by decide +kernel
theorem dX3_readDeeper_125 : decode cX3_readDeeper 125 = .ok (.getfield 12, 3) := by decide +kernel
theorem dX3_readDeeper_128 : decode cX3_readDeeper 128 = .ok (.invokevirtual 121, 3) := by decide +kernel
theorem dX3_readDeeper_131 : decode cX3_readDeeper 131 = .ok (.invokevirtual 282, 3) := by decide +kernel
theorem dX3_readDeeper_134 : decode cX3_readDeeper 134 = .ok (.invokevirtual 154, 3) := by decide +kernel
theorem dX3_readDeeper_137 : decode cX3_readDeeper 137 = .ok (.ifCond .ne 5, 3) := by decide +kernel
theorem dX3_readDeeper_140 : decode cX3_readDeeper 140 = .ok (.iconst 0, 1) := by decide +kernel
theorem dX3_readDeeper_141 : decode cX3_readDeeper 141 = .ok (.ireturn, 1) := by decide +kernel
theorem dX3_readDeeper_142 : decode cX3_readDeeper 142 = .ok (.iload 4, 2) := by decide +kernel
theorem dX3_readDeeper_144 : decode cX3_readDeeper 144 = .ok (.ifCond .eq 10, 3) := by decide +kernel
theorem dX3_readDeeper_147 : decode cX3_readDeeper 147 = .ok (.aload_n 0, 1) := by decide +kernel
theorem dX3_readDeeper_148 : decode cX3_readDeeper 148 = .ok (.getfield 58, 3) := by decide +kernel
theorem dX3_readDeeper_151 : decode cX3_readDeeper 151 = .ok (.goto 12, 3) := by decide +kernel
theorem dX3_readDeeper_154 : decode cX3_readDeeper 154 = .ok (.aload_n 0, 1) := by decide +kernel
theorem dX3_readDeeper_155 : decode cX3_readDeeper 155 = .ok (.getfield 46, 3) := by decide +kernel
theorem dX3_readDeeper_158 : decode cX3_readDeeper 158 = .ok (.invokevirtual 242, 3) := by decide +kernel
theorem dX3_readDeeper_161 : decode cX3_readDeeper 161 = .ok (.iconst 1, 1) := by decide +kernel
theorem dX3_readDeeper_162 : decode cX3_readDeeper 162 = .ok (.isub, 1) := by decide +kernel
theorem dX3_readDeeper_163 : decode cX3_readDeeper 163 = .ok (.istore 5, 2) := by decide +kernel
theorem dX3_readDeeper_165 : decode cX3_readDeeper 165 = .ok (.aload_n 0, 1) := by decide +kernel
theorem dX3_readDeeper_166 : decode cX3_readDeeper 166 = .ok (.iload_n 1, 1) := by decide +kernel
theorem dX3_readDeeper_167 : decode cX3_readDeeper 167 = .ok (.iconst 1, 1) := by decide +kernel
theorem dX3_readDeeper_168 : decode cX3_readDeeper 168 = .ok (.iadd, 1) := by decide +kernel
theorem dX3_readDeeper_169 : decode cX3_readDeeper 169 = .ok (.invokevirtual 239, 3) := by decide +kernel
theorem dX3_readDeeper_172 : decode cX3_readDeeper 172 = .ok (.istore 6, 2) := by decide +kernel
theorem dX3_readDeeper_174 : decode cX3_readDeeper 174 = .ok (.aload_n 0, 1) := by decide +kernel
theorem dX3_readDeeper_175 : decode cX3_readDeeper 175 = .ok (.getfield 21, 3) := by decide +kernel
theorem dX3_readDeeper_178 : decode cX3_readDeeper 178 = .ok (.aload_n 0, 1) := by decide +kernel
theorem dX3_readDeeper_179 : decode cX3_readDeeper 179 = .ok (.getfield 33, 3) := by decide +kernel
theorem dX3_readDeeper_182 : decode cX3_readDeeper 182 = .ok (.iload_n 1, 1) := by decide +kernel
theorem dX3_readDeeper_183 : decode cX3_readDeeper 183 = .ok (.iconst 1, 1) := by decide +kernel
theorem dX3_readDeeper_184 : decode cX3_readDeeper 184 = .ok (.iadd, 1) := by decide +kernel
theorem dX3_readDeeper_185 : decode cX3_readDeeper 185 = .ok (.invokestatic 212, 3) := by decide +kernel
theorem dX3_readDeeper_188 : decode cX3_readDeeper 188 = .ok (.iload 5, 2) := by decide +kernel
theorem dX3_readDeeper_190 : decode cX3_readDeeper 190 = .ok (.aload_n 2, 1) := by decide +kernel
theorem dX3_readDeeper_191 : decode cX3_readDeeper 191 = .ok (.aload_n 0, 1) := by decide +kernel
theorem dX3_readDeeper_192 : decode cX3_readDeeper 192 = .ok (.getfield 46, 3) := by decide +kernel
theorem dX3_readDeeper_195 : decode cX3_readDeeper 195 = .ok (.invokevirtual 242, 3) := by decide +kernel
theorem dX3_readDeeper_198 : decode cX3_readDeeper 198 = .ok (.invokevirtual 285, 3) := by decide +kernel
theorem dX3_readDeeper_201 : decode cX3_readDeeper 201 = .ok (.iload 6, 2) := by decide +kernel
theorem dX3_readDeeper_203 : decode cX3_readDeeper 203 = .ok (.ireturn, 1) := by decide +kernel
theorem dX4_init_0 : decode cX4_init 0 = .ok (.aload_n 0, 1) := by decide +kernel
theorem dX4_init_1 : decode cX4_init 1 = .ok (.invokespecial 5, 3) := by decide +kernel
theorem dX4_init_4 : decode cX4_init 4 = .ok (.aload_n 0, 1) := by decide +kernel
theorem dX4_init_5 : decode cX4_init 5 = .ok (.sipush 861, 3) := by decide +kernel
theorem dX4_init_8 : decode cX4_init 8 = .ok (.newarray .long, 2) := by decide +kernel
theorem dX4_init_10 : decode cX4_init 10 = .ok (.putfield 11, 3) := by decide +kernel
theorem dX4_init_13 : decode cX4_init 13 = .ok (.aload_n 0, 1) := by decide +kernel
theorem dX4_init_14 : decode cX4_init 14 = .ok (.sipush 164, 3) := by decide +kernel
theorem dX4_init_17 : decode cX4_init 17 = .ok (.newarray .long, 2) := by decide +kernel
theorem dX4_init_19 : decode cX4_init 19 = .ok (.putfield 15, 3) := by decide +kernel
theorem dX4_init_22 : decode cX4_init 22 = .ok (.aload_n 0, 1) := by decide +kernel
theorem dX4_init_23 : decode cX4_init 23 = .ok (.iconst 0, 1) := by decide +kernel
theorem dX4_init_24 : decode cX4_init 24 = .ok (.putfield 18, 3) := by decide +kernel
theorem dX4_init_27 : decode cX4_init 27 = .ok (.aload_n 0, 1) := by decide +kernel
theorem dX4_init_28 : decode cX4_init 28 = .ok (.iconst 0, 1) := by decide +kernel
theorem dX4_init_29 : decode cX4_init 29 = .ok (.putfield 22, 3) := by decide +kernel
theorem dX4_init_32 : decode cX4_init 32 = .ok (.aload_n 0, 1) := by decide +kernel
theorem dX4_init_33 : decode cX4_init 33 = .ok (.iconst 0, 1) := by decide +kernel
theorem dX4_init_34 : decode cX4_init 34 = .ok (.putfield 25, 3) := by decide +kernel
theorem dX4_init_37 : decode cX4_init 37 = .ok (.aload_n 0, 1) := by decide +kernel
theorem dX4_init_38 : decode cX4_init 38 = .ok (.iconst 0, 1) := by decide +kernel
theorem dX4_init_39 : decode cX4_init 39 = .ok (.putfield 28, 3) := by decide +kernel
theorem dX4_init_42 : decode cX4_init 42 = .ok (.return_, 1) := by decide +kernel
theorem dX4_restart_0 : decode cX4_restart 0 = .ok (.aload_n 0, 1) := by decide +kernel
theorem dX4_restart_1 : decode cX4_restart 1 = .ok (.iconst 0, 1) := by decide +kernel
theorem dX4_restart_2 : decode cX4_restart 2 = .ok (.putfield 18, 3) := by decide +kernel
theorem dX4_restart_5 : decode cX4_restart 5 = .ok (.aload_n 0, 1) := by decide +kernel
theorem dX4_restart_6 : decode cX4_restart 6 = .ok (.iconst 0, 1) := by decide +kernel
theorem dX4_restart_7 : decode cX4_restart 7 = .ok (.putfield 22, 3) := by decide +kernel
theorem dX4_restart_10 : decode cX4_restart 10 = .ok (.aload_n 0, 1) := by decide +kernel
theorem dX4_restart_11 : decode cX4_restart 11 = .ok (.iconst 0, 1) := by decide +kernel
theorem dX4_restart_12 : decode cX4_restart 12 = .ok (.putfield 25, 3) := by decide +kernel
theorem dX4_restart_15 : decode cX4_restart 15 = .ok (.aload_n 0, 1) := by decide +kernel
theorem dX4_restart_16 : decode cX4_restart 16 = .ok (.iconst 0, 1) := by decide +kernel
theorem dX4_restart_17 : decode cX4_restart 17 = .ok (.putfield 28, 3) := by decide +kernel
theorem dX4_restart_20 : decode cX4_restart 20 = .ok (.aload_n 0, 1) := by decide +kernel
theorem dX4_restart_21 : decode cX4_restart 21 = .ok (.iconst 0, 1) := by decide +kernel
theorem dX4_restart_22 : decode cX4_restart 22 = .ok (.invokevirtual 31, 3) := by decide +kernel
theorem dX4_restart_25 : decode cX4_restart 25 = .ok (.return_, 1) := by decide +kernel
theorem dX4_has_0 : decode cX4_has 0 = .ok (.iload_n 1, 1) := by decide +kernel
theorem dX4_has_1 : decode cX4_has 1 = .ok (.ifCond .lt 12, 3) := by decide +kernel
theorem dX4_has_4 : decode cX4_has 4 = .ok (.iload_n 1, 1) := by decide +kernel
theorem dX4_has_5 : decode cX4_has 5 = .ok (.iconst 4, 1) := by decide +kernel
theorem dX4_has_6 : decode cX4_has 6 = .ok (.if_icmp .ge 7, 3) := by decide +kernel
theorem dX4_has_9 : decode cX4_has 9 = .ok (.iconst 1, 1) := by decide +kernel
theorem dX4_has_10 : decode cX4_has 10 = .ok (.goto 4, 3) := by decide +kernel
theorem dX4_has_13 : decode cX4_has 13 = .ok (.iconst 0, 1) := by decide +kernel
theorem dX4_has_14 : decode cX4_has 14 = .ok (.ireturn, 1) := by decide +kernel
theorem dX4_fieldNow_0 : decode cX4_fieldNow 0 = .ok (.aload_n 0, 1) := by decide +kernel
theorem dX4_fieldNow_1 : decode cX4_fieldNow 1 = .ok (.getfield 11, 3) := by decide +kernel
theorem dX4_fieldNow_4 : decode cX4_fieldNow 4 = .ok (.aload_n 0, 1) := by decide +kernel
theorem dX4_fieldNow_5 : decode cX4_fieldNow 5 = .ok (.getfield 18, 3) := by decide +kernel
theorem dX4_fieldNow_8 : decode cX4_fieldNow 8 = .ok (.bipush 41, 2) := by decide +kernel
theorem dX4_fieldNow_10 : decode cX4_fieldNow 10 = .ok (.imul, 1) := by decide +kernel
theorem dX4_fieldNow_11 : decode cX4_fieldNow 11 = .ok (.invokestatic 35, 3) := by decide +kernel
theorem dX4_fieldNow_14 : decode cX4_fieldNow 14 = .ok (.l2i, 1) := by decide +kernel
theorem dX4_fieldNow_15 : decode cX4_fieldNow 15 = .ok (.ireturn, 1) := by decide +kernel
theorem dX4_actsToUndo_0 : decode cX4_actsToUndo 0 = .ok (.aload_n 0, 1) := by decide +kernel
theorem dX4_actsToUndo_1 : decode cX4_actsToUndo 1 = .ok (.getfield 22, 3) := by decide +kernel
theorem dX4_actsToUndo_4 : decode cX4_actsToUndo 4 = .ok (.ireturn, 1) := by decide +kernel
theorem dX4_actsToRedo_0 : decode cX4_actsToRedo 0 = .ok (.aload_n 0, 1) := by decide +kernel
theorem dX4_actsToRedo_1 : decode cX4_actsToRedo 1 = .ok (.getfield 25, 3) := by decide +kernel
theorem dX4_actsToRedo_4 : decode cX4_actsToRedo 4 = .ok (.ireturn, 1) := by decide +kernel
theorem dX4_imagesHeld_0 : decode cX4_imagesHeld 0 = .ok (.aload_n 0, 1) := by decide +kernel
theorem dX4_imagesHeld_1 : decode cX4_imagesHeld 1 = .ok (.getfield 28, 3) := by decide +kernel
theorem dX4_imagesHeld_4 : decode cX4_imagesHeld 4 = .ok (.ireturn, 1) := by decide +kernel
theorem dX4_clearTo_0 : decode cX4_clearTo 0 = .ok (.iconst 0, 1) := by decide +kernel
theorem dX4_clearTo_1 : decode cX4_clearTo 1 = .ok (.istore_n 2, 1) := by decide +kernel
theorem dX4_clearTo_2 : decode cX4_clearTo 2 = .ok (.iload_n 2, 1) := by decide +kernel
theorem dX4_clearTo_3 : decode cX4_clearTo 3 = .ok (.bipush 41, 2) := by decide +kernel
theorem dX4_clearTo_5 : decode cX4_clearTo 5 = .ok (.if_icmp .ge 26, 3) := by decide +kernel
theorem dX4_clearTo_8 : decode cX4_clearTo 8 = .ok (.aload_n 0, 1) := by decide +kernel
theorem dX4_clearTo_9 : decode cX4_clearTo 9 = .ok (.getfield 11, 3) := by decide +kernel
theorem dX4_clearTo_12 : decode cX4_clearTo 12 = .ok (.aload_n 0, 1) := by decide +kernel
theorem dX4_clearTo_13 : decode cX4_clearTo 13 = .ok (.getfield 18, 3) := by decide +kernel
theorem dX4_clearTo_16 : decode cX4_clearTo 16 = .ok (.bipush 41, 2) := by decide +kernel
theorem dX4_clearTo_18 : decode cX4_clearTo 18 = .ok (.imul, 1) := by decide +kernel
theorem dX4_clearTo_19 : decode cX4_clearTo 19 = .ok (.iload_n 2, 1) := by decide +kernel
theorem dX4_clearTo_20 : decode cX4_clearTo 20 = .ok (.iadd, 1) := by decide +kernel
theorem dX4_clearTo_21 : decode cX4_clearTo 21 = .ok (.lconst 0, 1) := by decide +kernel
theorem dX4_clearTo_22 : decode cX4_clearTo 22 = .ok (.invokestatic 41, 3) := by decide +kernel
theorem dX4_clearTo_25 : decode cX4_clearTo 25 = .ok (.iinc 2 1, 3) := by decide +kernel
theorem dX4_clearTo_28 : decode cX4_clearTo 28 = .ok (.goto (-26), 3) := by decide +kernel
theorem dX4_clearTo_31 : decode cX4_clearTo 31 = .ok (.aload_n 0, 1) := by decide +kernel
theorem dX4_clearTo_32 : decode cX4_clearTo 32 = .ok (.getfield 11, 3) := by decide +kernel
theorem dX4_clearTo_35 : decode cX4_clearTo 35 = .ok (.aload_n 0, 1) := by decide +kernel
theorem dX4_clearTo_36 : decode cX4_clearTo 36 = .ok (.getfield 18, 3) := by decide +kernel
theorem dX4_clearTo_39 : decode cX4_clearTo 39 = .ok (.bipush 41, 2) := by decide +kernel
theorem dX4_clearTo_41 : decode cX4_clearTo 41 = .ok (.imul, 1) := by decide +kernel
theorem dX4_clearTo_42 : decode cX4_clearTo 42 = .ok (.iload_n 1, 1) := by decide +kernel
theorem dX4_clearTo_43 : decode cX4_clearTo 43 = .ok (.i2l, 1) := by decide +kernel
theorem dX4_clearTo_44 : decode cX4_clearTo 44 = .ok (.invokestatic 41, 3) := by decide +kernel
theorem dX4_clearTo_47 : decode cX4_clearTo 47 = .ok (.return_, 1) := by decide +kernel
theorem dX4_startOf_0 : decode cX4_startOf 0 = .ok (.aload_n 0, 1) := by decide +kernel
theorem dX4_startOf_1 : decode cX4_startOf 1 = .ok (.getfield 18, 3) := by decide +kernel
theorem dX4_startOf_4 : decode cX4_startOf 4 = .ok (.bipush 41, 2) := by decide +kernel
theorem dX4_startOf_6 : decode cX4_startOf 6 = .ok (.imul, 1) := by decide +kernel
theorem dX4_startOf_7 : decode cX4_startOf 7 = .ok (.iconst 1, 1) := by decide +kernel
theorem dX4_startOf_8 : decode cX4_startOf 8 = .ok (.iadd, 1) := by decide +kernel
theorem dX4_startOf_9 : decode cX4_startOf 9 = .ok (.iload_n 1, 1) := by decide +kernel
theorem dX4_startOf_10 : decode cX4_startOf 10 = .ok (.bipush 10, 2) := by decide +kernel
theorem dX4_startOf_12 : decode cX4_startOf 12 = .ok (.imul, 1) := by decide +kernel
theorem dX4_startOf_13 : decode cX4_startOf 13 = .ok (.iadd, 1) := by decide +kernel
theorem dX4_startOf_14 : decode cX4_startOf 14 = .ok (.ireturn, 1) := by decide +kernel
theorem dX4_copyOut_0 : decode cX4_copyOut 0 = .ok (.iconst 0, 1) := by decide +kernel
theorem dX4_copyOut_1 : decode cX4_copyOut 1 = .ok (.istore_n 3, 1) := by decide +kernel
theorem dX4_copyOut_2 : decode cX4_copyOut 2 = .ok (.iload_n 3, 1) := by decide +kernel
theorem dX4_copyOut_3 : decode cX4_copyOut 3 = .ok (.bipush 10, 2) := by decide +kernel
theorem dX4_copyOut_5 : decode cX4_copyOut 5 = .ok (.if_icmp .ge 28, 3) := by decide +kernel
theorem dX4_copyOut_8 : decode cX4_copyOut 8 = .ok (.aload_n 2, 1) := by decide +kernel
theorem dX4_copyOut_9 : decode cX4_copyOut 9 = .ok (.iload_n 3, 1) := by decide +kernel
theorem dX4_copyOut_10 : decode cX4_copyOut 10 = .ok (.aload_n 0, 1) := by decide +kernel
theorem dX4_copyOut_11 : decode cX4_copyOut 11 = .ok (.getfield 11, 3) := by decide +kernel
theorem dX4_copyOut_14 : decode cX4_copyOut 14 = .ok (.aload_n 0, 1) := by decide +kernel
theorem dX4_copyOut_15 : decode cX4_copyOut 15 = .ok (.iload_n 1, 1) := by decide +kernel
theorem dX4_copyOut_16 : decode cX4_copyOut 16 = .ok (.invokevirtual 45, 3) := by decide +kernel
theorem dX4_copyOut_19 : decode cX4_copyOut 19 = .ok (.iload_n 3, 1) := by decide +kernel
theorem dX4_copyOut_20 : decode cX4_copyOut 20 = .ok (.iadd, 1) := by decide +kernel
theorem dX4_copyOut_21 : decode cX4_copyOut 21 = .ok (.invokestatic 35, 3) := by decide +kernel
theorem dX4_copyOut_24 : decode cX4_copyOut 24 = .ok (.invokestatic 41, 3) := by decide +kernel
theorem dX4_copyOut_27 : decode cX4_copyOut 27 = .ok (.iinc 3 1, 3) := by decide +kernel
theorem dX4_copyOut_30 : decode cX4_copyOut 30 = .ok (.goto (-28), 3) := by decide +kernel
theorem dX4_copyOut_33 : decode cX4_copyOut 33 = .ok (.return_, 1) := by decide +kernel
theorem dX4_copyIn_0 : decode cX4_copyIn 0 = .ok (.iconst 0, 1) := by decide +kernel
theorem dX4_copyIn_1 : decode cX4_copyIn 1 = .ok (.istore_n 3, 1) := by decide +kernel
theorem dX4_copyIn_2 : decode cX4_copyIn 2 = .ok (.iload_n 3, 1) := by decide +kernel
theorem dX4_copyIn_3 : decode cX4_copyIn 3 = .ok (.bipush 10, 2) := by decide +kernel
theorem dX4_copyIn_5 : decode cX4_copyIn 5 = .ok (.if_icmp .ge 28, 3) := by decide +kernel
theorem dX4_copyIn_8 : decode cX4_copyIn 8 = .ok (.aload_n 0, 1) := by decide +kernel
theorem dX4_copyIn_9 : decode cX4_copyIn 9 = .ok (.getfield 11, 3) := by decide +kernel
theorem dX4_copyIn_12 : decode cX4_copyIn 12 = .ok (.aload_n 0, 1) := by decide +kernel
theorem dX4_copyIn_13 : decode cX4_copyIn 13 = .ok (.iload_n 1, 1) := by decide +kernel
theorem dX4_copyIn_14 : decode cX4_copyIn 14 = .ok (.invokevirtual 45, 3) := by decide +kernel
theorem dX4_copyIn_17 : decode cX4_copyIn 17 = .ok (.iload_n 3, 1) := by decide +kernel
theorem dX4_copyIn_18 : decode cX4_copyIn 18 = .ok (.iadd, 1) := by decide +kernel
theorem dX4_copyIn_19 : decode cX4_copyIn 19 = .ok (.aload_n 2, 1) := by decide +kernel
theorem dX4_copyIn_20 : decode cX4_copyIn 20 = .ok (.iload_n 3, 1) := by decide +kernel
theorem dX4_copyIn_21 : decode cX4_copyIn 21 = .ok (.invokestatic 35, 3) := by decide +kernel
theorem dX4_copyIn_24 : decode cX4_copyIn 24 = .ok (.invokestatic 41, 3) := by decide +kernel
theorem dX4_copyIn_27 : decode cX4_copyIn 27 = .ok (.iinc 3 1, 3) := by decide +kernel
theorem dX4_copyIn_30 : decode cX4_copyIn 30 = .ok (.goto (-28), 3) := by decide +kernel
theorem dX4_copyIn_33 : decode cX4_copyIn 33 = .ok (.return_, 1) := by decide +kernel
theorem dX4_copyState_0 : decode cX4_copyState 0 = .ok (.iconst 0, 1) := by decide +kernel
theorem dX4_copyState_1 : decode cX4_copyState 1 = .ok (.istore 4, 2) := by decide +kernel
theorem dX4_copyState_3 : decode cX4_copyState 3 = .ok (.iload 4, 2) := by decide +kernel
theorem dX4_copyState_5 : decode cX4_copyState 5 = .ok (.bipush 41, 2) := by decide +kernel
theorem dX4_copyState_7 : decode cX4_copyState 7 = .ok (.if_icmp .ge 31, 3) := by decide +kernel
theorem dX4_copyState_10 : decode cX4_copyState 10 = .ok (.aload_n 2, 1) := by decide +kernel
theorem dX4_copyState_11 : decode cX4_copyState 11 = .ok (.iload_n 3, 1) := by decide +kernel
theorem dX4_copyState_12 : decode cX4_copyState 12 = .ok (.bipush 41, 2) := by decide +kernel
theorem dX4_copyState_14 : decode cX4_copyState 14 = .ok (.imul, 1) := by decide +kernel
theorem dX4_copyState_15 : decode cX4_copyState 15 = .ok (.iload 4, 2) := by decide +kernel
theorem dX4_copyState_17 : decode cX4_copyState 17 = .ok (.iadd, 1) := by decide +kernel
theorem dX4_copyState_18 : decode cX4_copyState 18 = .ok (.aload_n 0, 1) := by decide +kernel
theorem dX4_copyState_19 : decode cX4_copyState 19 = .ok (.iload_n 1, 1) := by decide +kernel
theorem dX4_copyState_20 : decode cX4_copyState 20 = .ok (.bipush 41, 2) := by decide +kernel
theorem dX4_copyState_22 : decode cX4_copyState 22 = .ok (.imul, 1) := by decide +kernel
theorem dX4_copyState_23 : decode cX4_copyState 23 = .ok (.iload 4, 2) := by decide +kernel
theorem dX4_copyState_25 : decode cX4_copyState 25 = .ok (.iadd, 1) := by decide +kernel
theorem dX4_copyState_26 : decode cX4_copyState 26 = .ok (.invokestatic 35, 3) := by decide +kernel
theorem dX4_copyState_29 : decode cX4_copyState 29 = .ok (.invokestatic 41, 3) := by decide +kernel
theorem dX4_copyState_32 : decode cX4_copyState 32 = .ok (.iinc 4 1, 3) := by decide +kernel
theorem dX4_copyState_35 : decode cX4_copyState 35 = .ok (.goto (-32), 3) := by decide +kernel
theorem dX4_copyState_38 : decode cX4_copyState 38 = .ok (.return_, 1) := by decide +kernel
