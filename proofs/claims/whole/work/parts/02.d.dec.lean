theorem dX10_countOf_0 : decode cX10_countOf 0 = .ok (.aload_n 0, 1) := by decide +kernel
theorem dX10_countOf_1 : decode cX10_countOf 1 = .ok (.getfield 53, 3) := by decide +kernel
theorem dX10_countOf_4 : decode cX10_countOf 4 = .ok (.iload_n 1, 1) := by decide +kernel
theorem dX10_countOf_5 : decode cX10_countOf 5 = .ok (.invokevirtual 193, 3) := by decide +kernel
theorem dX10_countOf_8 : decode cX10_countOf 8 = .ok (.astore_n 3, 1) := by decide +kernel
theorem dX10_countOf_9 : decode cX10_countOf 9 = .ok (.aload_n 3, 1) := by decide +kernel
theorem dX10_countOf_10 : decode cX10_countOf 10 = .ok (.ifnonnull 10, 3) := by decide +kernel
theorem dX10_countOf_13 : decode cX10_countOf 13 = .ok (.aload_n 0, 1) := by decide +kernel
theorem dX10_countOf_14 : decode cX10_countOf 14 = .ok (.iconst 1, 1) := by decide +kernel
theorem dX10_countOf_15 : decode cX10_countOf 15 = .ok (.iconst (-1), 1) := by decide +kernel
theorem dX10_countOf_16 : decode cX10_countOf 16 = .ok (.invokevirtual 85, 3) := by decide +kernel
theorem dX10_countOf_19 : decode cX10_countOf 19 = .ok (.ireturn, 1) := by decide +kernel
theorem dX10_countOf_20 : decode cX10_countOf 20 = .ok (.iload_n 2, 1) := by decide +kernel
theorem dX10_countOf_21 : decode cX10_countOf 21 = .ok (.ifCond .lt 11, 3) := by decide +kernel
theorem dX10_countOf_24 : decode cX10_countOf 24 = .ok (.iload_n 2, 1) := by decide +kernel
theorem dX10_countOf_25 : decode cX10_countOf 25 = .ok (.aload_n 3, 1) := by decide +kernel
theorem dX10_countOf_26 : decode cX10_countOf 26 = .ok (.invokevirtual 205, 3) := by decide +kernel
theorem dX10_countOf_29 : decode cX10_countOf 29 = .ok (.if_icmp .lt 10, 3) := by decide +kernel
theorem dX10_countOf_32 : decode cX10_countOf 32 = .ok (.aload_n 0, 1) := by decide +kernel
theorem dX10_countOf_33 : decode cX10_countOf 33 = .ok (.iconst 2, 1) := by decide +kernel
theorem dX10_countOf_34 : decode cX10_countOf 34 = .ok (.iconst (-1), 1) := by decide +kernel
theorem dX10_countOf_35 : decode cX10_countOf 35 = .ok (.invokevirtual 85, 3) := by decide +kernel
theorem dX10_countOf_38 : decode cX10_countOf 38 = .ok (.ireturn, 1) := by decide +kernel
theorem dX10_countOf_39 : decode cX10_countOf 39 = .ok (.aload_n 0, 1) := by decide +kernel
theorem dX10_countOf_40 : decode cX10_countOf 40 = .ok (.aload_n 3, 1) := by decide +kernel
theorem dX10_countOf_41 : decode cX10_countOf 41 = .ok (.iload_n 2, 1) := by decide +kernel
theorem dX10_countOf_42 : decode cX10_countOf 42 = .ok (.invokevirtual 202, 3) := by decide +kernel
theorem dX10_countOf_45 : decode cX10_countOf 45 = .ok (.invokevirtual 108, 3) := by decide +kernel
theorem dX10_countOf_48 : decode cX10_countOf 48 = .ok (.ireturn, 1) := by decide +kernel
theorem dX10_curve_0 : decode cX10_curve 0 = .ok (.aload_n 0, 1) := by decide +kernel
theorem dX10_curve_1 : decode cX10_curve 1 = .ok (.getfield 53, 3) := by decide +kernel
theorem dX10_curve_4 : decode cX10_curve 4 = .ok (.iload_n 1, 1) := by decide +kernel
theorem dX10_curve_5 : decode cX10_curve 5 = .ok (.invokevirtual 111, 3) := by decide +kernel
theorem dX10_curve_8 : decode cX10_curve 8 = .ok (.astore_n 3, 1) := by decide +kernel
theorem dX10_curve_9 : decode cX10_curve 9 = .ok (.aload_n 3, 1) := by decide +kernel
theorem dX10_curve_10 : decode cX10_curve 10 = .ok (.ifnonnull 11, 3) := by decide +kernel
theorem dX10_curve_13 : decode cX10_curve 13 = .ok (.aload_n 0, 1) := by decide +kernel
theorem dX10_curve_14 : decode cX10_curve 14 = .ok (.iconst 1, 1) := by decide +kernel
theorem dX10_curve_15 : decode cX10_curve 15 = .ok (.iconst (-1), 1) := by decide +kernel
theorem dX10_curve_16 : decode cX10_curve 16 = .ok (.invokevirtual 85, 3) := by decide +kernel
theorem dX10_curve_19 : decode cX10_curve 19 = .ok (.i2l, 1) := by decide +kernel
theorem dX10_curve_20 : decode cX10_curve 20 = .ok (.lreturn, 1) := by decide +kernel
theorem dX10_curve_21 : decode cX10_curve 21 = .ok (.iload_n 2, 1) := by decide +kernel
theorem dX10_curve_22 : decode cX10_curve 22 = .ok (.iconst 1, 1) := by decide +kernel
theorem dX10_curve_23 : decode cX10_curve 23 = .ok (.if_icmp .lt 8, 3) := by decide +kernel
theorem dX10_curve_26 : decode cX10_curve 26 = .ok (.iload_n 2, 1) := by decide +kernel
theorem dX10_curve_27 : decode cX10_curve 27 = .ok (.iconst 4, 1) := by decide +kernel
theorem dX10_curve_28 : decode cX10_curve 28 = .ok (.if_icmp .le 11, 3) := by decide +kernel
theorem dX10_curve_31 : decode cX10_curve 31 = .ok (.aload_n 0, 1) := by decide +kernel
theorem dX10_curve_32 : decode cX10_curve 32 = .ok (.iconst 2, 1) := by decide +kernel
theorem dX10_curve_33 : decode cX10_curve 33 = .ok (.iconst (-1), 1) := by decide +kernel
theorem dX10_curve_34 : decode cX10_curve 34 = .ok (.invokevirtual 85, 3) := by decide +kernel
theorem dX10_curve_37 : decode cX10_curve 37 = .ok (.i2l, 1) := by decide +kernel
theorem dX10_curve_38 : decode cX10_curve 38 = .ok (.lreturn, 1) := by decide +kernel
theorem dX10_curve_39 : decode cX10_curve 39 = .ok (.aload_n 0, 1) := by decide +kernel
theorem dX10_curve_40 : decode cX10_curve 40 = .ok (.iconst 0, 1) := by decide +kernel
theorem dX10_curve_41 : decode cX10_curve 41 = .ok (.putfield 64, 3) := by decide +kernel
theorem dX10_curve_44 : decode cX10_curve 44 = .ok (.aload_n 3, 1) := by decide +kernel
theorem dX10_curve_45 : decode cX10_curve 45 = .ok (.iload_n 2, 1) := by decide +kernel
theorem dX10_curve_46 : decode cX10_curve 46 = .ok (.aload_n 0, 1) := by decide +kernel
theorem dX10_curve_47 : decode cX10_curve 47 = .ok (.getfield 19, 3) := by decide +kernel
theorem dX10_curve_50 : decode cX10_curve 50 = .ok (.aload_n 0, 1) := by decide +kernel
theorem dX10_curve_51 : decode cX10_curve 51 = .ok (.getfield 37, 3) := by decide +kernel
theorem dX10_curve_54 : decode cX10_curve 54 = .ok (.aload_n 0, 1) := by decide +kernel
theorem dX10_curve_55 : decode cX10_curve 55 = .ok (.getfield 41, 3) := by decide +kernel
theorem dX10_curve_58 : decode cX10_curve 58 = .ok (.invokevirtual 206, 3) := by decide +kernel
theorem dX10_curve_61 : decode cX10_curve 61 = .ok (.lreturn, 1) := by decide +kernel
theorem dX10_sign_0 : decode cX10_sign 0 = .ok (.iload_n 2, 1) := by decide +kernel
theorem dX10_sign_1 : decode cX10_sign 1 = .ok (.invokestatic 210, 3) := by decide +kernel
theorem dX10_sign_4 : decode cX10_sign 4 = .ok (.ifCond .ne 11, 3) := by decide +kernel
theorem dX10_sign_7 : decode cX10_sign 7 = .ok (.aload_n 0, 1) := by decide +kernel
theorem dX10_sign_8 : decode cX10_sign 8 = .ok (.iconst 1, 1) := by decide +kernel
theorem dX10_sign_9 : decode cX10_sign 9 = .ok (.bipush (-2), 2) := by decide +kernel
theorem dX10_sign_11 : decode cX10_sign 11 = .ok (.invokevirtual 85, 3) := by decide +kernel
theorem dX10_sign_14 : decode cX10_sign 14 = .ok (.ireturn, 1) := by decide +kernel
theorem dX10_sign_15 : decode cX10_sign 15 = .ok (.aload_n 0, 1) := by decide +kernel
theorem dX10_sign_16 : decode cX10_sign 16 = .ok (.iload_n 1, 1) := by decide +kernel
theorem dX10_sign_17 : decode cX10_sign 17 = .ok (.iload_n 2, 1) := by decide +kernel
theorem dX10_sign_18 : decode cX10_sign 18 = .ok (.invokestatic 215, 3) := by decide +kernel
theorem dX10_sign_21 : decode cX10_sign 21 = .ok (.invokevirtual 108, 3) := by decide +kernel
theorem dX10_sign_24 : decode cX10_sign 24 = .ok (.ireturn, 1) := by decide +kernel
theorem dX10_both_0 : decode cX10_both 0 = .ok (.iload_n 1, 1) := by decide +kernel
theorem dX10_both_1 : decode cX10_both 1 = .ok (.invokestatic 210, 3) := by decide +kernel
theorem dX10_both_4 : decode cX10_both 4 = .ok (.ifCond .eq 15, 3) := by decide +kernel
theorem dX10_both_7 : decode cX10_both 7 = .ok (.iload_n 2, 1) := by decide +kernel
theorem dX10_both_8 : decode cX10_both 8 = .ok (.invokestatic 210, 3) := by decide +kernel
theorem dX10_both_11 : decode cX10_both 11 = .ok (.ifCond .eq 8, 3) := by decide +kernel
theorem dX10_both_14 : decode cX10_both 14 = .ok (.iload_n 1, 1) := by decide +kernel
theorem dX10_both_15 : decode cX10_both 15 = .ok (.iload_n 2, 1) := by decide +kernel
theorem dX10_both_16 : decode cX10_both 16 = .ok (.if_icmp .ne 11, 3) := by decide +kernel
theorem dX10_both_19 : decode cX10_both 19 = .ok (.aload_n 0, 1) := by decide +kernel
theorem dX10_both_20 : decode cX10_both 20 = .ok (.iconst 1, 1) := by decide +kernel
theorem dX10_both_21 : decode cX10_both 21 = .ok (.bipush (-2), 2) := by decide +kernel
theorem dX10_both_23 : decode cX10_both 23 = .ok (.invokevirtual 85, 3) := by decide +kernel
theorem dX10_both_26 : decode cX10_both 26 = .ok (.ireturn, 1) := by decide +kernel
theorem dX10_both_27 : decode cX10_both 27 = .ok (.aload_n 0, 1) := by decide +kernel
theorem dX10_both_28 : decode cX10_both 28 = .ok (.iload_n 1, 1) := by decide +kernel
theorem dX10_both_29 : decode cX10_both 29 = .ok (.iload_n 2, 1) := by decide +kernel
theorem dX10_both_30 : decode cX10_both 30 = .ok (.invokestatic 215, 3) := by decide +kernel
theorem dX10_both_33 : decode cX10_both 33 = .ok (.iload_n 2, 1) := by decide +kernel
theorem dX10_both_34 : decode cX10_both 34 = .ok (.iload_n 1, 1) := by decide +kernel
theorem dX10_both_35 : decode cX10_both 35 = .ok (.invokestatic 215, 3) := by decide +kernel
theorem dX10_both_38 : decode cX10_both 38 = .ok (.imul, 1) := by decide +kernel
theorem dX10_both_39 : decode cX10_both 39 = .ok (.invokevirtual 108, 3) := by decide +kernel
theorem dX10_both_42 : decode cX10_both 42 = .ok (.ireturn, 1) := by decide +kernel
theorem dX10_form_0 : decode cX10_form 0 = .ok (.iload_n 1, 1) := by decide +kernel
theorem dX10_form_1 : decode cX10_form 1 = .ok (.invokestatic 210, 3) := by decide +kernel
theorem dX10_form_4 : decode cX10_form 4 = .ok (.ifCond .ne 10, 3) := by decide +kernel
theorem dX10_form_7 : decode cX10_form 7 = .ok (.aload_n 0, 1) := by decide +kernel
theorem dX10_form_8 : decode cX10_form 8 = .ok (.iconst 1, 1) := by decide +kernel
theorem dX10_form_9 : decode cX10_form 9 = .ok (.iconst (-1), 1) := by decide +kernel
theorem dX10_form_10 : decode cX10_form 10 = .ok (.invokevirtual 85, 3) := by decide +kernel
theorem dX10_form_13 : decode cX10_form 13 = .ok (.ireturn, 1) := by decide +kernel
theorem dX10_form_14 : decode cX10_form 14 = .ok (.iload_n 2, 1) := by decide +kernel
theorem dX10_form_15 : decode cX10_form 15 = .ok (.iconst 1, 1) := by decide +kernel
theorem dX10_form_16 : decode cX10_form 16 = .ok (.if_icmp .lt 9, 3) := by decide +kernel
theorem dX10_form_19 : decode cX10_form 19 = .ok (.iload_n 2, 1) := by decide +kernel
theorem dX10_form_20 : decode cX10_form 20 = .ok (.bipush 99, 2) := by decide +kernel
theorem dX10_form_22 : decode cX10_form 22 = .ok (.if_icmp .le 10, 3) := by decide +kernel
theorem dX10_form_25 : decode cX10_form 25 = .ok (.aload_n 0, 1) := by decide +kernel
theorem dX10_form_26 : decode cX10_form 26 = .ok (.iconst 2, 1) := by decide +kernel
theorem dX10_form_27 : decode cX10_form 27 = .ok (.iconst (-1), 1) := by decide +kernel
theorem dX10_form_28 : decode cX10_form 28 = .ok (.invokevirtual 85, 3) := by decide +kernel
theorem dX10_form_31 : decode cX10_form 31 = .ok (.ireturn, 1) := by decide +kernel
theorem dX10_form_32 : decode cX10_form 32 = .ok (.aload_n 0, 1) := by decide +kernel
theorem dX10_form_33 : decode cX10_form 33 = .ok (.iload_n 1, 1) := by decide +kernel
theorem dX10_form_34 : decode cX10_form 34 = .ok (.iload_n 2, 1) := by decide +kernel
theorem dX10_form_35 : decode cX10_form 35 = .ok (.invokestatic 218, 3) := by decide +kernel
theorem dX10_form_38 : decode cX10_form 38 = .ok (.invokevirtual 108, 3) := by decide +kernel
theorem dX10_form_41 : decode cX10_form 41 = .ok (.ireturn, 1) := by decide +kernel
theorem dX10_power_0 : decode cX10_power 0 = .ok (.aload_n 0, 1) := by decide +kernel
theorem dX10_power_1 : decode cX10_power 1 = .ok (.getfield 53, 3) := by decide +kernel
theorem dX10_power_4 : decode cX10_power 4 = .ok (.iload_n 1, 1) := by decide +kernel
theorem dX10_power_5 : decode cX10_power 5 = .ok (.invokevirtual 111, 3) := by decide +kernel
theorem dX10_power_8 : decode cX10_power 8 = .ok (.astore 4, 2) := by decide +kernel
theorem dX10_power_10 : decode cX10_power 10 = .ok (.aload 4, 2) := by decide +kernel
theorem dX10_power_12 : decode cX10_power 12 = .ok (.ifnonnull 10, 3) := by decide +kernel
theorem dX10_power_15 : decode cX10_power 15 = .ok (.aload_n 0, 1) := by decide +kernel
theorem dX10_power_16 : decode cX10_power 16 = .ok (.iconst 1, 1) := by decide +kernel
theorem dX10_power_17 : decode cX10_power 17 = .ok (.iconst (-1), 1) := by decide +kernel
theorem dX10_power_18 : decode cX10_power 18 = .ok (.invokevirtual 85, 3) := by decide +kernel
theorem dX10_power_21 : decode cX10_power 21 = .ok (.ireturn, 1) := by decide +kernel
theorem dX10_power_22 : decode cX10_power 22 = .ok (.aload 4, 2) := by decide +kernel
theorem dX10_power_24 : decode cX10_power 24 = .ok (.iload_n 2, 1) := by decide +kernel
theorem dX10_power_25 : decode cX10_power 25 = .ok (.invokevirtual 129, 3) := by decide +kernel
theorem dX10_power_28 : decode cX10_power 28 = .ok (.ifCond .eq 14, 3) := by decide +kernel
theorem dX10_power_31 : decode cX10_power 31 = .ok (.iload_n 3, 1) := by decide +kernel
theorem dX10_power_32 : decode cX10_power 32 = .ok (.iconst 1, 1) := by decide +kernel
theorem dX10_power_33 : decode cX10_power 33 = .ok (.if_icmp .lt 9, 3) := by decide +kernel
theorem dX10_power_36 : decode cX10_power 36 = .ok (.iload_n 3, 1) := by decide +kernel
theorem dX10_power_37 : decode cX10_power 37 = .ok (.bipush 12, 2) := by decide +kernel
theorem dX10_power_39 : decode cX10_power 39 = .ok (.if_icmp .le 10, 3) := by decide +kernel
theorem dX10_power_42 : decode cX10_power 42 = .ok (.aload_n 0, 1) := by decide +kernel
theorem dX10_power_43 : decode cX10_power 43 = .ok (.iconst 2, 1) := by decide +kernel
theorem dX10_power_44 : decode cX10_power 44 = .ok (.iconst (-1), 1) := by decide +kernel
theorem dX10_power_45 : decode cX10_power 45 = .ok (.invokevirtual 85, 3) := by decide +kernel
theorem dX10_power_48 : decode cX10_power 48 = .ok (.ireturn, 1) := by decide +kernel
theorem dX10_power_49 : decode cX10_power 49 = .ok (.aload_n 0, 1) := by decide +kernel
theorem dX10_power_50 : decode cX10_power 50 = .ok (.aload 4, 2) := by decide +kernel
theorem dX10_power_52 : decode cX10_power 52 = .ok (.iload_n 2, 1) := by decide +kernel
theorem dX10_power_53 : decode cX10_power 53 = .ok (.iload_n 3, 1) := by decide +kernel
theorem dX10_power_54 : decode cX10_power 54 = .ok (.invokevirtual 221, 3) := by decide +kernel
theorem dX10_power_57 : decode cX10_power 57 = .ok (.ifCond .eq 7, 3) := by decide +kernel
theorem dX10_power_60 : decode cX10_power 60 = .ok (.iconst 1, 1) := by decide +kernel
theorem dX10_power_61 : decode cX10_power 61 = .ok (.goto 4, 3) := by decide +kernel
theorem dX10_power_64 : decode cX10_power 64 = .ok (.iconst 0, 1) := by decide +kernel
theorem dX10_power_65 : decode cX10_power 65 = .ok (.invokevirtual 108, 3) := by decide +kernel
theorem dX10_power_68 : decode cX10_power 68 = .ok (.ireturn, 1) := by decide +kernel
theorem dX10_classSums_0 : decode cX10_classSums 0 = .ok (.iload_n 1, 1) := by decide +kernel
theorem dX10_classSums_1 : decode cX10_classSums 1 = .ok (.bipush 7, 2) := by decide +kernel
theorem dX10_classSums_3 : decode cX10_classSums 3 = .ok (.if_icmp .lt 17, 3) := by decide +kernel
theorem dX10_classSums_6 : decode cX10_classSums 6 = .ok (.iload_n 1, 1) := by decide +kernel
theorem dX10_classSums_7 : decode cX10_classSums 7 = .ok (.iconst 4, 1) := by decide +kernel
theorem dX10_classSums_8 : decode cX10_classSums 8 = .ok (.irem, 1) := by decide +kernel
theorem dX10_classSums_9 : decode cX10_classSums 9 = .ok (.iconst 3, 1) := by decide +kernel
theorem dX10_classSums_10 : decode cX10_classSums 10 = .ok (.if_icmp .ne 10, 3) := by decide +kernel
theorem dX10_classSums_13 : decode cX10_classSums 13 = .ok (.iload_n 1, 1) := by decide +kernel
theorem dX10_classSums_14 : decode cX10_classSums 14 = .ok (.invokestatic 210, 3) := by decide +kernel
theorem dX10_classSums_17 : decode cX10_classSums 17 = .ok (.ifCond .ne 10, 3) := by decide +kernel
theorem dX10_classSums_20 : decode cX10_classSums 20 = .ok (.aload_n 0, 1) := by decide +kernel
theorem dX10_classSums_21 : decode cX10_classSums 21 = .ok (.iconst 2, 1) := by decide +kernel
theorem dX10_classSums_22 : decode cX10_classSums 22 = .ok (.iconst (-1), 1) := by decide +kernel
theorem dX10_classSums_23 : decode cX10_classSums 23 = .ok (.invokevirtual 85, 3) := by decide +kernel
theorem dX10_classSums_26 : decode cX10_classSums 26 = .ok (.ireturn, 1) := by decide +kernel
theorem dX10_classSums_27 : decode cX10_classSums 27 = .ok (.aload_n 0, 1) := by decide +kernel
theorem dX10_classSums_28 : decode cX10_classSums 28 = .ok (.iload_n 1, 1) := by decide +kernel
theorem dX10_classSums_29 : decode cX10_classSums 29 = .ok (.invokestatic 225, 3) := by decide +kernel
theorem dX10_classSums_32 : decode cX10_classSums 32 = .ok (.invokevirtual 108, 3) := by decide +kernel
theorem dX10_classSums_35 : decode cX10_classSums 35 = .ok (.ireturn, 1) := by decide +kernel
theorem dX10_classForms_0 : decode cX10_classForms 0 = .ok (.iload_n 1, 1) := by decide +kernel
theorem dX10_classForms_1 : decode cX10_classForms 1 = .ok (.iconst 3, 1) := by decide +kernel
theorem dX10_classForms_2 : decode cX10_classForms 2 = .ok (.if_icmp .lt 24, 3) := by decide +kernel
theorem dX10_classForms_5 : decode cX10_classForms 5 = .ok (.iload_n 1, 1) := by decide +kernel
theorem dX10_classForms_6 : decode cX10_classForms 6 = .ok (.sipush 999, 3) := by decide +kernel
theorem dX10_classForms_9 : decode cX10_classForms 9 = .ok (.if_icmp .gt 17, 3) := by decide +kernel
theorem dX10_classForms_12 : decode cX10_classForms 12 = .ok (.iload_n 1, 1) := by decide +kernel
theorem dX10_classForms_13 : decode cX10_classForms 13 = .ok (.iconst 4, 1) := by decide +kernel
theorem dX10_classForms_14 : decode cX10_classForms 14 = .ok (.irem, 1) := by decide +kernel
theorem dX10_classForms_15 : decode cX10_classForms 15 = .ok (.iconst 1, 1) := by decide +kernel
theorem dX10_classForms_16 : decode cX10_classForms 16 = .ok (.if_icmp .eq 10, 3) := by decide +kernel
theorem dX10_classForms_19 : decode cX10_classForms 19 = .ok (.iload_n 1, 1) := by decide +kernel
theorem dX10_classForms_20 : decode cX10_classForms 20 = .ok (.iconst 4, 1) := by decide +kernel
theorem dX10_classForms_21 : decode cX10_classForms 21 = .ok (.irem, 1) := by decide +kernel
theorem dX10_classForms_22 : decode cX10_classForms 22 = .ok (.iconst 2, 1) := by decide +kernel
theorem dX10_classForms_23 : decode cX10_classForms 23 = .ok (.if_icmp .ne 10, 3) := by decide +kernel
theorem dX10_classForms_26 : decode cX10_classForms 26 = .ok (.aload_n 0, 1) := by decide +kernel
theorem dX10_classForms_27 : decode cX10_classForms 27 = .ok (.iconst 2, 1) := by decide +kernel
theorem dX10_classForms_28 : decode cX10_classForms 28 = .ok (.iconst (-1), 1) := by decide +kernel
theorem dX10_classForms_29 : decode cX10_classForms 29 = .ok (.invokevirtual 85, 3) := by decide +kernel
theorem dX10_classForms_32 : decode cX10_classForms 32 = .ok (.ireturn, 1) := by decide +kernel
theorem dX10_classForms_33 : decode cX10_classForms 33 = .ok (.aload_n 0, 1) := by decide +kernel
theorem dX10_classForms_34 : decode cX10_classForms 34 = .ok (.iload_n 1, 1) := by decide +kernel
theorem dX10_classForms_35 : decode cX10_classForms 35 = .ok (.invokestatic 228, 3) := by decide +kernel
theorem dX10_classForms_38 : decode cX10_classForms 38 = .ok (.invokevirtual 108, 3) := by decide +kernel
theorem dX10_classForms_41 : decode cX10_classForms 41 = .ok (.ireturn, 1) := by decide +kernel
theorem dX10_meets_0 : decode cX10_meets 0 = .ok (.aload_n 0, 1) := by decide +kernel
theorem dX10_meets_1 : decode cX10_meets 1 = .ok (.getfield 53, 3) := by decide +kernel
theorem dX10_meets_4 : decode cX10_meets 4 = .ok (.iload_n 1, 1) := by decide +kernel
theorem dX10_meets_5 : decode cX10_meets 5 = .ok (.invokevirtual 111, 3) := by decide +kernel
theorem dX10_meets_8 : decode cX10_meets 8 = .ok (.astore 4, 2) := by decide +kernel
theorem dX10_meets_10 : decode cX10_meets 10 = .ok (.aload 4, 2) := by decide +kernel
theorem dX10_meets_12 : decode cX10_meets 12 = .ok (.iload_n 2, 1) := by decide +kernel
theorem dX10_meets_13 : decode cX10_meets 13 = .ok (.iload_n 3, 1) := by decide +kernel
theorem dX10_meets_14 : decode cX10_meets 14 = .ok (.invokestatic 144, 3) := by decide +kernel
theorem dX10_meets_17 : decode cX10_meets 17 = .ok (.ifCond .ne 10, 3) := by decide +kernel
theorem dX10_meets_20 : decode cX10_meets 20 = .ok (.aload_n 0, 1) := by decide +kernel
theorem dX10_meets_21 : decode cX10_meets 21 = .ok (.iconst 1, 1) := by decide +kernel
theorem dX10_meets_22 : decode cX10_meets 22 = .ok (.iconst (-1), 1) := by decide +kernel
theorem dX10_meets_23 : decode cX10_meets 23 = .ok (.invokevirtual 85, 3) := by decide +kernel
theorem dX10_meets_26 : decode cX10_meets 26 = .ok (.ireturn, 1) := by decide +kernel
theorem dX10_meets_27 : decode cX10_meets 27 = .ok (.aload_n 0, 1) := by decide +kernel
theorem dX10_meets_28 : decode cX10_meets 28 = .ok (.aload 4, 2) := by decide +kernel
theorem dX10_meets_30 : decode cX10_meets 30 = .ok (.iload_n 2, 1) := by decide +kernel
theorem dX10_meets_31 : decode cX10_meets 31 = .ok (.iload_n 3, 1) := by decide +kernel
theorem dX10_meets_32 : decode cX10_meets 32 = .ok (.invokevirtual 231, 3) := by decide +kernel
theorem dX10_meets_35 : decode cX10_meets 35 = .ok (.invokevirtual 108, 3) := by decide +kernel
theorem dX10_meets_38 : decode cX10_meets 38 = .ok (.ireturn, 1) := by decide +kernel
theorem dX10_even_0 : decode cX10_even 0 = .ok (.aload_n 0, 1) := by decide +kernel
theorem dX10_even_1 : decode cX10_even 1 = .ok (.getfield 53, 3) := by decide +kernel
theorem dX10_even_4 : decode cX10_even 4 = .ok (.iload_n 1, 1) := by decide +kernel
theorem dX10_even_5 : decode cX10_even 5 = .ok (.invokevirtual 111, 3) := by decide +kernel
theorem dX10_even_8 : decode cX10_even 8 = .ok (.astore_n 2, 1) := by decide +kernel
theorem dX10_even_9 : decode cX10_even 9 = .ok (.aload_n 2, 1) := by decide +kernel
theorem dX10_even_10 : decode cX10_even 10 = .ok (.ifnonnull 10, 3) := by decide +kernel
theorem dX10_even_13 : decode cX10_even 13 = .ok (.aload_n 0, 1) := by decide +kernel
theorem dX10_even_14 : decode cX10_even 14 = .ok (.iconst 1, 1) := by decide +kernel
theorem dX10_even_15 : decode cX10_even 15 = .ok (.iconst (-1), 1) := by decide +kernel
theorem dX10_even_16 : decode cX10_even 16 = .ok (.invokevirtual 85, 3) := by decide +kernel
theorem dX10_even_19 : decode cX10_even 19 = .ok (.ireturn, 1) := by decide +kernel
theorem dX10_even_20 : decode cX10_even 20 = .ok (.aload_n 0, 1) := by decide +kernel
theorem dX10_even_21 : decode cX10_even 21 = .ok (.aload_n 2, 1) := by decide +kernel
theorem dX10_even_22 : decode cX10_even 22 = .ok (.invokevirtual 234, 3) := by decide +kernel
theorem dX10_even_25 : decode cX10_even 25 = .ok (.invokevirtual 108, 3) := by decide +kernel
theorem dX10_even_28 : decode cX10_even 28 = .ok (.ireturn, 1) := by decide +kernel
theorem dX10_echo_0 : decode cX10_echo 0 = .ok (.aload_n 0, 1) := by decide +kernel
theorem dX10_echo_1 : decode cX10_echo 1 = .ok (.getfield 53, 3) := by decide +kernel
theorem dX10_echo_4 : decode cX10_echo 4 = .ok (.iload_n 1, 1) := by decide +kernel
theorem dX10_echo_5 : decode cX10_echo 5 = .ok (.invokevirtual 111, 3) := by decide +kernel
theorem dX10_echo_8 : decode cX10_echo 8 = .ok (.astore 4, 2) := by decide +kernel
theorem dX10_echo_10 : decode cX10_echo 10 = .ok (.aload 4, 2) := by decide +kernel
theorem dX10_echo_12 : decode cX10_echo 12 = .ok (.ifnonnull 12, 3) := by decide +kernel
theorem dX10_echo_15 : decode cX10_echo 15 = .ok (.aload_n 0, 1) := by decide +kernel
theorem dX10_echo_16 : decode cX10_echo 16 = .ok (.iconst 1, 1) := by decide +kernel
theorem dX10_echo_17 : decode cX10_echo 17 = .ok (.sipush (-1000), 3) := by decide +kernel
theorem dX10_echo_20 : decode cX10_echo 20 = .ok (.invokevirtual 85, 3) := by decide +kernel
theorem dX10_echo_23 : decode cX10_echo 23 = .ok (.ireturn, 1) := by decide +kernel
theorem dX10_echo_24 : decode cX10_echo 24 = .ok (.aload 4, 2) := by decide +kernel
theorem dX10_echo_26 : decode cX10_echo 26 = .ok (.iload_n 2, 1) := by decide +kernel
theorem dX10_echo_27 : decode cX10_echo 27 = .ok (.invokevirtual 138, 3) := by decide +kernel
theorem dX10_echo_30 : decode cX10_echo 30 = .ok (.ifCond .eq 12, 3) := by decide +kernel
theorem dX10_echo_33 : decode cX10_echo 33 = .ok (.aload 4, 2) := by decide +kernel
theorem dX10_echo_35 : decode cX10_echo 35 = .ok (.iload_n 3, 1) := by decide +kernel
theorem dX10_echo_36 : decode cX10_echo 36 = .ok (.invokevirtual 138, 3) := by decide +kernel
theorem dX10_echo_39 : decode cX10_echo 39 = .ok (.ifCond .ne 12, 3) := by decide +kernel
theorem dX10_echo_42 : decode cX10_echo 42 = .ok (.aload_n 0, 1) := by decide +kernel
theorem dX10_echo_43 : decode cX10_echo 43 = .ok (.iconst 2, 1) := by decide +kernel
theorem dX10_echo_44 : decode cX10_echo 44 = .ok (.sipush (-1000), 3) := by decide +kernel
theorem dX10_echo_47 : decode cX10_echo 47 = .ok (.invokevirtual 85, 3) := by decide +kernel
theorem dX10_echo_50 : decode cX10_echo 50 = .ok (.ireturn, 1) := by decide +kernel
theorem dX10_echo_51 : decode cX10_echo 51 = .ok (.aload_n 0, 1) := by decide +kernel
theorem dX10_echo_52 : decode cX10_echo 52 = .ok (.getfield 33, 3) := by decide +kernel
theorem dX10_echo_55 : decode cX10_echo 55 = .ok (.aload 4, 2) := by decide +kernel
theorem dX10_echo_57 : decode cX10_echo 57 = .ok (.invokevirtual 237, 3) := by decide +kernel
theorem dX10_echo_60 : decode cX10_echo 60 = .ok (.aload_n 0, 1) := by decide +kernel
theorem dX10_echo_61 : decode cX10_echo 61 = .ok (.aload_n 0, 1) := by decide +kernel
theorem dX10_echo_62 : decode cX10_echo 62 = .ok (.getfield 33, 3) := by decide +kernel
theorem dX10_echo_65 : decode cX10_echo 65 = .ok (.iload_n 2, 1) := by decide +kernel
theorem dX10_echo_66 : decode cX10_echo 66 = .ok (.iload_n 3, 1) := by decide +kernel
theorem dX10_echo_67 : decode cX10_echo 67 = .ok (.invokevirtual 241, 3) := by decide +kernel
theorem dX10_echo_70 : decode cX10_echo 70 = .ok (.invokevirtual 108, 3) := by decide +kernel
theorem dX10_echo_73 : decode cX10_echo 73 = .ok (.ireturn, 1) := by decide +kernel
theorem dX10_noise_0 : decode cX10_noise 0 = .ok (.aload_n 0, 1) := by decide +kernel
theorem dX10_noise_1 : decode cX10_noise 1 = .ok (.getfield 53, 3) := by decide +kernel
theorem dX10_noise_4 : decode cX10_noise 4 = .ok (.iload_n 1, 1) := by decide +kernel
theorem dX10_noise_5 : decode cX10_noise 5 = .ok (.invokevirtual 111, 3) := by decide +kernel
theorem dX10_noise_8 : decode cX10_noise 8 = .ok (.astore_n 3, 1) := by decide +kernel
theorem dX10_noise_9 : decode cX10_noise 9 = .ok (.aload_n 3, 1) := by decide +kernel
theorem dX10_noise_10 : decode cX10_noise 10 = .ok (.ifnonnull 11, 3) := by decide +kernel
theorem dX10_noise_13 : decode cX10_noise 13 = .ok (.aload_n 0, 1) := by decide +kernel
theorem dX10_noise_14 : decode cX10_noise 14 = .ok (.iconst 1, 1) := by decide +kernel
theorem dX10_noise_15 : decode cX10_noise 15 = .ok (.iconst (-1), 1) := by decide +kernel
theorem dX10_noise_16 : decode cX10_noise 16 = .ok (.invokevirtual 85, 3) := by decide +kernel
theorem dX10_noise_19 : decode cX10_noise 19 = .ok (.i2l, 1) := by decide +kernel
theorem dX10_noise_20 : decode cX10_noise 20 = .ok (.lreturn, 1) := by decide +kernel
theorem dX10_noise_21 : decode cX10_noise 21 = .ok (.aload_n 3, 1) := by decide +kernel
theorem dX10_noise_22 : decode cX10_noise 22 = .ok (.iload_n 2, 1) := by decide +kernel
theorem dX10_noise_23 : decode cX10_noise 23 = .ok (.invokevirtual 138, 3) := by decide +kernel
theorem dX10_noise_26 : decode cX10_noise 26 = .ok (.ifCond .ne 11, 3) := by decide +kernel
theorem dX10_noise_29 : decode cX10_noise 29 = .ok (.aload_n 0, 1) := by decide +kernel
theorem dX10_noise_30 : decode cX10_noise 30 = .ok (.iconst 2, 1) := by decide +kernel
theorem dX10_noise_31 : decode cX10_noise 31 = .ok (.iconst (-1), 1) := by decide +kernel
theorem dX10_noise_32 : decode cX10_noise 32 = .ok (.invokevirtual 85, 3) := by decide +kernel
theorem dX10_noise_35 : decode cX10_noise 35 = .ok (.i2l, 1) := by decide +kernel
theorem dX10_noise_36 : decode cX10_noise 36 = .ok (.lreturn, 1) := by decide +kernel
theorem dX10_noise_37 : decode cX10_noise 37 = .ok (.aload_n 0, 1) := by decide +kernel
theorem dX10_noise_38 : decode cX10_noise 38 = .ok (.iconst 0, 1) := by decide +kernel
theorem dX10_noise_39 : decode cX10_noise 39 = .ok (.putfield 64, 3) := by decide +kernel
theorem dX10_noise_42 : decode cX10_noise 42 = .ok (.aload_n 0, 1) := by decide +kernel
theorem dX10_noise_43 : decode cX10_noise 43 = .ok (.getfield 33, 3) := by decide +kernel
theorem dX10_noise_46 : decode cX10_noise 46 = .ok (.aload_n 3, 1) := by decide +kernel
theorem dX10_noise_47 : decode cX10_noise 47 = .ok (.invokevirtual 237, 3) := by decide +kernel
theorem dX10_noise_50 : decode cX10_noise 50 = .ok (.aload_n 0, 1) := by decide +kernel
theorem dX10_noise_51 : decode cX10_noise 51 = .ok (.getfield 33, 3) := by decide +kernel
theorem dX10_noise_54 : decode cX10_noise 54 = .ok (.iload_n 2, 1) := by decide +kernel
theorem dX10_noise_55 : decode cX10_noise 55 = .ok (.invokevirtual 244, 3) := by decide +kernel
theorem dX10_noise_58 : decode cX10_noise 58 = .ok (.lreturn, 1) := by decide +kernel
theorem dX10_lowest_0 : decode cX10_lowest 0 = .ok (.aload_n 0, 1) := by decide +kernel
theorem dX10_lowest_1 : decode cX10_lowest 1 = .ok (.getfield 53, 3) := by decide +kernel
theorem dX10_lowest_4 : decode cX10_lowest 4 = .ok (.iload_n 1, 1) := by decide +kernel
theorem dX10_lowest_5 : decode cX10_lowest 5 = .ok (.invokevirtual 111, 3) := by decide +kernel
theorem dX10_lowest_8 : decode cX10_lowest 8 = .ok (.astore_n 2, 1) := by decide +kernel
theorem dX10_lowest_9 : decode cX10_lowest 9 = .ok (.aload_n 2, 1) := by decide +kernel
theorem dX10_lowest_10 : decode cX10_lowest 10 = .ok (.ifnonnull 10, 3) := by decide +kernel
theorem dX10_lowest_13 : decode cX10_lowest 13 = .ok (.aload_n 0, 1) := by decide +kernel
theorem dX10_lowest_14 : decode cX10_lowest 14 = .ok (.iconst 1, 1) := by decide +kernel
theorem dX10_lowest_15 : decode cX10_lowest 15 = .ok (.iconst (-1), 1) := by decide +kernel
theorem dX10_lowest_16 : decode cX10_lowest 16 = .ok (.invokevirtual 85, 3) := by decide +kernel
theorem dX10_lowest_19 : decode cX10_lowest 19 = .ok (.ireturn, 1) := by decide +kernel
theorem dX10_lowest_20 : decode cX10_lowest 20 = .ok (.aload_n 0, 1) := by decide +kernel
theorem dX10_lowest_21 : decode cX10_lowest 21 = .ok (.getfield 33, 3) := by decide +kernel
theorem dX10_lowest_24 : decode cX10_lowest 24 = .ok (.aload_n 2, 1) := by decide +kernel
theorem dX10_lowest_25 : decode cX10_lowest 25 = .ok (.invokevirtual 237, 3) := by decide +kernel
theorem dX10_lowest_28 : decode cX10_lowest 28 = .ok (.aload_n 0, 1) := by decide +kernel
theorem dX10_lowest_29 : decode cX10_lowest 29 = .ok (.aload_n 0, 1) := by decide +kernel
theorem dX10_lowest_30 : decode cX10_lowest 30 = .ok (.getfield 33, 3) := by decide +kernel
theorem dX10_lowest_33 : decode cX10_lowest 33 = .ok (.invokevirtual 248, 3) := by decide +kernel
theorem dX10_lowest_36 : decode cX10_lowest 36 = .ok (.invokevirtual 108, 3) := by decide +kernel
theorem dX10_lowest_39 : decode cX10_lowest 39 = .ok (.ireturn, 1) := by decide +kernel
theorem dX10_choose_0 : decode cX10_choose 0 = .ok (.aload_n 0, 1) := by decide +kernel
theorem dX10_choose_1 : decode cX10_choose 1 = .ok (.getfield 53, 3) := by decide +kernel
theorem dX10_choose_4 : decode cX10_choose 4 = .ok (.iload_n 1, 1) := by decide +kernel
theorem dX10_choose_5 : decode cX10_choose 5 = .ok (.invokevirtual 111, 3) := by decide +kernel
theorem dX10_choose_8 : decode cX10_choose 8 = .ok (.ifnonnull 9, 3) := by decide +kernel
theorem dX10_choose_11 : decode cX10_choose 11 = .ok (.aload_n 0, 1) := by decide +kernel
theorem dX10_choose_12 : decode cX10_choose 12 = .ok (.iconst 1, 1) := by decide +kernel
theorem dX10_choose_13 : decode cX10_choose 13 = .ok (.invokevirtual 251, 3) := by decide +kernel
theorem dX10_choose_16 : decode cX10_choose 16 = .ok (.ireturn, 1) := by decide +kernel
theorem dX10_choose_17 : decode cX10_choose 17 = .ok (.aload_n 0, 1) := by decide +kernel
theorem dX10_choose_18 : decode cX10_choose 18 = .ok (.getfield 26, 3) := by decide +kernel
theorem dX10_choose_21 : decode cX10_choose 21 = .ok (.invokevirtual 254, 3) := by decide +kernel
theorem dX10_choose_24 : decode cX10_choose 24 = .ok (.aload_n 0, 1) := by decide +kernel
theorem dX10_choose_25 : decode cX10_choose 25 = .ok (.getfield 26, 3) := by decide +kernel
theorem dX10_choose_28 : decode cX10_choose 28 = .ok (.iload_n 1, 1) := by decide +kernel
theorem dX10_choose_29 : decode cX10_choose 29 = .ok (.invokevirtual 257, 3) := by decide +kernel
theorem dX10_choose_32 : decode cX10_choose 32 = .ok (.aload_n 0, 1) := by decide +kernel
theorem dX10_choose_33 : decode cX10_choose 33 = .ok (.invokevirtual 260, 3) := by decide +kernel
theorem dX10_choose_36 : decode cX10_choose 36 = .ok (.ireturn, 1) := by decide +kernel
theorem dX10_register_0 : decode cX10_register 0 = .ok (.aload_n 0, 1) := by decide +kernel
theorem dX10_register_1 : decode cX10_register 1 = .ok (.iload_n 1, 1) := by decide +kernel
theorem dX10_register_2 : decode cX10_register 2 = .ok (.invokevirtual 264, 3) := by decide +kernel
theorem dX10_register_5 : decode cX10_register 5 = .ok (.astore_n 3, 1) := by decide +kernel
theorem dX10_register_6 : decode cX10_register 6 = .ok (.aload_n 3, 1) := by decide +kernel
theorem dX10_register_7 : decode cX10_register 7 = .ok (.ifnull 15, 3) := by decide +kernel
theorem dX10_register_10 : decode cX10_register 10 = .ok (.iload_n 2, 1) := by decide +kernel
theorem dX10_register_11 : decode cX10_register 11 = .ok (.ifCond .lt 11, 3) := by decide +kernel
theorem dX10_register_14 : decode cX10_register 14 = .ok (.iload_n 2, 1) := by decide +kernel
theorem dX10_register_15 : decode cX10_register 15 = .ok (.aload_n 3, 1) := by decide +kernel
theorem dX10_register_16 : decode cX10_register 16 = .ok (.invokevirtual 126, 3) := by decide +kernel
theorem dX10_register_19 : decode cX10_register 19 = .ok (.if_icmp .lt 11, 3) := by decide +kernel
theorem dX10_register_22 : decode cX10_register 22 = .ok (.aload_n 0, 1) := by decide +kernel
theorem dX10_register_23 : decode cX10_register 23 = .ok (.iconst 1, 1) := by decide +kernel
theorem dX10_register_24 : decode cX10_register 24 = .ok (.ldc 188, 2) := by decide +kernel
theorem dX10_register_26 : decode cX10_register 26 = .ok (.invokevirtual 85, 3) := by decide +kernel
theorem dX10_register_29 : decode cX10_register 29 = .ok (.ireturn, 1) := by decide +kernel
theorem dX10_register_30 : decode cX10_register 30 = .ok (.aload_n 0, 1) := by decide +kernel
theorem dX10_register_31 : decode cX10_register 31 = .ok (.getfield 26, 3) := by decide +kernel
theorem dX10_register_34 : decode cX10_register 34 = .ok (.iload_n 1, 1) := by decide +kernel
theorem dX10_register_35 : decode cX10_register 35 = .ok (.aload_n 0, 1) := by decide +kernel
theorem dX10_register_36 : decode cX10_register 36 = .ok (.getfield 37, 3) := by decide +kernel
theorem dX10_register_39 : decode cX10_register 39 = .ok (.invokevirtual 267, 3) := by decide +kernel
theorem dX10_register_42 : decode cX10_register 42 = .ok (.aload_n 0, 1) := by decide +kernel
theorem dX10_register_43 : decode cX10_register 43 = .ok (.aload_n 0, 1) := by decide +kernel
theorem dX10_register_44 : decode cX10_register 44 = .ok (.getfield 37, 3) := by decide +kernel
theorem dX10_register_47 : decode cX10_register 47 = .ok (.iload_n 2, 1) := by decide +kernel
theorem dX10_register_48 : decode cX10_register 48 = .ok (.invokestatic 152, 3) := by decide +kernel
theorem dX10_register_51 : decode cX10_register 51 = .ok (.l2i, 1) := by decide +kernel
theorem dX10_register_52 : decode cX10_register 52 = .ok (.invokevirtual 108, 3) := by decide +kernel
theorem dX10_register_55 : decode cX10_register 55 = .ok (.ireturn, 1) := by decide +kernel
theorem dX10_take_0 : decode cX10_take 0 = .ok (.aload_n 0, 1) := by decide +kernel
theorem dX10_take_1 : decode cX10_take 1 = .ok (.getfield 53, 3) := by decide +kernel
theorem dX10_take_4 : decode cX10_take 4 = .ok (.iload_n 2, 1) := by decide +kernel
theorem dX10_take_5 : decode cX10_take 5 = .ok (.invokevirtual 185, 3) := by decide +kernel
theorem dX10_take_8 : decode cX10_take 8 = .ok (.istore_n 3, 1) := by decide +kernel
theorem dX10_take_9 : decode cX10_take 9 = .ok (.aload_n 0, 1) := by decide +kernel
theorem dX10_take_10 : decode cX10_take 10 = .ok (.iload_n 1, 1) := by decide +kernel
theorem dX10_take_11 : decode cX10_take 11 = .ok (.invokevirtual 264, 3) := by decide +kernel
theorem dX10_take_14 : decode cX10_take 14 = .ok (.ifnull 7, 3) := by decide +kernel
theorem dX10_take_17 : decode cX10_take 17 = .ok (.iload_n 3, 1) := by decide +kernel
theorem dX10_take_18 : decode cX10_take 18 = .ok (.ifCond .ge 9, 3) := by decide +kernel
theorem dX10_take_21 : decode cX10_take 21 = .ok (.aload_n 0, 1) := by decide +kernel
theorem dX10_take_22 : decode cX10_take 22 = .ok (.iconst 1, 1) := by decide +kernel
theorem dX10_take_23 : decode cX10_take 23 = .ok (.invokevirtual 251, 3) := by decide +kernel
theorem dX10_take_26 : decode cX10_take 26 = .ok (.ireturn, 1) := by decide +kernel
theorem dX10_take_27 : decode cX10_take 27 = .ok (.iload_n 3, 1) := by decide +kernel
theorem dX10_take_28 : decode cX10_take 28 = .ok (.aload_n 0, 1) := by decide +kernel
theorem dX10_take_29 : decode cX10_take 29 = .ok (.getfield 26, 3) := by decide +kernel
theorem dX10_take_32 : decode cX10_take 32 = .ok (.invokevirtual 271, 3) := by decide +kernel
theorem dX10_take_35 : decode cX10_take 35 = .ok (.if_icmp .eq 9, 3) := by decide +kernel
theorem dX10_take_38 : decode cX10_take 38 = .ok (.aload_n 0, 1) := by decide +kernel
theorem dX10_take_39 : decode cX10_take 39 = .ok (.iconst 5, 1) := by decide +kernel
theorem dX10_take_40 : decode cX10_take 40 = .ok (.invokevirtual 251, 3) := by decide +kernel
theorem dX10_take_43 : decode cX10_take 43 = .ok (.ireturn, 1) := by decide +kernel
theorem dX10_take_44 : decode cX10_take 44 = .ok (.aload_n 0, 1) := by decide +kernel
theorem dX10_take_45 : decode cX10_take 45 = .ok (.iload_n 1, 1) := by decide +kernel
theorem dX10_take_46 : decode cX10_take 46 = .ok (.aload_n 0, 1) := by decide +kernel
theorem dX10_take_47 : decode cX10_take 47 = .ok (.getfield 53, 3) := by decide +kernel
theorem dX10_take_50 : decode cX10_take 50 = .ok (.iload_n 2, 1) := by decide +kernel
theorem dX10_take_51 : decode cX10_take 51 = .ok (.invokevirtual 189, 3) := by decide +kernel
theorem dX10_take_54 : decode cX10_take 54 = .ok (.invokevirtual 274, 3) := by decide +kernel
theorem dX10_take_57 : decode cX10_take 57 = .ok (.ireturn, 1) := by decide +kernel
theorem dX10_jacobi_0 : decode cX10_jacobi 0 = .ok (.aload_n 0, 1) := by decide +kernel
theorem dX10_jacobi_1 : decode cX10_jacobi 1 = .ok (.iload_n 1, 1) := by decide +kernel
theorem dX10_jacobi_2 : decode cX10_jacobi 2 = .ok (.invokevirtual 264, 3) := by decide +kernel
theorem dX10_jacobi_5 : decode cX10_jacobi 5 = .ok (.astore 4, 2) := by decide +kernel
theorem dX10_jacobi_7 : decode cX10_jacobi 7 = .ok (.aload 4, 2) := by decide +kernel
theorem dX10_jacobi_9 : decode cX10_jacobi 9 = .ok (.iload_n 2, 1) := by decide +kernel
theorem dX10_jacobi_10 : decode cX10_jacobi 10 = .ok (.iload_n 3, 1) := by decide +kernel
theorem dX10_jacobi_11 : decode cX10_jacobi 11 = .ok (.invokestatic 144, 3) := by decide +kernel
theorem dX10_jacobi_14 : decode cX10_jacobi 14 = .ok (.ifCond .ne 9, 3) := by decide +kernel
theorem dX10_jacobi_17 : decode cX10_jacobi 17 = .ok (.aload_n 0, 1) := by decide +kernel
theorem dX10_jacobi_18 : decode cX10_jacobi 18 = .ok (.iconst 1, 1) := by decide +kernel
theorem dX10_jacobi_19 : decode cX10_jacobi 19 = .ok (.invokevirtual 251, 3) := by decide +kernel
theorem dX10_jacobi_22 : decode cX10_jacobi 22 = .ok (.ireturn, 1) := by decide +kernel
theorem dX10_jacobi_23 : decode cX10_jacobi 23 = .ok (.aload 4, 2) := by decide +kernel
theorem dX10_jacobi_25 : decode cX10_jacobi 25 = .ok (.iload_n 2, 1) := by decide +kernel
theorem dX10_jacobi_26 : decode cX10_jacobi 26 = .ok (.iload_n 3, 1) := by decide +kernel
theorem dX10_jacobi_27 : decode cX10_jacobi 27 = .ok (.aload_n 0, 1) := by decide +kernel
theorem dX10_jacobi_28 : decode cX10_jacobi 28 = .ok (.getfield 19, 3) := by decide +kernel
theorem dX10_jacobi_31 : decode cX10_jacobi 31 = .ok (.aload_n 0, 1) := by decide +kernel
theorem dX10_jacobi_32 : decode cX10_jacobi 32 = .ok (.getfield 37, 3) := by decide +kernel
theorem dX10_jacobi_35 : decode cX10_jacobi 35 = .ok (.invokevirtual 148, 3) := by decide +kernel
theorem dX10_jacobi_38 : decode cX10_jacobi 38 = .ok (.aload_n 0, 1) := by decide +kernel
theorem dX10_jacobi_39 : decode cX10_jacobi 39 = .ok (.iload_n 1, 1) := by decide +kernel
theorem dX10_jacobi_40 : decode cX10_jacobi 40 = .ok (.aload_n 0, 1) := by decide +kernel
theorem dX10_jacobi_41 : decode cX10_jacobi 41 = .ok (.getfield 37, 3) := by decide +kernel
theorem dX10_jacobi_44 : decode cX10_jacobi 44 = .ok (.invokevirtual 274, 3) := by decide +kernel
theorem dX10_jacobi_47 : decode cX10_jacobi 47 = .ok (.ireturn, 1) := by decide +kernel
theorem dX10_add_0 : decode cX10_add 0 = .ok (.aload_n 0, 1) := by decide +kernel
theorem dX10_add_1 : decode cX10_add 1 = .ok (.iload_n 1, 1) := by decide +kernel
theorem dX10_add_2 : decode cX10_add 2 = .ok (.invokevirtual 264, 3) := by decide +kernel
theorem dX10_add_5 : decode cX10_add 5 = .ok (.ifnull 11, 3) := by decide +kernel
theorem dX10_add_8 : decode cX10_add 8 = .ok (.aload_n 0, 1) := by decide +kernel
theorem dX10_add_9 : decode cX10_add 9 = .ok (.iload_n 2, 1) := by decide +kernel
theorem dX10_add_10 : decode cX10_add 10 = .ok (.invokevirtual 264, 3) := by decide +kernel
theorem dX10_add_13 : decode cX10_add 13 = .ok (.ifnonnull 9, 3) := by decide +kernel
theorem dX10_add_16 : decode cX10_add 16 = .ok (.aload_n 0, 1) := by decide +kernel
theorem dX10_add_17 : decode cX10_add 17 = .ok (.iconst 1, 1) := by decide +kernel
theorem dX10_add_18 : decode cX10_add 18 = .ok (.invokevirtual 251, 3) := by decide +kernel
theorem dX10_add_21 : decode cX10_add 21 = .ok (.ireturn, 1) := by decide +kernel
theorem dX10_add_22 : decode cX10_add 22 = .ok (.iload_n 3, 1) := by decide +kernel
theorem dX10_add_23 : decode cX10_add 23 = .ok (.sipush (-999), 3) := by decide +kernel
theorem dX10_add_26 : decode cX10_add 26 = .ok (.if_icmp .lt 10, 3) := by decide +kernel
theorem dX10_add_29 : decode cX10_add 29 = .ok (.iload_n 3, 1) := by decide +kernel
theorem dX10_add_30 : decode cX10_add 30 = .ok (.sipush 999, 3) := by decide +kernel
theorem dX10_add_33 : decode cX10_add 33 = .ok (.if_icmp .le 9, 3) := by decide +kernel
theorem dX10_add_36 : decode cX10_add 36 = .ok (.aload_n 0, 1) := by decide +kernel
theorem dX10_add_37 : decode cX10_add 37 = .ok (.iconst 2, 1) := by decide +kernel
theorem dX10_add_38 : decode cX10_add 38 = .ok (.invokevirtual 251, 3) := by decide +kernel
theorem dX10_add_41 : decode cX10_add 41 = .ok (.ireturn, 1) := by decide +kernel
theorem dX10_add_42 : decode cX10_add 42 = .ok (.aload_n 0, 1) := by decide +kernel
theorem dX10_add_43 : decode cX10_add 43 = .ok (.getfield 26, 3) := by decide +kernel
theorem dX10_add_46 : decode cX10_add 46 = .ok (.iload_n 1, 1) := by decide +kernel
theorem dX10_add_47 : decode cX10_add 47 = .ok (.aload_n 0, 1) := by decide +kernel
theorem dX10_add_48 : decode cX10_add 48 = .ok (.getfield 37, 3) := by decide +kernel
theorem dX10_add_51 : decode cX10_add 51 = .ok (.invokevirtual 267, 3) := by decide +kernel
theorem dX10_add_54 : decode cX10_add 54 = .ok (.aload_n 0, 1) := by decide +kernel
theorem dX10_add_55 : decode cX10_add 55 = .ok (.getfield 26, 3) := by decide +kernel
theorem dX10_add_58 : decode cX10_add 58 = .ok (.iload_n 2, 1) := by decide +kernel
theorem dX10_add_59 : decode cX10_add 59 = .ok (.aload_n 0, 1) := by decide +kernel
theorem dX10_add_60 : decode cX10_add 60 = .ok (.getfield 41, 3) := by decide +kernel
theorem dX10_add_63 : decode cX10_add 63 = .ok (.invokevirtual 267, 3) := by decide +kernel
theorem dX10_add_66 : decode cX10_add 66 = .ok (.aload_n 0, 1) := by decide +kernel
theorem dX10_add_67 : decode cX10_add 67 = .ok (.getfield 37, 3) := by decide +kernel
theorem dX10_add_70 : decode cX10_add 70 = .ok (.aload_n 0, 1) := by decide +kernel
theorem dX10_add_71 : decode cX10_add 71 = .ok (.getfield 41, 3) := by decide +kernel
theorem dX10_add_74 : decode cX10_add 74 = .ok (.iload_n 3, 1) := by decide +kernel
theorem dX10_add_75 : decode cX10_add 75 = .ok (.i2l, 1) := by decide +kernel
theorem dX10_add_76 : decode cX10_add 76 = .ok (.invokestatic 278, 3) := by decide +kernel
theorem dX10_add_79 : decode cX10_add 79 = .ok (.aload_n 0, 1) := by decide +kernel
theorem dX10_add_80 : decode cX10_add 80 = .ok (.iload_n 1, 1) := by decide +kernel
theorem dX10_add_81 : decode cX10_add 81 = .ok (.aload_n 0, 1) := by decide +kernel
theorem dX10_add_82 : decode cX10_add 82 = .ok (.getfield 37, 3) := by decide +kernel
theorem dX10_add_85 : decode cX10_add 85 = .ok (.invokevirtual 274, 3) := by decide +kernel
theorem dX10_add_88 : decode cX10_add 88 = .ok (.ireturn, 1) := by decide +kernel
theorem dX10_times_0 : decode cX10_times 0 = .ok (.aload_n 0, 1) := by decide +kernel
theorem dX10_times_1 : decode cX10_times 1 = .ok (.iload_n 1, 1) := by decide +kernel
theorem dX10_times_2 : decode cX10_times 2 = .ok (.invokevirtual 264, 3) := by decide +kernel
theorem dX10_times_5 : decode cX10_times 5 = .ok (.astore_n 3, 1) := by decide +kernel
theorem dX10_times_6 : decode cX10_times 6 = .ok (.aload_n 3, 1) := by decide +kernel
theorem dX10_times_7 : decode cX10_times 7 = .ok (.ifnull 11, 3) := by decide +kernel
theorem dX10_times_10 : decode cX10_times 10 = .ok (.aload_n 0, 1) := by decide +kernel
theorem dX10_times_11 : decode cX10_times 11 = .ok (.iload_n 2, 1) := by decide +kernel
theorem dX10_times_12 : decode cX10_times 12 = .ok (.invokevirtual 264, 3) := by decide +kernel
theorem dX10_times_15 : decode cX10_times 15 = .ok (.ifnonnull 9, 3) := by decide +kernel
theorem dX10_times_18 : decode cX10_times 18 = .ok (.aload_n 0, 1) := by decide +kernel
theorem dX10_times_19 : decode cX10_times 19 = .ok (.iconst 1, 1) := by decide +kernel
theorem dX10_times_20 : decode cX10_times 20 = .ok (.invokevirtual 251, 3) := by decide +kernel
theorem dX10_times_23 : decode cX10_times 23 = .ok (.ireturn, 1) := by decide +kernel
theorem dX10_times_24 : decode cX10_times 24 = .ok (.aload_n 0, 1) := by decide +kernel
theorem dX10_times_25 : decode cX10_times 25 = .ok (.getfield 26, 3) := by decide +kernel
theorem dX10_times_28 : decode cX10_times 28 = .ok (.iload_n 1, 1) := by decide +kernel
theorem dX10_times_29 : decode cX10_times 29 = .ok (.aload_n 0, 1) := by decide +kernel
theorem dX10_times_30 : decode cX10_times 30 = .ok (.getfield 37, 3) := by decide +kernel
theorem dX10_times_33 : decode cX10_times 33 = .ok (.invokevirtual 267, 3) := by decide +kernel
theorem dX10_times_36 : decode cX10_times 36 = .ok (.aload_n 0, 1) := by decide +kernel
theorem dX10_times_37 : decode cX10_times 37 = .ok (.getfield 26, 3) := by decide +kernel
theorem dX10_times_40 : decode cX10_times 40 = .ok (.iload_n 2, 1) := by decide +kernel
theorem dX10_times_41 : decode cX10_times 41 = .ok (.aload_n 0, 1) := by decide +kernel
theorem dX10_times_42 : decode cX10_times 42 = .ok (.getfield 41, 3) := by decide +kernel
theorem dX10_times_45 : decode cX10_times 45 = .ok (.invokevirtual 267, 3) := by decide +kernel
theorem dX10_times_48 : decode cX10_times 48 = .ok (.aload_n 0, 1) := by decide +kernel
theorem dX10_times_49 : decode cX10_times 49 = .ok (.getfield 19, 3) := by decide +kernel
theorem dX10_times_52 : decode cX10_times 52 = .ok (.aload_n 0, 1) := by decide +kernel
theorem dX10_times_53 : decode cX10_times 53 = .ok (.getfield 37, 3) := by decide +kernel
theorem dX10_times_56 : decode cX10_times 56 = .ok (.aload_n 0, 1) := by decide +kernel
theorem dX10_times_57 : decode cX10_times 57 = .ok (.getfield 41, 3) := by decide +kernel
theorem dX10_times_60 : decode cX10_times 60 = .ok (.aload_n 0, 1) := by decide +kernel
theorem dX10_times_61 : decode cX10_times 61 = .ok (.getfield 44, 3) := by decide +kernel
theorem dX10_times_64 : decode cX10_times 64 = .ok (.aload_n 3, 1) := by decide +kernel
theorem dX10_times_65 : decode cX10_times 65 = .ok (.invokevirtual 120, 3) := by decide +kernel
theorem dX10_times_68 : decode cX10_times 68 = .ok (.invokevirtual 162, 3) := by decide +kernel
theorem dX10_times_71 : decode cX10_times 71 = .ok (.aload_n 0, 1) := by decide +kernel
theorem dX10_times_72 : decode cX10_times 72 = .ok (.iload_n 1, 1) := by decide +kernel
theorem dX10_times_73 : decode cX10_times 73 = .ok (.aload_n 0, 1) := by decide +kernel
theorem dX10_times_74 : decode cX10_times 74 = .ok (.getfield 44, 3) := by decide +kernel
theorem dX10_times_77 : decode cX10_times 77 = .ok (.invokevirtual 274, 3) := by decide +kernel
theorem dX10_times_80 : decode cX10_times 80 = .ok (.ireturn, 1) := by decide +kernel
theorem dX10_turn_0 : decode cX10_turn 0 = .ok (.aload_n 0, 1) := by decide +kernel
theorem dX10_turn_1 : decode cX10_turn 1 = .ok (.iload_n 1, 1) := by decide +kernel
theorem dX10_turn_2 : decode cX10_turn 2 = .ok (.invokevirtual 264, 3) := by decide +kernel
theorem dX10_turn_5 : decode cX10_turn 5 = .ok (.astore_n 3, 1) := by decide +kernel
theorem dX10_turn_6 : decode cX10_turn 6 = .ok (.aload_n 3, 1) := by decide +kernel
theorem dX10_turn_7 : decode cX10_turn 7 = .ok (.ifnonnull 9, 3) := by decide +kernel
theorem dX10_turn_10 : decode cX10_turn 10 = .ok (.aload_n 0, 1) := by decide +kernel
theorem dX10_turn_11 : decode cX10_turn 11 = .ok (.iconst 1, 1) := by decide +kernel
theorem dX10_turn_12 : decode cX10_turn 12 = .ok (.invokevirtual 251, 3) := by decide +kernel
theorem dX10_turn_15 : decode cX10_turn 15 = .ok (.ireturn, 1) := by decide +kernel
theorem dX10_turn_16 : decode cX10_turn 16 = .ok (.aload_n 3, 1) := by decide +kernel
theorem dX10_turn_17 : decode cX10_turn 17 = .ok (.iload_n 2, 1) := by decide +kernel
theorem dX10_turn_18 : decode cX10_turn 18 = .ok (.invokevirtual 178, 3) := by decide +kernel
theorem dX10_turn_21 : decode cX10_turn 21 = .ok (.ifCond .ne 9, 3) := by decide +kernel
theorem dX10_turn_24 : decode cX10_turn 24 = .ok (.aload_n 0, 1) := by decide +kernel
theorem dX10_turn_25 : decode cX10_turn 25 = .ok (.iconst 2, 1) := by decide +kernel
theorem dX10_turn_26 : decode cX10_turn 26 = .ok (.invokevirtual 251, 3) := by decide +kernel
theorem dX10_turn_29 : decode cX10_turn 29 = .ok (.ireturn, 1) := by decide +kernel
theorem dX10_turn_30 : decode cX10_turn 30 = .ok (.aload_n 0, 1) := by decide +kernel
theorem dX10_turn_31 : decode cX10_turn 31 = .ok (.getfield 26, 3) := by decide +kernel
theorem dX10_turn_34 : decode cX10_turn 34 = .ok (.iload_n 1, 1) := by decide +kernel
theorem dX10_turn_35 : decode cX10_turn 35 = .ok (.aload_n 0, 1) := by decide +kernel
theorem dX10_turn_36 : decode cX10_turn 36 = .ok (.getfield 37, 3) := by decide +kernel
theorem dX10_turn_39 : decode cX10_turn 39 = .ok (.invokevirtual 267, 3) := by decide +kernel
theorem dX10_turn_42 : decode cX10_turn 42 = .ok (.aload_n 0, 1) := by decide +kernel
theorem dX10_turn_43 : decode cX10_turn 43 = .ok (.getfield 19, 3) := by decide +kernel
theorem dX10_turn_46 : decode cX10_turn 46 = .ok (.aload_n 0, 1) := by decide +kernel
theorem dX10_turn_47 : decode cX10_turn 47 = .ok (.getfield 37, 3) := by decide +kernel
theorem dX10_turn_50 : decode cX10_turn 50 = .ok (.iload_n 2, 1) := by decide +kernel
theorem dX10_turn_51 : decode cX10_turn 51 = .ok (.aload_n 0, 1) := by decide +kernel
theorem dX10_turn_52 : decode cX10_turn 52 = .ok (.getfield 41, 3) := by decide +kernel
theorem dX10_turn_55 : decode cX10_turn 55 = .ok (.aload_n 3, 1) := by decide +kernel
theorem dX10_turn_56 : decode cX10_turn 56 = .ok (.invokevirtual 120, 3) := by decide +kernel
theorem dX10_turn_59 : decode cX10_turn 59 = .ok (.invokevirtual 158, 3) := by decide +kernel
theorem dX10_turn_62 : decode cX10_turn 62 = .ok (.aload_n 0, 1) := by decide +kernel
theorem dX10_turn_63 : decode cX10_turn 63 = .ok (.iload_n 1, 1) := by decide +kernel
theorem dX10_turn_64 : decode cX10_turn 64 = .ok (.aload_n 0, 1) := by decide +kernel
theorem dX10_turn_65 : decode cX10_turn 65 = .ok (.getfield 41, 3) := by decide +kernel
theorem dX10_turn_68 : decode cX10_turn 68 = .ok (.invokevirtual 274, 3) := by decide +kernel
theorem dX10_turn_71 : decode cX10_turn 71 = .ok (.ireturn, 1) := by decide +kernel
theorem dX10_size_0 : decode cX10_size 0 = .ok (.aload_n 0, 1) := by decide +kernel
theorem dX10_size_1 : decode cX10_size 1 = .ok (.iload_n 1, 1) := by decide +kernel
theorem dX10_size_2 : decode cX10_size 2 = .ok (.invokevirtual 264, 3) := by decide +kernel
theorem dX10_size_5 : decode cX10_size 5 = .ok (.astore_n 2, 1) := by decide +kernel
theorem dX10_size_6 : decode cX10_size 6 = .ok (.aload_n 2, 1) := by decide +kernel
theorem dX10_size_7 : decode cX10_size 7 = .ok (.ifnonnull 12, 3) := by decide +kernel
theorem dX10_size_10 : decode cX10_size 10 = .ok (.aload_n 0, 1) := by decide +kernel
theorem dX10_size_11 : decode cX10_size 11 = .ok (.iconst 1, 1) := by decide +kernel
theorem dX10_size_12 : decode cX10_size 12 = .ok (.putfield 64, 3) := by decide +kernel
theorem dX10_size_15 : decode cX10_size 15 = .ok (.ldc2_w 282, 3) := by decide +kernel
theorem dX10_size_18 : decode cX10_size 18 = .ok (.lreturn, 1) := by decide +kernel
theorem dX10_size_19 : decode cX10_size 19 = .ok (.aload_n 0, 1) := by decide +kernel
theorem dX10_size_20 : decode cX10_size 20 = .ok (.getfield 26, 3) := by decide +kernel
theorem dX10_size_23 : decode cX10_size 23 = .ok (.iload_n 1, 1) := by decide +kernel
theorem dX10_size_24 : decode cX10_size 24 = .ok (.aload_n 0, 1) := by decide +kernel
theorem dX10_size_25 : decode cX10_size 25 = .ok (.getfield 37, 3) := by decide +kernel
theorem dX10_size_28 : decode cX10_size 28 = .ok (.invokevirtual 267, 3) := by decide +kernel
theorem dX10_size_31 : decode cX10_size 31 = .ok (.aload_n 0, 1) := by decide +kernel
theorem dX10_size_32 : decode cX10_size 32 = .ok (.aload_n 2, 1) := by decide +kernel
theorem dX10_size_33 : decode cX10_size 33 = .ok (.invokevirtual 284, 3) := by decide +kernel
theorem dX10_size_36 : decode cX10_size 36 = .ok (.ifCond .ne 13, 3) := by decide +kernel
theorem dX10_size_39 : decode cX10_size 39 = .ok (.aload_n 0, 1) := by decide +kernel
theorem dX10_size_40 : decode cX10_size 40 = .ok (.bipush 7, 2) := by decide +kernel
theorem dX10_size_42 : decode cX10_size 42 = .ok (.putfield 64, 3) := by decide +kernel
theorem dX10_size_45 : decode cX10_size 45 = .ok (.ldc2_w 282, 3) := by decide +kernel
theorem dX10_size_48 : decode cX10_size 48 = .ok (.lreturn, 1) := by decide +kernel
theorem dX10_size_49 : decode cX10_size 49 = .ok (.aload_n 0, 1) := by decide +kernel
theorem dX10_size_50 : decode cX10_size 50 = .ok (.iconst 0, 1) := by decide +kernel
theorem dX10_size_51 : decode cX10_size 51 = .ok (.putfield 64, 3) := by decide +kernel
theorem dX10_size_54 : decode cX10_size 54 = .ok (.aload_n 0, 1) := by decide +kernel
theorem dX10_size_55 : decode cX10_size 55 = .ok (.getfield 44, 3) := by decide +kernel
theorem dX10_size_58 : decode cX10_size 58 = .ok (.iconst 0, 1) := by decide +kernel
theorem dX10_size_59 : decode cX10_size 59 = .ok (.invokestatic 152, 3) := by decide +kernel
theorem dX10_size_62 : decode cX10_size 62 = .ok (.lreturn, 1) := by decide +kernel
theorem dX10_undo_0 : decode cX10_undo 0 = .ok (.aload_n 0, 1) := by decide +kernel
theorem dX10_undo_1 : decode cX10_undo 1 = .ok (.getfield 26, 3) := by decide +kernel
theorem dX10_undo_4 : decode cX10_undo 4 = .ok (.invokevirtual 288, 3) := by decide +kernel
theorem dX10_undo_7 : decode cX10_undo 7 = .ok (.ifCond .eq 10, 3) := by decide +kernel
theorem dX10_undo_10 : decode cX10_undo 10 = .ok (.aload_n 0, 1) := by decide +kernel
theorem dX10_undo_11 : decode cX10_undo 11 = .ok (.invokevirtual 260, 3) := by decide +kernel
theorem dX10_undo_14 : decode cX10_undo 14 = .ok (.goto 9, 3) := by decide +kernel
theorem dX10_undo_17 : decode cX10_undo 17 = .ok (.aload_n 0, 1) := by decide +kernel
theorem dX10_undo_18 : decode cX10_undo 18 = .ok (.bipush 6, 2) := by decide +kernel
theorem dX10_undo_20 : decode cX10_undo 20 = .ok (.invokevirtual 251, 3) := by decide +kernel
theorem dX10_undo_23 : decode cX10_undo 23 = .ok (.ireturn, 1) := by decide +kernel
theorem dX10_redo_0 : decode cX10_redo 0 = .ok (.aload_n 0, 1) := by decide +kernel
theorem dX10_redo_1 : decode cX10_redo 1 = .ok (.getfield 26, 3) := by decide +kernel
theorem dX10_redo_4 : decode cX10_redo 4 = .ok (.invokevirtual 291, 3) := by decide +kernel
theorem dX10_redo_7 : decode cX10_redo 7 = .ok (.ifCond .eq 10, 3) := by decide +kernel
theorem dX10_redo_10 : decode cX10_redo 10 = .ok (.aload_n 0, 1) := by decide +kernel
theorem dX10_redo_11 : decode cX10_redo 11 = .ok (.invokevirtual 260, 3) := by decide +kernel
theorem dX10_redo_14 : decode cX10_redo 14 = .ok (.goto 9, 3) := by decide +kernel
theorem dX10_redo_17 : decode cX10_redo 17 = .ok (.aload_n 0, 1) := by decide +kernel
theorem dX10_redo_18 : decode cX10_redo 18 = .ok (.bipush 6, 2) := by decide +kernel
theorem dX10_redo_20 : decode cX10_redo 20 = .ok (.invokevirtual 251, 3) := by decide +kernel
theorem dX10_redo_23 : decode cX10_redo 23 = .ok (.ireturn, 1) := by decide +kernel
theorem dX10_image_0 : decode cX10_image 0 = .ok (.aload_n 0, 1) := by decide +kernel
theorem dX10_image_1 : decode cX10_image 1 = .ok (.getfield 53, 3) := by decide +kernel
theorem dX10_image_4 : decode cX10_image 4 = .ok (.invokevirtual 105, 3) := by decide +kernel
theorem dX10_image_7 : decode cX10_image 7 = .ok (.ifCond .ne 10, 3) := by decide +kernel
theorem dX10_image_10 : decode cX10_image 10 = .ok (.aload_n 0, 1) := by decide +kernel
theorem dX10_image_11 : decode cX10_image 11 = .ok (.iconst 1, 1) := by decide +kernel
theorem dX10_image_12 : decode cX10_image 12 = .ok (.iconst (-1), 1) := by decide +kernel
theorem dX10_image_13 : decode cX10_image 13 = .ok (.invokevirtual 85, 3) := by decide +kernel
theorem dX10_image_16 : decode cX10_image 16 = .ok (.ireturn, 1) := by decide +kernel
theorem dX10_image_17 : decode cX10_image 17 = .ok (.aload_n 0, 1) := by decide +kernel
theorem dX10_image_18 : decode cX10_image 18 = .ok (.getfield 26, 3) := by decide +kernel
theorem dX10_image_21 : decode cX10_image 21 = .ok (.invokevirtual 294, 3) := by decide +kernel
theorem dX10_image_24 : decode cX10_image 24 = .ok (.istore_n 1, 1) := by decide +kernel
theorem dX10_image_25 : decode cX10_image 25 = .ok (.aload_n 0, 1) := by decide +kernel
theorem dX10_image_26 : decode cX10_image 26 = .ok (.getfield 26, 3) := by decide +kernel
theorem dX10_image_29 : decode cX10_image 29 = .ok (.invokevirtual 297, 3) := by decide +kernel
theorem dX10_image_32 : decode cX10_image 32 = .ok (.ifCond .eq 11, 3) := by decide +kernel
theorem dX10_image_35 : decode cX10_image 35 = .ok (.aload_n 0, 1) := by decide +kernel
theorem dX10_image_36 : decode cX10_image 36 = .ok (.iload_n 1, 1) := by decide +kernel
theorem dX10_image_37 : decode cX10_image 37 = .ok (.invokevirtual 108, 3) := by decide +kernel
theorem dX10_image_40 : decode cX10_image 40 = .ok (.goto 9, 3) := by decide +kernel
theorem dX10_image_43 : decode cX10_image 43 = .ok (.aload_n 0, 1) := by decide +kernel
theorem dX10_image_44 : decode cX10_image 44 = .ok (.iconst 3, 1) := by decide +kernel
theorem dX10_image_45 : decode cX10_image 45 = .ok (.iconst (-1), 1) := by decide +kernel
theorem dX10_image_46 : decode cX10_image 46 = .ok (.invokevirtual 85, 3) := by decide +kernel
theorem dX10_image_49 : decode cX10_image 49 = .ok (.ireturn, 1) := by decide +kernel
theorem dX10_restore_0 : decode cX10_restore 0 = .ok (.iload_n 1, 1) := by decide +kernel
theorem dX10_restore_1 : decode cX10_restore 1 = .ok (.ifCond .lt 14, 3) := by decide +kernel
theorem dX10_restore_4 : decode cX10_restore 4 = .ok (.iload_n 1, 1) := by decide +kernel
theorem dX10_restore_5 : decode cX10_restore 5 = .ok (.aload_n 0, 1) := by decide +kernel
theorem dX10_restore_6 : decode cX10_restore 6 = .ok (.getfield 26, 3) := by decide +kernel
theorem dX10_restore_9 : decode cX10_restore 9 = .ok (.invokevirtual 294, 3) := by decide +kernel
theorem dX10_restore_12 : decode cX10_restore 12 = .ok (.if_icmp .lt 9, 3) := by decide +kernel
theorem dX10_restore_15 : decode cX10_restore 15 = .ok (.aload_n 0, 1) := by decide +kernel
theorem dX10_restore_16 : decode cX10_restore 16 = .ok (.iconst 1, 1) := by decide +kernel
theorem dX10_restore_17 : decode cX10_restore 17 = .ok (.invokevirtual 251, 3) := by decide +kernel
theorem dX10_restore_20 : decode cX10_restore 20 = .ok (.ireturn, 1) := by decide +kernel
theorem dX10_restore_21 : decode cX10_restore 21 = .ok (.aload_n 0, 1) := by decide +kernel
theorem dX10_restore_22 : decode cX10_restore 22 = .ok (.getfield 26, 3) := by decide +kernel
theorem dX10_restore_25 : decode cX10_restore 25 = .ok (.invokevirtual 254, 3) := by decide +kernel
theorem dX10_restore_28 : decode cX10_restore 28 = .ok (.aload_n 0, 1) := by decide +kernel
theorem dX10_restore_29 : decode cX10_restore 29 = .ok (.getfield 26, 3) := by decide +kernel
theorem dX10_restore_32 : decode cX10_restore 32 = .ok (.iload_n 1, 1) := by decide +kernel
theorem dX10_restore_33 : decode cX10_restore 33 = .ok (.invokevirtual 300, 3) := by decide +kernel
theorem dX10_restore_36 : decode cX10_restore 36 = .ok (.aload_n 0, 1) := by decide +kernel
theorem dX10_restore_37 : decode cX10_restore 37 = .ok (.invokevirtual 260, 3) := by decide +kernel
theorem dX10_restore_40 : decode cX10_restore 40 = .ok (.ireturn, 1) := by decide +kernel
theorem dX10_led_0 : decode cX10_led 0 = .ok (.aload_n 0, 1) := by decide +kernel
theorem dX10_led_1 : decode cX10_led 1 = .ok (.getfield 53, 3) := by decide +kernel
theorem dX10_led_4 : decode cX10_led 4 = .ok (.iload_n 1, 1) := by decide +kernel
theorem dX10_led_5 : decode cX10_led 5 = .ok (.invokevirtual 111, 3) := by decide +kernel
theorem dX10_led_8 : decode cX10_led 8 = .ok (.astore_n 3, 1) := by decide +kernel
theorem dX10_led_9 : decode cX10_led 9 = .ok (.aload_n 3, 1) := by decide +kernel
theorem dX10_led_10 : decode cX10_led 10 = .ok (.ifnonnull 7, 3) := by decide +kernel
theorem dX10_led_13 : decode cX10_led 13 = .ok (.iconst (-1), 1) := by decide +kernel
theorem dX10_led_14 : decode cX10_led 14 = .ok (.goto 8, 3) := by decide +kernel
theorem dX10_led_17 : decode cX10_led 17 = .ok (.aload_n 3, 1) := by decide +kernel
theorem dX10_led_18 : decode cX10_led 18 = .ok (.iload_n 2, 1) := by decide +kernel
theorem dX10_led_19 : decode cX10_led 19 = .ok (.invokevirtual 303, 3) := by decide +kernel
theorem dX10_led_22 : decode cX10_led 22 = .ok (.istore 4, 2) := by decide +kernel
theorem dX10_led_24 : decode cX10_led 24 = .ok (.iload 4, 2) := by decide +kernel
theorem dX10_led_26 : decode cX10_led 26 = .ok (.ifCond .ge 14, 3) := by decide +kernel
theorem dX10_led_29 : decode cX10_led 29 = .ok (.new 306, 3) := by decide +kernel
theorem dX10_led_32 : decode cX10_led 32 = .ok (.dup, 1) := by decide +kernel
theorem dX10_led_33 : decode cX10_led 33 = .ok (.ldc_w 308, 3) := by decide +kernel
theorem dX10_led_36 : decode cX10_led 36 = .ok (.invokespecial 310, 3) := by decide +kernel
theorem dX10_led_39 : decode cX10_led 39 = .ok (.athrow, 1) := by decide +kernel
theorem dX10_led_40 : decode cX10_led 40 = .ok (.iload 4, 2) := by decide +kernel
theorem dX10_led_42 : decode cX10_led 42 = .ok (.ireturn, 1) := by decide +kernel
theorem dX10_told_0 : decode cX10_told 0 = .ok (.iload_n 1, 1) := by decide +kernel
theorem dX10_told_1 : decode cX10_told 1 = .ok (.tableswitch 114 0 7 #[47, 55, 63, 71, 79, 87, 95, 103], 47) := by decide +kernel
theorem dX10_told_48 : decode cX10_told 48 = .ok (.aload_n 0, 1) := by decide +kernel
theorem dX10_told_49 : decode cX10_told 49 = .ok (.getfield 53, 3) := by decide +kernel
theorem dX10_told_52 : decode cX10_told 52 = .ok (.invokevirtual 105, 3) := by decide +kernel
theorem dX10_told_55 : decode cX10_told 55 = .ok (.ireturn, 1) := by decide +kernel
theorem dX10_told_56 : decode cX10_told 56 = .ok (.aload_n 0, 1) := by decide +kernel
theorem dX10_told_57 : decode cX10_told 57 = .ok (.getfield 53, 3) := by decide +kernel
theorem dX10_told_60 : decode cX10_told 60 = .ok (.invokevirtual 313, 3) := by decide +kernel
theorem dX10_told_63 : decode cX10_told 63 = .ok (.ireturn, 1) := by decide +kernel
theorem dX10_told_64 : decode cX10_told 64 = .ok (.aload_n 0, 1) := by decide +kernel
theorem dX10_told_65 : decode cX10_told 65 = .ok (.getfield 53, 3) := by decide +kernel
theorem dX10_told_68 : decode cX10_told 68 = .ok (.invokevirtual 316, 3) := by decide +kernel
theorem dX10_told_71 : decode cX10_told 71 = .ok (.ireturn, 1) := by decide +kernel
theorem dX10_told_72 : decode cX10_told 72 = .ok (.aload_n 0, 1) := by decide +kernel
theorem dX10_told_73 : decode cX10_told 73 = .ok (.getfield 26, 3) := by decide +kernel
theorem dX10_told_76 : decode cX10_told 76 = .ok (.invokevirtual 271, 3) := by decide +kernel
theorem dX10_told_79 : decode cX10_told 79 = .ok (.ireturn, 1) := by decide +kernel
theorem dX10_told_80 : decode cX10_told 80 = .ok (.aload_n 0, 1) := by decide +kernel
theorem dX10_told_81 : decode cX10_told 81 = .ok (.getfield 26, 3) := by decide +kernel
theorem dX10_told_84 : decode cX10_told 84 = .ok (.invokevirtual 319, 3) := by decide +kernel
theorem dX10_told_87 : decode cX10_told 87 = .ok (.ireturn, 1) := by decide +kernel
theorem dX10_told_88 : decode cX10_told 88 = .ok (.aload_n 0, 1) := by decide +kernel
theorem dX10_told_89 : decode cX10_told 89 = .ok (.getfield 26, 3) := by decide +kernel
theorem dX10_told_92 : decode cX10_told 92 = .ok (.invokevirtual 322, 3) := by decide +kernel
theorem dX10_told_95 : decode cX10_told 95 = .ok (.ireturn, 1) := by decide +kernel
theorem dX10_told_96 : decode cX10_told 96 = .ok (.aload_n 0, 1) := by decide +kernel
theorem dX10_told_97 : decode cX10_told 97 = .ok (.getfield 26, 3) := by decide +kernel
theorem dX10_told_100 : decode cX10_told 100 = .ok (.invokevirtual 294, 3) := by decide +kernel
theorem dX10_told_103 : decode cX10_told 103 = .ok (.ireturn, 1) := by decide +kernel
theorem dX10_told_104 : decode cX10_told 104 = .ok (.aload_n 0, 1) := by decide +kernel
theorem dX10_told_105 : decode cX10_told 105 = .ok (.getfield 10, 3) := by decide +kernel
theorem dX10_told_108 : decode cX10_told 108 = .ok (.invokevirtual 67, 3) := by decide +kernel
theorem dX10_told_111 : decode cX10_told 111 = .ok (.invokevirtual 81, 3) := by decide +kernel
theorem dX10_told_114 : decode cX10_told 114 = .ok (.ireturn, 1) := by decide +kernel
theorem dX10_told_115 : decode cX10_told 115 = .ok (.iconst (-1), 1) := by decide +kernel
theorem dX10_told_116 : decode cX10_told 116 = .ok (.ireturn, 1) := by decide +kernel
theorem dX10_trouble_0 : decode cX10_trouble 0 = .ok (.aload_n 0, 1) := by decide +kernel
theorem dX10_trouble_1 : decode cX10_trouble 1 = .ok (.getfield 64, 3) := by decide +kernel
theorem dX10_trouble_4 : decode cX10_trouble 4 = .ok (.ireturn, 1) := by decide +kernel
theorem dX10_refused_0 : decode cX10_refused 0 = .ok (.aload_n 0, 1) := by decide +kernel
theorem dX10_refused_1 : decode cX10_refused 1 = .ok (.iload_n 1, 1) := by decide +kernel
theorem dX10_refused_2 : decode cX10_refused 2 = .ok (.putfield 64, 3) := by decide +kernel
theorem dX10_refused_5 : decode cX10_refused 5 = .ok (.iload_n 2, 1) := by decide +kernel
theorem dX10_refused_6 : decode cX10_refused 6 = .ok (.ireturn, 1) := by decide +kernel
theorem dX10_answered_0 : decode cX10_answered 0 = .ok (.aload_n 0, 1) := by decide +kernel
theorem dX10_answered_1 : decode cX10_answered 1 = .ok (.iconst 0, 1) := by decide +kernel
theorem dX10_answered_2 : decode cX10_answered 2 = .ok (.putfield 64, 3) := by decide +kernel
theorem dX10_answered_5 : decode cX10_answered 5 = .ok (.iload_n 1, 1) := by decide +kernel
theorem dX10_answered_6 : decode cX10_answered 6 = .ok (.ireturn, 1) := by decide +kernel
theorem dX10_denied_0 : decode cX10_denied 0 = .ok (.aload_n 0, 1) := by decide +kernel
theorem dX10_denied_1 : decode cX10_denied 1 = .ok (.iload_n 1, 1) := by decide +kernel
theorem dX10_denied_2 : decode cX10_denied 2 = .ok (.putfield 64, 3) := by decide +kernel
theorem dX10_denied_5 : decode cX10_denied 5 = .ok (.iconst 0, 1) := by decide +kernel
theorem dX10_denied_6 : decode cX10_denied 6 = .ok (.ireturn, 1) := by decide +kernel
theorem dX10_granted_0 : decode cX10_granted 0 = .ok (.aload_n 0, 1) := by decide +kernel
theorem dX10_granted_1 : decode cX10_granted 1 = .ok (.iconst 0, 1) := by decide +kernel
theorem dX10_granted_2 : decode cX10_granted 2 = .ok (.putfield 64, 3) := by decide +kernel
theorem dX10_granted_5 : decode cX10_granted 5 = .ok (.iconst 1, 1) := by decide +kernel
theorem dX10_granted_6 : decode cX10_granted 6 = .ok (.ireturn, 1) := by decide +kernel
theorem dX10_hasSum_0 : decode cX10_hasSum 0 = .ok (.aload_n 0, 1) := by decide +kernel
theorem dX10_hasSum_1 : decode cX10_hasSum 1 = .ok (.ifnull 23, 3) := by decide +kernel
theorem dX10_hasSum_4 : decode cX10_hasSum 4 = .ok (.aload_n 0, 1) := by decide +kernel
theorem dX10_hasSum_5 : decode cX10_hasSum 5 = .ok (.iload_n 1, 1) := by decide +kernel
theorem dX10_hasSum_6 : decode cX10_hasSum 6 = .ok (.invokevirtual 135, 3) := by decide +kernel
theorem dX10_hasSum_9 : decode cX10_hasSum 9 = .ok (.ifCond .eq 15, 3) := by decide +kernel
theorem dX10_hasSum_12 : decode cX10_hasSum 12 = .ok (.aload_n 0, 1) := by decide +kernel
theorem dX10_hasSum_13 : decode cX10_hasSum 13 = .ok (.iload_n 2, 1) := by decide +kernel
theorem dX10_hasSum_14 : decode cX10_hasSum 14 = .ok (.invokevirtual 135, 3) := by decide +kernel
theorem dX10_hasSum_17 : decode cX10_hasSum 17 = .ok (.ifCond .eq 7, 3) := by decide +kernel
theorem dX10_hasSum_20 : decode cX10_hasSum 20 = .ok (.iconst 1, 1) := by decide +kernel
theorem dX10_hasSum_21 : decode cX10_hasSum 21 = .ok (.goto 4, 3) := by decide +kernel
theorem dX10_hasSum_24 : decode cX10_hasSum 24 = .ok (.iconst 0, 1) := by decide +kernel
theorem dX10_hasSum_25 : decode cX10_hasSum 25 = .ok (.ireturn, 1) := by decide +kernel
theorem dX10_fieldOfRegister_0 : decode cX10_fieldOfRegister 0 = .ok (.aload_n 0, 1) := by decide +kernel
theorem dX10_fieldOfRegister_1 : decode cX10_fieldOfRegister 1 = .ok (.getfield 26, 3) := by decide +kernel
theorem dX10_fieldOfRegister_4 : decode cX10_fieldOfRegister 4 = .ok (.iload_n 1, 1) := by decide +kernel
theorem dX10_fieldOfRegister_5 : decode cX10_fieldOfRegister 5 = .ok (.invokevirtual 325, 3) := by decide +kernel
theorem dX10_fieldOfRegister_8 : decode cX10_fieldOfRegister 8 = .ok (.ifCond .eq 20, 3) := by decide +kernel
theorem dX10_fieldOfRegister_11 : decode cX10_fieldOfRegister 11 = .ok (.aload_n 0, 1) := by decide +kernel
theorem dX10_fieldOfRegister_12 : decode cX10_fieldOfRegister 12 = .ok (.getfield 53, 3) := by decide +kernel
theorem dX10_fieldOfRegister_15 : decode cX10_fieldOfRegister 15 = .ok (.aload_n 0, 1) := by decide +kernel
theorem dX10_fieldOfRegister_16 : decode cX10_fieldOfRegister 16 = .ok (.getfield 26, 3) := by decide +kernel
theorem dX10_fieldOfRegister_19 : decode cX10_fieldOfRegister 19 = .ok (.invokevirtual 271, 3) := by decide +kernel
theorem dX10_fieldOfRegister_22 : decode cX10_fieldOfRegister 22 = .ok (.invokevirtual 111, 3) := by decide +kernel
theorem dX10_fieldOfRegister_25 : decode cX10_fieldOfRegister 25 = .ok (.goto 4, 3) := by decide +kernel
theorem dX10_fieldOfRegister_28 : decode cX10_fieldOfRegister 28 = .ok (.aconst_null, 1) := by decide +kernel
theorem dX10_fieldOfRegister_29 : decode cX10_fieldOfRegister 29 = .ok (.areturn, 1) := by decide +kernel
theorem dX10_keep_0 : decode cX10_keep 0 = .ok (.aload_n 2, 1) := by decide +kernel
theorem dX10_keep_1 : decode cX10_keep 1 = .ok (.invokestatic 328, 3) := by decide +kernel
theorem dX10_keep_4 : decode cX10_keep 4 = .ok (.ifCond .eq 10, 3) := by decide +kernel
theorem dX10_keep_7 : decode cX10_keep 7 = .ok (.aload_n 0, 1) := by decide +kernel
theorem dX10_keep_8 : decode cX10_keep 8 = .ok (.bipush 7, 2) := by decide +kernel
theorem dX10_keep_10 : decode cX10_keep 10 = .ok (.invokevirtual 251, 3) := by decide +kernel
theorem dX10_keep_13 : decode cX10_keep 13 = .ok (.ireturn, 1) := by decide +kernel
theorem dX10_keep_14 : decode cX10_keep 14 = .ok (.aload_n 0, 1) := by decide +kernel
theorem dX10_keep_15 : decode cX10_keep 15 = .ok (.getfield 26, 3) := by decide +kernel
theorem dX10_keep_18 : decode cX10_keep 18 = .ok (.invokevirtual 254, 3) := by decide +kernel
theorem dX10_keep_21 : decode cX10_keep 21 = .ok (.aload_n 0, 1) := by decide +kernel
theorem dX10_keep_22 : decode cX10_keep 22 = .ok (.getfield 26, 3) := by decide +kernel
theorem dX10_keep_25 : decode cX10_keep 25 = .ok (.iload_n 1, 1) := by decide +kernel
theorem dX10_keep_26 : decode cX10_keep 26 = .ok (.aload_n 2, 1) := by decide +kernel
theorem dX10_keep_27 : decode cX10_keep 27 = .ok (.invokevirtual 331, 3) := by decide +kernel
theorem dX10_keep_30 : decode cX10_keep 30 = .ok (.aload_n 0, 1) := by decide +kernel
theorem dX10_keep_31 : decode cX10_keep 31 = .ok (.invokevirtual 260, 3) := by decide +kernel
theorem dX10_keep_34 : decode cX10_keep 34 = .ok (.ireturn, 1) := by decide +kernel
theorem dX10_multiplyTurns_0 : decode cX10_multiplyTurns 0 = .ok (.aload_n 1, 1) := by decide +kernel
theorem dX10_multiplyTurns_1 : decode cX10_multiplyTurns 1 = .ok (.invokevirtual 120, 3) := by decide +kernel
theorem dX10_multiplyTurns_4 : decode cX10_multiplyTurns 4 = .ok (.istore_n 2, 1) := by decide +kernel
theorem dX10_multiplyTurns_5 : decode cX10_multiplyTurns 5 = .ok (.aload_n 0, 1) := by decide +kernel
theorem dX10_multiplyTurns_6 : decode cX10_multiplyTurns 6 = .ok (.getfield 44, 3) := by decide +kernel
theorem dX10_multiplyTurns_9 : decode cX10_multiplyTurns 9 = .ok (.lconst 1, 1) := by decide +kernel
theorem dX10_multiplyTurns_10 : decode cX10_multiplyTurns 10 = .ok (.invokestatic 334, 3) := by decide +kernel
theorem dX10_multiplyTurns_13 : decode cX10_multiplyTurns 13 = .ok (.iconst 1, 1) := by decide +kernel
theorem dX10_multiplyTurns_14 : decode cX10_multiplyTurns 14 = .ok (.istore_n 3, 1) := by decide +kernel
theorem dX10_multiplyTurns_15 : decode cX10_multiplyTurns 15 = .ok (.iload_n 3, 1) := by decide +kernel
theorem dX10_multiplyTurns_16 : decode cX10_multiplyTurns 16 = .ok (.iload_n 2, 1) := by decide +kernel
theorem dX10_multiplyTurns_17 : decode cX10_multiplyTurns 17 = .ok (.if_icmp .ge 76, 3) := by decide +kernel
theorem dX10_multiplyTurns_20 : decode cX10_multiplyTurns 20 = .ok (.aload_n 1, 1) := by decide +kernel
theorem dX10_multiplyTurns_21 : decode cX10_multiplyTurns 21 = .ok (.iload_n 3, 1) := by decide +kernel
theorem dX10_multiplyTurns_22 : decode cX10_multiplyTurns 22 = .ok (.invokevirtual 178, 3) := by decide +kernel
theorem dX10_multiplyTurns_25 : decode cX10_multiplyTurns 25 = .ok (.ifCond .eq 62, 3) := by decide +kernel
theorem dX10_multiplyTurns_28 : decode cX10_multiplyTurns 28 = .ok (.aload_n 0, 1) := by decide +kernel
theorem dX10_multiplyTurns_29 : decode cX10_multiplyTurns 29 = .ok (.getfield 19, 3) := by decide +kernel
theorem dX10_multiplyTurns_32 : decode cX10_multiplyTurns 32 = .ok (.aload_n 0, 1) := by decide +kernel
theorem dX10_multiplyTurns_33 : decode cX10_multiplyTurns 33 = .ok (.getfield 37, 3) := by decide +kernel
theorem dX10_multiplyTurns_36 : decode cX10_multiplyTurns 36 = .ok (.iload_n 3, 1) := by decide +kernel
theorem dX10_multiplyTurns_37 : decode cX10_multiplyTurns 37 = .ok (.aload_n 0, 1) := by decide +kernel
theorem dX10_multiplyTurns_38 : decode cX10_multiplyTurns 38 = .ok (.getfield 41, 3) := by decide +kernel
theorem dX10_multiplyTurns_41 : decode cX10_multiplyTurns 41 = .ok (.iload_n 2, 1) := by decide +kernel
theorem dX10_multiplyTurns_42 : decode cX10_multiplyTurns 42 = .ok (.invokevirtual 158, 3) := by decide +kernel
theorem dX10_multiplyTurns_45 : decode cX10_multiplyTurns 45 = .ok (.aload_n 0, 1) := by decide +kernel
theorem dX10_multiplyTurns_46 : decode cX10_multiplyTurns 46 = .ok (.getfield 19, 3) := by decide +kernel
theorem dX10_multiplyTurns_49 : decode cX10_multiplyTurns 49 = .ok (.aload_n 0, 1) := by decide +kernel
theorem dX10_multiplyTurns_50 : decode cX10_multiplyTurns 50 = .ok (.getfield 44, 3) := by decide +kernel
theorem dX10_multiplyTurns_53 : decode cX10_multiplyTurns 53 = .ok (.aload_n 0, 1) := by decide +kernel
theorem dX10_multiplyTurns_54 : decode cX10_multiplyTurns 54 = .ok (.getfield 41, 3) := by decide +kernel
theorem dX10_multiplyTurns_57 : decode cX10_multiplyTurns 57 = .ok (.aload_n 0, 1) := by decide +kernel
theorem dX10_multiplyTurns_58 : decode cX10_multiplyTurns 58 = .ok (.getfield 44, 3) := by decide +kernel
theorem dX10_multiplyTurns_61 : decode cX10_multiplyTurns 61 = .ok (.iload_n 2, 1) := by decide +kernel
theorem dX10_multiplyTurns_62 : decode cX10_multiplyTurns 62 = .ok (.invokevirtual 162, 3) := by decide +kernel
theorem dX10_multiplyTurns_65 : decode cX10_multiplyTurns 65 = .ok (.aload_n 0, 1) := by decide +kernel
theorem dX10_multiplyTurns_66 : decode cX10_multiplyTurns 66 = .ok (.getfield 41, 3) := by decide +kernel
theorem dX10_multiplyTurns_69 : decode cX10_multiplyTurns 69 = .ok (.invokestatic 328, 3) := by decide +kernel
theorem dX10_multiplyTurns_72 : decode cX10_multiplyTurns 72 = .ok (.ifCond .ne 13, 3) := by decide +kernel
theorem dX10_multiplyTurns_75 : decode cX10_multiplyTurns 75 = .ok (.aload_n 0, 1) := by decide +kernel
theorem dX10_multiplyTurns_76 : decode cX10_multiplyTurns 76 = .ok (.getfield 44, 3) := by decide +kernel
theorem dX10_multiplyTurns_79 : decode cX10_multiplyTurns 79 = .ok (.invokestatic 328, 3) := by decide +kernel
theorem dX10_multiplyTurns_82 : decode cX10_multiplyTurns 82 = .ok (.ifCond .eq 5, 3) := by decide +kernel
theorem dX10_multiplyTurns_85 : decode cX10_multiplyTurns 85 = .ok (.iconst 0, 1) := by decide +kernel
theorem dX10_multiplyTurns_86 : decode cX10_multiplyTurns 86 = .ok (.ireturn, 1) := by decide +kernel
theorem dX10_multiplyTurns_87 : decode cX10_multiplyTurns 87 = .ok (.iinc 3 1, 3) := by decide +kernel
theorem dX10_multiplyTurns_90 : decode cX10_multiplyTurns 90 = .ok (.goto (-75), 3) := by decide +kernel
theorem dX10_multiplyTurns_93 : decode cX10_multiplyTurns 93 = .ok (.iconst 1, 1) := by decide +kernel
theorem dX10_multiplyTurns_94 : decode cX10_multiplyTurns 94 = .ok (.ireturn, 1) := by decide +kernel
theorem dX11_init_0 : decode cX11_init 0 = .ok (.aload_n 0, 1) := by decide +kernel
theorem dX11_init_1 : decode cX11_init 1 = .ok (.invokespecial 3, 3) := by decide +kernel
theorem dX11_init_4 : decode cX11_init 4 = .ok (.aload_n 0, 1) := by decide +kernel
theorem dX11_init_5 : decode cX11_init 5 = .ok (.iconst 4, 1) := by decide +kernel
theorem dX11_init_6 : decode cX11_init 6 = .ok (.anewarray 9, 3) := by decide +kernel
theorem dX11_init_9 : decode cX11_init 9 = .ok (.putfield 11, 3) := by decide +kernel
theorem dX11_init_12 : decode cX11_init 12 = .ok (.aload_n 0, 1) := by decide +kernel
theorem dX11_init_13 : decode cX11_init 13 = .ok (.iconst 4, 1) := by decide +kernel
theorem dX11_init_14 : decode cX11_init 14 = .ok (.newarray .int, 2) := by decide +kernel
theorem dX11_init_16 : decode cX11_init 16 = .ok (.putfield 17, 3) := by decide +kernel
theorem dX11_init_19 : decode cX11_init 19 = .ok (.aload_n 0, 1) := by decide +kernel
theorem dX11_init_20 : decode cX11_init 20 = .ok (.iconst 4, 1) := by decide +kernel
theorem dX11_init_21 : decode cX11_init 21 = .ok (.newarray .int, 2) := by decide +kernel
theorem dX11_init_23 : decode cX11_init 23 = .ok (.putfield 21, 3) := by decide +kernel
theorem dX11_init_26 : decode cX11_init 26 = .ok (.aload_n 0, 1) := by decide +kernel
theorem dX11_init_27 : decode cX11_init 27 = .ok (.iconst 4, 1) := by decide +kernel
theorem dX11_init_28 : decode cX11_init 28 = .ok (.newarray .int, 2) := by decide +kernel
theorem dX11_init_30 : decode cX11_init 30 = .ok (.putfield 24, 3) := by decide +kernel
theorem dX11_init_33 : decode cX11_init 33 = .ok (.aload_n 0, 1) := by decide +kernel
theorem dX11_init_34 : decode cX11_init 34 = .ok (.bipush 12, 2) := by decide +kernel
theorem dX11_init_36 : decode cX11_init 36 = .ok (.newarray .int, 2) := by decide +kernel
theorem dX11_init_38 : decode cX11_init 38 = .ok (.putfield 27, 3) := by decide +kernel
theorem dX11_init_41 : decode cX11_init 41 = .ok (.aload_n 0, 1) := by decide +kernel
theorem dX11_init_42 : decode cX11_init 42 = .ok (.bipush 12, 2) := by decide +kernel
theorem dX11_init_44 : decode cX11_init 44 = .ok (.newarray .int, 2) := by decide +kernel
theorem dX11_init_46 : decode cX11_init 46 = .ok (.putfield 30, 3) := by decide +kernel
theorem dX11_init_49 : decode cX11_init 49 = .ok (.aload_n 0, 1) := by decide +kernel
theorem dX11_init_50 : decode cX11_init 50 = .ok (.bipush 8, 2) := by decide +kernel
theorem dX11_init_52 : decode cX11_init 52 = .ok (.newarray .int, 2) := by decide +kernel
theorem dX11_init_54 : decode cX11_init 54 = .ok (.putfield 33, 3) := by decide +kernel
theorem dX11_init_57 : decode cX11_init 57 = .ok (.aload_n 0, 1) := by decide +kernel
theorem dX11_init_58 : decode cX11_init 58 = .ok (.bipush 96, 2) := by decide +kernel
theorem dX11_init_60 : decode cX11_init 60 = .ok (.newarray .long, 2) := by decide +kernel
theorem dX11_init_62 : decode cX11_init 62 = .ok (.putfield 36, 3) := by decide +kernel
theorem dX11_init_65 : decode cX11_init 65 = .ok (.aload_n 0, 1) := by decide +kernel
theorem dX11_init_66 : decode cX11_init 66 = .ok (.bipush 16, 2) := by decide +kernel
theorem dX11_init_68 : decode cX11_init 68 = .ok (.newarray .long, 2) := by decide +kernel
theorem dX11_init_70 : decode cX11_init 70 = .ok (.putfield 40, 3) := by decide +kernel
theorem dX11_init_73 : decode cX11_init 73 = .ok (.aload_n 0, 1) := by decide +kernel
theorem dX11_init_74 : decode cX11_init 74 = .ok (.bipush 16, 2) := by decide +kernel
theorem dX11_init_76 : decode cX11_init 76 = .ok (.newarray .int, 2) := by decide +kernel
theorem dX11_init_78 : decode cX11_init 78 = .ok (.putfield 43, 3) := by decide +kernel
theorem dX11_init_81 : decode cX11_init 81 = .ok (.aload_n 0, 1) := by decide +kernel
theorem dX11_init_82 : decode cX11_init 82 = .ok (.bipush 16, 2) := by decide +kernel
theorem dX11_init_84 : decode cX11_init 84 = .ok (.newarray .int, 2) := by decide +kernel
theorem dX11_init_86 : decode cX11_init 86 = .ok (.putfield 46, 3) := by decide +kernel
theorem dX11_init_89 : decode cX11_init 89 = .ok (.return_, 1) := by decide +kernel
theorem dX11_find_0 : decode cX11_find 0 = .ok (.iconst 0, 1) := by decide +kernel
theorem dX11_find_1 : decode cX11_find 1 = .ok (.istore_n 3, 1) := by decide +kernel
theorem dX11_find_2 : decode cX11_find 2 = .ok (.iload_n 3, 1) := by decide +kernel
theorem dX11_find_3 : decode cX11_find 3 = .ok (.aload_n 0, 1) := by decide +kernel
theorem dX11_find_4 : decode cX11_find 4 = .ok (.getfield 49, 3) := by decide +kernel
theorem dX11_find_7 : decode cX11_find 7 = .ok (.if_icmp .ge 22, 3) := by decide +kernel
theorem dX11_find_10 : decode cX11_find 10 = .ok (.aload_n 0, 1) := by decide +kernel
theorem dX11_find_11 : decode cX11_find 11 = .ok (.getfield 40, 3) := by decide +kernel
theorem dX11_find_14 : decode cX11_find 14 = .ok (.iload_n 3, 1) := by decide +kernel
theorem dX11_find_15 : decode cX11_find 15 = .ok (.laload, 1) := by decide +kernel
theorem dX11_find_16 : decode cX11_find 16 = .ok (.lload_n 1, 1) := by decide +kernel
theorem dX11_find_17 : decode cX11_find 17 = .ok (.lcmp, 1) := by decide +kernel
theorem dX11_find_18 : decode cX11_find 18 = .ok (.ifCond .ne 5, 3) := by decide +kernel
theorem dX11_find_21 : decode cX11_find 21 = .ok (.iload_n 3, 1) := by decide +kernel
theorem dX11_find_22 : decode cX11_find 22 = .ok (.ireturn, 1) := by decide +kernel
theorem dX11_find_23 : decode cX11_find 23 = .ok (.iinc 3 1, 3) := by decide +kernel
theorem dX11_find_26 : decode cX11_find 26 = .ok (.goto (-24), 3) := by decide +kernel
theorem dX11_find_29 : decode cX11_find 29 = .ok (.iconst (-1), 1) := by decide +kernel
theorem dX11_find_30 : decode cX11_find 30 = .ok (.ireturn, 1) := by decide +kernel
theorem dX12_init_0 : decode cX12_init 0 = .ok (.aload_n 0, 1) := by decide +kernel
theorem dX12_init_1 : decode cX12_init 1 = .ok (.invokespecial 3, 3) := by decide +kernel
theorem dX12_init_4 : decode cX12_init 4 = .ok (.aload_n 0, 1) := by decide +kernel
theorem dX12_init_5 : decode cX12_init 5 = .ok (.sipush 200, 3) := by decide +kernel
theorem dX12_init_8 : decode cX12_init 8 = .ok (.newarray .int, 2) := by decide +kernel
theorem dX12_init_10 : decode cX12_init 10 = .ok (.putfield 9, 3) := by decide +kernel
theorem dX12_init_13 : decode cX12_init 13 = .ok (.aload_n 0, 1) := by decide +kernel
theorem dX12_init_14 : decode cX12_init 14 = .ok (.bipush 13, 2) := by decide +kernel
theorem dX12_init_16 : decode cX12_init 16 = .ok (.newarray .long, 2) := by decide +kernel
theorem dX12_init_18 : decode cX12_init 18 = .ok (.putfield 15, 3) := by decide +kernel
theorem dX12_init_21 : decode cX12_init 21 = .ok (.aload_n 0, 1) := by decide +kernel
theorem dX12_init_22 : decode cX12_init 22 = .ok (.iload_n 1, 1) := by decide +kernel
theorem dX12_init_23 : decode cX12_init 23 = .ok (.putfield 19, 3) := by decide +kernel
theorem dX12_init_26 : decode cX12_init 26 = .ok (.aload_n 0, 1) := by decide +kernel
theorem dX12_init_27 : decode cX12_init 27 = .ok (.iload_n 2, 1) := by decide +kernel
theorem dX12_init_28 : decode cX12_init 28 = .ok (.putfield 23, 3) := by decide +kernel
theorem dX12_init_31 : decode cX12_init 31 = .ok (.iconst 1, 1) := by decide +kernel
theorem dX12_init_32 : decode cX12_init 32 = .ok (.istore_n 3, 1) := by decide +kernel
theorem dX12_init_33 : decode cX12_init 33 = .ok (.aload_n 0, 1) := by decide +kernel
theorem dX12_init_34 : decode cX12_init 34 = .ok (.iload_n 3, 1) := by decide +kernel
theorem dX12_init_35 : decode cX12_init 35 = .ok (.invokevirtual 26, 3) := by decide +kernel
theorem dX12_init_38 : decode cX12_init 38 = .ok (.ifCond .ne 9, 3) := by decide +kernel
theorem dX12_init_41 : decode cX12_init 41 = .ok (.iinc 3 1, 3) := by decide +kernel
theorem dX12_init_44 : decode cX12_init 44 = .ok (.goto (-11), 3) := by decide +kernel
theorem dX12_init_47 : decode cX12_init 47 = .ok (.aload_n 0, 1) := by decide +kernel
theorem dX12_init_48 : decode cX12_init 48 = .ok (.iload_n 3, 1) := by decide +kernel
theorem dX12_init_49 : decode cX12_init 49 = .ok (.putfield 30, 3) := by decide +kernel
theorem dX12_init_52 : decode cX12_init 52 = .ok (.iconst 1, 1) := by decide +kernel
theorem dX12_init_53 : decode cX12_init 53 = .ok (.istore 4, 2) := by decide +kernel
theorem dX12_init_55 : decode cX12_init 55 = .ok (.iconst 0, 1) := by decide +kernel
theorem dX12_init_56 : decode cX12_init 56 = .ok (.istore 5, 2) := by decide +kernel
theorem dX12_init_58 : decode cX12_init 58 = .ok (.iload 5, 2) := by decide +kernel
theorem dX12_init_60 : decode cX12_init 60 = .ok (.iload_n 1, 1) := by decide +kernel
theorem dX12_init_61 : decode cX12_init 61 = .ok (.iconst 1, 1) := by decide +kernel
theorem dX12_init_62 : decode cX12_init 62 = .ok (.isub, 1) := by decide +kernel
theorem dX12_init_63 : decode cX12_init 63 = .ok (.if_icmp .ge 26, 3) := by decide +kernel
theorem dX12_init_66 : decode cX12_init 66 = .ok (.aload_n 0, 1) := by decide +kernel
theorem dX12_init_67 : decode cX12_init 67 = .ok (.getfield 9, 3) := by decide +kernel
theorem dX12_init_70 : decode cX12_init 70 = .ok (.iload 4, 2) := by decide +kernel
theorem dX12_init_72 : decode cX12_init 72 = .ok (.iload 5, 2) := by decide +kernel
theorem dX12_init_74 : decode cX12_init 74 = .ok (.iastore, 1) := by decide +kernel
theorem dX12_init_75 : decode cX12_init 75 = .ok (.iload 4, 2) := by decide +kernel
theorem dX12_init_77 : decode cX12_init 77 = .ok (.iload_n 3, 1) := by decide +kernel
theorem dX12_init_78 : decode cX12_init 78 = .ok (.imul, 1) := by decide +kernel
theorem dX12_init_79 : decode cX12_init 79 = .ok (.iload_n 1, 1) := by decide +kernel
theorem dX12_init_80 : decode cX12_init 80 = .ok (.irem, 1) := by decide +kernel
theorem dX12_init_81 : decode cX12_init 81 = .ok (.istore 4, 2) := by decide +kernel
theorem dX12_init_83 : decode cX12_init 83 = .ok (.iinc 5 1, 3) := by decide +kernel
theorem dX12_init_86 : decode cX12_init 86 = .ok (.goto (-28), 3) := by decide +kernel
theorem dX12_init_89 : decode cX12_init 89 = .ok (.iconst 0, 1) := by decide +kernel
theorem dX12_init_90 : decode cX12_init 90 = .ok (.istore 5, 2) := by decide +kernel
theorem dX12_init_92 : decode cX12_init 92 = .ok (.iconst 1, 1) := by decide +kernel
theorem dX12_init_93 : decode cX12_init 93 = .ok (.istore 6, 2) := by decide +kernel
theorem dX12_init_95 : decode cX12_init 95 = .ok (.iload 6, 2) := by decide +kernel
theorem dX12_init_97 : decode cX12_init 97 = .ok (.iload_n 2, 1) := by decide +kernel
theorem dX12_init_98 : decode cX12_init 98 = .ok (.if_icmp .gt 29, 3) := by decide +kernel
theorem dX12_init_101 : decode cX12_init 101 = .ok (.iload 5, 2) := by decide +kernel
theorem dX12_init_103 : decode cX12_init 103 = .ok (.iload_n 2, 1) := by decide +kernel
theorem dX12_init_104 : decode cX12_init 104 = .ok (.iload 6, 2) := by decide +kernel
theorem dX12_init_106 : decode cX12_init 106 = .ok (.invokestatic 33, 3) := by decide +kernel
theorem dX12_init_109 : decode cX12_init 109 = .ok (.iconst 1, 1) := by decide +kernel
theorem dX12_init_110 : decode cX12_init 110 = .ok (.if_icmp .ne 7, 3) := by decide +kernel
theorem dX12_init_113 : decode cX12_init 113 = .ok (.iconst 1, 1) := by decide +kernel
theorem dX12_init_114 : decode cX12_init 114 = .ok (.goto 4, 3) := by decide +kernel
theorem dX12_init_117 : decode cX12_init 117 = .ok (.iconst 0, 1) := by decide +kernel
theorem dX12_init_118 : decode cX12_init 118 = .ok (.iadd, 1) := by decide +kernel
theorem dX12_init_119 : decode cX12_init 119 = .ok (.istore 5, 2) := by decide +kernel
theorem dX12_init_121 : decode cX12_init 121 = .ok (.iinc 6 1, 3) := by decide +kernel
theorem dX12_init_124 : decode cX12_init 124 = .ok (.goto (-29), 3) := by decide +kernel
theorem dX12_init_127 : decode cX12_init 127 = .ok (.aload_n 0, 1) := by decide +kernel
theorem dX12_init_128 : decode cX12_init 128 = .ok (.iload 5, 2) := by decide +kernel
theorem dX12_init_130 : decode cX12_init 130 = .ok (.putfield 37, 3) := by decide +kernel
theorem dX12_init_133 : decode cX12_init 133 = .ok (.aload_n 0, 1) := by decide +kernel
theorem dX12_init_134 : decode cX12_init 134 = .ok (.invokevirtual 40, 3) := by decide +kernel
theorem dX12_init_137 : decode cX12_init 137 = .ok (.return_, 1) := by decide +kernel
theorem dX12_isRoot_0 : decode cX12_isRoot 0 = .ok (.iload_n 1, 1) := by decide +kernel
theorem dX12_isRoot_1 : decode cX12_isRoot 1 = .ok (.aload_n 0, 1) := by decide +kernel
theorem dX12_isRoot_2 : decode cX12_isRoot 2 = .ok (.getfield 19, 3) := by decide +kernel
theorem dX12_isRoot_5 : decode cX12_isRoot 5 = .ok (.irem, 1) := by decide +kernel
theorem dX12_isRoot_6 : decode cX12_isRoot 6 = .ok (.istore_n 2, 1) := by decide +kernel
theorem dX12_isRoot_7 : decode cX12_isRoot 7 = .ok (.iconst 1, 1) := by decide +kernel
theorem dX12_isRoot_8 : decode cX12_isRoot 8 = .ok (.istore_n 3, 1) := by decide +kernel
theorem dX12_isRoot_9 : decode cX12_isRoot 9 = .ok (.iload_n 3, 1) := by decide +kernel
theorem dX12_isRoot_10 : decode cX12_isRoot 10 = .ok (.aload_n 0, 1) := by decide +kernel
theorem dX12_isRoot_11 : decode cX12_isRoot 11 = .ok (.getfield 19, 3) := by decide +kernel
theorem dX12_isRoot_14 : decode cX12_isRoot 14 = .ok (.iconst 1, 1) := by decide +kernel
theorem dX12_isRoot_15 : decode cX12_isRoot 15 = .ok (.isub, 1) := by decide +kernel
theorem dX12_isRoot_16 : decode cX12_isRoot 16 = .ok (.if_icmp .ge 25, 3) := by decide +kernel
theorem dX12_isRoot_19 : decode cX12_isRoot 19 = .ok (.iload_n 2, 1) := by decide +kernel
theorem dX12_isRoot_20 : decode cX12_isRoot 20 = .ok (.iconst 1, 1) := by decide +kernel
theorem dX12_isRoot_21 : decode cX12_isRoot 21 = .ok (.if_icmp .ne 5, 3) := by decide +kernel
theorem dX12_isRoot_24 : decode cX12_isRoot 24 = .ok (.iconst 0, 1) := by decide +kernel
theorem dX12_isRoot_25 : decode cX12_isRoot 25 = .ok (.ireturn, 1) := by decide +kernel
theorem dX12_isRoot_26 : decode cX12_isRoot 26 = .ok (.iload_n 2, 1) := by decide +kernel
theorem dX12_isRoot_27 : decode cX12_isRoot 27 = .ok (.iload_n 1, 1) := by decide +kernel
theorem dX12_isRoot_28 : decode cX12_isRoot 28 = .ok (.imul, 1) := by decide +kernel
theorem dX12_isRoot_29 : decode cX12_isRoot 29 = .ok (.aload_n 0, 1) := by decide +kernel
theorem dX12_isRoot_30 : decode cX12_isRoot 30 = .ok (.getfield 19, 3) := by decide +kernel
theorem dX12_isRoot_33 : decode cX12_isRoot 33 = .ok (.irem, 1) := by decide +kernel
theorem dX12_isRoot_34 : decode cX12_isRoot 34 = .ok (.istore_n 2, 1) := by decide +kernel
theorem dX12_isRoot_35 : decode cX12_isRoot 35 = .ok (.iinc 3 1, 3) := by decide +kernel
theorem dX12_isRoot_38 : decode cX12_isRoot 38 = .ok (.goto (-29), 3) := by decide +kernel
theorem dX12_isRoot_41 : decode cX12_isRoot 41 = .ok (.iconst 1, 1) := by decide +kernel
theorem dX12_isRoot_42 : decode cX12_isRoot 42 = .ok (.ireturn, 1) := by decide +kernel
theorem dX12_lays_0 : decode cX12_lays 0 = .ok (.aload_n 0, 1) := by decide +kernel
theorem dX12_lays_1 : decode cX12_lays 1 = .ok (.getfield 15, 3) := by decide +kernel
theorem dX12_lays_4 : decode cX12_lays 4 = .ok (.iconst 0, 1) := by decide +kernel
theorem dX12_lays_5 : decode cX12_lays 5 = .ok (.lconst 1, 1) := by decide +kernel
theorem dX12_lays_6 : decode cX12_lays 6 = .ok (.lastore, 1) := by decide +kernel
theorem dX12_lays_7 : decode cX12_lays 7 = .ok (.iconst 1, 1) := by decide +kernel
theorem dX12_lays_8 : decode cX12_lays 8 = .ok (.istore_n 1, 1) := by decide +kernel
theorem dX12_lays_9 : decode cX12_lays 9 = .ok (.iload_n 1, 1) := by decide +kernel
theorem dX12_lays_10 : decode cX12_lays 10 = .ok (.iconst (-1), 1) := by decide +kernel
theorem dX12_lays_11 : decode cX12_lays 11 = .ok (.if_icmp .lt 145, 3) := by decide +kernel
theorem dX12_lays_14 : decode cX12_lays 14 = .ok (.iconst 1, 1) := by decide +kernel
theorem dX12_lays_15 : decode cX12_lays 15 = .ok (.istore_n 2, 1) := by decide +kernel
theorem dX12_lays_16 : decode cX12_lays 16 = .ok (.iload_n 2, 1) := by decide +kernel
theorem dX12_lays_17 : decode cX12_lays 17 = .ok (.aload_n 0, 1) := by decide +kernel
theorem dX12_lays_18 : decode cX12_lays 18 = .ok (.getfield 23, 3) := by decide +kernel
theorem dX12_lays_21 : decode cX12_lays 21 = .ok (.if_icmp .gt 129, 3) := by decide +kernel
theorem dX12_lays_24 : decode cX12_lays 24 = .ok (.aload_n 0, 1) := by decide +kernel
theorem dX12_lays_25 : decode cX12_lays 25 = .ok (.getfield 23, 3) := by decide +kernel
theorem dX12_lays_28 : decode cX12_lays 28 = .ok (.iload_n 2, 1) := by decide +kernel
theorem dX12_lays_29 : decode cX12_lays 29 = .ok (.irem, 1) := by decide +kernel
theorem dX12_lays_30 : decode cX12_lays 30 = .ok (.ifCond .ne 114, 3) := by decide +kernel
theorem dX12_lays_33 : decode cX12_lays 33 = .ok (.aload_n 0, 1) := by decide +kernel
theorem dX12_lays_34 : decode cX12_lays 34 = .ok (.getfield 23, 3) := by decide +kernel
theorem dX12_lays_37 : decode cX12_lays 37 = .ok (.iload_n 2, 1) := by decide +kernel
theorem dX12_lays_38 : decode cX12_lays 38 = .ok (.idiv, 1) := by decide +kernel
theorem dX12_lays_39 : decode cX12_lays 39 = .ok (.invokestatic 43, 3) := by decide +kernel
theorem dX12_lays_42 : decode cX12_lays 42 = .ok (.iload_n 1, 1) := by decide +kernel
theorem dX12_lays_43 : decode cX12_lays 43 = .ok (.if_icmp .eq 6, 3) := by decide +kernel
theorem dX12_lays_46 : decode cX12_lays 46 = .ok (.goto 98, 3) := by decide +kernel
theorem dX12_lays_49 : decode cX12_lays 49 = .ok (.iload_n 1, 1) := by decide +kernel
theorem dX12_lays_50 : decode cX12_lays 50 = .ok (.iconst 1, 1) := by decide +kernel
theorem dX12_lays_51 : decode cX12_lays 51 = .ok (.if_icmp .ne 49, 3) := by decide +kernel
theorem dX12_lays_54 : decode cX12_lays 54 = .ok (.bipush 12, 2) := by decide +kernel
theorem dX12_lays_56 : decode cX12_lays 56 = .ok (.istore_n 3, 1) := by decide +kernel
theorem dX12_lays_57 : decode cX12_lays 57 = .ok (.iload_n 3, 1) := by decide +kernel
theorem dX12_lays_58 : decode cX12_lays 58 = .ok (.ifCond .lt 39, 3) := by decide +kernel
theorem dX12_lays_61 : decode cX12_lays 61 = .ok (.aload_n 0, 1) := by decide +kernel
theorem dX12_lays_62 : decode cX12_lays 62 = .ok (.getfield 15, 3) := by decide +kernel
theorem dX12_lays_65 : decode cX12_lays 65 = .ok (.iload_n 3, 1) := by decide +kernel
theorem dX12_lays_66 : decode cX12_lays 66 = .ok (.iload_n 3, 1) := by decide +kernel
theorem dX12_lays_67 : decode cX12_lays 67 = .ok (.iload_n 2, 1) := by decide +kernel
theorem dX12_lays_68 : decode cX12_lays 68 = .ok (.if_icmp .lt 14, 3) := by decide +kernel
theorem dX12_lays_71 : decode cX12_lays 71 = .ok (.aload_n 0, 1) := by decide +kernel
theorem dX12_lays_72 : decode cX12_lays 72 = .ok (.getfield 15, 3) := by decide +kernel
theorem dX12_lays_75 : decode cX12_lays 75 = .ok (.iload_n 3, 1) := by decide +kernel
theorem dX12_lays_76 : decode cX12_lays 76 = .ok (.iload_n 2, 1) := by decide +kernel
theorem dX12_lays_77 : decode cX12_lays 77 = .ok (.isub, 1) := by decide +kernel
theorem dX12_lays_78 : decode cX12_lays 78 = .ok (.laload, 1) := by decide +kernel
theorem dX12_lays_79 : decode cX12_lays 79 = .ok (.goto 4, 3) := by decide +kernel
theorem dX12_lays_82 : decode cX12_lays 82 = .ok (.lconst 0, 1) := by decide +kernel
theorem dX12_lays_83 : decode cX12_lays 83 = .ok (.aload_n 0, 1) := by decide +kernel
theorem dX12_lays_84 : decode cX12_lays 84 = .ok (.getfield 15, 3) := by decide +kernel
theorem dX12_lays_87 : decode cX12_lays 87 = .ok (.iload_n 3, 1) := by decide +kernel
theorem dX12_lays_88 : decode cX12_lays 88 = .ok (.laload, 1) := by decide +kernel
theorem dX12_lays_89 : decode cX12_lays 89 = .ok (.lsub, 1) := by decide +kernel
theorem dX12_lays_90 : decode cX12_lays 90 = .ok (.lastore, 1) := by decide +kernel
theorem dX12_lays_91 : decode cX12_lays 91 = .ok (.iinc 3 (-1), 3) := by decide +kernel
theorem dX12_lays_94 : decode cX12_lays 94 = .ok (.goto (-37), 3) := by decide +kernel
theorem dX12_lays_97 : decode cX12_lays 97 = .ok (.goto 47, 3) := by decide +kernel
theorem dX12_lays_100 : decode cX12_lays 100 = .ok (.iconst 0, 1) := by decide +kernel
theorem dX12_lays_101 : decode cX12_lays 101 = .ok (.istore_n 3, 1) := by decide +kernel
theorem dX12_lays_102 : decode cX12_lays 102 = .ok (.iload_n 3, 1) := by decide +kernel
theorem dX12_lays_103 : decode cX12_lays 103 = .ok (.bipush 12, 2) := by decide +kernel
theorem dX12_lays_105 : decode cX12_lays 105 = .ok (.if_icmp .gt 39, 3) := by decide +kernel
theorem dX12_lays_108 : decode cX12_lays 108 = .ok (.aload_n 0, 1) := by decide +kernel
theorem dX12_lays_109 : decode cX12_lays 109 = .ok (.getfield 15, 3) := by decide +kernel
theorem dX12_lays_112 : decode cX12_lays 112 = .ok (.iload_n 3, 1) := by decide +kernel
theorem dX12_lays_113 : decode cX12_lays 113 = .ok (.iload_n 3, 1) := by decide +kernel
theorem dX12_lays_114 : decode cX12_lays 114 = .ok (.iload_n 2, 1) := by decide +kernel
theorem dX12_lays_115 : decode cX12_lays 115 = .ok (.if_icmp .lt 14, 3) := by decide +kernel
theorem dX12_lays_118 : decode cX12_lays 118 = .ok (.aload_n 0, 1) := by decide +kernel
theorem dX12_lays_119 : decode cX12_lays 119 = .ok (.getfield 15, 3) := by decide +kernel
theorem dX12_lays_122 : decode cX12_lays 122 = .ok (.iload_n 3, 1) := by decide +kernel
theorem dX12_lays_123 : decode cX12_lays 123 = .ok (.iload_n 2, 1) := by decide +kernel
theorem dX12_lays_124 : decode cX12_lays 124 = .ok (.isub, 1) := by decide +kernel
theorem dX12_lays_125 : decode cX12_lays 125 = .ok (.laload, 1) := by decide +kernel
theorem dX12_lays_126 : decode cX12_lays 126 = .ok (.goto 4, 3) := by decide +kernel
theorem dX12_lays_129 : decode cX12_lays 129 = .ok (.lconst 0, 1) := by decide +kernel
theorem dX12_lays_130 : decode cX12_lays 130 = .ok (.aload_n 0, 1) := by decide +kernel
theorem dX12_lays_131 : decode cX12_lays 131 = .ok (.getfield 15, 3) := by decide +kernel
theorem dX12_lays_134 : decode cX12_lays 134 = .ok (.iload_n 3, 1) := by decide +kernel
theorem dX12_lays_135 : decode cX12_lays 135 = .ok (.laload, 1) := by decide +kernel
theorem dX12_lays_136 : decode cX12_lays 136 = .ok (.lsub, 1) := by decide +kernel
theorem dX12_lays_137 : decode cX12_lays 137 = .ok (.lastore, 1) := by decide +kernel
theorem dX12_lays_138 : decode cX12_lays 138 = .ok (.iinc 3 1, 3) := by decide +kernel
theorem dX12_lays_141 : decode cX12_lays 141 = .ok (.goto (-39), 3) := by decide +kernel
theorem dX12_lays_144 : decode cX12_lays 144 = .ok (.iinc 2 1, 3) := by decide +kernel
theorem dX12_lays_147 : decode cX12_lays 147 = .ok (.goto (-131), 3) := by decide +kernel
theorem dX12_lays_150 : decode cX12_lays 150 = .ok (.iinc 1 (-2), 3) := by decide +kernel
theorem dX12_lays_153 : decode cX12_lays 153 = .ok (.goto (-144), 3) := by decide +kernel
theorem dX12_lays_156 : decode cX12_lays 156 = .ok (.return_, 1) := by decide +kernel
theorem dX12_sign_0 : decode cX12_sign 0 = .ok (.iload_n 0, 1) := by decide +kernel
theorem dX12_sign_1 : decode cX12_sign 1 = .ok (.istore_n 1, 1) := by decide +kernel
theorem dX12_sign_2 : decode cX12_sign 2 = .ok (.iconst 1, 1) := by decide +kernel
theorem dX12_sign_3 : decode cX12_sign 3 = .ok (.istore_n 2, 1) := by decide +kernel
theorem dX12_sign_4 : decode cX12_sign 4 = .ok (.iconst 2, 1) := by decide +kernel
theorem dX12_sign_5 : decode cX12_sign 5 = .ok (.istore_n 3, 1) := by decide +kernel
theorem dX12_sign_6 : decode cX12_sign 6 = .ok (.iload_n 3, 1) := by decide +kernel
theorem dX12_sign_7 : decode cX12_sign 7 = .ok (.iload_n 0, 1) := by decide +kernel
theorem dX12_sign_8 : decode cX12_sign 8 = .ok (.if_icmp .gt 33, 3) := by decide +kernel
theorem dX12_sign_11 : decode cX12_sign 11 = .ok (.iload_n 1, 1) := by decide +kernel
theorem dX12_sign_12 : decode cX12_sign 12 = .ok (.iload_n 3, 1) := by decide +kernel
theorem dX12_sign_13 : decode cX12_sign 13 = .ok (.irem, 1) := by decide +kernel
theorem dX12_sign_14 : decode cX12_sign 14 = .ok (.ifCond .eq 6, 3) := by decide +kernel
theorem dX12_sign_17 : decode cX12_sign 17 = .ok (.goto 18, 3) := by decide +kernel
theorem dX12_sign_20 : decode cX12_sign 20 = .ok (.iload_n 1, 1) := by decide +kernel
theorem dX12_sign_21 : decode cX12_sign 21 = .ok (.iload_n 3, 1) := by decide +kernel
theorem dX12_sign_22 : decode cX12_sign 22 = .ok (.idiv, 1) := by decide +kernel
theorem dX12_sign_23 : decode cX12_sign 23 = .ok (.istore_n 1, 1) := by decide +kernel
theorem dX12_sign_24 : decode cX12_sign 24 = .ok (.iload_n 1, 1) := by decide +kernel
theorem dX12_sign_25 : decode cX12_sign 25 = .ok (.iload_n 3, 1) := by decide +kernel
theorem dX12_sign_26 : decode cX12_sign 26 = .ok (.irem, 1) := by decide +kernel
theorem dX12_sign_27 : decode cX12_sign 27 = .ok (.ifCond .ne 5, 3) := by decide +kernel
theorem dX12_sign_30 : decode cX12_sign 30 = .ok (.iconst 0, 1) := by decide +kernel
theorem dX12_sign_31 : decode cX12_sign 31 = .ok (.ireturn, 1) := by decide +kernel
theorem dX12_sign_32 : decode cX12_sign 32 = .ok (.iload_n 2, 1) := by decide +kernel
theorem dX12_sign_33 : decode cX12_sign 33 = .ok (.ineg, 1) := by decide +kernel
theorem dX12_sign_34 : decode cX12_sign 34 = .ok (.istore_n 2, 1) := by decide +kernel
theorem dX12_sign_35 : decode cX12_sign 35 = .ok (.iinc 3 1, 3) := by decide +kernel
theorem dX12_sign_38 : decode cX12_sign 38 = .ok (.goto (-32), 3) := by decide +kernel
theorem dX12_sign_41 : decode cX12_sign 41 = .ok (.iload_n 2, 1) := by decide +kernel
theorem dX12_sign_42 : decode cX12_sign 42 = .ok (.ireturn, 1) := by decide +kernel
theorem dX12_isUnit_0 : decode cX12_isUnit 0 = .ok (.iload_n 1, 1) := by decide +kernel
theorem dX12_isUnit_1 : decode cX12_isUnit 1 = .ok (.iconst 1, 1) := by decide +kernel
theorem dX12_isUnit_2 : decode cX12_isUnit 2 = .ok (.aload_n 0, 1) := by decide +kernel
theorem dX12_isUnit_3 : decode cX12_isUnit 3 = .ok (.getfield 23, 3) := by decide +kernel
theorem dX12_isUnit_6 : decode cX12_isUnit 6 = .ok (.iconst 1, 1) := by decide +kernel
theorem dX12_isUnit_7 : decode cX12_isUnit 7 = .ok (.isub, 1) := by decide +kernel
theorem dX12_isUnit_8 : decode cX12_isUnit 8 = .ok (.invokestatic 47, 3) := by decide +kernel
theorem dX12_isUnit_11 : decode cX12_isUnit 11 = .ok (.ifCond .eq 19, 3) := by decide +kernel
theorem dX12_isUnit_14 : decode cX12_isUnit 14 = .ok (.aload_n 0, 1) := by decide +kernel
theorem dX12_isUnit_15 : decode cX12_isUnit 15 = .ok (.getfield 23, 3) := by decide +kernel
theorem dX12_isUnit_18 : decode cX12_isUnit 18 = .ok (.iload_n 1, 1) := by decide +kernel
theorem dX12_isUnit_19 : decode cX12_isUnit 19 = .ok (.invokestatic 33, 3) := by decide +kernel
theorem dX12_isUnit_22 : decode cX12_isUnit 22 = .ok (.iconst 1, 1) := by decide +kernel
theorem dX12_isUnit_23 : decode cX12_isUnit 23 = .ok (.if_icmp .ne 7, 3) := by decide +kernel
theorem dX12_isUnit_26 : decode cX12_isUnit 26 = .ok (.iconst 1, 1) := by decide +kernel
theorem dX12_isUnit_27 : decode cX12_isUnit 27 = .ok (.goto 4, 3) := by decide +kernel
theorem dX12_isUnit_30 : decode cX12_isUnit 30 = .ok (.iconst 0, 1) := by decide +kernel
theorem dX12_isUnit_31 : decode cX12_isUnit 31 = .ok (.ireturn, 1) := by decide +kernel
theorem dX13_init_0 : decode cX13_init 0 = .ok (.aload_n 0, 1) := by decide +kernel
theorem dX13_init_1 : decode cX13_init 1 = .ok (.invokespecial 3, 3) := by decide +kernel
theorem dX13_init_4 : decode cX13_init 4 = .ok (.aload_n 0, 1) := by decide +kernel
theorem dX13_init_5 : decode cX13_init 5 = .ok (.iconst (-1), 1) := by decide +kernel
theorem dX13_init_6 : decode cX13_init 6 = .ok (.putfield 9, 3) := by decide +kernel
theorem dX13_init_9 : decode cX13_init 9 = .ok (.aload_n 0, 1) := by decide +kernel
theorem dX13_init_10 : decode cX13_init 10 = .ok (.sipush 576, 3) := by decide +kernel
theorem dX13_init_13 : decode cX13_init 13 = .ok (.newarray .long, 2) := by decide +kernel
theorem dX13_init_15 : decode cX13_init 15 = .ok (.putfield 13, 3) := by decide +kernel
theorem dX13_init_18 : decode cX13_init 18 = .ok (.aload_n 0, 1) := by decide +kernel
theorem dX13_init_19 : decode cX13_init 19 = .ok (.bipush 12, 2) := by decide +kernel
theorem dX13_init_21 : decode cX13_init 21 = .ok (.newarray .long, 2) := by decide +kernel
theorem dX13_init_23 : decode cX13_init 23 = .ok (.putfield 17, 3) := by decide +kernel
theorem dX13_init_26 : decode cX13_init 26 = .ok (.aload_n 0, 1) := by decide +kernel
theorem dX13_init_27 : decode cX13_init 27 = .ok (.sipush 900, 3) := by decide +kernel
theorem dX13_init_30 : decode cX13_init 30 = .ok (.newarray .byte, 2) := by decide +kernel
theorem dX13_init_32 : decode cX13_init 32 = .ok (.putfield 20, 3) := by decide +kernel
theorem dX13_init_35 : decode cX13_init 35 = .ok (.aload_n 0, 1) := by decide +kernel
theorem dX13_init_36 : decode cX13_init 36 = .ok (.sipush 199, 3) := by decide +kernel
theorem dX13_init_39 : decode cX13_init 39 = .ok (.newarray .int, 2) := by decide +kernel
theorem dX13_init_41 : decode cX13_init 41 = .ok (.putfield 24, 3) := by decide +kernel
theorem dX13_init_44 : decode cX13_init 44 = .ok (.aload_n 0, 1) := by decide +kernel
theorem dX13_init_45 : decode cX13_init 45 = .ok (.sipush 199, 3) := by decide +kernel
theorem dX13_init_48 : decode cX13_init 48 = .ok (.newarray .int, 2) := by decide +kernel
theorem dX13_init_50 : decode cX13_init 50 = .ok (.putfield 28, 3) := by decide +kernel
theorem dX13_init_53 : decode cX13_init 53 = .ok (.aload_n 0, 1) := by decide +kernel
theorem dX13_init_54 : decode cX13_init 54 = .ok (.sipush 199, 3) := by decide +kernel
theorem dX13_init_57 : decode cX13_init 57 = .ok (.newarray .int, 2) := by decide +kernel
theorem dX13_init_59 : decode cX13_init 59 = .ok (.putfield 31, 3) := by decide +kernel
theorem dX13_init_62 : decode cX13_init 62 = .ok (.aload_n 0, 1) := by decide +kernel
theorem dX13_init_63 : decode cX13_init 63 = .ok (.bipush 49, 2) := by decide +kernel
theorem dX13_init_65 : decode cX13_init 65 = .ok (.newarray .long, 2) := by decide +kernel
theorem dX13_init_67 : decode cX13_init 67 = .ok (.putfield 34, 3) := by decide +kernel
theorem dX13_init_70 : decode cX13_init 70 = .ok (.aload_n 0, 1) := by decide +kernel
theorem dX13_init_71 : decode cX13_init 71 = .ok (.sipush 980, 3) := by decide +kernel
theorem dX13_init_74 : decode cX13_init 74 = .ok (.newarray .long, 2) := by decide +kernel
theorem dX13_init_76 : decode cX13_init 76 = .ok (.putfield 37, 3) := by decide +kernel
theorem dX13_init_79 : decode cX13_init 79 = .ok (.aload_n 0, 1) := by decide +kernel
theorem dX13_init_80 : decode cX13_init 80 = .ok (.sipush 980, 3) := by decide +kernel
theorem dX13_init_83 : decode cX13_init 83 = .ok (.newarray .long, 2) := by decide +kernel
theorem dX13_init_85 : decode cX13_init 85 = .ok (.putfield 40, 3) := by decide +kernel
theorem dX13_init_88 : decode cX13_init 88 = .ok (.aload_n 0, 1) := by decide +kernel
theorem dX13_init_89 : decode cX13_init 89 = .ok (.sipush 196, 3) := by decide +kernel
theorem dX13_init_92 : decode cX13_init 92 = .ok (.newarray .long, 2) := by decide +kernel
theorem dX13_init_94 : decode cX13_init 94 = .ok (.putfield 43, 3) := by decide +kernel
theorem dX13_init_97 : decode cX13_init 97 = .ok (.return_, 1) := by decide +kernel
theorem dX13_thrown_0 : decode cX13_thrown 0 = .ok (.aload_n 0, 1) := by decide +kernel
theorem dX13_thrown_1 : decode cX13_thrown 1 = .ok (.getfield 46, 3) := by decide +kernel
theorem dX13_thrown_4 : decode cX13_thrown 4 = .ok (.ireturn, 1) := by decide +kernel
theorem dX13_refused_0 : decode cX13_refused 0 = .ok (.aload_n 0, 1) := by decide +kernel
theorem dX13_refused_1 : decode cX13_refused 1 = .ok (.iload_n 1, 1) := by decide +kernel
theorem dX13_refused_2 : decode cX13_refused 2 = .ok (.putfield 49, 3) := by decide +kernel
theorem dX13_refused_5 : decode cX13_refused 5 = .ok (.aload_n 0, 1) := by decide +kernel
theorem dX13_refused_6 : decode cX13_refused 6 = .ok (.iconst (-1), 1) := by decide +kernel
theorem dX13_refused_7 : decode cX13_refused 7 = .ok (.putfield 9, 3) := by decide +kernel
theorem dX13_refused_10 : decode cX13_refused 10 = .ok (.iconst (-1), 1) := by decide +kernel
theorem dX13_refused_11 : decode cX13_refused 11 = .ok (.ireturn, 1) := by decide +kernel
theorem dX13_refusedBy_0 : decode cX13_refusedBy 0 = .ok (.aload_n 0, 1) := by decide +kernel
theorem dX13_refusedBy_1 : decode cX13_refusedBy 1 = .ok (.iload_n 1, 1) := by decide +kernel
theorem dX13_refusedBy_2 : decode cX13_refusedBy 2 = .ok (.invokevirtual 52, 3) := by decide +kernel
theorem dX13_refusedBy_5 : decode cX13_refusedBy 5 = .ok (.pop, 1) := by decide +kernel
theorem dX13_refusedBy_6 : decode cX13_refusedBy 6 = .ok (.iload_n 2, 1) := by decide +kernel
theorem dX13_refusedBy_7 : decode cX13_refusedBy 7 = .ok (.ireturn, 1) := by decide +kernel
theorem dX13_denied_0 : decode cX13_denied 0 = .ok (.aload_n 0, 1) := by decide +kernel
theorem dX13_denied_1 : decode cX13_denied 1 = .ok (.iload_n 1, 1) := by decide +kernel
theorem dX13_denied_2 : decode cX13_denied 2 = .ok (.invokevirtual 52, 3) := by decide +kernel
theorem dX13_denied_5 : decode cX13_denied 5 = .ok (.pop, 1) := by decide +kernel
theorem dX13_denied_6 : decode cX13_denied 6 = .ok (.iconst 0, 1) := by decide +kernel
theorem dX13_denied_7 : decode cX13_denied 7 = .ok (.ireturn, 1) := by decide +kernel
theorem dX13_good_0 : decode cX13_good 0 = .ok (.aload_n 0, 1) := by decide +kernel
theorem dX13_good_1 : decode cX13_good 1 = .ok (.iconst 0, 1) := by decide +kernel
theorem dX13_good_2 : decode cX13_good 2 = .ok (.putfield 49, 3) := by decide +kernel
theorem dX13_good_5 : decode cX13_good 5 = .ok (.aload_n 0, 1) := by decide +kernel
theorem dX13_good_6 : decode cX13_good 6 = .ok (.iconst (-1), 1) := by decide +kernel
theorem dX13_good_7 : decode cX13_good 7 = .ok (.putfield 9, 3) := by decide +kernel
theorem dX13_good_10 : decode cX13_good 10 = .ok (.iload_n 1, 1) := by decide +kernel
theorem dX13_good_11 : decode cX13_good 11 = .ok (.ireturn, 1) := by decide +kernel
theorem dX13_goodLong_0 : decode cX13_goodLong 0 = .ok (.aload_n 0, 1) := by decide +kernel
theorem dX13_goodLong_1 : decode cX13_goodLong 1 = .ok (.iconst 0, 1) := by decide +kernel
theorem dX13_goodLong_2 : decode cX13_goodLong 2 = .ok (.invokevirtual 56, 3) := by decide +kernel
theorem dX13_goodLong_5 : decode cX13_goodLong 5 = .ok (.pop, 1) := by decide +kernel
theorem dX13_goodLong_6 : decode cX13_goodLong 6 = .ok (.lload_n 1, 1) := by decide +kernel
theorem dX13_goodLong_7 : decode cX13_goodLong 7 = .ok (.lreturn, 1) := by decide +kernel
theorem dX13_granted_0 : decode cX13_granted 0 = .ok (.aload_n 0, 1) := by decide +kernel
theorem dX13_granted_1 : decode cX13_granted 1 = .ok (.iconst 0, 1) := by decide +kernel
theorem dX13_granted_2 : decode cX13_granted 2 = .ok (.invokevirtual 56, 3) := by decide +kernel
theorem dX13_granted_5 : decode cX13_granted 5 = .ok (.pop, 1) := by decide +kernel
theorem dX13_granted_6 : decode cX13_granted 6 = .ok (.iconst 1, 1) := by decide +kernel
theorem dX13_granted_7 : decode cX13_granted 7 = .ok (.ireturn, 1) := by decide +kernel
theorem dX13_in_0 : decode cX13_in 0 = .ok (.iload_n 0, 1) := by decide +kernel
theorem dX13_in_1 : decode cX13_in 1 = .ok (.iload_n 1, 1) := by decide +kernel
theorem dX13_in_2 : decode cX13_in 2 = .ok (.if_icmp .lt 12, 3) := by decide +kernel
theorem dX13_in_5 : decode cX13_in 5 = .ok (.iload_n 0, 1) := by decide +kernel
theorem dX13_in_6 : decode cX13_in 6 = .ok (.iload_n 2, 1) := by decide +kernel
theorem dX13_in_7 : decode cX13_in 7 = .ok (.if_icmp .gt 7, 3) := by decide +kernel
theorem dX13_in_10 : decode cX13_in 10 = .ok (.iconst 1, 1) := by decide +kernel
theorem dX13_in_11 : decode cX13_in 11 = .ok (.goto 4, 3) := by decide +kernel
theorem dX13_in_14 : decode cX13_in 14 = .ok (.iconst 0, 1) := by decide +kernel
theorem dX13_in_15 : decode cX13_in 15 = .ok (.ireturn, 1) := by decide +kernel
theorem dX13_isPrime_0 : decode cX13_isPrime 0 = .ok (.iconst 2, 1) := by decide +kernel
theorem dX13_isPrime_1 : decode cX13_isPrime 1 = .ok (.istore_n 1, 1) := by decide +kernel
theorem dX13_isPrime_2 : decode cX13_isPrime 2 = .ok (.iload_n 1, 1) := by decide +kernel
theorem dX13_isPrime_3 : decode cX13_isPrime 3 = .ok (.iload_n 1, 1) := by decide +kernel
theorem dX13_isPrime_4 : decode cX13_isPrime 4 = .ok (.imul, 1) := by decide +kernel
theorem dX13_isPrime_5 : decode cX13_isPrime 5 = .ok (.iload_n 0, 1) := by decide +kernel
theorem dX13_isPrime_6 : decode cX13_isPrime 6 = .ok (.if_icmp .gt 17, 3) := by decide +kernel
theorem dX13_isPrime_9 : decode cX13_isPrime 9 = .ok (.iload_n 0, 1) := by decide +kernel
theorem dX13_isPrime_10 : decode cX13_isPrime 10 = .ok (.iload_n 1, 1) := by decide +kernel
theorem dX13_isPrime_11 : decode cX13_isPrime 11 = .ok (.irem, 1) := by decide +kernel
theorem dX13_isPrime_12 : decode cX13_isPrime 12 = .ok (.ifCond .ne 5, 3) := by decide +kernel
theorem dX13_isPrime_15 : decode cX13_isPrime 15 = .ok (.iconst 0, 1) := by decide +kernel
theorem dX13_isPrime_16 : decode cX13_isPrime 16 = .ok (.ireturn, 1) := by decide +kernel
theorem dX13_isPrime_17 : decode cX13_isPrime 17 = .ok (.iinc 1 1, 3) := by decide +kernel
theorem dX13_isPrime_20 : decode cX13_isPrime 20 = .ok (.goto (-18), 3) := by decide +kernel
theorem dX13_isPrime_23 : decode cX13_isPrime 23 = .ok (.iload_n 0, 1) := by decide +kernel
theorem dX13_isPrime_24 : decode cX13_isPrime 24 = .ok (.iconst 1, 1) := by decide +kernel
theorem dX13_isPrime_25 : decode cX13_isPrime 25 = .ok (.if_icmp .le 7, 3) := by decide +kernel
theorem dX13_isPrime_28 : decode cX13_isPrime 28 = .ok (.iconst 1, 1) := by decide +kernel
theorem dX13_isPrime_29 : decode cX13_isPrime 29 = .ok (.goto 4, 3) := by decide +kernel
theorem dX13_isPrime_32 : decode cX13_isPrime 32 = .ok (.iconst 0, 1) := by decide +kernel
theorem dX13_isPrime_33 : decode cX13_isPrime 33 = .ok (.ireturn, 1) := by decide +kernel
theorem dX13_divisor_0 : decode cX13_divisor 0 = .ok (.iload_n 0, 1) := by decide +kernel
theorem dX13_divisor_1 : decode cX13_divisor 1 = .ok (.istore_n 2, 1) := by decide +kernel
theorem dX13_divisor_2 : decode cX13_divisor 2 = .ok (.iload_n 1, 1) := by decide +kernel
theorem dX13_divisor_3 : decode cX13_divisor 3 = .ok (.istore_n 3, 1) := by decide +kernel
theorem dX13_divisor_4 : decode cX13_divisor 4 = .ok (.iload_n 3, 1) := by decide +kernel
theorem dX13_divisor_5 : decode cX13_divisor 5 = .ok (.ifCond .eq 16, 3) := by decide +kernel
theorem dX13_divisor_8 : decode cX13_divisor 8 = .ok (.iload_n 2, 1) := by decide +kernel
theorem dX13_divisor_9 : decode cX13_divisor 9 = .ok (.iload_n 3, 1) := by decide +kernel
theorem dX13_divisor_10 : decode cX13_divisor 10 = .ok (.irem, 1) := by decide +kernel
theorem dX13_divisor_11 : decode cX13_divisor 11 = .ok (.istore 4, 2) := by decide +kernel
theorem dX13_divisor_13 : decode cX13_divisor 13 = .ok (.iload_n 3, 1) := by decide +kernel
theorem dX13_divisor_14 : decode cX13_divisor 14 = .ok (.istore_n 2, 1) := by decide +kernel
theorem dX13_divisor_15 : decode cX13_divisor 15 = .ok (.iload 4, 2) := by decide +kernel
theorem dX13_divisor_17 : decode cX13_divisor 17 = .ok (.istore_n 3, 1) := by decide +kernel
theorem dX13_divisor_18 : decode cX13_divisor 18 = .ok (.goto (-14), 3) := by decide +kernel
theorem dX13_divisor_21 : decode cX13_divisor 21 = .ok (.iload_n 2, 1) := by decide +kernel
theorem dX13_divisor_22 : decode cX13_divisor 22 = .ok (.ireturn, 1) := by decide +kernel
theorem dX13_raised_0 : decode cX13_raised 0 = .ok (.iconst 1, 1) := by decide +kernel
theorem dX13_raised_1 : decode cX13_raised 1 = .ok (.istore_n 3, 1) := by decide +kernel
theorem dX13_raised_2 : decode cX13_raised 2 = .ok (.iconst 0, 1) := by decide +kernel
theorem dX13_raised_3 : decode cX13_raised 3 = .ok (.istore 4, 2) := by decide +kernel
theorem dX13_raised_5 : decode cX13_raised 5 = .ok (.iload 4, 2) := by decide +kernel
theorem dX13_raised_7 : decode cX13_raised 7 = .ok (.iload_n 1, 1) := by decide +kernel
theorem dX13_raised_8 : decode cX13_raised 8 = .ok (.if_icmp .ge 15, 3) := by decide +kernel
theorem dX13_raised_11 : decode cX13_raised 11 = .ok (.iload_n 3, 1) := by decide +kernel
theorem dX13_raised_12 : decode cX13_raised 12 = .ok (.iload_n 0, 1) := by decide +kernel
theorem dX13_raised_13 : decode cX13_raised 13 = .ok (.imul, 1) := by decide +kernel
theorem dX13_raised_14 : decode cX13_raised 14 = .ok (.iload_n 2, 1) := by decide +kernel
theorem dX13_raised_15 : decode cX13_raised 15 = .ok (.irem, 1) := by decide +kernel
theorem dX13_raised_16 : decode cX13_raised 16 = .ok (.istore_n 3, 1) := by decide +kernel
theorem dX13_raised_17 : decode cX13_raised 17 = .ok (.iinc 4 1, 3) := by decide +kernel
theorem dX13_raised_20 : decode cX13_raised 20 = .ok (.goto (-15), 3) := by decide +kernel
theorem dX13_raised_23 : decode cX13_raised 23 = .ok (.iload_n 3, 1) := by decide +kernel
theorem dX13_raised_24 : decode cX13_raised 24 = .ok (.ireturn, 1) := by decide +kernel
theorem dX13_settles_0 : decode cX13_settles 0 = .ok (.aload_n 1, 1) := by decide +kernel
theorem dX13_settles_1 : decode cX13_settles 1 = .ok (.getfield 59, 3) := by decide +kernel
theorem dX13_settles_4 : decode cX13_settles 4 = .ok (.iconst 1, 1) := by decide +kernel
theorem dX13_settles_5 : decode cX13_settles 5 = .ok (.isub, 1) := by decide +kernel
theorem dX13_settles_6 : decode cX13_settles 6 = .ok (.istore_n 3, 1) := by decide +kernel
theorem dX13_settles_7 : decode cX13_settles 7 = .ok (.iload_n 3, 1) := by decide +kernel
theorem dX13_settles_8 : decode cX13_settles 8 = .ok (.aload_n 1, 1) := by decide +kernel
theorem dX13_settles_9 : decode cX13_settles 9 = .ok (.getfield 64, 3) := by decide +kernel
theorem dX13_settles_12 : decode cX13_settles 12 = .ok (.if_icmp .lt 86, 3) := by decide +kernel
theorem dX13_settles_15 : decode cX13_settles 15 = .ok (.aload_n 0, 1) := by decide +kernel
theorem dX13_settles_16 : decode cX13_settles 16 = .ok (.getfield 17, 3) := by decide +kernel
theorem dX13_settles_19 : decode cX13_settles 19 = .ok (.iload_n 3, 1) := by decide +kernel
theorem dX13_settles_20 : decode cX13_settles 20 = .ok (.laload, 1) := by decide +kernel
theorem dX13_settles_21 : decode cX13_settles 21 = .ok (.lstore 4, 2) := by decide +kernel
theorem dX13_settles_23 : decode cX13_settles 23 = .ok (.lload 4, 2) := by decide +kernel
theorem dX13_settles_25 : decode cX13_settles 25 = .ok (.lconst 0, 1) := by decide +kernel
theorem dX13_settles_26 : decode cX13_settles 26 = .ok (.lcmp, 1) := by decide +kernel
theorem dX13_settles_27 : decode cX13_settles 27 = .ok (.ifCond .ne 6, 3) := by decide +kernel
theorem dX13_settles_30 : decode cX13_settles 30 = .ok (.goto 62, 3) := by decide +kernel
theorem dX13_settles_33 : decode cX13_settles 33 = .ok (.lload 4, 2) := by decide +kernel
theorem dX13_settles_35 : decode cX13_settles 35 = .ok (.aload_n 1, 1) := by decide +kernel
theorem dX13_settles_36 : decode cX13_settles 36 = .ok (.getfield 67, 3) := by decide +kernel
theorem dX13_settles_39 : decode cX13_settles 39 = .ok (.aload_n 1, 1) := by decide +kernel
theorem dX13_settles_40 : decode cX13_settles 40 = .ok (.getfield 64, 3) := by decide +kernel
theorem dX13_settles_43 : decode cX13_settles 43 = .ok (.laload, 1) := by decide +kernel
theorem dX13_settles_44 : decode cX13_settles 44 = .ok (.lmul, 1) := by decide +kernel
theorem dX13_settles_45 : decode cX13_settles 45 = .ok (.lstore 6, 2) := by decide +kernel
theorem dX13_settles_47 : decode cX13_settles 47 = .ok (.iconst 0, 1) := by decide +kernel
theorem dX13_settles_48 : decode cX13_settles 48 = .ok (.istore 8, 2) := by decide +kernel
theorem dX13_settles_50 : decode cX13_settles 50 = .ok (.iload 8, 2) := by decide +kernel
theorem dX13_settles_52 : decode cX13_settles 52 = .ok (.aload_n 1, 1) := by decide +kernel
theorem dX13_settles_53 : decode cX13_settles 53 = .ok (.getfield 64, 3) := by decide +kernel
theorem dX13_settles_56 : decode cX13_settles 56 = .ok (.if_icmp .gt 36, 3) := by decide +kernel
theorem dX13_settles_59 : decode cX13_settles 59 = .ok (.aload_n 0, 1) := by decide +kernel
theorem dX13_settles_60 : decode cX13_settles 60 = .ok (.getfield 17, 3) := by decide +kernel
theorem dX13_settles_63 : decode cX13_settles 63 = .ok (.iload_n 3, 1) := by decide +kernel
theorem dX13_settles_64 : decode cX13_settles 64 = .ok (.aload_n 1, 1) := by decide +kernel
theorem dX13_settles_65 : decode cX13_settles 65 = .ok (.getfield 64, 3) := by decide +kernel
theorem dX13_settles_68 : decode cX13_settles 68 = .ok (.isub, 1) := by decide +kernel
theorem dX13_settles_69 : decode cX13_settles 69 = .ok (.iload 8, 2) := by decide +kernel
theorem dX13_settles_71 : decode cX13_settles 71 = .ok (.iadd, 1) := by decide +kernel
theorem dX13_settles_72 : decode cX13_settles 72 = .ok (.dup2, 1) := by decide +kernel
theorem dX13_settles_73 : decode cX13_settles 73 = .ok (.laload, 1) := by decide +kernel
theorem dX13_settles_74 : decode cX13_settles 74 = .ok (.lload 6, 2) := by decide +kernel
theorem dX13_settles_76 : decode cX13_settles 76 = .ok (.aload_n 1, 1) := by decide +kernel
theorem dX13_settles_77 : decode cX13_settles 77 = .ok (.getfield 67, 3) := by decide +kernel
theorem dX13_settles_80 : decode cX13_settles 80 = .ok (.iload 8, 2) := by decide +kernel
theorem dX13_settles_82 : decode cX13_settles 82 = .ok (.laload, 1) := by decide +kernel
theorem dX13_settles_83 : decode cX13_settles 83 = .ok (.lmul, 1) := by decide +kernel
theorem dX13_settles_84 : decode cX13_settles 84 = .ok (.lsub, 1) := by decide +kernel
theorem dX13_settles_85 : decode cX13_settles 85 = .ok (.lastore, 1) := by decide +kernel
theorem dX13_settles_86 : decode cX13_settles 86 = .ok (.iinc 8 1, 3) := by decide +kernel
theorem dX13_settles_89 : decode cX13_settles 89 = .ok (.goto (-39), 3) := by decide +kernel
theorem dX13_settles_92 : decode cX13_settles 92 = .ok (.iinc 3 (-1), 3) := by decide +kernel
theorem dX13_settles_95 : decode cX13_settles 95 = .ok (.goto (-88), 3) := by decide +kernel
theorem dX13_settles_98 : decode cX13_settles 98 = .ok (.iconst 0, 1) := by decide +kernel
theorem dX13_settles_99 : decode cX13_settles 99 = .ok (.istore_n 3, 1) := by decide +kernel
theorem dX13_settles_100 : decode cX13_settles 100 = .ok (.iload_n 3, 1) := by decide +kernel
theorem dX13_settles_101 : decode cX13_settles 101 = .ok (.bipush 12, 2) := by decide +kernel
theorem dX13_settles_103 : decode cX13_settles 103 = .ok (.if_icmp .ge 38, 3) := by decide +kernel
theorem dX13_settles_106 : decode cX13_settles 106 = .ok (.aload_n 0, 1) := by decide +kernel
theorem dX13_settles_107 : decode cX13_settles 107 = .ok (.getfield 13, 3) := by decide +kernel
theorem dX13_settles_110 : decode cX13_settles 110 = .ok (.iload_n 2, 1) := by decide +kernel
theorem dX13_settles_111 : decode cX13_settles 111 = .ok (.bipush 12, 2) := by decide +kernel
theorem dX13_settles_113 : decode cX13_settles 113 = .ok (.imul, 1) := by decide +kernel
theorem dX13_settles_114 : decode cX13_settles 114 = .ok (.iload_n 3, 1) := by decide +kernel
theorem dX13_settles_115 : decode cX13_settles 115 = .ok (.iadd, 1) := by decide +kernel
theorem dX13_settles_116 : decode cX13_settles 116 = .ok (.iload_n 3, 1) := by decide +kernel
theorem dX13_settles_117 : decode cX13_settles 117 = .ok (.aload_n 1, 1) := by decide +kernel
theorem dX13_settles_118 : decode cX13_settles 118 = .ok (.getfield 64, 3) := by decide +kernel
theorem dX13_settles_121 : decode cX13_settles 121 = .ok (.if_icmp .ge 12, 3) := by decide +kernel
theorem dX13_settles_124 : decode cX13_settles 124 = .ok (.aload_n 0, 1) := by decide +kernel
theorem dX13_settles_125 : decode cX13_settles 125 = .ok (.getfield 17, 3) := by decide +kernel
theorem dX13_settles_128 : decode cX13_settles 128 = .ok (.iload_n 3, 1) := by decide +kernel
theorem dX13_settles_129 : decode cX13_settles 129 = .ok (.laload, 1) := by decide +kernel
theorem dX13_settles_130 : decode cX13_settles 130 = .ok (.goto 4, 3) := by decide +kernel
theorem dX13_settles_133 : decode cX13_settles 133 = .ok (.lconst 0, 1) := by decide +kernel
theorem dX13_settles_134 : decode cX13_settles 134 = .ok (.lastore, 1) := by decide +kernel
theorem dX13_settles_135 : decode cX13_settles 135 = .ok (.iinc 3 1, 3) := by decide +kernel
theorem dX13_settles_138 : decode cX13_settles 138 = .ok (.goto (-38), 3) := by decide +kernel
theorem dX13_settles_141 : decode cX13_settles 141 = .ok (.return_, 1) := by decide +kernel
theorem dX13_clearWide_0 : decode cX13_clearWide 0 = .ok (.iconst 0, 1) := by decide +kernel
theorem dX13_clearWide_1 : decode cX13_clearWide 1 = .ok (.istore_n 1, 1) := by decide +kernel
theorem dX13_clearWide_2 : decode cX13_clearWide 2 = .ok (.iload_n 1, 1) := by decide +kernel
theorem dX13_clearWide_3 : decode cX13_clearWide 3 = .ok (.bipush 12, 2) := by decide +kernel
theorem dX13_clearWide_5 : decode cX13_clearWide 5 = .ok (.if_icmp .ge 16, 3) := by decide +kernel
theorem dX13_clearWide_8 : decode cX13_clearWide 8 = .ok (.aload_n 0, 1) := by decide +kernel
theorem dX13_clearWide_9 : decode cX13_clearWide 9 = .ok (.getfield 17, 3) := by decide +kernel
theorem dX13_clearWide_12 : decode cX13_clearWide 12 = .ok (.iload_n 1, 1) := by decide +kernel
theorem dX13_clearWide_13 : decode cX13_clearWide 13 = .ok (.lconst 0, 1) := by decide +kernel
theorem dX13_clearWide_14 : decode cX13_clearWide 14 = .ok (.lastore, 1) := by decide +kernel
theorem dX13_clearWide_15 : decode cX13_clearWide 15 = .ok (.iinc 1 1, 3) := by decide +kernel
theorem dX13_clearWide_18 : decode cX13_clearWide 18 = .ok (.goto (-16), 3) := by decide +kernel
theorem dX13_clearWide_21 : decode cX13_clearWide 21 = .ok (.return_, 1) := by decide +kernel
theorem dX13_multiply_0 : decode cX13_multiply 0 = .ok (.aload_n 0, 1) := by decide +kernel
theorem dX13_multiply_1 : decode cX13_multiply 1 = .ok (.invokevirtual 70, 3) := by decide +kernel
theorem dX13_multiply_4 : decode cX13_multiply 4 = .ok (.iconst 0, 1) := by decide +kernel
theorem dX13_multiply_5 : decode cX13_multiply 5 = .ok (.istore 5, 2) := by decide +kernel
theorem dX13_multiply_7 : decode cX13_multiply 7 = .ok (.iload 5, 2) := by decide +kernel
theorem dX13_multiply_9 : decode cX13_multiply 9 = .ok (.aload_n 1, 1) := by decide +kernel
theorem dX13_multiply_10 : decode cX13_multiply 10 = .ok (.getfield 64, 3) := by decide +kernel
theorem dX13_multiply_13 : decode cX13_multiply 13 = .ok (.if_icmp .ge 70, 3) := by decide +kernel
theorem dX13_multiply_16 : decode cX13_multiply 16 = .ok (.iconst 0, 1) := by decide +kernel
theorem dX13_multiply_17 : decode cX13_multiply 17 = .ok (.istore 6, 2) := by decide +kernel
theorem dX13_multiply_19 : decode cX13_multiply 19 = .ok (.iload 6, 2) := by decide +kernel
theorem dX13_multiply_21 : decode cX13_multiply 21 = .ok (.aload_n 1, 1) := by decide +kernel
theorem dX13_multiply_22 : decode cX13_multiply 22 = .ok (.getfield 64, 3) := by decide +kernel
theorem dX13_multiply_25 : decode cX13_multiply 25 = .ok (.if_icmp .ge 52, 3) := by decide +kernel
theorem dX13_multiply_28 : decode cX13_multiply 28 = .ok (.aload_n 0, 1) := by decide +kernel
theorem dX13_multiply_29 : decode cX13_multiply 29 = .ok (.getfield 17, 3) := by decide +kernel
theorem dX13_multiply_32 : decode cX13_multiply 32 = .ok (.iload 5, 2) := by decide +kernel
theorem dX13_multiply_34 : decode cX13_multiply 34 = .ok (.iload 6, 2) := by decide +kernel
theorem dX13_multiply_36 : decode cX13_multiply 36 = .ok (.iadd, 1) := by decide +kernel
theorem dX13_multiply_37 : decode cX13_multiply 37 = .ok (.aload_n 1, 1) := by decide +kernel
theorem dX13_multiply_38 : decode cX13_multiply 38 = .ok (.getfield 59, 3) := by decide +kernel
theorem dX13_multiply_41 : decode cX13_multiply 41 = .ok (.irem, 1) := by decide +kernel
theorem dX13_multiply_42 : decode cX13_multiply 42 = .ok (.dup2, 1) := by decide +kernel
theorem dX13_multiply_43 : decode cX13_multiply 43 = .ok (.laload, 1) := by decide +kernel
theorem dX13_multiply_44 : decode cX13_multiply 44 = .ok (.aload_n 0, 1) := by decide +kernel
theorem dX13_multiply_45 : decode cX13_multiply 45 = .ok (.getfield 13, 3) := by decide +kernel
theorem dX13_multiply_48 : decode cX13_multiply 48 = .ok (.iload_n 2, 1) := by decide +kernel
theorem dX13_multiply_49 : decode cX13_multiply 49 = .ok (.bipush 12, 2) := by decide +kernel
theorem dX13_multiply_51 : decode cX13_multiply 51 = .ok (.imul, 1) := by decide +kernel
theorem dX13_multiply_52 : decode cX13_multiply 52 = .ok (.iload 5, 2) := by decide +kernel
theorem dX13_multiply_54 : decode cX13_multiply 54 = .ok (.iadd, 1) := by decide +kernel
theorem dX13_multiply_55 : decode cX13_multiply 55 = .ok (.laload, 1) := by decide +kernel
theorem dX13_multiply_56 : decode cX13_multiply 56 = .ok (.aload_n 0, 1) := by decide +kernel
theorem dX13_multiply_57 : decode cX13_multiply 57 = .ok (.getfield 13, 3) := by decide +kernel
theorem dX13_multiply_60 : decode cX13_multiply 60 = .ok (.iload_n 3, 1) := by decide +kernel
theorem dX13_multiply_61 : decode cX13_multiply 61 = .ok (.bipush 12, 2) := by decide +kernel
theorem dX13_multiply_63 : decode cX13_multiply 63 = .ok (.imul, 1) := by decide +kernel
theorem dX13_multiply_64 : decode cX13_multiply 64 = .ok (.iload 6, 2) := by decide +kernel
theorem dX13_multiply_66 : decode cX13_multiply 66 = .ok (.iadd, 1) := by decide +kernel
theorem dX13_multiply_67 : decode cX13_multiply 67 = .ok (.laload, 1) := by decide +kernel
theorem dX13_multiply_68 : decode cX13_multiply 68 = .ok (.lmul, 1) := by decide +kernel
theorem dX13_multiply_69 : decode cX13_multiply 69 = .ok (.ladd, 1) := by decide +kernel
theorem dX13_multiply_70 : decode cX13_multiply 70 = .ok (.lastore, 1) := by decide +kernel
theorem dX13_multiply_71 : decode cX13_multiply 71 = .ok (.iinc 6 1, 3) := by decide +kernel
theorem dX13_multiply_74 : decode cX13_multiply 74 = .ok (.goto (-55), 3) := by decide +kernel
theorem dX13_multiply_77 : decode cX13_multiply 77 = .ok (.iinc 5 1, 3) := by decide +kernel
theorem dX13_multiply_80 : decode cX13_multiply 80 = .ok (.goto (-73), 3) := by decide +kernel
theorem dX13_multiply_83 : decode cX13_multiply 83 = .ok (.aload_n 0, 1) := by decide +kernel
theorem dX13_multiply_84 : decode cX13_multiply 84 = .ok (.aload_n 1, 1) := by decide +kernel
theorem dX13_multiply_85 : decode cX13_multiply 85 = .ok (.iload 4, 2) := by decide +kernel
theorem dX13_multiply_87 : decode cX13_multiply 87 = .ok (.invokevirtual 73, 3) := by decide +kernel
theorem dX13_multiply_90 : decode cX13_multiply 90 = .ok (.return_, 1) := by decide +kernel
theorem dX13_turned_0 : decode cX13_turned 0 = .ok (.aload_n 0, 1) := by decide +kernel
theorem dX13_turned_1 : decode cX13_turned 1 = .ok (.invokevirtual 70, 3) := by decide +kernel
theorem dX13_turned_4 : decode cX13_turned 4 = .ok (.iconst 0, 1) := by decide +kernel
theorem dX13_turned_5 : decode cX13_turned 5 = .ok (.istore 5, 2) := by decide +kernel
theorem dX13_turned_7 : decode cX13_turned 7 = .ok (.iload 5, 2) := by decide +kernel
theorem dX13_turned_9 : decode cX13_turned 9 = .ok (.aload_n 1, 1) := by decide +kernel
theorem dX13_turned_10 : decode cX13_turned 10 = .ok (.getfield 64, 3) := by decide +kernel
theorem dX13_turned_13 : decode cX13_turned 13 = .ok (.if_icmp .ge 38, 3) := by decide +kernel
theorem dX13_turned_16 : decode cX13_turned 16 = .ok (.aload_n 0, 1) := by decide +kernel
theorem dX13_turned_17 : decode cX13_turned 17 = .ok (.getfield 17, 3) := by decide +kernel
theorem dX13_turned_20 : decode cX13_turned 20 = .ok (.iload 5, 2) := by decide +kernel
theorem dX13_turned_22 : decode cX13_turned 22 = .ok (.iload_n 3, 1) := by decide +kernel
theorem dX13_turned_23 : decode cX13_turned 23 = .ok (.imul, 1) := by decide +kernel
theorem dX13_turned_24 : decode cX13_turned 24 = .ok (.aload_n 1, 1) := by decide +kernel
theorem dX13_turned_25 : decode cX13_turned 25 = .ok (.getfield 59, 3) := by decide +kernel
theorem dX13_turned_28 : decode cX13_turned 28 = .ok (.irem, 1) := by decide +kernel
theorem dX13_turned_29 : decode cX13_turned 29 = .ok (.dup2, 1) := by decide +kernel
theorem dX13_turned_30 : decode cX13_turned 30 = .ok (.laload, 1) := by decide +kernel
theorem dX13_turned_31 : decode cX13_turned 31 = .ok (.aload_n 0, 1) := by decide +kernel
theorem dX13_turned_32 : decode cX13_turned 32 = .ok (.getfield 13, 3) := by decide +kernel
theorem dX13_turned_35 : decode cX13_turned 35 = .ok (.iload_n 2, 1) := by decide +kernel
theorem dX13_turned_36 : decode cX13_turned 36 = .ok (.bipush 12, 2) := by decide +kernel
theorem dX13_turned_38 : decode cX13_turned 38 = .ok (.imul, 1) := by decide +kernel
theorem dX13_turned_39 : decode cX13_turned 39 = .ok (.iload 5, 2) := by decide +kernel
theorem dX13_turned_41 : decode cX13_turned 41 = .ok (.iadd, 1) := by decide +kernel
theorem dX13_turned_42 : decode cX13_turned 42 = .ok (.laload, 1) := by decide +kernel
theorem dX13_turned_43 : decode cX13_turned 43 = .ok (.ladd, 1) := by decide +kernel
theorem dX13_turned_44 : decode cX13_turned 44 = .ok (.lastore, 1) := by decide +kernel
theorem dX13_turned_45 : decode cX13_turned 45 = .ok (.iinc 5 1, 3) := by decide +kernel
theorem dX13_turned_48 : decode cX13_turned 48 = .ok (.goto (-41), 3) := by decide +kernel
theorem dX13_turned_51 : decode cX13_turned 51 = .ok (.aload_n 0, 1) := by decide +kernel
theorem dX13_turned_52 : decode cX13_turned 52 = .ok (.aload_n 1, 1) := by decide +kernel
theorem dX13_turned_53 : decode cX13_turned 53 = .ok (.iload 4, 2) := by decide +kernel
theorem dX13_turned_55 : decode cX13_turned 55 = .ok (.invokevirtual 73, 3) := by decide +kernel
theorem dX13_turned_58 : decode cX13_turned 58 = .ok (.return_, 1) := by decide +kernel
theorem dX13_wholeRow_0 : decode cX13_wholeRow 0 = .ok (.iconst 0, 1) := by decide +kernel
theorem dX13_wholeRow_1 : decode cX13_wholeRow 1 = .ok (.istore 4, 2) := by decide +kernel
theorem dX13_wholeRow_3 : decode cX13_wholeRow 3 = .ok (.iload 4, 2) := by decide +kernel
theorem dX13_wholeRow_5 : decode cX13_wholeRow 5 = .ok (.bipush 12, 2) := by decide +kernel
theorem dX13_wholeRow_7 : decode cX13_wholeRow 7 = .ok (.if_icmp .ge 31, 3) := by decide +kernel
theorem dX13_wholeRow_10 : decode cX13_wholeRow 10 = .ok (.aload_n 0, 1) := by decide +kernel
theorem dX13_wholeRow_11 : decode cX13_wholeRow 11 = .ok (.getfield 13, 3) := by decide +kernel
theorem dX13_wholeRow_14 : decode cX13_wholeRow 14 = .ok (.iload_n 1, 1) := by decide +kernel
theorem dX13_wholeRow_15 : decode cX13_wholeRow 15 = .ok (.bipush 12, 2) := by decide +kernel
theorem dX13_wholeRow_17 : decode cX13_wholeRow 17 = .ok (.imul, 1) := by decide +kernel
theorem dX13_wholeRow_18 : decode cX13_wholeRow 18 = .ok (.iload 4, 2) := by decide +kernel
theorem dX13_wholeRow_20 : decode cX13_wholeRow 20 = .ok (.iadd, 1) := by decide +kernel
theorem dX13_wholeRow_21 : decode cX13_wholeRow 21 = .ok (.iload 4, 2) := by decide +kernel
theorem dX13_wholeRow_23 : decode cX13_wholeRow 23 = .ok (.ifCond .ne 7, 3) := by decide +kernel
theorem dX13_wholeRow_26 : decode cX13_wholeRow 26 = .ok (.lload_n 2, 1) := by decide +kernel
theorem dX13_wholeRow_27 : decode cX13_wholeRow 27 = .ok (.goto 4, 3) := by decide +kernel
theorem dX13_wholeRow_30 : decode cX13_wholeRow 30 = .ok (.lconst 0, 1) := by decide +kernel
theorem dX13_wholeRow_31 : decode cX13_wholeRow 31 = .ok (.lastore, 1) := by decide +kernel
theorem dX13_wholeRow_32 : decode cX13_wholeRow 32 = .ok (.iinc 4 1, 3) := by decide +kernel
theorem dX13_wholeRow_35 : decode cX13_wholeRow 35 = .ok (.goto (-32), 3) := by decide +kernel
theorem dX13_wholeRow_38 : decode cX13_wholeRow 38 = .ok (.return_, 1) := by decide +kernel
theorem dX13_added_0 : decode cX13_added 0 = .ok (.iconst 0, 1) := by decide +kernel
theorem dX13_added_1 : decode cX13_added 1 = .ok (.istore 5, 2) := by decide +kernel
theorem dX13_added_3 : decode cX13_added 3 = .ok (.iload 5, 2) := by decide +kernel
theorem dX13_added_5 : decode cX13_added 5 = .ok (.bipush 12, 2) := by decide +kernel
theorem dX13_added_7 : decode cX13_added 7 = .ok (.if_icmp .ge 38, 3) := by decide +kernel
theorem dX13_added_10 : decode cX13_added 10 = .ok (.aload_n 0, 1) := by decide +kernel
theorem dX13_added_11 : decode cX13_added 11 = .ok (.getfield 13, 3) := by decide +kernel
theorem dX13_added_14 : decode cX13_added 14 = .ok (.iload_n 1, 1) := by decide +kernel
theorem dX13_added_15 : decode cX13_added 15 = .ok (.bipush 12, 2) := by decide +kernel
theorem dX13_added_17 : decode cX13_added 17 = .ok (.imul, 1) := by decide +kernel
theorem dX13_added_18 : decode cX13_added 18 = .ok (.iload 5, 2) := by decide +kernel
theorem dX13_added_20 : decode cX13_added 20 = .ok (.iadd, 1) := by decide +kernel
theorem dX13_added_21 : decode cX13_added 21 = .ok (.dup2, 1) := by decide +kernel
theorem dX13_added_22 : decode cX13_added 22 = .ok (.laload, 1) := by decide +kernel
theorem dX13_added_23 : decode cX13_added 23 = .ok (.lload_n 3, 1) := by decide +kernel
theorem dX13_added_24 : decode cX13_added 24 = .ok (.aload_n 0, 1) := by decide +kernel
theorem dX13_added_25 : decode cX13_added 25 = .ok (.getfield 13, 3) := by decide +kernel
theorem dX13_added_28 : decode cX13_added 28 = .ok (.iload_n 2, 1) := by decide +kernel
theorem dX13_added_29 : decode cX13_added 29 = .ok (.bipush 12, 2) := by decide +kernel
theorem dX13_added_31 : decode cX13_added 31 = .ok (.imul, 1) := by decide +kernel
theorem dX13_added_32 : decode cX13_added 32 = .ok (.iload 5, 2) := by decide +kernel
theorem dX13_added_34 : decode cX13_added 34 = .ok (.iadd, 1) := by decide +kernel
theorem dX13_added_35 : decode cX13_added 35 = .ok (.laload, 1) := by decide +kernel
theorem dX13_added_36 : decode cX13_added 36 = .ok (.lmul, 1) := by decide +kernel
theorem dX13_added_37 : decode cX13_added 37 = .ok (.ladd, 1) := by decide +kernel
theorem dX13_added_38 : decode cX13_added 38 = .ok (.lastore, 1) := by decide +kernel
theorem dX13_added_39 : decode cX13_added 39 = .ok (.iinc 5 1, 3) := by decide +kernel
theorem dX13_added_42 : decode cX13_added 42 = .ok (.goto (-39), 3) := by decide +kernel
theorem dX13_added_45 : decode cX13_added 45 = .ok (.return_, 1) := by decide +kernel
theorem dX13_isHuge_0 : decode cX13_isHuge 0 = .ok (.iconst 0, 1) := by decide +kernel
theorem dX13_isHuge_1 : decode cX13_isHuge 1 = .ok (.istore_n 2, 1) := by decide +kernel
theorem dX13_isHuge_2 : decode cX13_isHuge 2 = .ok (.iload_n 2, 1) := by decide +kernel
theorem dX13_isHuge_3 : decode cX13_isHuge 3 = .ok (.bipush 12, 2) := by decide +kernel
theorem dX13_isHuge_5 : decode cX13_isHuge 5 = .ok (.if_icmp .ge 47, 3) := by decide +kernel
theorem dX13_isHuge_8 : decode cX13_isHuge 8 = .ok (.aload_n 0, 1) := by decide +kernel
theorem dX13_isHuge_9 : decode cX13_isHuge 9 = .ok (.getfield 13, 3) := by decide +kernel
theorem dX13_isHuge_12 : decode cX13_isHuge 12 = .ok (.iload_n 1, 1) := by decide +kernel
theorem dX13_isHuge_13 : decode cX13_isHuge 13 = .ok (.bipush 12, 2) := by decide +kernel
theorem dX13_isHuge_15 : decode cX13_isHuge 15 = .ok (.imul, 1) := by decide +kernel
theorem dX13_isHuge_16 : decode cX13_isHuge 16 = .ok (.iload_n 2, 1) := by decide +kernel
theorem dX13_isHuge_17 : decode cX13_isHuge 17 = .ok (.iadd, 1) := by decide +kernel
theorem dX13_isHuge_18 : decode cX13_isHuge 18 = .ok (.laload, 1) := by decide +kernel
theorem dX13_isHuge_19 : decode cX13_isHuge 19 = .ok (.ldc2_w 77, 3) := by decide +kernel
theorem dX13_isHuge_22 : decode cX13_isHuge 22 = .ok (.lcmp, 1) := by decide +kernel
theorem dX13_isHuge_23 : decode cX13_isHuge 23 = .ok (.ifCond .gt 21, 3) := by decide +kernel
theorem dX13_isHuge_26 : decode cX13_isHuge 26 = .ok (.aload_n 0, 1) := by decide +kernel
theorem dX13_isHuge_27 : decode cX13_isHuge 27 = .ok (.getfield 13, 3) := by decide +kernel
theorem dX13_isHuge_30 : decode cX13_isHuge 30 = .ok (.iload_n 1, 1) := by decide +kernel
theorem dX13_isHuge_31 : decode cX13_isHuge 31 = .ok (.bipush 12, 2) := by decide +kernel
theorem dX13_isHuge_33 : decode cX13_isHuge 33 = .ok (.imul, 1) := by decide +kernel
theorem dX13_isHuge_34 : decode cX13_isHuge 34 = .ok (.iload_n 2, 1) := by decide +kernel
theorem dX13_isHuge_35 : decode cX13_isHuge 35 = .ok (.iadd, 1) := by decide +kernel
theorem dX13_isHuge_36 : decode cX13_isHuge 36 = .ok (.laload, 1) := by decide +kernel
theorem dX13_isHuge_37 : decode cX13_isHuge 37 = .ok (.ldc2_w 79, 3) := by decide +kernel
theorem dX13_isHuge_40 : decode cX13_isHuge 40 = .ok (.lcmp, 1) := by decide +kernel
theorem dX13_isHuge_41 : decode cX13_isHuge 41 = .ok (.ifCond .ge 5, 3) := by decide +kernel
theorem dX13_isHuge_44 : decode cX13_isHuge 44 = .ok (.iconst 1, 1) := by decide +kernel
theorem dX13_isHuge_45 : decode cX13_isHuge 45 = .ok (.ireturn, 1) := by decide +kernel
theorem dX13_isHuge_46 : decode cX13_isHuge 46 = .ok (.iinc 2 1, 3) := by decide +kernel
theorem dX13_isHuge_49 : decode cX13_isHuge 49 = .ok (.goto (-47), 3) := by decide +kernel
theorem dX13_isHuge_52 : decode cX13_isHuge 52 = .ok (.iconst 0, 1) := by decide +kernel
theorem dX13_isHuge_53 : decode cX13_isHuge 53 = .ok (.ireturn, 1) := by decide +kernel
theorem dX13_isWhole_0 : decode cX13_isWhole 0 = .ok (.iconst 1, 1) := by decide +kernel
theorem dX13_isWhole_1 : decode cX13_isWhole 1 = .ok (.istore_n 2, 1) := by decide +kernel
theorem dX13_isWhole_2 : decode cX13_isWhole 2 = .ok (.iload_n 2, 1) := by decide +kernel
theorem dX13_isWhole_3 : decode cX13_isWhole 3 = .ok (.bipush 12, 2) := by decide +kernel
theorem dX13_isWhole_5 : decode cX13_isWhole 5 = .ok (.if_icmp .ge 27, 3) := by decide +kernel
theorem dX13_isWhole_8 : decode cX13_isWhole 8 = .ok (.aload_n 0, 1) := by decide +kernel
theorem dX13_isWhole_9 : decode cX13_isWhole 9 = .ok (.getfield 13, 3) := by decide +kernel
theorem dX13_isWhole_12 : decode cX13_isWhole 12 = .ok (.iload_n 1, 1) := by decide +kernel
theorem dX13_isWhole_13 : decode cX13_isWhole 13 = .ok (.bipush 12, 2) := by decide +kernel
theorem dX13_isWhole_15 : decode cX13_isWhole 15 = .ok (.imul, 1) := by decide +kernel
theorem dX13_isWhole_16 : decode cX13_isWhole 16 = .ok (.iload_n 2, 1) := by decide +kernel
theorem dX13_isWhole_17 : decode cX13_isWhole 17 = .ok (.iadd, 1) := by decide +kernel
theorem dX13_isWhole_18 : decode cX13_isWhole 18 = .ok (.laload, 1) := by decide +kernel
theorem dX13_isWhole_19 : decode cX13_isWhole 19 = .ok (.lconst 0, 1) := by decide +kernel
theorem dX13_isWhole_20 : decode cX13_isWhole 20 = .ok (.lcmp, 1) := by decide +kernel
theorem dX13_isWhole_21 : decode cX13_isWhole 21 = .ok (.ifCond .eq 5, 3) := by decide +kernel
theorem dX13_isWhole_24 : decode cX13_isWhole 24 = .ok (.iconst 0, 1) := by decide +kernel
theorem dX13_isWhole_25 : decode cX13_isWhole 25 = .ok (.ireturn, 1) := by decide +kernel
theorem dX13_isWhole_26 : decode cX13_isWhole 26 = .ok (.iinc 2 1, 3) := by decide +kernel
theorem dX13_isWhole_29 : decode cX13_isWhole 29 = .ok (.goto (-27), 3) := by decide +kernel
theorem dX13_isWhole_32 : decode cX13_isWhole 32 = .ok (.iconst 1, 1) := by decide +kernel
theorem dX13_isWhole_33 : decode cX13_isWhole 33 = .ok (.ireturn, 1) := by decide +kernel
theorem dX13_areAlike_0 : decode cX13_areAlike 0 = .ok (.iconst 0, 1) := by decide +kernel
theorem dX13_areAlike_1 : decode cX13_areAlike 1 = .ok (.istore_n 3, 1) := by decide +kernel
theorem dX13_areAlike_2 : decode cX13_areAlike 2 = .ok (.iload_n 3, 1) := by decide +kernel
theorem dX13_areAlike_3 : decode cX13_areAlike 3 = .ok (.bipush 12, 2) := by decide +kernel
theorem dX13_areAlike_5 : decode cX13_areAlike 5 = .ok (.if_icmp .ge 37, 3) := by decide +kernel
theorem dX13_areAlike_8 : decode cX13_areAlike 8 = .ok (.aload_n 0, 1) := by decide +kernel
theorem dX13_areAlike_9 : decode cX13_areAlike 9 = .ok (.getfield 13, 3) := by decide +kernel
theorem dX13_areAlike_12 : decode cX13_areAlike 12 = .ok (.iload_n 1, 1) := by decide +kernel
theorem dX13_areAlike_13 : decode cX13_areAlike 13 = .ok (.bipush 12, 2) := by decide +kernel
theorem dX13_areAlike_15 : decode cX13_areAlike 15 = .ok (.imul, 1) := by decide +kernel
theorem dX13_areAlike_16 : decode cX13_areAlike 16 = .ok (.iload_n 3, 1) := by decide +kernel
theorem dX13_areAlike_17 : decode cX13_areAlike 17 = .ok (.iadd, 1) := by decide +kernel
theorem dX13_areAlike_18 : decode cX13_areAlike 18 = .ok (.laload, 1) := by decide +kernel
theorem dX13_areAlike_19 : decode cX13_areAlike 19 = .ok (.aload_n 0, 1) := by decide +kernel
theorem dX13_areAlike_20 : decode cX13_areAlike 20 = .ok (.getfield 13, 3) := by decide +kernel
theorem dX13_areAlike_23 : decode cX13_areAlike 23 = .ok (.iload_n 2, 1) := by decide +kernel
theorem dX13_areAlike_24 : decode cX13_areAlike 24 = .ok (.bipush 12, 2) := by decide +kernel
theorem dX13_areAlike_26 : decode cX13_areAlike 26 = .ok (.imul, 1) := by decide +kernel
theorem dX13_areAlike_27 : decode cX13_areAlike 27 = .ok (.iload_n 3, 1) := by decide +kernel
theorem dX13_areAlike_28 : decode cX13_areAlike 28 = .ok (.iadd, 1) := by decide +kernel
theorem dX13_areAlike_29 : decode cX13_areAlike 29 = .ok (.laload, 1) := by decide +kernel
theorem dX13_areAlike_30 : decode cX13_areAlike 30 = .ok (.lcmp, 1) := by decide +kernel
theorem dX13_areAlike_31 : decode cX13_areAlike 31 = .ok (.ifCond .eq 5, 3) := by decide +kernel
theorem dX13_areAlike_34 : decode cX13_areAlike 34 = .ok (.iconst 0, 1) := by decide +kernel
theorem dX13_areAlike_35 : decode cX13_areAlike 35 = .ok (.ireturn, 1) := by decide +kernel
theorem dX13_areAlike_36 : decode cX13_areAlike 36 = .ok (.iinc 3 1, 3) := by decide +kernel
theorem dX13_areAlike_39 : decode cX13_areAlike 39 = .ok (.goto (-37), 3) := by decide +kernel
theorem dX13_areAlike_42 : decode cX13_areAlike 42 = .ok (.iconst 1, 1) := by decide +kernel
theorem dX13_areAlike_43 : decode cX13_areAlike 43 = .ok (.ireturn, 1) := by decide +kernel
theorem dX13_at_0 : decode cX13_at 0 = .ok (.iload_n 2, 1) := by decide +kernel
theorem dX13_at_1 : decode cX13_at 1 = .ok (.aload_n 0, 1) := by decide +kernel
theorem dX13_at_2 : decode cX13_at 2 = .ok (.getfield 81, 3) := by decide +kernel
theorem dX13_at_5 : decode cX13_at 5 = .ok (.irem, 1) := by decide +kernel
theorem dX13_at_6 : decode cX13_at 6 = .ok (.istore_n 3, 1) := by decide +kernel
theorem dX13_at_7 : decode cX13_at 7 = .ok (.iload_n 3, 1) := by decide +kernel
theorem dX13_at_8 : decode cX13_at 8 = .ok (.ifCond .ne 14, 3) := by decide +kernel
theorem dX13_at_11 : decode cX13_at 11 = .ok (.iload_n 1, 1) := by decide +kernel
theorem dX13_at_12 : decode cX13_at 12 = .ok (.ifCond .ne 7, 3) := by decide +kernel
theorem dX13_at_15 : decode cX13_at 15 = .ok (.iconst 0, 1) := by decide +kernel
theorem dX13_at_16 : decode cX13_at 16 = .ok (.goto 5, 3) := by decide +kernel
theorem dX13_at_19 : decode cX13_at 19 = .ok (.bipush (-2), 2) := by decide +kernel
theorem dX13_at_21 : decode cX13_at 21 = .ok (.ireturn, 1) := by decide +kernel
theorem dX13_at_22 : decode cX13_at 22 = .ok (.iload_n 1, 1) := by decide +kernel
theorem dX13_at_23 : decode cX13_at 23 = .ok (.aload_n 0, 1) := by decide +kernel
theorem dX13_at_24 : decode cX13_at 24 = .ok (.getfield 84, 3) := by decide +kernel
theorem dX13_at_27 : decode cX13_at 27 = .ok (.iload_n 3, 1) := by decide +kernel
theorem dX13_at_28 : decode cX13_at 28 = .ok (.iaload, 1) := by decide +kernel
theorem dX13_at_29 : decode cX13_at 29 = .ok (.imul, 1) := by decide +kernel
theorem dX13_at_30 : decode cX13_at 30 = .ok (.aload_n 0, 1) := by decide +kernel
theorem dX13_at_31 : decode cX13_at 31 = .ok (.getfield 59, 3) := by decide +kernel
theorem dX13_at_34 : decode cX13_at 34 = .ok (.irem, 1) := by decide +kernel
theorem dX13_at_35 : decode cX13_at 35 = .ok (.ireturn, 1) := by decide +kernel
theorem dX13_jacobiRow_0 : decode cX13_jacobiRow 0 = .ok (.aload_n 0, 1) := by decide +kernel
theorem dX13_jacobiRow_1 : decode cX13_jacobiRow 1 = .ok (.invokevirtual 70, 3) := by decide +kernel
theorem dX13_jacobiRow_4 : decode cX13_jacobiRow 4 = .ok (.iconst 0, 1) := by decide +kernel
theorem dX13_jacobiRow_5 : decode cX13_jacobiRow 5 = .ok (.istore 5, 2) := by decide +kernel
theorem dX13_jacobiRow_7 : decode cX13_jacobiRow 7 = .ok (.iload 5, 2) := by decide +kernel
theorem dX13_jacobiRow_9 : decode cX13_jacobiRow 9 = .ok (.aload_n 1, 1) := by decide +kernel
theorem dX13_jacobiRow_10 : decode cX13_jacobiRow 10 = .ok (.getfield 81, 3) := by decide +kernel
theorem dX13_jacobiRow_13 : decode cX13_jacobiRow 13 = .ok (.if_icmp .ge 67, 3) := by decide +kernel
theorem dX13_jacobiRow_16 : decode cX13_jacobiRow 16 = .ok (.aload_n 1, 1) := by decide +kernel
theorem dX13_jacobiRow_17 : decode cX13_jacobiRow 17 = .ok (.iload_n 2, 1) := by decide +kernel
theorem dX13_jacobiRow_18 : decode cX13_jacobiRow 18 = .ok (.iload 5, 2) := by decide +kernel
theorem dX13_jacobiRow_20 : decode cX13_jacobiRow 20 = .ok (.invokestatic 87, 3) := by decide +kernel
theorem dX13_jacobiRow_23 : decode cX13_jacobiRow 23 = .ok (.istore 6, 2) := by decide +kernel
theorem dX13_jacobiRow_25 : decode cX13_jacobiRow 25 = .ok (.aload_n 1, 1) := by decide +kernel
theorem dX13_jacobiRow_26 : decode cX13_jacobiRow 26 = .ok (.iload_n 3, 1) := by decide +kernel
theorem dX13_jacobiRow_27 : decode cX13_jacobiRow 27 = .ok (.aload_n 1, 1) := by decide +kernel
theorem dX13_jacobiRow_28 : decode cX13_jacobiRow 28 = .ok (.getfield 81, 3) := by decide +kernel
theorem dX13_jacobiRow_31 : decode cX13_jacobiRow 31 = .ok (.iconst 1, 1) := by decide +kernel
theorem dX13_jacobiRow_32 : decode cX13_jacobiRow 32 = .ok (.iadd, 1) := by decide +kernel
theorem dX13_jacobiRow_33 : decode cX13_jacobiRow 33 = .ok (.iload 5, 2) := by decide +kernel
theorem dX13_jacobiRow_35 : decode cX13_jacobiRow 35 = .ok (.isub, 1) := by decide +kernel
theorem dX13_jacobiRow_36 : decode cX13_jacobiRow 36 = .ok (.invokestatic 87, 3) := by decide +kernel
theorem dX13_jacobiRow_39 : decode cX13_jacobiRow 39 = .ok (.istore 7, 2) := by decide +kernel
theorem dX13_jacobiRow_41 : decode cX13_jacobiRow 41 = .ok (.iload 6, 2) := by decide +kernel
theorem dX13_jacobiRow_43 : decode cX13_jacobiRow 43 = .ok (.bipush (-2), 2) := by decide +kernel
theorem dX13_jacobiRow_45 : decode cX13_jacobiRow 45 = .ok (.if_icmp .eq 29, 3) := by decide +kernel
theorem dX13_jacobiRow_48 : decode cX13_jacobiRow 48 = .ok (.iload 7, 2) := by decide +kernel
theorem dX13_jacobiRow_50 : decode cX13_jacobiRow 50 = .ok (.bipush (-2), 2) := by decide +kernel
theorem dX13_jacobiRow_52 : decode cX13_jacobiRow 52 = .ok (.if_icmp .eq 22, 3) := by decide +kernel
theorem dX13_jacobiRow_55 : decode cX13_jacobiRow 55 = .ok (.aload_n 0, 1) := by decide +kernel
theorem dX13_jacobiRow_56 : decode cX13_jacobiRow 56 = .ok (.getfield 17, 3) := by decide +kernel
theorem dX13_jacobiRow_59 : decode cX13_jacobiRow 59 = .ok (.iload 6, 2) := by decide +kernel
theorem dX13_jacobiRow_61 : decode cX13_jacobiRow 61 = .ok (.iload 7, 2) := by decide +kernel
theorem dX13_jacobiRow_63 : decode cX13_jacobiRow 63 = .ok (.iadd, 1) := by decide +kernel
theorem dX13_jacobiRow_64 : decode cX13_jacobiRow 64 = .ok (.aload_n 1, 1) := by decide +kernel
theorem dX13_jacobiRow_65 : decode cX13_jacobiRow 65 = .ok (.getfield 59, 3) := by decide +kernel
theorem dX13_jacobiRow_68 : decode cX13_jacobiRow 68 = .ok (.irem, 1) := by decide +kernel
theorem dX13_jacobiRow_69 : decode cX13_jacobiRow 69 = .ok (.dup2, 1) := by decide +kernel
theorem dX13_jacobiRow_70 : decode cX13_jacobiRow 70 = .ok (.laload, 1) := by decide +kernel
theorem dX13_jacobiRow_71 : decode cX13_jacobiRow 71 = .ok (.lconst 1, 1) := by decide +kernel
theorem dX13_jacobiRow_72 : decode cX13_jacobiRow 72 = .ok (.ladd, 1) := by decide +kernel
theorem dX13_jacobiRow_73 : decode cX13_jacobiRow 73 = .ok (.lastore, 1) := by decide +kernel
theorem dX13_jacobiRow_74 : decode cX13_jacobiRow 74 = .ok (.iinc 5 1, 3) := by decide +kernel
theorem dX13_jacobiRow_77 : decode cX13_jacobiRow 77 = .ok (.goto (-70), 3) := by decide +kernel
theorem dX13_jacobiRow_80 : decode cX13_jacobiRow 80 = .ok (.aload_n 0, 1) := by decide +kernel
theorem dX13_jacobiRow_81 : decode cX13_jacobiRow 81 = .ok (.aload_n 1, 1) := by decide +kernel
theorem dX13_jacobiRow_82 : decode cX13_jacobiRow 82 = .ok (.iload 4, 2) := by decide +kernel
theorem dX13_jacobiRow_84 : decode cX13_jacobiRow 84 = .ok (.invokevirtual 73, 3) := by decide +kernel
theorem dX13_jacobiRow_87 : decode cX13_jacobiRow 87 = .ok (.return_, 1) := by decide +kernel
theorem dX13_partOf_0 : decode cX13_partOf 0 = .ok (.aload_n 1, 1) := by decide +kernel
theorem dX13_partOf_1 : decode cX13_partOf 1 = .ok (.getfield 91, 3) := by decide +kernel
theorem dX13_partOf_4 : decode cX13_partOf 4 = .ok (.iload_n 3, 1) := by decide +kernel
theorem dX13_partOf_5 : decode cX13_partOf 5 = .ok (.aload_n 1, 1) := by decide +kernel
theorem dX13_partOf_6 : decode cX13_partOf 6 = .ok (.getfield 81, 3) := by decide +kernel
theorem dX13_partOf_9 : decode cX13_partOf 9 = .ok (.iconst 1, 1) := by decide +kernel
theorem dX13_partOf_10 : decode cX13_partOf 10 = .ok (.isub, 1) := by decide +kernel
theorem dX13_partOf_11 : decode cX13_partOf 11 = .ok (.imul, 1) := by decide +kernel
theorem dX13_partOf_12 : decode cX13_partOf 12 = .ok (.aload_n 1, 1) := by decide +kernel
theorem dX13_partOf_13 : decode cX13_partOf 13 = .ok (.getfield 59, 3) := by decide +kernel
theorem dX13_partOf_16 : decode cX13_partOf 16 = .ok (.idiv, 1) := by decide +kernel
theorem dX13_partOf_17 : decode cX13_partOf 17 = .ok (.aload_n 1, 1) := by decide +kernel
theorem dX13_partOf_18 : decode cX13_partOf 18 = .ok (.getfield 81, 3) := by decide +kernel
theorem dX13_partOf_21 : decode cX13_partOf 21 = .ok (.invokestatic 94, 3) := by decide +kernel
theorem dX13_partOf_24 : decode cX13_partOf 24 = .ok (.istore 4, 2) := by decide +kernel
theorem dX13_partOf_26 : decode cX13_partOf 26 = .ok (.lconst 0, 1) := by decide +kernel
theorem dX13_partOf_27 : decode cX13_partOf 27 = .ok (.lstore 5, 2) := by decide +kernel
theorem dX13_partOf_29 : decode cX13_partOf 29 = .ok (.lconst 1, 1) := by decide +kernel
theorem dX13_partOf_30 : decode cX13_partOf 30 = .ok (.lstore 7, 2) := by decide +kernel
theorem dX13_partOf_32 : decode cX13_partOf 32 = .ok (.iconst 0, 1) := by decide +kernel
theorem dX13_partOf_33 : decode cX13_partOf 33 = .ok (.istore 9, 2) := by decide +kernel
theorem dX13_partOf_35 : decode cX13_partOf 35 = .ok (.iload 9, 2) := by decide +kernel
theorem dX13_partOf_37 : decode cX13_partOf 37 = .ok (.aload_n 1, 1) := by decide +kernel
theorem dX13_partOf_38 : decode cX13_partOf 38 = .ok (.getfield 64, 3) := by decide +kernel
theorem dX13_partOf_41 : decode cX13_partOf 41 = .ok (.if_icmp .ge 55, 3) := by decide +kernel
theorem dX13_partOf_44 : decode cX13_partOf 44 = .ok (.lload 5, 2) := by decide +kernel
theorem dX13_partOf_46 : decode cX13_partOf 46 = .ok (.aload_n 0, 1) := by decide +kernel
theorem dX13_partOf_47 : decode cX13_partOf 47 = .ok (.getfield 13, 3) := by decide +kernel
theorem dX13_partOf_50 : decode cX13_partOf 50 = .ok (.iload_n 2, 1) := by decide +kernel
theorem dX13_partOf_51 : decode cX13_partOf 51 = .ok (.bipush 12, 2) := by decide +kernel
theorem dX13_partOf_53 : decode cX13_partOf 53 = .ok (.imul, 1) := by decide +kernel
theorem dX13_partOf_54 : decode cX13_partOf 54 = .ok (.iload 9, 2) := by decide +kernel
theorem dX13_partOf_56 : decode cX13_partOf 56 = .ok (.iadd, 1) := by decide +kernel
theorem dX13_partOf_57 : decode cX13_partOf 57 = .ok (.laload, 1) := by decide +kernel
theorem dX13_partOf_58 : decode cX13_partOf 58 = .ok (.aload_n 1, 1) := by decide +kernel
theorem dX13_partOf_59 : decode cX13_partOf 59 = .ok (.getfield 81, 3) := by decide +kernel
theorem dX13_partOf_62 : decode cX13_partOf 62 = .ok (.i2l, 1) := by decide +kernel
theorem dX13_partOf_63 : decode cX13_partOf 63 = .ok (.lrem, 1) := by decide +kernel
theorem dX13_partOf_64 : decode cX13_partOf 64 = .ok (.lload 7, 2) := by decide +kernel
theorem dX13_partOf_66 : decode cX13_partOf 66 = .ok (.lmul, 1) := by decide +kernel
theorem dX13_partOf_67 : decode cX13_partOf 67 = .ok (.ladd, 1) := by decide +kernel
theorem dX13_partOf_68 : decode cX13_partOf 68 = .ok (.aload_n 1, 1) := by decide +kernel
theorem dX13_partOf_69 : decode cX13_partOf 69 = .ok (.getfield 81, 3) := by decide +kernel
theorem dX13_partOf_72 : decode cX13_partOf 72 = .ok (.i2l, 1) := by decide +kernel
theorem dX13_partOf_73 : decode cX13_partOf 73 = .ok (.lrem, 1) := by decide +kernel
theorem dX13_partOf_74 : decode cX13_partOf 74 = .ok (.lstore 5, 2) := by decide +kernel
theorem dX13_partOf_76 : decode cX13_partOf 76 = .ok (.lload 7, 2) := by decide +kernel
theorem dX13_partOf_78 : decode cX13_partOf 78 = .ok (.iload 4, 2) := by decide +kernel
theorem dX13_partOf_80 : decode cX13_partOf 80 = .ok (.i2l, 1) := by decide +kernel
theorem dX13_partOf_81 : decode cX13_partOf 81 = .ok (.lmul, 1) := by decide +kernel
theorem dX13_partOf_82 : decode cX13_partOf 82 = .ok (.aload_n 1, 1) := by decide +kernel
theorem dX13_partOf_83 : decode cX13_partOf 83 = .ok (.getfield 81, 3) := by decide +kernel
theorem dX13_partOf_86 : decode cX13_partOf 86 = .ok (.i2l, 1) := by decide +kernel
theorem dX13_partOf_87 : decode cX13_partOf 87 = .ok (.lrem, 1) := by decide +kernel
theorem dX13_partOf_88 : decode cX13_partOf 88 = .ok (.lstore 7, 2) := by decide +kernel
theorem dX13_partOf_90 : decode cX13_partOf 90 = .ok (.iinc 9 1, 3) := by decide +kernel
theorem dX13_partOf_93 : decode cX13_partOf 93 = .ok (.goto (-58), 3) := by decide +kernel
theorem dX13_partOf_96 : decode cX13_partOf 96 = .ok (.lload 5, 2) := by decide +kernel
theorem dX13_partOf_98 : decode cX13_partOf 98 = .ok (.aload_n 1, 1) := by decide +kernel
theorem dX13_partOf_99 : decode cX13_partOf 99 = .ok (.getfield 81, 3) := by decide +kernel
theorem dX13_partOf_102 : decode cX13_partOf 102 = .ok (.i2l, 1) := by decide +kernel
theorem dX13_partOf_103 : decode cX13_partOf 103 = .ok (.ladd, 1) := by decide +kernel
theorem dX13_partOf_104 : decode cX13_partOf 104 = .ok (.aload_n 1, 1) := by decide +kernel
theorem dX13_partOf_105 : decode cX13_partOf 105 = .ok (.getfield 81, 3) := by decide +kernel
theorem dX13_partOf_108 : decode cX13_partOf 108 = .ok (.i2l, 1) := by decide +kernel
theorem dX13_partOf_109 : decode cX13_partOf 109 = .ok (.lrem, 1) := by decide +kernel
theorem dX13_partOf_110 : decode cX13_partOf 110 = .ok (.l2i, 1) := by decide +kernel
theorem dX13_partOf_111 : decode cX13_partOf 111 = .ok (.ireturn, 1) := by decide +kernel
theorem dX13_byteAt_0 : decode cX13_byteAt 0 = .ok (.iload_n 1, 1) := by decide +kernel
theorem dX13_byteAt_1 : decode cX13_byteAt 1 = .ok (.aload_n 0, 1) := by decide +kernel
theorem dX13_byteAt_2 : decode cX13_byteAt 2 = .ok (.getfield 98, 3) := by decide +kernel
theorem dX13_byteAt_5 : decode cX13_byteAt 5 = .ok (.if_icmp .ge 16, 3) := by decide +kernel
theorem dX13_byteAt_8 : decode cX13_byteAt 8 = .ok (.aload_n 0, 1) := by decide +kernel
theorem dX13_byteAt_9 : decode cX13_byteAt 9 = .ok (.getfield 20, 3) := by decide +kernel
theorem dX13_byteAt_12 : decode cX13_byteAt 12 = .ok (.iload_n 1, 1) := by decide +kernel
theorem dX13_byteAt_13 : decode cX13_byteAt 13 = .ok (.baload, 1) := by decide +kernel
theorem dX13_byteAt_14 : decode cX13_byteAt 14 = .ok (.sipush 255, 3) := by decide +kernel
theorem dX13_byteAt_17 : decode cX13_byteAt 17 = .ok (.iand, 1) := by decide +kernel
theorem dX13_byteAt_18 : decode cX13_byteAt 18 = .ok (.goto 4, 3) := by decide +kernel
theorem dX13_byteAt_21 : decode cX13_byteAt 21 = .ok (.iconst (-1), 1) := by decide +kernel
theorem dX13_byteAt_22 : decode cX13_byteAt 22 = .ok (.ireturn, 1) := by decide +kernel
theorem dX13_isLetter_0 : decode cX13_isLetter 0 = .ok (.iload_n 0, 1) := by decide +kernel
theorem dX13_isLetter_1 : decode cX13_isLetter 1 = .ok (.bipush 97, 2) := by decide +kernel
theorem dX13_isLetter_3 : decode cX13_isLetter 3 = .ok (.if_icmp .lt 13, 3) := by decide +kernel
theorem dX13_isLetter_6 : decode cX13_isLetter 6 = .ok (.iload_n 0, 1) := by decide +kernel
theorem dX13_isLetter_7 : decode cX13_isLetter 7 = .ok (.bipush 122, 2) := by decide +kernel
theorem dX13_isLetter_9 : decode cX13_isLetter 9 = .ok (.if_icmp .gt 7, 3) := by decide +kernel
theorem dX13_isLetter_12 : decode cX13_isLetter 12 = .ok (.iconst 1, 1) := by decide +kernel
theorem dX13_isLetter_13 : decode cX13_isLetter 13 = .ok (.goto 4, 3) := by decide +kernel
theorem dX13_isLetter_16 : decode cX13_isLetter 16 = .ok (.iconst 0, 1) := by decide +kernel
theorem dX13_isLetter_17 : decode cX13_isLetter 17 = .ok (.ireturn, 1) := by decide +kernel
theorem dX13_isDigit_0 : decode cX13_isDigit 0 = .ok (.iload_n 0, 1) := by decide +kernel
theorem dX13_isDigit_1 : decode cX13_isDigit 1 = .ok (.bipush 48, 2) := by decide +kernel
theorem dX13_isDigit_3 : decode cX13_isDigit 3 = .ok (.if_icmp .lt 13, 3) := by decide +kernel
theorem dX13_isDigit_6 : decode cX13_isDigit 6 = .ok (.iload_n 0, 1) := by decide +kernel
theorem dX13_isDigit_7 : decode cX13_isDigit 7 = .ok (.bipush 57, 2) := by decide +kernel
theorem dX13_isDigit_9 : decode cX13_isDigit 9 = .ok (.if_icmp .gt 7, 3) := by decide +kernel
theorem dX13_isDigit_12 : decode cX13_isDigit 12 = .ok (.iconst 1, 1) := by decide +kernel
theorem dX13_isDigit_13 : decode cX13_isDigit 13 = .ok (.goto 4, 3) := by decide +kernel
theorem dX13_isDigit_16 : decode cX13_isDigit 16 = .ok (.iconst 0, 1) := by decide +kernel
theorem dX13_isDigit_17 : decode cX13_isDigit 17 = .ok (.ireturn, 1) := by decide +kernel
theorem dX13_wordOf_0 : decode cX13_wordOf 0 = .ok (.lconst 0, 1) := by decide +kernel
theorem dX13_wordOf_1 : decode cX13_wordOf 1 = .ok (.lstore_n 1, 1) := by decide +kernel
theorem dX13_wordOf_2 : decode cX13_wordOf 2 = .ok (.iconst 0, 1) := by decide +kernel
theorem dX13_wordOf_3 : decode cX13_wordOf 3 = .ok (.istore_n 3, 1) := by decide +kernel
theorem dX13_wordOf_4 : decode cX13_wordOf 4 = .ok (.iload_n 3, 1) := by decide +kernel
theorem dX13_wordOf_5 : decode cX13_wordOf 5 = .ok (.aload_n 0, 1) := by decide +kernel
theorem dX13_wordOf_6 : decode cX13_wordOf 6 = .ok (.invokevirtual 99, 3) := by decide +kernel
theorem dX13_wordOf_9 : decode cX13_wordOf 9 = .ok (.if_icmp .ge 27, 3) := by decide +kernel
theorem dX13_wordOf_12 : decode cX13_wordOf 12 = .ok (.ldc2_w 105, 3) := by decide +kernel
theorem dX13_wordOf_15 : decode cX13_wordOf 15 = .ok (.lload_n 1, 1) := by decide +kernel
theorem dX13_wordOf_16 : decode cX13_wordOf 16 = .ok (.lmul, 1) := by decide +kernel
theorem dX13_wordOf_17 : decode cX13_wordOf 17 = .ok (.aload_n 0, 1) := by decide +kernel
theorem dX13_wordOf_18 : decode cX13_wordOf 18 = .ok (.iload_n 3, 1) := by decide +kernel
theorem dX13_wordOf_19 : decode cX13_wordOf 19 = .ok (.invokevirtual 107, 3) := by decide +kernel
theorem dX13_wordOf_22 : decode cX13_wordOf 22 = .ok (.bipush 97, 2) := by decide +kernel
theorem dX13_wordOf_24 : decode cX13_wordOf 24 = .ok (.isub, 1) := by decide +kernel
theorem dX13_wordOf_25 : decode cX13_wordOf 25 = .ok (.iconst 1, 1) := by decide +kernel
theorem dX13_wordOf_26 : decode cX13_wordOf 26 = .ok (.iadd, 1) := by decide +kernel
theorem dX13_wordOf_27 : decode cX13_wordOf 27 = .ok (.i2l, 1) := by decide +kernel
theorem dX13_wordOf_28 : decode cX13_wordOf 28 = .ok (.ladd, 1) := by decide +kernel
theorem dX13_wordOf_29 : decode cX13_wordOf 29 = .ok (.lstore_n 1, 1) := by decide +kernel
theorem dX13_wordOf_30 : decode cX13_wordOf 30 = .ok (.iinc 3 1, 3) := by decide +kernel
theorem dX13_wordOf_33 : decode cX13_wordOf 33 = .ok (.goto (-29), 3) := by decide +kernel
theorem dX13_wordOf_36 : decode cX13_wordOf 36 = .ok (.lload_n 1, 1) := by decide +kernel
theorem dX13_wordOf_37 : decode cX13_wordOf 37 = .ok (.lreturn, 1) := by decide +kernel
theorem dX13_goesOn_0 : decode cX13_goesOn 0 = .ok (.aload_n 0, 1) := by decide +kernel
theorem dX13_goesOn_1 : decode cX13_goesOn 1 = .ok (.getfield 111, 3) := by decide +kernel
theorem dX13_goesOn_4 : decode cX13_goesOn 4 = .ok (.iconst 5, 1) := by decide +kernel
theorem dX13_goesOn_5 : decode cX13_goesOn 5 = .ok (.if_icmp .ne 4, 3) := by decide +kernel
theorem dX13_goesOn_8 : decode cX13_goesOn 8 = .ok (.return_, 1) := by decide +kernel
theorem dX13_goesOn_9 : decode cX13_goesOn 9 = .ok (.aload_n 0, 1) := by decide +kernel
theorem dX13_goesOn_10 : decode cX13_goesOn 10 = .ok (.aload_n 0, 1) := by decide +kernel
theorem dX13_goesOn_11 : decode cX13_goesOn 11 = .ok (.getfield 114, 3) := by decide +kernel
theorem dX13_goesOn_14 : decode cX13_goesOn 14 = .ok (.invokevirtual 117, 3) := by decide +kernel
theorem dX13_goesOn_17 : decode cX13_goesOn 17 = .ok (.bipush 32, 2) := by decide +kernel
theorem dX13_goesOn_19 : decode cX13_goesOn 19 = .ok (.if_icmp .ne 16, 3) := by decide +kernel
theorem dX13_goesOn_22 : decode cX13_goesOn 22 = .ok (.aload_n 0, 1) := by decide +kernel
theorem dX13_goesOn_23 : decode cX13_goesOn 23 = .ok (.dup, 1) := by decide +kernel
theorem dX13_goesOn_24 : decode cX13_goesOn 24 = .ok (.getfield 114, 3) := by decide +kernel
theorem dX13_goesOn_27 : decode cX13_goesOn 27 = .ok (.iconst 1, 1) := by decide +kernel
theorem dX13_goesOn_28 : decode cX13_goesOn 28 = .ok (.iadd, 1) := by decide +kernel
theorem dX13_goesOn_29 : decode cX13_goesOn 29 = .ok (.putfield 114, 3) := by decide +kernel
theorem dX13_goesOn_32 : decode cX13_goesOn 32 = .ok (.goto (-23), 3) := by decide +kernel
theorem dX13_goesOn_35 : decode cX13_goesOn 35 = .ok (.aload_n 0, 1) := by decide +kernel
theorem dX13_goesOn_36 : decode cX13_goesOn 36 = .ok (.aload_n 0, 1) := by decide +kernel
theorem dX13_goesOn_37 : decode cX13_goesOn 37 = .ok (.getfield 114, 3) := by decide +kernel
theorem dX13_goesOn_40 : decode cX13_goesOn 40 = .ok (.putfield 120, 3) := by decide +kernel
theorem dX13_goesOn_43 : decode cX13_goesOn 43 = .ok (.aload_n 0, 1) := by decide +kernel
theorem dX13_goesOn_44 : decode cX13_goesOn 44 = .ok (.iconst 0, 1) := by decide +kernel
theorem dX13_goesOn_45 : decode cX13_goesOn 45 = .ok (.putfield 111, 3) := by decide +kernel
theorem dX13_goesOn_48 : decode cX13_goesOn 48 = .ok (.aload_n 0, 1) := by decide +kernel
theorem dX13_goesOn_49 : decode cX13_goesOn 49 = .ok (.iconst 0, 1) := by decide +kernel
theorem dX13_goesOn_50 : decode cX13_goesOn 50 = .ok (.putfield 123, 3) := by decide +kernel
theorem dX13_goesOn_53 : decode cX13_goesOn 53 = .ok (.aload_n 0, 1) := by decide +kernel
theorem dX13_goesOn_54 : decode cX13_goesOn 54 = .ok (.aload_n 0, 1) := by decide +kernel
theorem dX13_goesOn_55 : decode cX13_goesOn 55 = .ok (.getfield 114, 3) := by decide +kernel
theorem dX13_goesOn_58 : decode cX13_goesOn 58 = .ok (.invokevirtual 117, 3) := by decide +kernel
theorem dX13_goesOn_61 : decode cX13_goesOn 61 = .ok (.istore_n 1, 1) := by decide +kernel
theorem dX13_goesOn_62 : decode cX13_goesOn 62 = .ok (.iconst 0, 1) := by decide +kernel
theorem dX13_goesOn_63 : decode cX13_goesOn 63 = .ok (.istore_n 2, 1) := by decide +kernel
theorem dX13_goesOn_64 : decode cX13_goesOn 64 = .ok (.iload_n 1, 1) := by decide +kernel
theorem dX13_goesOn_65 : decode cX13_goesOn 65 = .ok (.iconst (-1), 1) := by decide +kernel
theorem dX13_goesOn_66 : decode cX13_goesOn 66 = .ok (.if_icmp .ne 11, 3) := by decide +kernel
theorem dX13_goesOn_69 : decode cX13_goesOn 69 = .ok (.aload_n 0, 1) := by decide +kernel
theorem dX13_goesOn_70 : decode cX13_goesOn 70 = .ok (.iconst 1, 1) := by decide +kernel
theorem dX13_goesOn_71 : decode cX13_goesOn 71 = .ok (.putfield 111, 3) := by decide +kernel
theorem dX13_goesOn_74 : decode cX13_goesOn 74 = .ok (.goto 237, 3) := by decide +kernel
theorem dX13_goesOn_77 : decode cX13_goesOn 77 = .ok (.iload_n 1, 1) := by decide +kernel
theorem dX13_goesOn_78 : decode cX13_goesOn 78 = .ok (.invokestatic 126, 3) := by decide +kernel
theorem dX13_goesOn_81 : decode cX13_goesOn 81 = .ok (.ifCond .eq 85, 3) := by decide +kernel
theorem dX13_goesOn_84 : decode cX13_goesOn 84 = .ok (.aload_n 0, 1) := by decide +kernel
theorem dX13_goesOn_85 : decode cX13_goesOn 85 = .ok (.lconst 0, 1) := by decide +kernel
theorem dX13_goesOn_86 : decode cX13_goesOn 86 = .ok (.putfield 130, 3) := by decide +kernel
theorem dX13_goesOn_89 : decode cX13_goesOn 89 = .ok (.aload_n 0, 1) := by decide +kernel
theorem dX13_goesOn_90 : decode cX13_goesOn 90 = .ok (.aload_n 0, 1) := by decide +kernel
theorem dX13_goesOn_91 : decode cX13_goesOn 91 = .ok (.getfield 114, 3) := by decide +kernel
theorem dX13_goesOn_94 : decode cX13_goesOn 94 = .ok (.invokevirtual 117, 3) := by decide +kernel
theorem dX13_goesOn_97 : decode cX13_goesOn 97 = .ok (.invokestatic 126, 3) := by decide +kernel
theorem dX13_goesOn_100 : decode cX13_goesOn 100 = .ok (.ifCond .eq 52, 3) := by decide +kernel
theorem dX13_goesOn_103 : decode cX13_goesOn 103 = .ok (.iload_n 2, 1) := by decide +kernel
theorem dX13_goesOn_104 : decode cX13_goesOn 104 = .ok (.bipush 8, 2) := by decide +kernel
theorem dX13_goesOn_106 : decode cX13_goesOn 106 = .ok (.if_icmp .ge 30, 3) := by decide +kernel
theorem dX13_goesOn_109 : decode cX13_goesOn 109 = .ok (.aload_n 0, 1) := by decide +kernel
theorem dX13_goesOn_110 : decode cX13_goesOn 110 = .ok (.ldc2_w 105, 3) := by decide +kernel
theorem dX13_goesOn_113 : decode cX13_goesOn 113 = .ok (.aload_n 0, 1) := by decide +kernel
theorem dX13_goesOn_114 : decode cX13_goesOn 114 = .ok (.getfield 130, 3) := by decide +kernel
theorem dX13_goesOn_117 : decode cX13_goesOn 117 = .ok (.lmul, 1) := by decide +kernel
theorem dX13_goesOn_118 : decode cX13_goesOn 118 = .ok (.aload_n 0, 1) := by decide +kernel
theorem dX13_goesOn_119 : decode cX13_goesOn 119 = .ok (.aload_n 0, 1) := by decide +kernel
theorem dX13_goesOn_120 : decode cX13_goesOn 120 = .ok (.getfield 114, 3) := by decide +kernel
theorem dX13_goesOn_123 : decode cX13_goesOn 123 = .ok (.invokevirtual 117, 3) := by decide +kernel
theorem dX13_goesOn_126 : decode cX13_goesOn 126 = .ok (.bipush 97, 2) := by decide +kernel
theorem dX13_goesOn_128 : decode cX13_goesOn 128 = .ok (.isub, 1) := by decide +kernel
theorem dX13_goesOn_129 : decode cX13_goesOn 129 = .ok (.iconst 1, 1) := by decide +kernel
theorem dX13_goesOn_130 : decode cX13_goesOn 130 = .ok (.iadd, 1) := by decide +kernel
theorem dX13_goesOn_131 : decode cX13_goesOn 131 = .ok (.i2l, 1) := by decide +kernel
theorem dX13_goesOn_132 : decode cX13_goesOn 132 = .ok (.ladd, 1) := by decide +kernel
theorem dX13_goesOn_133 : decode cX13_goesOn 133 = .ok (.putfield 130, 3) := by decide +kernel
theorem dX13_goesOn_136 : decode cX13_goesOn 136 = .ok (.iinc 2 1, 3) := by decide +kernel
theorem dX13_goesOn_139 : decode cX13_goesOn 139 = .ok (.aload_n 0, 1) := by decide +kernel
theorem dX13_goesOn_140 : decode cX13_goesOn 140 = .ok (.dup, 1) := by decide +kernel
theorem dX13_goesOn_141 : decode cX13_goesOn 141 = .ok (.getfield 114, 3) := by decide +kernel
theorem dX13_goesOn_144 : decode cX13_goesOn 144 = .ok (.iconst 1, 1) := by decide +kernel
theorem dX13_goesOn_145 : decode cX13_goesOn 145 = .ok (.iadd, 1) := by decide +kernel
theorem dX13_goesOn_146 : decode cX13_goesOn 146 = .ok (.putfield 114, 3) := by decide +kernel
theorem dX13_goesOn_149 : decode cX13_goesOn 149 = .ok (.goto (-60), 3) := by decide +kernel
theorem dX13_goesOn_152 : decode cX13_goesOn 152 = .ok (.iload_n 2, 1) := by decide +kernel
theorem dX13_goesOn_153 : decode cX13_goesOn 153 = .ok (.bipush 8, 2) := by decide +kernel
theorem dX13_goesOn_155 : decode cX13_goesOn 155 = .ok (.if_icmp .gt 156, 3) := by decide +kernel
theorem dX13_goesOn_158 : decode cX13_goesOn 158 = .ok (.aload_n 0, 1) := by decide +kernel
theorem dX13_goesOn_159 : decode cX13_goesOn 159 = .ok (.iconst 2, 1) := by decide +kernel
theorem dX13_goesOn_160 : decode cX13_goesOn 160 = .ok (.putfield 111, 3) := by decide +kernel
theorem dX13_goesOn_163 : decode cX13_goesOn 163 = .ok (.goto 148, 3) := by decide +kernel
theorem dX13_goesOn_166 : decode cX13_goesOn 166 = .ok (.iload_n 1, 1) := by decide +kernel
theorem dX13_goesOn_167 : decode cX13_goesOn 167 = .ok (.invokestatic 134, 3) := by decide +kernel
theorem dX13_goesOn_170 : decode cX13_goesOn 170 = .ok (.ifCond .eq 79, 3) := by decide +kernel
theorem dX13_goesOn_173 : decode cX13_goesOn 173 = .ok (.aload_n 0, 1) := by decide +kernel
theorem dX13_goesOn_174 : decode cX13_goesOn 174 = .ok (.iconst 0, 1) := by decide +kernel
theorem dX13_goesOn_175 : decode cX13_goesOn 175 = .ok (.putfield 137, 3) := by decide +kernel
theorem dX13_goesOn_178 : decode cX13_goesOn 178 = .ok (.aload_n 0, 1) := by decide +kernel
theorem dX13_goesOn_179 : decode cX13_goesOn 179 = .ok (.aload_n 0, 1) := by decide +kernel
theorem dX13_goesOn_180 : decode cX13_goesOn 180 = .ok (.getfield 114, 3) := by decide +kernel
theorem dX13_goesOn_183 : decode cX13_goesOn 183 = .ok (.invokevirtual 117, 3) := by decide +kernel
theorem dX13_goesOn_186 : decode cX13_goesOn 186 = .ok (.invokestatic 134, 3) := by decide +kernel
theorem dX13_goesOn_189 : decode cX13_goesOn 189 = .ok (.ifCond .eq 47, 3) := by decide +kernel
theorem dX13_goesOn_192 : decode cX13_goesOn 192 = .ok (.iload_n 2, 1) := by decide +kernel
theorem dX13_goesOn_193 : decode cX13_goesOn 193 = .ok (.iconst 3, 1) := by decide +kernel
theorem dX13_goesOn_194 : decode cX13_goesOn 194 = .ok (.if_icmp .ge 26, 3) := by decide +kernel
theorem dX13_goesOn_197 : decode cX13_goesOn 197 = .ok (.aload_n 0, 1) := by decide +kernel
theorem dX13_goesOn_198 : decode cX13_goesOn 198 = .ok (.bipush 10, 2) := by decide +kernel
theorem dX13_goesOn_200 : decode cX13_goesOn 200 = .ok (.aload_n 0, 1) := by decide +kernel
theorem dX13_goesOn_201 : decode cX13_goesOn 201 = .ok (.getfield 137, 3) := by decide +kernel
theorem dX13_goesOn_204 : decode cX13_goesOn 204 = .ok (.imul, 1) := by decide +kernel
theorem dX13_goesOn_205 : decode cX13_goesOn 205 = .ok (.aload_n 0, 1) := by decide +kernel
theorem dX13_goesOn_206 : decode cX13_goesOn 206 = .ok (.aload_n 0, 1) := by decide +kernel
theorem dX13_goesOn_207 : decode cX13_goesOn 207 = .ok (.getfield 114, 3) := by decide +kernel
theorem dX13_goesOn_210 : decode cX13_goesOn 210 = .ok (.invokevirtual 117, 3) := by decide +kernel
theorem dX13_goesOn_213 : decode cX13_goesOn 213 = .ok (.iadd, 1) := by decide +kernel
theorem dX13_goesOn_214 : decode cX13_goesOn 214 = .ok (.bipush 48, 2) := by decide +kernel
theorem dX13_goesOn_216 : decode cX13_goesOn 216 = .ok (.isub, 1) := by decide +kernel
theorem dX13_goesOn_217 : decode cX13_goesOn 217 = .ok (.putfield 137, 3) := by decide +kernel
theorem dX13_goesOn_220 : decode cX13_goesOn 220 = .ok (.iinc 2 1, 3) := by decide +kernel
theorem dX13_goesOn_223 : decode cX13_goesOn 223 = .ok (.aload_n 0, 1) := by decide +kernel
theorem dX13_goesOn_224 : decode cX13_goesOn 224 = .ok (.dup, 1) := by decide +kernel
theorem dX13_goesOn_225 : decode cX13_goesOn 225 = .ok (.getfield 114, 3) := by decide +kernel
theorem dX13_goesOn_228 : decode cX13_goesOn 228 = .ok (.iconst 1, 1) := by decide +kernel
theorem dX13_goesOn_229 : decode cX13_goesOn 229 = .ok (.iadd, 1) := by decide +kernel
theorem dX13_goesOn_230 : decode cX13_goesOn 230 = .ok (.putfield 114, 3) := by decide +kernel
theorem dX13_goesOn_233 : decode cX13_goesOn 233 = .ok (.goto (-55), 3) := by decide +kernel
theorem dX13_goesOn_236 : decode cX13_goesOn 236 = .ok (.iload_n 2, 1) := by decide +kernel
theorem dX13_goesOn_237 : decode cX13_goesOn 237 = .ok (.iconst 3, 1) := by decide +kernel
theorem dX13_goesOn_238 : decode cX13_goesOn 238 = .ok (.if_icmp .gt 73, 3) := by decide +kernel
theorem dX13_goesOn_241 : decode cX13_goesOn 241 = .ok (.aload_n 0, 1) := by decide +kernel
theorem dX13_goesOn_242 : decode cX13_goesOn 242 = .ok (.iconst 3, 1) := by decide +kernel
theorem dX13_goesOn_243 : decode cX13_goesOn 243 = .ok (.putfield 111, 3) := by decide +kernel
theorem dX13_goesOn_246 : decode cX13_goesOn 246 = .ok (.goto 65, 3) := by decide +kernel
theorem dX13_goesOn_249 : decode cX13_goesOn 249 = .ok (.iload_n 1, 1) := by decide +kernel
theorem dX13_goesOn_250 : decode cX13_goesOn 250 = .ok (.bipush 59, 2) := by decide +kernel
theorem dX13_goesOn_252 : decode cX13_goesOn 252 = .ok (.if_icmp .eq 39, 3) := by decide +kernel
theorem dX13_goesOn_255 : decode cX13_goesOn 255 = .ok (.iload_n 1, 1) := by decide +kernel
theorem dX13_goesOn_256 : decode cX13_goesOn 256 = .ok (.bipush 44, 2) := by decide +kernel
theorem dX13_goesOn_258 : decode cX13_goesOn 258 = .ok (.if_icmp .eq 33, 3) := by decide +kernel
theorem dX13_goesOn_261 : decode cX13_goesOn 261 = .ok (.iload_n 1, 1) := by decide +kernel
theorem dX13_goesOn_262 : decode cX13_goesOn 262 = .ok (.bipush 43, 2) := by decide +kernel
theorem dX13_goesOn_264 : decode cX13_goesOn 264 = .ok (.if_icmp .eq 27, 3) := by decide +kernel
theorem dX13_goesOn_267 : decode cX13_goesOn 267 = .ok (.iload_n 1, 1) := by decide +kernel
theorem dX13_goesOn_268 : decode cX13_goesOn 268 = .ok (.bipush 45, 2) := by decide +kernel
theorem dX13_goesOn_270 : decode cX13_goesOn 270 = .ok (.if_icmp .eq 21, 3) := by decide +kernel
theorem dX13_goesOn_273 : decode cX13_goesOn 273 = .ok (.iload_n 1, 1) := by decide +kernel
theorem dX13_goesOn_274 : decode cX13_goesOn 274 = .ok (.bipush 42, 2) := by decide +kernel
theorem dX13_goesOn_276 : decode cX13_goesOn 276 = .ok (.if_icmp .eq 15, 3) := by decide +kernel
theorem dX13_goesOn_279 : decode cX13_goesOn 279 = .ok (.iload_n 1, 1) := by decide +kernel
theorem dX13_goesOn_280 : decode cX13_goesOn 280 = .ok (.bipush 40, 2) := by decide +kernel
theorem dX13_goesOn_282 : decode cX13_goesOn 282 = .ok (.if_icmp .eq 9, 3) := by decide +kernel
theorem dX13_goesOn_285 : decode cX13_goesOn 285 = .ok (.iload_n 1, 1) := by decide +kernel
theorem dX13_goesOn_286 : decode cX13_goesOn 286 = .ok (.bipush 41, 2) := by decide +kernel
theorem dX13_goesOn_288 : decode cX13_goesOn 288 = .ok (.if_icmp .ne 23, 3) := by decide +kernel
theorem dX13_goesOn_291 : decode cX13_goesOn 291 = .ok (.aload_n 0, 1) := by decide +kernel
theorem dX13_goesOn_292 : decode cX13_goesOn 292 = .ok (.iconst 4, 1) := by decide +kernel
theorem dX13_goesOn_293 : decode cX13_goesOn 293 = .ok (.putfield 111, 3) := by decide +kernel
theorem dX13_goesOn_296 : decode cX13_goesOn 296 = .ok (.aload_n 0, 1) := by decide +kernel
theorem dX13_goesOn_297 : decode cX13_goesOn 297 = .ok (.iload_n 1, 1) := by decide +kernel
theorem dX13_goesOn_298 : decode cX13_goesOn 298 = .ok (.putfield 123, 3) := by decide +kernel
theorem dX13_goesOn_301 : decode cX13_goesOn 301 = .ok (.aload_n 0, 1) := by decide +kernel
theorem dX13_goesOn_302 : decode cX13_goesOn 302 = .ok (.dup, 1) := by decide +kernel
theorem dX13_goesOn_303 : decode cX13_goesOn 303 = .ok (.getfield 114, 3) := by decide +kernel
theorem dX13_goesOn_306 : decode cX13_goesOn 306 = .ok (.iconst 1, 1) := by decide +kernel
theorem dX13_goesOn_307 : decode cX13_goesOn 307 = .ok (.iadd, 1) := by decide +kernel
theorem dX13_goesOn_308 : decode cX13_goesOn 308 = .ok (.putfield 114, 3) := by decide +kernel
theorem dX13_goesOn_311 : decode cX13_goesOn 311 = .ok (.return_, 1) := by decide +kernel
theorem dX13_wrong_0 : decode cX13_wrong 0 = .ok (.aload_n 0, 1) := by decide +kernel
theorem dX13_wrong_1 : decode cX13_wrong 1 = .ok (.iload_n 1, 1) := by decide +kernel
theorem dX13_wrong_2 : decode cX13_wrong 2 = .ok (.aload_n 0, 1) := by decide +kernel
theorem dX13_wrong_3 : decode cX13_wrong 3 = .ok (.getfield 120, 3) := by decide +kernel
theorem dX13_wrong_6 : decode cX13_wrong 6 = .ok (.invokevirtual 140, 3) := by decide +kernel
theorem dX13_wrong_9 : decode cX13_wrong 9 = .ok (.return_, 1) := by decide +kernel
theorem dX13_wrongThere_0 : decode cX13_wrongThere 0 = .ok (.aload_n 0, 1) := by decide +kernel
theorem dX13_wrongThere_1 : decode cX13_wrongThere 1 = .ok (.getfield 111, 3) := by decide +kernel
theorem dX13_wrongThere_4 : decode cX13_wrongThere 4 = .ok (.iconst 5, 1) := by decide +kernel
theorem dX13_wrongThere_5 : decode cX13_wrongThere 5 = .ok (.if_icmp .ne 4, 3) := by decide +kernel
theorem dX13_wrongThere_8 : decode cX13_wrongThere 8 = .ok (.return_, 1) := by decide +kernel
theorem dX13_wrongThere_9 : decode cX13_wrongThere 9 = .ok (.aload_n 0, 1) := by decide +kernel
theorem dX13_wrongThere_10 : decode cX13_wrongThere 10 = .ok (.iload_n 1, 1) := by decide +kernel
theorem dX13_wrongThere_11 : decode cX13_wrongThere 11 = .ok (.putfield 144, 3) := by decide +kernel
theorem dX13_wrongThere_14 : decode cX13_wrongThere 14 = .ok (.aload_n 0, 1) := by decide +kernel
theorem dX13_wrongThere_15 : decode cX13_wrongThere 15 = .ok (.iload_n 2, 1) := by decide +kernel
theorem dX13_wrongThere_16 : decode cX13_wrongThere 16 = .ok (.putfield 147, 3) := by decide +kernel
theorem dX13_wrongThere_19 : decode cX13_wrongThere 19 = .ok (.aload_n 0, 1) := by decide +kernel
theorem dX13_wrongThere_20 : decode cX13_wrongThere 20 = .ok (.iconst 5, 1) := by decide +kernel
theorem dX13_wrongThere_21 : decode cX13_wrongThere 21 = .ok (.putfield 111, 3) := by decide +kernel
theorem dX13_wrongThere_24 : decode cX13_wrongThere 24 = .ok (.return_, 1) := by decide +kernel
theorem dX13_isWord_0 : decode cX13_isWord 0 = .ok (.aload_n 0, 1) := by decide +kernel
theorem dX13_isWord_1 : decode cX13_isWord 1 = .ok (.getfield 111, 3) := by decide +kernel
theorem dX13_isWord_4 : decode cX13_isWord 4 = .ok (.iconst 2, 1) := by decide +kernel
theorem dX13_isWord_5 : decode cX13_isWord 5 = .ok (.if_icmp .ne 19, 3) := by decide +kernel
theorem dX13_isWord_8 : decode cX13_isWord 8 = .ok (.aload_n 0, 1) := by decide +kernel
theorem dX13_isWord_9 : decode cX13_isWord 9 = .ok (.getfield 130, 3) := by decide +kernel
theorem dX13_isWord_12 : decode cX13_isWord 12 = .ok (.aload_n 1, 1) := by decide +kernel
theorem dX13_isWord_13 : decode cX13_isWord 13 = .ok (.invokestatic 150, 3) := by decide +kernel
theorem dX13_isWord_16 : decode cX13_isWord 16 = .ok (.lcmp, 1) := by decide +kernel
theorem dX13_isWord_17 : decode cX13_isWord 17 = .ok (.ifCond .ne 7, 3) := by decide +kernel
theorem dX13_isWord_20 : decode cX13_isWord 20 = .ok (.iconst 1, 1) := by decide +kernel
theorem dX13_isWord_21 : decode cX13_isWord 21 = .ok (.goto 4, 3) := by decide +kernel
theorem dX13_isWord_24 : decode cX13_isWord 24 = .ok (.iconst 0, 1) := by decide +kernel
theorem dX13_isWord_25 : decode cX13_isWord 25 = .ok (.ireturn, 1) := by decide +kernel
theorem dX13_isSign_0 : decode cX13_isSign 0 = .ok (.aload_n 0, 1) := by decide +kernel
theorem dX13_isSign_1 : decode cX13_isSign 1 = .ok (.getfield 111, 3) := by decide +kernel
theorem dX13_isSign_4 : decode cX13_isSign 4 = .ok (.iconst 4, 1) := by decide +kernel
theorem dX13_isSign_5 : decode cX13_isSign 5 = .ok (.if_icmp .ne 15, 3) := by decide +kernel
theorem dX13_isSign_8 : decode cX13_isSign 8 = .ok (.aload_n 0, 1) := by decide +kernel
theorem dX13_isSign_9 : decode cX13_isSign 9 = .ok (.getfield 123, 3) := by decide +kernel
theorem dX13_isSign_12 : decode cX13_isSign 12 = .ok (.iload_n 1, 1) := by decide +kernel
theorem dX13_isSign_13 : decode cX13_isSign 13 = .ok (.if_icmp .ne 7, 3) := by decide +kernel
theorem dX13_isSign_16 : decode cX13_isSign 16 = .ok (.iconst 1, 1) := by decide +kernel
theorem dX13_isSign_17 : decode cX13_isSign 17 = .ok (.goto 4, 3) := by decide +kernel
theorem dX13_isSign_20 : decode cX13_isSign 20 = .ok (.iconst 0, 1) := by decide +kernel
theorem dX13_isSign_21 : decode cX13_isSign 21 = .ok (.ireturn, 1) := by decide +kernel
theorem dX13_eatsWord_0 : decode cX13_eatsWord 0 = .ok (.aload_n 0, 1) := by decide +kernel
theorem dX13_eatsWord_1 : decode cX13_eatsWord 1 = .ok (.aload_n 1, 1) := by decide +kernel
theorem dX13_eatsWord_2 : decode cX13_eatsWord 2 = .ok (.invokevirtual 154, 3) := by decide +kernel
theorem dX13_eatsWord_5 : decode cX13_eatsWord 5 = .ok (.istore_n 2, 1) := by decide +kernel
theorem dX13_eatsWord_6 : decode cX13_eatsWord 6 = .ok (.iload_n 2, 1) := by decide +kernel
theorem dX13_eatsWord_7 : decode cX13_eatsWord 7 = .ok (.ifCond .eq 7, 3) := by decide +kernel
theorem dX13_eatsWord_10 : decode cX13_eatsWord 10 = .ok (.aload_n 0, 1) := by decide +kernel
theorem dX13_eatsWord_11 : decode cX13_eatsWord 11 = .ok (.invokevirtual 158, 3) := by decide +kernel
theorem dX13_eatsWord_14 : decode cX13_eatsWord 14 = .ok (.iload_n 2, 1) := by decide +kernel
theorem dX13_eatsWord_15 : decode cX13_eatsWord 15 = .ok (.ireturn, 1) := by decide +kernel
theorem dX13_eatsSign_0 : decode cX13_eatsSign 0 = .ok (.aload_n 0, 1) := by decide +kernel
theorem dX13_eatsSign_1 : decode cX13_eatsSign 1 = .ok (.iload_n 1, 1) := by decide +kernel
theorem dX13_eatsSign_2 : decode cX13_eatsSign 2 = .ok (.invokevirtual 161, 3) := by decide +kernel
theorem dX13_eatsSign_5 : decode cX13_eatsSign 5 = .ok (.istore_n 2, 1) := by decide +kernel
theorem dX13_eatsSign_6 : decode cX13_eatsSign 6 = .ok (.iload_n 2, 1) := by decide +kernel
theorem dX13_eatsSign_7 : decode cX13_eatsSign 7 = .ok (.ifCond .eq 7, 3) := by decide +kernel
theorem dX13_eatsSign_10 : decode cX13_eatsSign 10 = .ok (.aload_n 0, 1) := by decide +kernel
theorem dX13_eatsSign_11 : decode cX13_eatsSign 11 = .ok (.invokevirtual 158, 3) := by decide +kernel
theorem dX13_eatsSign_14 : decode cX13_eatsSign 14 = .ok (.iload_n 2, 1) := by decide +kernel
theorem dX13_eatsSign_15 : decode cX13_eatsSign 15 = .ok (.ireturn, 1) := by decide +kernel
theorem dX13_needs_0 : decode cX13_needs 0 = .ok (.aload_n 0, 1) := by decide +kernel
theorem dX13_needs_1 : decode cX13_needs 1 = .ok (.aload_n 1, 1) := by decide +kernel
theorem dX13_needs_2 : decode cX13_needs 2 = .ok (.invokevirtual 154, 3) := by decide +kernel
theorem dX13_needs_5 : decode cX13_needs 5 = .ok (.ifCond .ne 8, 3) := by decide +kernel
theorem dX13_needs_8 : decode cX13_needs 8 = .ok (.aload_n 0, 1) := by decide +kernel
theorem dX13_needs_9 : decode cX13_needs 9 = .ok (.iconst 1, 1) := by decide +kernel
theorem dX13_needs_10 : decode cX13_needs 10 = .ok (.invokevirtual 164, 3) := by decide +kernel
theorem dX13_needs_13 : decode cX13_needs 13 = .ok (.aload_n 0, 1) := by decide +kernel
theorem dX13_needs_14 : decode cX13_needs 14 = .ok (.invokevirtual 158, 3) := by decide +kernel
theorem dX13_needs_17 : decode cX13_needs 17 = .ok (.return_, 1) := by decide +kernel
theorem dX13_needsSign_0 : decode cX13_needsSign 0 = .ok (.aload_n 0, 1) := by decide +kernel
theorem dX13_needsSign_1 : decode cX13_needsSign 1 = .ok (.iload_n 1, 1) := by decide +kernel
theorem dX13_needsSign_2 : decode cX13_needsSign 2 = .ok (.invokevirtual 161, 3) := by decide +kernel
theorem dX13_needsSign_5 : decode cX13_needsSign 5 = .ok (.ifCond .ne 8, 3) := by decide +kernel
theorem dX13_needsSign_8 : decode cX13_needsSign 8 = .ok (.aload_n 0, 1) := by decide +kernel
theorem dX13_needsSign_9 : decode cX13_needsSign 9 = .ok (.iconst 1, 1) := by decide +kernel
theorem dX13_needsSign_10 : decode cX13_needsSign 10 = .ok (.invokevirtual 164, 3) := by decide +kernel
theorem dX13_needsSign_13 : decode cX13_needsSign 13 = .ok (.aload_n 0, 1) := by decide +kernel
theorem dX13_needsSign_14 : decode cX13_needsSign 14 = .ok (.invokevirtual 158, 3) := by decide +kernel
theorem dX13_needsSign_17 : decode cX13_needsSign 17 = .ok (.return_, 1) := by decide +kernel
theorem dX13_bounded_0 : decode cX13_bounded 0 = .ok (.aload_n 0, 1) := by decide +kernel
theorem dX13_bounded_1 : decode cX13_bounded 1 = .ok (.getfield 111, 3) := by decide +kernel
theorem dX13_bounded_4 : decode cX13_bounded 4 = .ok (.iconst 3, 1) := by decide +kernel
theorem dX13_bounded_5 : decode cX13_bounded 5 = .ok (.if_icmp .eq 11, 3) := by decide +kernel
theorem dX13_bounded_8 : decode cX13_bounded 8 = .ok (.aload_n 0, 1) := by decide +kernel
theorem dX13_bounded_9 : decode cX13_bounded 9 = .ok (.iconst 1, 1) := by decide +kernel
theorem dX13_bounded_10 : decode cX13_bounded 10 = .ok (.invokevirtual 164, 3) := by decide +kernel
theorem dX13_bounded_13 : decode cX13_bounded 13 = .ok (.goto 20, 3) := by decide +kernel
theorem dX13_bounded_16 : decode cX13_bounded 16 = .ok (.aload_n 0, 1) := by decide +kernel
theorem dX13_bounded_17 : decode cX13_bounded 17 = .ok (.getfield 137, 3) := by decide +kernel
theorem dX13_bounded_20 : decode cX13_bounded 20 = .ok (.iload_n 1, 1) := by decide +kernel
theorem dX13_bounded_21 : decode cX13_bounded 21 = .ok (.iload_n 2, 1) := by decide +kernel
theorem dX13_bounded_22 : decode cX13_bounded 22 = .ok (.invokestatic 168, 3) := by decide +kernel
theorem dX13_bounded_25 : decode cX13_bounded 25 = .ok (.ifCond .ne 8, 3) := by decide +kernel
theorem dX13_bounded_28 : decode cX13_bounded 28 = .ok (.aload_n 0, 1) := by decide +kernel
theorem dX13_bounded_29 : decode cX13_bounded 29 = .ok (.iconst 4, 1) := by decide +kernel
theorem dX13_bounded_30 : decode cX13_bounded 30 = .ok (.invokevirtual 164, 3) := by decide +kernel
theorem dX13_bounded_33 : decode cX13_bounded 33 = .ok (.aload_n 0, 1) := by decide +kernel
theorem dX13_bounded_34 : decode cX13_bounded 34 = .ok (.getfield 111, 3) := by decide +kernel
theorem dX13_bounded_37 : decode cX13_bounded 37 = .ok (.iconst 5, 1) := by decide +kernel
theorem dX13_bounded_38 : decode cX13_bounded 38 = .ok (.if_icmp .ne 7, 3) := by decide +kernel
theorem dX13_bounded_41 : decode cX13_bounded 41 = .ok (.iload_n 1, 1) := by decide +kernel
theorem dX13_bounded_42 : decode cX13_bounded 42 = .ok (.goto 7, 3) := by decide +kernel
theorem dX13_bounded_45 : decode cX13_bounded 45 = .ok (.aload_n 0, 1) := by decide +kernel
theorem dX13_bounded_46 : decode cX13_bounded 46 = .ok (.getfield 137, 3) := by decide +kernel
theorem dX13_bounded_49 : decode cX13_bounded 49 = .ok (.ireturn, 1) := by decide +kernel
theorem dX13_readWhole_0 : decode cX13_readWhole 0 = .ok (.aload_n 0, 1) := by decide +kernel
theorem dX13_readWhole_1 : decode cX13_readWhole 1 = .ok (.iload_n 1, 1) := by decide +kernel
theorem dX13_readWhole_2 : decode cX13_readWhole 2 = .ok (.iload_n 2, 1) := by decide +kernel
theorem dX13_readWhole_3 : decode cX13_readWhole 3 = .ok (.invokevirtual 172, 3) := by decide +kernel
theorem dX13_readWhole_6 : decode cX13_readWhole 6 = .ok (.istore_n 3, 1) := by decide +kernel
theorem dX13_readWhole_7 : decode cX13_readWhole 7 = .ok (.aload_n 0, 1) := by decide +kernel
theorem dX13_readWhole_8 : decode cX13_readWhole 8 = .ok (.invokevirtual 158, 3) := by decide +kernel
theorem dX13_readWhole_11 : decode cX13_readWhole 11 = .ok (.iload_n 3, 1) := by decide +kernel
theorem dX13_readWhole_12 : decode cX13_readWhole 12 = .ok (.ireturn, 1) := by decide +kernel
theorem dX13_isName_0 : decode cX13_isName 0 = .ok (.aload_n 0, 1) := by decide +kernel
theorem dX13_isName_1 : decode cX13_isName 1 = .ok (.getfield 111, 3) := by decide +kernel
theorem dX13_isName_4 : decode cX13_isName 4 = .ok (.iconst 2, 1) := by decide +kernel
theorem dX13_isName_5 : decode cX13_isName 5 = .ok (.if_icmp .ne 66, 3) := by decide +kernel
theorem dX13_isName_8 : decode cX13_isName 8 = .ok (.aload_n 0, 1) := by decide +kernel
theorem dX13_isName_9 : decode cX13_isName 9 = .ok (.ldc 176, 2) := by decide +kernel
theorem dX13_isName_11 : decode cX13_isName 11 = .ok (.invokevirtual 154, 3) := by decide +kernel
theorem dX13_isName_14 : decode cX13_isName 14 = .ok (.ifCond .ne 57, 3) := by decide +kernel
theorem dX13_isName_17 : decode cX13_isName 17 = .ok (.aload_n 0, 1) := by decide +kernel
theorem dX13_isName_18 : decode cX13_isName 18 = .ok (.ldc 178, 2) := by decide +kernel
theorem dX13_isName_20 : decode cX13_isName 20 = .ok (.invokevirtual 154, 3) := by decide +kernel
theorem dX13_isName_23 : decode cX13_isName 23 = .ok (.ifCond .ne 48, 3) := by decide +kernel
theorem dX13_isName_26 : decode cX13_isName 26 = .ok (.aload_n 0, 1) := by decide +kernel
theorem dX13_isName_27 : decode cX13_isName 27 = .ok (.ldc 180, 2) := by decide +kernel
theorem dX13_isName_29 : decode cX13_isName 29 = .ok (.invokevirtual 154, 3) := by decide +kernel
theorem dX13_isName_32 : decode cX13_isName 32 = .ok (.ifCond .ne 39, 3) := by decide +kernel
theorem dX13_isName_35 : decode cX13_isName 35 = .ok (.aload_n 0, 1) := by decide +kernel
theorem dX13_isName_36 : decode cX13_isName 36 = .ok (.ldc 182, 2) := by decide +kernel
theorem dX13_isName_38 : decode cX13_isName 38 = .ok (.invokevirtual 154, 3) := by decide +kernel
theorem dX13_isName_41 : decode cX13_isName 41 = .ok (.ifCond .ne 30, 3) := by decide +kernel
theorem dX13_isName_44 : decode cX13_isName 44 = .ok (.aload_n 0, 1) := by decide +kernel
theorem dX13_isName_45 : decode cX13_isName 45 = .ok (.ldc 184, 2) := by decide +kernel
theorem dX13_isName_47 : decode cX13_isName 47 = .ok (.invokevirtual 154, 3) := by decide +kernel
theorem dX13_isName_50 : decode cX13_isName 50 = .ok (.ifCond .ne 21, 3) := by decide +kernel
theorem dX13_isName_53 : decode cX13_isName 53 = .ok (.aload_n 0, 1) := by decide +kernel
theorem dX13_isName_54 : decode cX13_isName 54 = .ok (.ldc 185, 2) := by decide +kernel
theorem dX13_isName_56 : decode cX13_isName 56 = .ok (.invokevirtual 154, 3) := by decide +kernel
theorem dX13_isName_59 : decode cX13_isName 59 = .ok (.ifCond .ne 12, 3) := by decide +kernel
theorem dX13_isName_62 : decode cX13_isName 62 = .ok (.aload_n 0, 1) := by decide +kernel
theorem dX13_isName_63 : decode cX13_isName 63 = .ok (.ldc 187, 2) := by decide +kernel
theorem dX13_isName_65 : decode cX13_isName 65 = .ok (.invokevirtual 154, 3) := by decide +kernel
theorem dX13_isName_68 : decode cX13_isName 68 = .ok (.ifCond .eq 5, 3) := by decide +kernel
theorem dX13_isName_71 : decode cX13_isName 71 = .ok (.iconst 0, 1) := by decide +kernel
theorem dX13_isName_72 : decode cX13_isName 72 = .ok (.ireturn, 1) := by decide +kernel
theorem dX13_isName_73 : decode cX13_isName 73 = .ok (.aload_n 0, 1) := by decide +kernel
theorem dX13_isName_74 : decode cX13_isName 74 = .ok (.ldc 189, 2) := by decide +kernel
theorem dX13_isName_76 : decode cX13_isName 76 = .ok (.invokevirtual 154, 3) := by decide +kernel
theorem dX13_isName_79 : decode cX13_isName 79 = .ok (.ifCond .ne 52, 3) := by decide +kernel
theorem dX13_isName_82 : decode cX13_isName 82 = .ok (.aload_n 0, 1) := by decide +kernel
theorem dX13_isName_83 : decode cX13_isName 83 = .ok (.ldc 191, 2) := by decide +kernel
theorem dX13_isName_85 : decode cX13_isName 85 = .ok (.invokevirtual 154, 3) := by decide +kernel
theorem dX13_isName_88 : decode cX13_isName 88 = .ok (.ifCond .ne 43, 3) := by decide +kernel
theorem dX13_isName_91 : decode cX13_isName 91 = .ok (.aload_n 0, 1) := by decide +kernel
theorem dX13_isName_92 : decode cX13_isName 92 = .ok (.ldc 193, 2) := by decide +kernel
theorem dX13_isName_94 : decode cX13_isName 94 = .ok (.invokevirtual 154, 3) := by decide +kernel
theorem dX13_isName_97 : decode cX13_isName 97 = .ok (.ifCond .ne 34, 3) := by decide +kernel
theorem dX13_isName_100 : decode cX13_isName 100 = .ok (.aload_n 0, 1) := by decide +kernel
theorem dX13_isName_101 : decode cX13_isName 101 = .ok (.ldc 195, 2) := by decide +kernel
theorem dX13_isName_103 : decode cX13_isName 103 = .ok (.invokevirtual 154, 3) := by decide +kernel
theorem dX13_isName_106 : decode cX13_isName 106 = .ok (.ifCond .ne 25, 3) := by decide +kernel
theorem dX13_isName_109 : decode cX13_isName 109 = .ok (.aload_n 0, 1) := by decide +kernel
theorem dX13_isName_110 : decode cX13_isName 110 = .ok (.ldc 197, 2) := by decide +kernel
theorem dX13_isName_112 : decode cX13_isName 112 = .ok (.invokevirtual 154, 3) := by decide +kernel
theorem dX13_isName_115 : decode cX13_isName 115 = .ok (.ifCond .ne 16, 3) := by decide +kernel
theorem dX13_isName_118 : decode cX13_isName 118 = .ok (.aload_n 0, 1) := by decide +kernel
theorem dX13_isName_119 : decode cX13_isName 119 = .ok (.ldc 199, 2) := by decide +kernel
theorem dX13_isName_121 : decode cX13_isName 121 = .ok (.invokevirtual 154, 3) := by decide +kernel
theorem dX13_isName_124 : decode cX13_isName 124 = .ok (.ifCond .ne 7, 3) := by decide +kernel
theorem dX13_isName_127 : decode cX13_isName 127 = .ok (.iconst 1, 1) := by decide +kernel
theorem dX13_isName_128 : decode cX13_isName 128 = .ok (.goto 4, 3) := by decide +kernel
theorem dX13_isName_131 : decode cX13_isName 131 = .ok (.iconst 0, 1) := by decide +kernel
theorem dX13_isName_132 : decode cX13_isName 132 = .ok (.ireturn, 1) := by decide +kernel
theorem dX13_begins_0 : decode cX13_begins 0 = .ok (.iload_n 1, 1) := by decide +kernel
theorem dX13_begins_1 : decode cX13_begins 1 = .ok (.iload_n 2, 1) := by decide +kernel
theorem dX13_begins_2 : decode cX13_begins 2 = .ok (.if_icmp .ne 8, 3) := by decide +kernel
theorem dX13_begins_5 : decode cX13_begins 5 = .ok (.aload_n 0, 1) := by decide +kernel
theorem dX13_begins_6 : decode cX13_begins 6 = .ok (.iconst 5, 1) := by decide +kernel
theorem dX13_begins_7 : decode cX13_begins 7 = .ok (.invokevirtual 164, 3) := by decide +kernel
theorem dX13_begins_10 : decode cX13_begins 10 = .ok (.aload_n 0, 1) := by decide +kernel
theorem dX13_begins_11 : decode cX13_begins 11 = .ok (.invokevirtual 158, 3) := by decide +kernel
theorem dX13_begins_14 : decode cX13_begins 14 = .ok (.return_, 1) := by decide +kernel
