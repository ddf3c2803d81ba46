theorem dX7_best_86 : decode cX7_best 86 = .ok (.ireturn, 1) := by decide +kernel
theorem dX7_many_0 : decode cX7_many 0 = .ok (.iload_n 1, 1) := by decide +kernel
theorem dX7_many_1 : decode cX7_many 1 = .ok (.ifCond .lt 8, 3) := by decide +kernel
theorem dX7_many_4 : decode cX7_many 4 = .ok (.iload_n 1, 1) := by decide +kernel
theorem dX7_many_5 : decode cX7_many 5 = .ok (.iconst 1, 1) := by decide +kernel
theorem dX7_many_6 : decode cX7_many 6 = .ok (.if_icmp .le 5, 3) := by decide +kernel
theorem dX7_many_9 : decode cX7_many 9 = .ok (.iconst (-1), 1) := by decide +kernel
theorem dX7_many_10 : decode cX7_many 10 = .ok (.ireturn, 1) := by decide +kernel
theorem dX7_many_11 : decode cX7_many 11 = .ok (.aload_n 0, 1) := by decide +kernel
theorem dX7_many_12 : decode cX7_many 12 = .ok (.getfield 58, 3) := by decide +kernel
theorem dX7_many_15 : decode cX7_many 15 = .ok (.aload_n 0, 1) := by decide +kernel
theorem dX7_many_16 : decode cX7_many 16 = .ok (.getfield 12, 3) := by decide +kernel
theorem dX7_many_19 : decode cX7_many 19 = .ok (.invokevirtual 191, 3) := by decide +kernel
theorem dX7_many_22 : decode cX7_many 22 = .ok (.iload_n 1, 1) := by decide +kernel
theorem dX7_many_23 : decode cX7_many 23 = .ok (.iconst 1, 1) := by decide +kernel
theorem dX7_many_24 : decode cX7_many 24 = .ok (.if_icmp .ne 17, 3) := by decide +kernel
theorem dX7_many_27 : decode cX7_many 27 = .ok (.aload_n 0, 1) := by decide +kernel
theorem dX7_many_28 : decode cX7_many 28 = .ok (.getfield 58, 3) := by decide +kernel
theorem dX7_many_31 : decode cX7_many 31 = .ok (.aload_n 0, 1) := by decide +kernel
theorem dX7_many_32 : decode cX7_many 32 = .ok (.getfield 12, 3) := by decide +kernel
theorem dX7_many_35 : decode cX7_many 35 = .ok (.getfield 170, 3) := by decide +kernel
theorem dX7_many_38 : decode cX7_many 38 = .ok (.invokevirtual 194, 3) := by decide +kernel
theorem dX7_many_41 : decode cX7_many 41 = .ok (.aload_n 0, 1) := by decide +kernel
theorem dX7_many_42 : decode cX7_many 42 = .ok (.getfield 58, 3) := by decide +kernel
theorem dX7_many_45 : decode cX7_many 45 = .ok (.invokevirtual 197, 3) := by decide +kernel
theorem dX7_many_48 : decode cX7_many 48 = .ok (.aload_n 0, 1) := by decide +kernel
theorem dX7_many_49 : decode cX7_many 49 = .ok (.getfield 58, 3) := by decide +kernel
theorem dX7_many_52 : decode cX7_many 52 = .ok (.getfield 200, 3) := by decide +kernel
theorem dX7_many_55 : decode cX7_many 55 = .ok (.ireturn, 1) := by decide +kernel
theorem dX7_fit_0 : decode cX7_fit 0 = .ok (.iload_n 1, 1) := by decide +kernel
theorem dX7_fit_1 : decode cX7_fit 1 = .ok (.ifCond .ge 5, 3) := by decide +kernel
theorem dX7_fit_4 : decode cX7_fit 4 = .ok (.iconst (-1), 1) := by decide +kernel
theorem dX7_fit_5 : decode cX7_fit 5 = .ok (.ireturn, 1) := by decide +kernel
theorem dX7_fit_6 : decode cX7_fit 6 = .ok (.aload_n 0, 1) := by decide +kernel
theorem dX7_fit_7 : decode cX7_fit 7 = .ok (.getfield 58, 3) := by decide +kernel
theorem dX7_fit_10 : decode cX7_fit 10 = .ok (.aload_n 0, 1) := by decide +kernel
theorem dX7_fit_11 : decode cX7_fit 11 = .ok (.getfield 12, 3) := by decide +kernel
theorem dX7_fit_14 : decode cX7_fit 14 = .ok (.invokevirtual 191, 3) := by decide +kernel
theorem dX7_fit_17 : decode cX7_fit 17 = .ok (.aload_n 0, 1) := by decide +kernel
theorem dX7_fit_18 : decode cX7_fit 18 = .ok (.getfield 58, 3) := by decide +kernel
theorem dX7_fit_21 : decode cX7_fit 21 = .ok (.aload_n 0, 1) := by decide +kernel
theorem dX7_fit_22 : decode cX7_fit 22 = .ok (.getfield 12, 3) := by decide +kernel
theorem dX7_fit_25 : decode cX7_fit 25 = .ok (.getfield 170, 3) := by decide +kernel
theorem dX7_fit_28 : decode cX7_fit 28 = .ok (.invokevirtual 194, 3) := by decide +kernel
theorem dX7_fit_31 : decode cX7_fit 31 = .ok (.aload_n 0, 1) := by decide +kernel
theorem dX7_fit_32 : decode cX7_fit 32 = .ok (.getfield 58, 3) := by decide +kernel
theorem dX7_fit_35 : decode cX7_fit 35 = .ok (.iload_n 1, 1) := by decide +kernel
theorem dX7_fit_36 : decode cX7_fit 36 = .ok (.putfield 203, 3) := by decide +kernel
theorem dX7_fit_39 : decode cX7_fit 39 = .ok (.aload_n 0, 1) := by decide +kernel
theorem dX7_fit_40 : decode cX7_fit 40 = .ok (.getfield 58, 3) := by decide +kernel
theorem dX7_fit_43 : decode cX7_fit 43 = .ok (.invokevirtual 197, 3) := by decide +kernel
theorem dX7_fit_46 : decode cX7_fit 46 = .ok (.aload_n 0, 1) := by decide +kernel
theorem dX7_fit_47 : decode cX7_fit 47 = .ok (.getfield 58, 3) := by decide +kernel
theorem dX7_fit_50 : decode cX7_fit 50 = .ok (.getfield 200, 3) := by decide +kernel
theorem dX7_fit_53 : decode cX7_fit 53 = .ok (.iload_n 1, 1) := by decide +kernel
theorem dX7_fit_54 : decode cX7_fit 54 = .ok (.if_icmp .le 20, 3) := by decide +kernel
theorem dX7_fit_57 : decode cX7_fit 57 = .ok (.aload_n 0, 1) := by decide +kernel
theorem dX7_fit_58 : decode cX7_fit 58 = .ok (.getfield 12, 3) := by decide +kernel
theorem dX7_fit_61 : decode cX7_fit 61 = .ok (.aload_n 0, 1) := by decide +kernel
theorem dX7_fit_62 : decode cX7_fit 62 = .ok (.getfield 58, 3) := by decide +kernel
theorem dX7_fit_65 : decode cX7_fit 65 = .ok (.getfield 107, 3) := by decide +kernel
theorem dX7_fit_68 : decode cX7_fit 68 = .ok (.invokevirtual 176, 3) := by decide +kernel
theorem dX7_fit_71 : decode cX7_fit 71 = .ok (.goto 5, 3) := by decide +kernel
theorem dX7_fit_74 : decode cX7_fit 74 = .ok (.bipush (-4), 2) := by decide +kernel
theorem dX7_fit_76 : decode cX7_fit 76 = .ok (.ireturn, 1) := by decide +kernel
theorem dX7_kept_0 : decode cX7_kept 0 = .ok (.iload_n 1, 1) := by decide +kernel
theorem dX7_kept_1 : decode cX7_kept 1 = .ok (.ifCond .lt 28, 3) := by decide +kernel
theorem dX7_kept_4 : decode cX7_kept 4 = .ok (.iload_n 1, 1) := by decide +kernel
theorem dX7_kept_5 : decode cX7_kept 5 = .ok (.bipush 20, 2) := by decide +kernel
theorem dX7_kept_7 : decode cX7_kept 7 = .ok (.if_icmp .ge 22, 3) := by decide +kernel
theorem dX7_kept_10 : decode cX7_kept 10 = .ok (.iload_n 2, 1) := by decide +kernel
theorem dX7_kept_11 : decode cX7_kept 11 = .ok (.ifCond .lt 18, 3) := by decide +kernel
theorem dX7_kept_14 : decode cX7_kept 14 = .ok (.iload_n 2, 1) := by decide +kernel
theorem dX7_kept_15 : decode cX7_kept 15 = .ok (.bipush 10, 2) := by decide +kernel
theorem dX7_kept_17 : decode cX7_kept 17 = .ok (.if_icmp .gt 12, 3) := by decide +kernel
theorem dX7_kept_20 : decode cX7_kept 20 = .ok (.iload_n 3, 1) := by decide +kernel
theorem dX7_kept_21 : decode cX7_kept 21 = .ok (.ifCond .lt 8, 3) := by decide +kernel
theorem dX7_kept_24 : decode cX7_kept 24 = .ok (.iload_n 3, 1) := by decide +kernel
theorem dX7_kept_25 : decode cX7_kept 25 = .ok (.iconst 1, 1) := by decide +kernel
theorem dX7_kept_26 : decode cX7_kept 26 = .ok (.if_icmp .le 5, 3) := by decide +kernel
theorem dX7_kept_29 : decode cX7_kept 29 = .ok (.iconst (-1), 1) := by decide +kernel
theorem dX7_kept_30 : decode cX7_kept 30 = .ok (.ireturn, 1) := by decide +kernel
theorem dX7_kept_31 : decode cX7_kept 31 = .ok (.aload_n 0, 1) := by decide +kernel
theorem dX7_kept_32 : decode cX7_kept 32 = .ok (.iload_n 1, 1) := by decide +kernel
theorem dX7_kept_33 : decode cX7_kept 33 = .ok (.invokevirtual 206, 3) := by decide +kernel
theorem dX7_kept_36 : decode cX7_kept 36 = .ok (.istore 4, 2) := by decide +kernel
theorem dX7_kept_38 : decode cX7_kept 38 = .ok (.aload_n 0, 1) := by decide +kernel
theorem dX7_kept_39 : decode cX7_kept 39 = .ok (.iload 4, 2) := by decide +kernel
theorem dX7_kept_41 : decode cX7_kept 41 = .ok (.iload_n 2, 1) := by decide +kernel
theorem dX7_kept_42 : decode cX7_kept 42 = .ok (.invokevirtual 209, 3) := by decide +kernel
theorem dX7_kept_45 : decode cX7_kept 45 = .ok (.istore 5, 2) := by decide +kernel
theorem dX7_kept_47 : decode cX7_kept 47 = .ok (.bipush 10, 2) := by decide +kernel
theorem dX7_kept_49 : decode cX7_kept 49 = .ok (.iload 4, 2) := by decide +kernel
theorem dX7_kept_51 : decode cX7_kept 51 = .ok (.invokestatic 128, 3) := by decide +kernel
theorem dX7_kept_54 : decode cX7_kept 54 = .ok (.invokestatic 212, 3) := by decide +kernel
theorem dX7_kept_57 : decode cX7_kept 57 = .ok (.istore 6, 2) := by decide +kernel
theorem dX7_kept_59 : decode cX7_kept 59 = .ok (.iload 5, 2) := by decide +kernel
theorem dX7_kept_61 : decode cX7_kept 61 = .ok (.iload 6, 2) := by decide +kernel
theorem dX7_kept_63 : decode cX7_kept 63 = .ok (.invokestatic 215, 3) := by decide +kernel
theorem dX7_kept_66 : decode cX7_kept 66 = .ok (.istore 7, 2) := by decide +kernel
theorem dX7_kept_68 : decode cX7_kept 68 = .ok (.iload 7, 2) := by decide +kernel
theorem dX7_kept_70 : decode cX7_kept 70 = .ok (.ifCond .ne 5, 3) := by decide +kernel
theorem dX7_kept_73 : decode cX7_kept 73 = .ok (.iconst (-1), 1) := by decide +kernel
theorem dX7_kept_74 : decode cX7_kept 74 = .ok (.ireturn, 1) := by decide +kernel
theorem dX7_kept_75 : decode cX7_kept 75 = .ok (.iload_n 3, 1) := by decide +kernel
theorem dX7_kept_76 : decode cX7_kept 76 = .ok (.ifCond .ne 8, 3) := by decide +kernel
theorem dX7_kept_79 : decode cX7_kept 79 = .ok (.iload 5, 2) := by decide +kernel
theorem dX7_kept_81 : decode cX7_kept 81 = .ok (.goto 5, 3) := by decide +kernel
theorem dX7_kept_84 : decode cX7_kept 84 = .ok (.iload 6, 2) := by decide +kernel
theorem dX7_kept_86 : decode cX7_kept 86 = .ok (.iload 7, 2) := by decide +kernel
theorem dX7_kept_88 : decode cX7_kept 88 = .ok (.idiv, 1) := by decide +kernel
theorem dX7_kept_89 : decode cX7_kept 89 = .ok (.ireturn, 1) := by decide +kernel
theorem dX7_letter_0 : decode cX7_letter 0 = .ok (.iload_n 1, 1) := by decide +kernel
theorem dX7_letter_1 : decode cX7_letter 1 = .ok (.ifCond .ge 5, 3) := by decide +kernel
theorem dX7_letter_4 : decode cX7_letter 4 = .ok (.iconst (-1), 1) := by decide +kernel
theorem dX7_letter_5 : decode cX7_letter 5 = .ok (.ireturn, 1) := by decide +kernel
theorem dX7_letter_6 : decode cX7_letter 6 = .ok (.aload_n 0, 1) := by decide +kernel
theorem dX7_letter_7 : decode cX7_letter 7 = .ok (.invokevirtual 218, 3) := by decide +kernel
theorem dX7_letter_10 : decode cX7_letter 10 = .ok (.iload_n 1, 1) := by decide +kernel
theorem dX7_letter_11 : decode cX7_letter 11 = .ok (.aload_n 0, 1) := by decide +kernel
theorem dX7_letter_12 : decode cX7_letter 12 = .ok (.getfield 44, 3) := by decide +kernel
theorem dX7_letter_15 : decode cX7_letter 15 = .ok (.getfield 221, 3) := by decide +kernel
theorem dX7_letter_18 : decode cX7_letter 18 = .ok (.if_icmp .ge 14, 3) := by decide +kernel
theorem dX7_letter_21 : decode cX7_letter 21 = .ok (.aload_n 0, 1) := by decide +kernel
theorem dX7_letter_22 : decode cX7_letter 22 = .ok (.getfield 44, 3) := by decide +kernel
theorem dX7_letter_25 : decode cX7_letter 25 = .ok (.iload_n 1, 1) := by decide +kernel
theorem dX7_letter_26 : decode cX7_letter 26 = .ok (.invokevirtual 222, 3) := by decide +kernel
theorem dX7_letter_29 : decode cX7_letter 29 = .ok (.goto 5, 3) := by decide +kernel
theorem dX7_letter_32 : decode cX7_letter 32 = .ok (.bipush (-4), 2) := by decide +kernel
theorem dX7_letter_34 : decode cX7_letter 34 = .ok (.ireturn, 1) := by decide +kernel
theorem dX7_type_0 : decode cX7_type 0 = .ok (.iload_n 1, 1) := by decide +kernel
theorem dX7_type_1 : decode cX7_type 1 = .ok (.bipush 32, 2) := by decide +kernel
theorem dX7_type_3 : decode cX7_type 3 = .ok (.if_icmp .lt 9, 3) := by decide +kernel
theorem dX7_type_6 : decode cX7_type 6 = .ok (.iload_n 1, 1) := by decide +kernel
theorem dX7_type_7 : decode cX7_type 7 = .ok (.bipush 126, 2) := by decide +kernel
theorem dX7_type_9 : decode cX7_type 9 = .ok (.if_icmp .le 5, 3) := by decide +kernel
theorem dX7_type_12 : decode cX7_type 12 = .ok (.iconst (-1), 1) := by decide +kernel
theorem dX7_type_13 : decode cX7_type 13 = .ok (.ireturn, 1) := by decide +kernel
theorem dX7_type_14 : decode cX7_type 14 = .ok (.aload_n 0, 1) := by decide +kernel
theorem dX7_type_15 : decode cX7_type 15 = .ok (.getfield 35, 3) := by decide +kernel
theorem dX7_type_18 : decode cX7_type 18 = .ok (.getfield 226, 3) := by decide +kernel
theorem dX7_type_21 : decode cX7_type 21 = .ok (.iload_n 1, 1) := by decide +kernel
theorem dX7_type_22 : decode cX7_type 22 = .ok (.i2c, 1) := by decide +kernel
theorem dX7_type_23 : decode cX7_type 23 = .ok (.invokevirtual 229, 3) := by decide +kernel
theorem dX7_type_26 : decode cX7_type 26 = .ok (.ifCond .eq 16, 3) := by decide +kernel
theorem dX7_type_29 : decode cX7_type 29 = .ok (.aload_n 0, 1) := by decide +kernel
theorem dX7_type_30 : decode cX7_type 30 = .ok (.getfield 35, 3) := by decide +kernel
theorem dX7_type_33 : decode cX7_type 33 = .ok (.getfield 226, 3) := by decide +kernel
theorem dX7_type_36 : decode cX7_type 36 = .ok (.getfield 221, 3) := by decide +kernel
theorem dX7_type_39 : decode cX7_type 39 = .ok (.goto 5, 3) := by decide +kernel
theorem dX7_type_42 : decode cX7_type 42 = .ok (.bipush (-3), 2) := by decide +kernel
theorem dX7_type_44 : decode cX7_type 44 = .ok (.ireturn, 1) := by decide +kernel
theorem dX7_read_0 : decode cX7_read 0 = .ok (.aload_n 0, 1) := by decide +kernel
theorem dX7_read_1 : decode cX7_read 1 = .ok (.getfield 35, 3) := by decide +kernel
theorem dX7_read_4 : decode cX7_read 4 = .ok (.aload_n 0, 1) := by decide +kernel
theorem dX7_read_5 : decode cX7_read 5 = .ok (.getfield 12, 3) := by decide +kernel
theorem dX7_read_8 : decode cX7_read 8 = .ok (.invokevirtual 233, 3) := by decide +kernel
theorem dX7_read_11 : decode cX7_read 11 = .ok (.istore_n 1, 1) := by decide +kernel
theorem dX7_read_12 : decode cX7_read 12 = .ok (.aload_n 0, 1) := by decide +kernel
theorem dX7_read_13 : decode cX7_read 13 = .ok (.getfield 35, 3) := by decide +kernel
theorem dX7_read_16 : decode cX7_read 16 = .ok (.getfield 226, 3) := by decide +kernel
theorem dX7_read_19 : decode cX7_read 19 = .ok (.iconst 0, 1) := by decide +kernel
theorem dX7_read_20 : decode cX7_read 20 = .ok (.putfield 221, 3) := by decide +kernel
theorem dX7_read_23 : decode cX7_read 23 = .ok (.iload_n 1, 1) := by decide +kernel
theorem dX7_read_24 : decode cX7_read 24 = .ok (.ifCond .ne 14, 3) := by decide +kernel
theorem dX7_read_27 : decode cX7_read 27 = .ok (.bipush (-20), 2) := by decide +kernel
theorem dX7_read_29 : decode cX7_read 29 = .ok (.aload_n 0, 1) := by decide +kernel
theorem dX7_read_30 : decode cX7_read 30 = .ok (.getfield 35, 3) := by decide +kernel
theorem dX7_read_33 : decode cX7_read 33 = .ok (.getfield 237, 3) := by decide +kernel
theorem dX7_read_36 : decode cX7_read 36 = .ok (.isub, 1) := by decide +kernel
theorem dX7_read_37 : decode cX7_read 37 = .ok (.ireturn, 1) := by decide +kernel
theorem dX7_read_38 : decode cX7_read 38 = .ok (.aload_n 0, 1) := by decide +kernel
theorem dX7_read_39 : decode cX7_read 39 = .ok (.getfield 22, 3) := by decide +kernel
theorem dX7_read_42 : decode cX7_read 42 = .ok (.aload_n 0, 1) := by decide +kernel
theorem dX7_read_43 : decode cX7_read 43 = .ok (.getfield 12, 3) := by decide +kernel
theorem dX7_read_46 : decode cX7_read 46 = .ok (.invokevirtual 239, 3) := by decide +kernel
theorem dX7_read_49 : decode cX7_read 49 = .ok (.aload_n 0, 1) := by decide +kernel
theorem dX7_read_50 : decode cX7_read 50 = .ok (.getfield 12, 3) := by decide +kernel
theorem dX7_read_53 : decode cX7_read 53 = .ok (.aload_n 0, 1) := by decide +kernel
theorem dX7_read_54 : decode cX7_read 54 = .ok (.getfield 35, 3) := by decide +kernel
theorem dX7_read_57 : decode cX7_read 57 = .ok (.getfield 242, 3) := by decide +kernel
theorem dX7_read_60 : decode cX7_read 60 = .ok (.invokevirtual 69, 3) := by decide +kernel
theorem dX7_read_63 : decode cX7_read 63 = .ok (.aload_n 0, 1) := by decide +kernel
theorem dX7_read_64 : decode cX7_read 64 = .ok (.getfield 12, 3) := by decide +kernel
theorem dX7_read_67 : decode cX7_read 67 = .ok (.getfield 99, 3) := by decide +kernel
theorem dX7_read_70 : decode cX7_read 70 = .ok (.ireturn, 1) := by decide +kernel
theorem dX7_drift_0 : decode cX7_drift 0 = .ok (.iload_n 1, 1) := by decide +kernel
theorem dX7_drift_1 : decode cX7_drift 1 = .ok (.iconst 1, 1) := by decide +kernel
theorem dX7_drift_2 : decode cX7_drift 2 = .ok (.if_icmp .lt 9, 3) := by decide +kernel
theorem dX7_drift_5 : decode cX7_drift 5 = .ok (.iload_n 1, 1) := by decide +kernel
theorem dX7_drift_6 : decode cX7_drift 6 = .ok (.bipush 40, 2) := by decide +kernel
theorem dX7_drift_8 : decode cX7_drift 8 = .ok (.if_icmp .le 5, 3) := by decide +kernel
theorem dX7_drift_11 : decode cX7_drift 11 = .ok (.iconst (-1), 1) := by decide +kernel
theorem dX7_drift_12 : decode cX7_drift 12 = .ok (.ireturn, 1) := by decide +kernel
theorem dX7_drift_13 : decode cX7_drift 13 = .ok (.iconst 0, 1) := by decide +kernel
theorem dX7_drift_14 : decode cX7_drift 14 = .ok (.istore_n 2, 1) := by decide +kernel
theorem dX7_drift_15 : decode cX7_drift 15 = .ok (.iload_n 2, 1) := by decide +kernel
theorem dX7_drift_16 : decode cX7_drift 16 = .ok (.iload_n 1, 1) := by decide +kernel
theorem dX7_drift_17 : decode cX7_drift 17 = .ok (.if_icmp .ge 24, 3) := by decide +kernel
theorem dX7_drift_20 : decode cX7_drift 20 = .ok (.aload_n 0, 1) := by decide +kernel
theorem dX7_drift_21 : decode cX7_drift 21 = .ok (.getfield 22, 3) := by decide +kernel
theorem dX7_drift_24 : decode cX7_drift 24 = .ok (.aload_n 0, 1) := by decide +kernel
theorem dX7_drift_25 : decode cX7_drift 25 = .ok (.getfield 12, 3) := by decide +kernel
theorem dX7_drift_28 : decode cX7_drift 28 = .ok (.invokevirtual 239, 3) := by decide +kernel
theorem dX7_drift_31 : decode cX7_drift 31 = .ok (.aload_n 0, 1) := by decide +kernel
theorem dX7_drift_32 : decode cX7_drift 32 = .ok (.invokevirtual 245, 3) := by decide +kernel
theorem dX7_drift_35 : decode cX7_drift 35 = .ok (.iinc 2 1, 3) := by decide +kernel
theorem dX7_drift_38 : decode cX7_drift 38 = .ok (.goto (-23), 3) := by decide +kernel
theorem dX7_drift_41 : decode cX7_drift 41 = .ok (.aload_n 0, 1) := by decide +kernel
theorem dX7_drift_42 : decode cX7_drift 42 = .ok (.getfield 12, 3) := by decide +kernel
theorem dX7_drift_45 : decode cX7_drift 45 = .ok (.getfield 99, 3) := by decide +kernel
theorem dX7_drift_48 : decode cX7_drift 48 = .ok (.ireturn, 1) := by decide +kernel
theorem dX7_undo_0 : decode cX7_undo 0 = .ok (.aload_n 0, 1) := by decide +kernel
theorem dX7_undo_1 : decode cX7_undo 1 = .ok (.getfield 22, 3) := by decide +kernel
theorem dX7_undo_4 : decode cX7_undo 4 = .ok (.aload_n 0, 1) := by decide +kernel
theorem dX7_undo_5 : decode cX7_undo 5 = .ok (.getfield 12, 3) := by decide +kernel
theorem dX7_undo_8 : decode cX7_undo 8 = .ok (.invokevirtual 248, 3) := by decide +kernel
theorem dX7_undo_11 : decode cX7_undo 11 = .ok (.ifCond .eq 13, 3) := by decide +kernel
theorem dX7_undo_14 : decode cX7_undo 14 = .ok (.aload_n 0, 1) := by decide +kernel
theorem dX7_undo_15 : decode cX7_undo 15 = .ok (.getfield 22, 3) := by decide +kernel
theorem dX7_undo_18 : decode cX7_undo 18 = .ok (.getfield 179, 3) := by decide +kernel
theorem dX7_undo_21 : decode cX7_undo 21 = .ok (.goto 5, 3) := by decide +kernel
theorem dX7_undo_24 : decode cX7_undo 24 = .ok (.bipush (-4), 2) := by decide +kernel
theorem dX7_undo_26 : decode cX7_undo 26 = .ok (.ireturn, 1) := by decide +kernel
theorem dX7_seed_0 : decode cX7_seed 0 = .ok (.iload_n 1, 1) := by decide +kernel
theorem dX7_seed_1 : decode cX7_seed 1 = .ok (.ifCond .ge 5, 3) := by decide +kernel
theorem dX7_seed_4 : decode cX7_seed 4 = .ok (.iconst (-1), 1) := by decide +kernel
theorem dX7_seed_5 : decode cX7_seed 5 = .ok (.ireturn, 1) := by decide +kernel
theorem dX7_seed_6 : decode cX7_seed 6 = .ok (.aload_n 0, 1) := by decide +kernel
theorem dX7_seed_7 : decode cX7_seed 7 = .ok (.getfield 12, 3) := by decide +kernel
theorem dX7_seed_10 : decode cX7_seed 10 = .ok (.getfield 251, 3) := by decide +kernel
theorem dX7_seed_13 : decode cX7_seed 13 = .ok (.istore_n 2, 1) := by decide +kernel
theorem dX7_seed_14 : decode cX7_seed 14 = .ok (.aload_n 0, 1) := by decide +kernel
theorem dX7_seed_15 : decode cX7_seed 15 = .ok (.getfield 12, 3) := by decide +kernel
theorem dX7_seed_18 : decode cX7_seed 18 = .ok (.iload_n 1, 1) := by decide +kernel
theorem dX7_seed_19 : decode cX7_seed 19 = .ok (.putfield 251, 3) := by decide +kernel
theorem dX7_seed_22 : decode cX7_seed 22 = .ok (.iload_n 2, 1) := by decide +kernel
theorem dX7_seed_23 : decode cX7_seed 23 = .ok (.ireturn, 1) := by decide +kernel
theorem dX7_image_0 : decode cX7_image 0 = .ok (.aload_n 0, 1) := by decide +kernel
theorem dX7_image_1 : decode cX7_image 1 = .ok (.getfield 26, 3) := by decide +kernel
theorem dX7_image_4 : decode cX7_image 4 = .ok (.aload_n 0, 1) := by decide +kernel
theorem dX7_image_5 : decode cX7_image 5 = .ok (.getfield 12, 3) := by decide +kernel
theorem dX7_image_8 : decode cX7_image 8 = .ok (.invokevirtual 69, 3) := by decide +kernel
theorem dX7_image_11 : decode cX7_image 11 = .ok (.aload_n 0, 1) := by decide +kernel
theorem dX7_image_12 : decode cX7_image 12 = .ok (.getfield 29, 3) := by decide +kernel
theorem dX7_image_15 : decode cX7_image 15 = .ok (.aload_n 0, 1) := by decide +kernel
theorem dX7_image_16 : decode cX7_image 16 = .ok (.getfield 22, 3) := by decide +kernel
theorem dX7_image_19 : decode cX7_image 19 = .ok (.invokevirtual 254, 3) := by decide +kernel
theorem dX7_image_22 : decode cX7_image 22 = .ok (.aload_n 0, 1) := by decide +kernel
theorem dX7_image_23 : decode cX7_image 23 = .ok (.iconst 1, 1) := by decide +kernel
theorem dX7_image_24 : decode cX7_image 24 = .ok (.putfield 257, 3) := by decide +kernel
theorem dX7_image_27 : decode cX7_image 27 = .ok (.iconst 1, 1) := by decide +kernel
theorem dX7_image_28 : decode cX7_image 28 = .ok (.ireturn, 1) := by decide +kernel
theorem dX7_restore_0 : decode cX7_restore 0 = .ok (.aload_n 0, 1) := by decide +kernel
theorem dX7_restore_1 : decode cX7_restore 1 = .ok (.getfield 257, 3) := by decide +kernel
theorem dX7_restore_4 : decode cX7_restore 4 = .ok (.ifCond .ne 6, 3) := by decide +kernel
theorem dX7_restore_7 : decode cX7_restore 7 = .ok (.bipush (-4), 2) := by decide +kernel
theorem dX7_restore_9 : decode cX7_restore 9 = .ok (.ireturn, 1) := by decide +kernel
theorem dX7_restore_10 : decode cX7_restore 10 = .ok (.aload_n 0, 1) := by decide +kernel
theorem dX7_restore_11 : decode cX7_restore 11 = .ok (.getfield 12, 3) := by decide +kernel
theorem dX7_restore_14 : decode cX7_restore 14 = .ok (.aload_n 0, 1) := by decide +kernel
theorem dX7_restore_15 : decode cX7_restore 15 = .ok (.getfield 26, 3) := by decide +kernel
theorem dX7_restore_18 : decode cX7_restore 18 = .ok (.invokevirtual 69, 3) := by decide +kernel
theorem dX7_restore_21 : decode cX7_restore 21 = .ok (.aload_n 0, 1) := by decide +kernel
theorem dX7_restore_22 : decode cX7_restore 22 = .ok (.getfield 22, 3) := by decide +kernel
theorem dX7_restore_25 : decode cX7_restore 25 = .ok (.aload_n 0, 1) := by decide +kernel
theorem dX7_restore_26 : decode cX7_restore 26 = .ok (.getfield 29, 3) := by decide +kernel
theorem dX7_restore_29 : decode cX7_restore 29 = .ok (.invokevirtual 254, 3) := by decide +kernel
theorem dX7_restore_32 : decode cX7_restore 32 = .ok (.iconst 1, 1) := by decide +kernel
theorem dX7_restore_33 : decode cX7_restore 33 = .ok (.ireturn, 1) := by decide +kernel
theorem dX7_seen_0 : decode cX7_seen 0 = .ok (.aload_n 0, 1) := by decide +kernel
theorem dX7_seen_1 : decode cX7_seen 1 = .ok (.iload_n 1, 1) := by decide +kernel
theorem dX7_seen_2 : decode cX7_seen 2 = .ok (.iload_n 2, 1) := by decide +kernel
theorem dX7_seen_3 : decode cX7_seen 3 = .ok (.iload_n 3, 1) := by decide +kernel
theorem dX7_seen_4 : decode cX7_seen 4 = .ok (.aload_n 0, 1) := by decide +kernel
theorem dX7_seen_5 : decode cX7_seen 5 = .ok (.getfield 12, 3) := by decide +kernel
theorem dX7_seen_8 : decode cX7_seen 8 = .ok (.getfield 99, 3) := by decide +kernel
theorem dX7_seen_11 : decode cX7_seen 11 = .ok (.invokevirtual 261, 3) := by decide +kernel
theorem dX7_seen_14 : decode cX7_seen 14 = .ok (.istore 4, 2) := by decide +kernel
theorem dX7_seen_16 : decode cX7_seen 16 = .ok (.iload 4, 2) := by decide +kernel
theorem dX7_seen_18 : decode cX7_seen 18 = .ok (.ifCond .eq 6, 3) := by decide +kernel
theorem dX7_seen_21 : decode cX7_seen 21 = .ok (.iload 4, 2) := by decide +kernel
theorem dX7_seen_23 : decode cX7_seen 23 = .ok (.ireturn, 1) := by decide +kernel
theorem dX7_seen_24 : decode cX7_seen 24 = .ok (.aload_n 0, 1) := by decide +kernel
theorem dX7_seen_25 : decode cX7_seen 25 = .ok (.getfield 12, 3) := by decide +kernel
theorem dX7_seen_28 : decode cX7_seen 28 = .ok (.getfield 99, 3) := by decide +kernel
theorem dX7_seen_31 : decode cX7_seen 31 = .ok (.ifCond .ne 6, 3) := by decide +kernel
theorem dX7_seen_34 : decode cX7_seen 34 = .ok (.bipush (-2), 2) := by decide +kernel
theorem dX7_seen_36 : decode cX7_seen 36 = .ok (.ireturn, 1) := by decide +kernel
theorem dX7_seen_37 : decode cX7_seen 37 = .ok (.aload_n 0, 1) := by decide +kernel
theorem dX7_seen_38 : decode cX7_seen 38 = .ok (.getfield 58, 3) := by decide +kernel
theorem dX7_seen_41 : decode cX7_seen 41 = .ok (.aload_n 0, 1) := by decide +kernel
theorem dX7_seen_42 : decode cX7_seen 42 = .ok (.getfield 12, 3) := by decide +kernel
theorem dX7_seen_45 : decode cX7_seen 45 = .ok (.invokevirtual 191, 3) := by decide +kernel
theorem dX7_seen_48 : decode cX7_seen 48 = .ok (.aload_n 0, 1) := by decide +kernel
theorem dX7_seen_49 : decode cX7_seen 49 = .ok (.getfield 58, 3) := by decide +kernel
theorem dX7_seen_52 : decode cX7_seen 52 = .ok (.invokevirtual 265, 3) := by decide +kernel
theorem dX7_seen_55 : decode cX7_seen 55 = .ok (.iconst 0, 1) := by decide +kernel
theorem dX7_seen_56 : decode cX7_seen 56 = .ok (.istore 5, 2) := by decide +kernel
theorem dX7_seen_58 : decode cX7_seen 58 = .ok (.iload 5, 2) := by decide +kernel
theorem dX7_seen_60 : decode cX7_seen 60 = .ok (.aload_n 0, 1) := by decide +kernel
theorem dX7_seen_61 : decode cX7_seen 61 = .ok (.getfield 12, 3) := by decide +kernel
theorem dX7_seen_64 : decode cX7_seen 64 = .ok (.getfield 99, 3) := by decide +kernel
theorem dX7_seen_67 : decode cX7_seen 67 = .ok (.if_icmp .ge 56, 3) := by decide +kernel
theorem dX7_seen_70 : decode cX7_seen 70 = .ok (.aload_n 0, 1) := by decide +kernel
theorem dX7_seen_71 : decode cX7_seen 71 = .ok (.getfield 64, 3) := by decide +kernel
theorem dX7_seen_74 : decode cX7_seen 74 = .ok (.iload_n 1, 1) := by decide +kernel
theorem dX7_seen_75 : decode cX7_seen 75 = .ok (.aaload, 1) := by decide +kernel
theorem dX7_seen_76 : decode cX7_seen 76 = .ok (.getfield 268, 3) := by decide +kernel
theorem dX7_seen_79 : decode cX7_seen 79 = .ok (.iload_n 3, 1) := by decide +kernel
theorem dX7_seen_80 : decode cX7_seen 80 = .ok (.iload 5, 2) := by decide +kernel
theorem dX7_seen_82 : decode cX7_seen 82 = .ok (.iadd, 1) := by decide +kernel
theorem dX7_seen_83 : decode cX7_seen 83 = .ok (.laload, 1) := by decide +kernel
theorem dX7_seen_84 : decode cX7_seen 84 = .ok (.lstore 6, 2) := by decide +kernel
theorem dX7_seen_86 : decode cX7_seen 86 = .ok (.lload 6, 2) := by decide +kernel
theorem dX7_seen_88 : decode cX7_seen 88 = .ok (.lconst 0, 1) := by decide +kernel
theorem dX7_seen_89 : decode cX7_seen 89 = .ok (.lcmp, 1) := by decide +kernel
theorem dX7_seen_90 : decode cX7_seen 90 = .ok (.ifCond .lt 12, 3) := by decide +kernel
theorem dX7_seen_93 : decode cX7_seen 93 = .ok (.lload 6, 2) := by decide +kernel
theorem dX7_seen_95 : decode cX7_seen 95 = .ok (.ldc2_w 272, 3) := by decide +kernel
theorem dX7_seen_98 : decode cX7_seen 98 = .ok (.lcmp, 1) := by decide +kernel
theorem dX7_seen_99 : decode cX7_seen 99 = .ok (.ifCond .le 6, 3) := by decide +kernel
theorem dX7_seen_102 : decode cX7_seen 102 = .ok (.bipush (-2), 2) := by decide +kernel
theorem dX7_seen_104 : decode cX7_seen 104 = .ok (.ireturn, 1) := by decide +kernel
theorem dX7_seen_105 : decode cX7_seen 105 = .ok (.aload_n 0, 1) := by decide +kernel
theorem dX7_seen_106 : decode cX7_seen 106 = .ok (.getfield 58, 3) := by decide +kernel
theorem dX7_seen_109 : decode cX7_seen 109 = .ok (.iload 5, 2) := by decide +kernel
theorem dX7_seen_111 : decode cX7_seen 111 = .ok (.lload 6, 2) := by decide +kernel
theorem dX7_seen_113 : decode cX7_seen 113 = .ok (.l2i, 1) := by decide +kernel
theorem dX7_seen_114 : decode cX7_seen 114 = .ok (.invokevirtual 274, 3) := by decide +kernel
theorem dX7_seen_117 : decode cX7_seen 117 = .ok (.iinc 5 1, 3) := by decide +kernel
theorem dX7_seen_120 : decode cX7_seen 120 = .ok (.goto (-62), 3) := by decide +kernel
theorem dX7_seen_123 : decode cX7_seen 123 = .ok (.aload_n 0, 1) := by decide +kernel
theorem dX7_seen_124 : decode cX7_seen 124 = .ok (.getfield 58, 3) := by decide +kernel
theorem dX7_seen_127 : decode cX7_seen 127 = .ok (.invokevirtual 197, 3) := by decide +kernel
theorem dX7_seen_130 : decode cX7_seen 130 = .ok (.aload_n 0, 1) := by decide +kernel
theorem dX7_seen_131 : decode cX7_seen 131 = .ok (.getfield 58, 3) := by decide +kernel
theorem dX7_seen_134 : decode cX7_seen 134 = .ok (.getfield 200, 3) := by decide +kernel
theorem dX7_seen_137 : decode cX7_seen 137 = .ok (.ireturn, 1) := by decide +kernel
theorem dX7_film_0 : decode cX7_film 0 = .ok (.aload_n 0, 1) := by decide +kernel
theorem dX7_film_1 : decode cX7_film 1 = .ok (.iload_n 1, 1) := by decide +kernel
theorem dX7_film_2 : decode cX7_film 2 = .ok (.iload_n 2, 1) := by decide +kernel
theorem dX7_film_3 : decode cX7_film 3 = .ok (.iload_n 3, 1) := by decide +kernel
theorem dX7_film_4 : decode cX7_film 4 = .ok (.aload_n 0, 1) := by decide +kernel
theorem dX7_film_5 : decode cX7_film 5 = .ok (.getfield 12, 3) := by decide +kernel
theorem dX7_film_8 : decode cX7_film 8 = .ok (.getfield 99, 3) := by decide +kernel
theorem dX7_film_11 : decode cX7_film 11 = .ok (.invokevirtual 261, 3) := by decide +kernel
theorem dX7_film_14 : decode cX7_film 14 = .ok (.istore 4, 2) := by decide +kernel
theorem dX7_film_16 : decode cX7_film 16 = .ok (.iload 4, 2) := by decide +kernel
theorem dX7_film_18 : decode cX7_film 18 = .ok (.ifCond .eq 6, 3) := by decide +kernel
theorem dX7_film_21 : decode cX7_film 21 = .ok (.iload 4, 2) := by decide +kernel
theorem dX7_film_23 : decode cX7_film 23 = .ok (.ireturn, 1) := by decide +kernel
theorem dX7_film_24 : decode cX7_film 24 = .ok (.aload_n 0, 1) := by decide +kernel
theorem dX7_film_25 : decode cX7_film 25 = .ok (.getfield 51, 3) := by decide +kernel
theorem dX7_film_28 : decode cX7_film 28 = .ok (.aload_n 0, 1) := by decide +kernel
theorem dX7_film_29 : decode cX7_film 29 = .ok (.getfield 12, 3) := by decide +kernel
theorem dX7_film_32 : decode cX7_film 32 = .ok (.invokevirtual 119, 3) := by decide +kernel
theorem dX7_film_35 : decode cX7_film 35 = .ok (.iconst 0, 1) := by decide +kernel
theorem dX7_film_36 : decode cX7_film 36 = .ok (.istore 5, 2) := by decide +kernel
theorem dX7_film_38 : decode cX7_film 38 = .ok (.iload 5, 2) := by decide +kernel
theorem dX7_film_40 : decode cX7_film 40 = .ok (.aload_n 0, 1) := by decide +kernel
theorem dX7_film_41 : decode cX7_film 41 = .ok (.getfield 12, 3) := by decide +kernel
theorem dX7_film_44 : decode cX7_film 44 = .ok (.getfield 99, 3) := by decide +kernel
theorem dX7_film_47 : decode cX7_film 47 = .ok (.if_icmp .ge 36, 3) := by decide +kernel
theorem dX7_film_50 : decode cX7_film 50 = .ok (.aload_n 0, 1) := by decide +kernel
theorem dX7_film_51 : decode cX7_film 51 = .ok (.getfield 64, 3) := by decide +kernel
theorem dX7_film_54 : decode cX7_film 54 = .ok (.iload_n 1, 1) := by decide +kernel
theorem dX7_film_55 : decode cX7_film 55 = .ok (.aaload, 1) := by decide +kernel
theorem dX7_film_56 : decode cX7_film 56 = .ok (.iload_n 3, 1) := by decide +kernel
theorem dX7_film_57 : decode cX7_film 57 = .ok (.iload 5, 2) := by decide +kernel
theorem dX7_film_59 : decode cX7_film 59 = .ok (.iadd, 1) := by decide +kernel
theorem dX7_film_60 : decode cX7_film 60 = .ok (.aload_n 0, 1) := by decide +kernel
theorem dX7_film_61 : decode cX7_film 61 = .ok (.getfield 51, 3) := by decide +kernel
theorem dX7_film_64 : decode cX7_film 64 = .ok (.getfield 125, 3) := by decide +kernel
theorem dX7_film_67 : decode cX7_film 67 = .ok (.iload 5, 2) := by decide +kernel
theorem dX7_film_69 : decode cX7_film 69 = .ok (.iaload, 1) := by decide +kernel
theorem dX7_film_70 : decode cX7_film 70 = .ok (.invokestatic 128, 3) := by decide +kernel
theorem dX7_film_73 : decode cX7_film 73 = .ok (.i2l, 1) := by decide +kernel
theorem dX7_film_74 : decode cX7_film 74 = .ok (.invokevirtual 278, 3) := by decide +kernel
theorem dX7_film_77 : decode cX7_film 77 = .ok (.iinc 5 1, 3) := by decide +kernel
theorem dX7_film_80 : decode cX7_film 80 = .ok (.goto (-42), 3) := by decide +kernel
theorem dX7_film_83 : decode cX7_film 83 = .ok (.aload_n 0, 1) := by decide +kernel
theorem dX7_film_84 : decode cX7_film 84 = .ok (.getfield 12, 3) := by decide +kernel
theorem dX7_film_87 : decode cX7_film 87 = .ok (.getfield 99, 3) := by decide +kernel
theorem dX7_film_90 : decode cX7_film 90 = .ok (.ireturn, 1) := by decide +kernel
theorem dX7_sheet_0 : decode cX7_sheet 0 = .ok (.iload_n 1, 1) := by decide +kernel
theorem dX7_sheet_1 : decode cX7_sheet 1 = .ok (.invokestatic 282, 3) := by decide +kernel
theorem dX7_sheet_4 : decode cX7_sheet 4 = .ok (.ifCond .eq 16, 3) := by decide +kernel
theorem dX7_sheet_7 : decode cX7_sheet 7 = .ok (.iload_n 2, 1) := by decide +kernel
theorem dX7_sheet_8 : decode cX7_sheet 8 = .ok (.invokestatic 285, 3) := by decide +kernel
theorem dX7_sheet_11 : decode cX7_sheet 11 = .ok (.ifCond .eq 9, 3) := by decide +kernel
theorem dX7_sheet_14 : decode cX7_sheet 14 = .ok (.iload_n 3, 1) := by decide +kernel
theorem dX7_sheet_15 : decode cX7_sheet 15 = .ok (.bipush 24, 2) := by decide +kernel
theorem dX7_sheet_17 : decode cX7_sheet 17 = .ok (.if_icmp .le 5, 3) := by decide +kernel
theorem dX7_sheet_20 : decode cX7_sheet 20 = .ok (.iconst (-1), 1) := by decide +kernel
theorem dX7_sheet_21 : decode cX7_sheet 21 = .ok (.ireturn, 1) := by decide +kernel
theorem dX7_sheet_22 : decode cX7_sheet 22 = .ok (.iload_n 3, 1) := by decide +kernel
theorem dX7_sheet_23 : decode cX7_sheet 23 = .ok (.ifCond .ge 6, 3) := by decide +kernel
theorem dX7_sheet_26 : decode cX7_sheet 26 = .ok (.bipush (-14), 2) := by decide +kernel
theorem dX7_sheet_28 : decode cX7_sheet 28 = .ok (.ireturn, 1) := by decide +kernel
theorem dX7_sheet_29 : decode cX7_sheet 29 = .ok (.aload_n 0, 1) := by decide +kernel
theorem dX7_sheet_30 : decode cX7_sheet 30 = .ok (.getfield 64, 3) := by decide +kernel
theorem dX7_sheet_33 : decode cX7_sheet 33 = .ok (.iload_n 1, 1) := by decide +kernel
theorem dX7_sheet_34 : decode cX7_sheet 34 = .ok (.aaload, 1) := by decide +kernel
theorem dX7_sheet_35 : decode cX7_sheet 35 = .ok (.iload_n 2, 1) := by decide +kernel
theorem dX7_sheet_36 : decode cX7_sheet 36 = .ok (.iload_n 3, 1) := by decide +kernel
theorem dX7_sheet_37 : decode cX7_sheet 37 = .ok (.invokevirtual 288, 3) := by decide +kernel
theorem dX7_sheet_40 : decode cX7_sheet 40 = .ok (.iload_n 3, 1) := by decide +kernel
theorem dX7_sheet_41 : decode cX7_sheet 41 = .ok (.ireturn, 1) := by decide +kernel
theorem dX7_drop_0 : decode cX7_drop 0 = .ok (.iload_n 1, 1) := by decide +kernel
theorem dX7_drop_1 : decode cX7_drop 1 = .ok (.invokestatic 282, 3) := by decide +kernel
theorem dX7_drop_4 : decode cX7_drop 4 = .ok (.ifCond .ne 5, 3) := by decide +kernel
theorem dX7_drop_7 : decode cX7_drop 7 = .ok (.iconst (-1), 1) := by decide +kernel
theorem dX7_drop_8 : decode cX7_drop 8 = .ok (.ireturn, 1) := by decide +kernel
theorem dX7_drop_9 : decode cX7_drop 9 = .ok (.aload_n 0, 1) := by decide +kernel
theorem dX7_drop_10 : decode cX7_drop 10 = .ok (.getfield 64, 3) := by decide +kernel
theorem dX7_drop_13 : decode cX7_drop 13 = .ok (.iload_n 1, 1) := by decide +kernel
theorem dX7_drop_14 : decode cX7_drop 14 = .ok (.aaload, 1) := by decide +kernel
theorem dX7_drop_15 : decode cX7_drop 15 = .ok (.getfield 291, 3) := by decide +kernel
theorem dX7_drop_18 : decode cX7_drop 18 = .ok (.iconst (-1), 1) := by decide +kernel
theorem dX7_drop_19 : decode cX7_drop 19 = .ok (.if_icmp .ne 6, 3) := by decide +kernel
theorem dX7_drop_22 : decode cX7_drop 22 = .ok (.bipush (-11), 2) := by decide +kernel
theorem dX7_drop_24 : decode cX7_drop 24 = .ok (.ireturn, 1) := by decide +kernel
theorem dX7_drop_25 : decode cX7_drop 25 = .ok (.aload_n 0, 1) := by decide +kernel
theorem dX7_drop_26 : decode cX7_drop 26 = .ok (.getfield 64, 3) := by decide +kernel
theorem dX7_drop_29 : decode cX7_drop 29 = .ok (.iload_n 1, 1) := by decide +kernel
theorem dX7_drop_30 : decode cX7_drop 30 = .ok (.aaload, 1) := by decide +kernel
theorem dX7_drop_31 : decode cX7_drop 31 = .ok (.getfield 294, 3) := by decide +kernel
theorem dX7_drop_34 : decode cX7_drop 34 = .ok (.istore_n 2, 1) := by decide +kernel
theorem dX7_drop_35 : decode cX7_drop 35 = .ok (.aload_n 0, 1) := by decide +kernel
theorem dX7_drop_36 : decode cX7_drop 36 = .ok (.getfield 64, 3) := by decide +kernel
theorem dX7_drop_39 : decode cX7_drop 39 = .ok (.iload_n 1, 1) := by decide +kernel
theorem dX7_drop_40 : decode cX7_drop 40 = .ok (.aaload, 1) := by decide +kernel
theorem dX7_drop_41 : decode cX7_drop 41 = .ok (.iconst (-1), 1) := by decide +kernel
theorem dX7_drop_42 : decode cX7_drop 42 = .ok (.iconst 0, 1) := by decide +kernel
theorem dX7_drop_43 : decode cX7_drop 43 = .ok (.invokevirtual 288, 3) := by decide +kernel
theorem dX7_drop_46 : decode cX7_drop 46 = .ok (.iload_n 2, 1) := by decide +kernel
theorem dX7_drop_47 : decode cX7_drop 47 = .ok (.ireturn, 1) := by decide +kernel
theorem dX7_item_0 : decode cX7_item 0 = .ok (.aload_n 0, 1) := by decide +kernel
theorem dX7_item_1 : decode cX7_item 1 = .ok (.iload_n 1, 1) := by decide +kernel
theorem dX7_item_2 : decode cX7_item 2 = .ok (.iload_n 2, 1) := by decide +kernel
theorem dX7_item_3 : decode cX7_item 3 = .ok (.iload_n 3, 1) := by decide +kernel
theorem dX7_item_4 : decode cX7_item 4 = .ok (.iconst 1, 1) := by decide +kernel
theorem dX7_item_5 : decode cX7_item 5 = .ok (.invokevirtual 261, 3) := by decide +kernel
theorem dX7_item_8 : decode cX7_item 8 = .ok (.istore 6, 2) := by decide +kernel
theorem dX7_item_10 : decode cX7_item 10 = .ok (.iload 6, 2) := by decide +kernel
theorem dX7_item_12 : decode cX7_item 12 = .ok (.ifCond .eq 6, 3) := by decide +kernel
theorem dX7_item_15 : decode cX7_item 15 = .ok (.iload 6, 2) := by decide +kernel
theorem dX7_item_17 : decode cX7_item 17 = .ok (.ireturn, 1) := by decide +kernel
theorem dX7_item_18 : decode cX7_item 18 = .ok (.aload_n 0, 1) := by decide +kernel
theorem dX7_item_19 : decode cX7_item 19 = .ok (.getfield 64, 3) := by decide +kernel
theorem dX7_item_22 : decode cX7_item 22 = .ok (.iload_n 1, 1) := by decide +kernel
theorem dX7_item_23 : decode cX7_item 23 = .ok (.aaload, 1) := by decide +kernel
theorem dX7_item_24 : decode cX7_item 24 = .ok (.iload_n 3, 1) := by decide +kernel
theorem dX7_item_25 : decode cX7_item 25 = .ok (.lload 4, 2) := by decide +kernel
theorem dX7_item_27 : decode cX7_item 27 = .ok (.invokevirtual 278, 3) := by decide +kernel
theorem dX7_item_30 : decode cX7_item 30 = .ok (.iconst 1, 1) := by decide +kernel
theorem dX7_item_31 : decode cX7_item 31 = .ok (.ireturn, 1) := by decide +kernel
theorem dX7_copy_0 : decode cX7_copy 0 = .ok (.iload_n 1, 1) := by decide +kernel
theorem dX7_copy_1 : decode cX7_copy 1 = .ok (.invokestatic 282, 3) := by decide +kernel
theorem dX7_copy_4 : decode cX7_copy 4 = .ok (.ifCond .eq 10, 3) := by decide +kernel
theorem dX7_copy_7 : decode cX7_copy 7 = .ok (.iload_n 3, 1) := by decide +kernel
theorem dX7_copy_8 : decode cX7_copy 8 = .ok (.invokestatic 282, 3) := by decide +kernel
theorem dX7_copy_11 : decode cX7_copy 11 = .ok (.ifCond .ne 5, 3) := by decide +kernel
theorem dX7_copy_14 : decode cX7_copy 14 = .ok (.iconst (-1), 1) := by decide +kernel
theorem dX7_copy_15 : decode cX7_copy 15 = .ok (.ireturn, 1) := by decide +kernel
theorem dX7_copy_16 : decode cX7_copy 16 = .ok (.aload_n 0, 1) := by decide +kernel
theorem dX7_copy_17 : decode cX7_copy 17 = .ok (.getfield 64, 3) := by decide +kernel
theorem dX7_copy_20 : decode cX7_copy 20 = .ok (.iload_n 1, 1) := by decide +kernel
theorem dX7_copy_21 : decode cX7_copy 21 = .ok (.aaload, 1) := by decide +kernel
theorem dX7_copy_22 : decode cX7_copy 22 = .ok (.astore 6, 2) := by decide +kernel
theorem dX7_copy_24 : decode cX7_copy 24 = .ok (.aload_n 0, 1) := by decide +kernel
theorem dX7_copy_25 : decode cX7_copy 25 = .ok (.getfield 64, 3) := by decide +kernel
theorem dX7_copy_28 : decode cX7_copy 28 = .ok (.iload_n 3, 1) := by decide +kernel
theorem dX7_copy_29 : decode cX7_copy 29 = .ok (.aaload, 1) := by decide +kernel
theorem dX7_copy_30 : decode cX7_copy 30 = .ok (.astore 7, 2) := by decide +kernel
theorem dX7_copy_32 : decode cX7_copy 32 = .ok (.aload 6, 2) := by decide +kernel
theorem dX7_copy_34 : decode cX7_copy 34 = .ok (.getfield 291, 3) := by decide +kernel
theorem dX7_copy_37 : decode cX7_copy 37 = .ok (.iconst (-1), 1) := by decide +kernel
theorem dX7_copy_38 : decode cX7_copy 38 = .ok (.if_icmp .eq 12, 3) := by decide +kernel
theorem dX7_copy_41 : decode cX7_copy 41 = .ok (.aload 7, 2) := by decide +kernel
theorem dX7_copy_43 : decode cX7_copy 43 = .ok (.getfield 291, 3) := by decide +kernel
theorem dX7_copy_46 : decode cX7_copy 46 = .ok (.iconst (-1), 1) := by decide +kernel
theorem dX7_copy_47 : decode cX7_copy 47 = .ok (.if_icmp .ne 6, 3) := by decide +kernel
theorem dX7_copy_50 : decode cX7_copy 50 = .ok (.bipush (-11), 2) := by decide +kernel
theorem dX7_copy_52 : decode cX7_copy 52 = .ok (.ireturn, 1) := by decide +kernel
theorem dX7_copy_53 : decode cX7_copy 53 = .ok (.aload 6, 2) := by decide +kernel
theorem dX7_copy_55 : decode cX7_copy 55 = .ok (.getfield 291, 3) := by decide +kernel
theorem dX7_copy_58 : decode cX7_copy 58 = .ok (.aload 7, 2) := by decide +kernel
theorem dX7_copy_60 : decode cX7_copy 60 = .ok (.getfield 291, 3) := by decide +kernel
theorem dX7_copy_63 : decode cX7_copy 63 = .ok (.if_icmp .eq 6, 3) := by decide +kernel
theorem dX7_copy_66 : decode cX7_copy 66 = .ok (.bipush (-12), 2) := by decide +kernel
theorem dX7_copy_68 : decode cX7_copy 68 = .ok (.ireturn, 1) := by decide +kernel
theorem dX7_copy_69 : decode cX7_copy 69 = .ok (.aload 6, 2) := by decide +kernel
theorem dX7_copy_71 : decode cX7_copy 71 = .ok (.iload_n 2, 1) := by decide +kernel
theorem dX7_copy_72 : decode cX7_copy 72 = .ok (.iload 5, 2) := by decide +kernel
theorem dX7_copy_74 : decode cX7_copy 74 = .ok (.invokevirtual 295, 3) := by decide +kernel
theorem dX7_copy_77 : decode cX7_copy 77 = .ok (.ifCond .eq 15, 3) := by decide +kernel
theorem dX7_copy_80 : decode cX7_copy 80 = .ok (.aload 7, 2) := by decide +kernel
theorem dX7_copy_82 : decode cX7_copy 82 = .ok (.iload 4, 2) := by decide +kernel
theorem dX7_copy_84 : decode cX7_copy 84 = .ok (.iload 5, 2) := by decide +kernel
theorem dX7_copy_86 : decode cX7_copy 86 = .ok (.invokevirtual 295, 3) := by decide +kernel
theorem dX7_copy_89 : decode cX7_copy 89 = .ok (.ifCond .ne 6, 3) := by decide +kernel
theorem dX7_copy_92 : decode cX7_copy 92 = .ok (.bipush (-13), 2) := by decide +kernel
theorem dX7_copy_94 : decode cX7_copy 94 = .ok (.ireturn, 1) := by decide +kernel
theorem dX7_copy_95 : decode cX7_copy 95 = .ok (.aload 6, 2) := by decide +kernel
theorem dX7_copy_97 : decode cX7_copy 97 = .ok (.getfield 268, 3) := by decide +kernel
theorem dX7_copy_100 : decode cX7_copy 100 = .ok (.iload_n 2, 1) := by decide +kernel
theorem dX7_copy_101 : decode cX7_copy 101 = .ok (.aload 7, 2) := by decide +kernel
theorem dX7_copy_103 : decode cX7_copy 103 = .ok (.getfield 268, 3) := by decide +kernel
theorem dX7_copy_106 : decode cX7_copy 106 = .ok (.iload 4, 2) := by decide +kernel
theorem dX7_copy_108 : decode cX7_copy 108 = .ok (.iload 5, 2) := by decide +kernel
theorem dX7_copy_110 : decode cX7_copy 110 = .ok (.invokestatic 299, 3) := by decide +kernel
theorem dX7_copy_113 : decode cX7_copy 113 = .ok (.iload 5, 2) := by decide +kernel
theorem dX7_copy_115 : decode cX7_copy 115 = .ok (.ireturn, 1) := by decide +kernel
theorem dX7_remembered_0 : decode cX7_remembered 0 = .ok (.iload_n 1, 1) := by decide +kernel
theorem dX7_remembered_1 : decode cX7_remembered 1 = .ok (.ifCond .lt 14, 3) := by decide +kernel
theorem dX7_remembered_4 : decode cX7_remembered 4 = .ok (.aload_n 0, 1) := by decide +kernel
theorem dX7_remembered_5 : decode cX7_remembered 5 = .ok (.getfield 22, 3) := by decide +kernel
theorem dX7_remembered_8 : decode cX7_remembered 8 = .ok (.aload_n 0, 1) := by decide +kernel
theorem dX7_remembered_9 : decode cX7_remembered 9 = .ok (.getfield 16, 3) := by decide +kernel
theorem dX7_remembered_12 : decode cX7_remembered 12 = .ok (.invokevirtual 239, 3) := by decide +kernel
theorem dX7_remembered_15 : decode cX7_remembered 15 = .ok (.iload_n 1, 1) := by decide +kernel
theorem dX7_remembered_16 : decode cX7_remembered 16 = .ok (.ireturn, 1) := by decide +kernel
theorem dX7_takeTurn_0 : decode cX7_takeTurn 0 = .ok (.aload_n 0, 1) := by decide +kernel
theorem dX7_takeTurn_1 : decode cX7_takeTurn 1 = .ok (.getfield 12, 3) := by decide +kernel
theorem dX7_takeTurn_4 : decode cX7_takeTurn 4 = .ok (.invokevirtual 305, 3) := by decide +kernel
theorem dX7_takeTurn_7 : decode cX7_takeTurn 7 = .ok (.aload_n 0, 1) := by decide +kernel
theorem dX7_takeTurn_8 : decode cX7_takeTurn 8 = .ok (.getfield 12, 3) := by decide +kernel
theorem dX7_takeTurn_11 : decode cX7_takeTurn 11 = .ok (.getfield 251, 3) := by decide +kernel
theorem dX7_takeTurn_14 : decode cX7_takeTurn 14 = .ok (.ldc_w 308, 3) := by decide +kernel
theorem dX7_takeTurn_17 : decode cX7_takeTurn 17 = .ok (.idiv, 1) := by decide +kernel
theorem dX7_takeTurn_18 : decode cX7_takeTurn 18 = .ok (.istore_n 1, 1) := by decide +kernel
theorem dX7_takeTurn_19 : decode cX7_takeTurn 19 = .ok (.aload_n 0, 1) := by decide +kernel
theorem dX7_takeTurn_20 : decode cX7_takeTurn 20 = .ok (.getfield 12, 3) := by decide +kernel
theorem dX7_takeTurn_23 : decode cX7_takeTurn 23 = .ok (.invokevirtual 305, 3) := by decide +kernel
theorem dX7_takeTurn_26 : decode cX7_takeTurn 26 = .ok (.aload_n 0, 1) := by decide +kernel
theorem dX7_takeTurn_27 : decode cX7_takeTurn 27 = .ok (.getfield 12, 3) := by decide +kernel
theorem dX7_takeTurn_30 : decode cX7_takeTurn 30 = .ok (.getfield 251, 3) := by decide +kernel
theorem dX7_takeTurn_33 : decode cX7_takeTurn 33 = .ok (.sipush 2048, 3) := by decide +kernel
theorem dX7_takeTurn_36 : decode cX7_takeTurn 36 = .ok (.idiv, 1) := by decide +kernel
theorem dX7_takeTurn_37 : decode cX7_takeTurn 37 = .ok (.ldc_w 309, 3) := by decide +kernel
theorem dX7_takeTurn_40 : decode cX7_takeTurn 40 = .ok (.irem, 1) := by decide +kernel
theorem dX7_takeTurn_41 : decode cX7_takeTurn 41 = .ok (.istore_n 2, 1) := by decide +kernel
theorem dX7_takeTurn_42 : decode cX7_takeTurn 42 = .ok (.iload_n 1, 1) := by decide +kernel
theorem dX7_takeTurn_43 : decode cX7_takeTurn 43 = .ok (.bipush 8, 2) := by decide +kernel
theorem dX7_takeTurn_45 : decode cX7_takeTurn 45 = .ok (.idiv, 1) := by decide +kernel
theorem dX7_takeTurn_46 : decode cX7_takeTurn 46 = .ok (.bipush 7, 2) := by decide +kernel
theorem dX7_takeTurn_48 : decode cX7_takeTurn 48 = .ok (.irem, 1) := by decide +kernel
theorem dX7_takeTurn_49 : decode cX7_takeTurn 49 = .ok (.istore_n 3, 1) := by decide +kernel
theorem dX7_takeTurn_50 : decode cX7_takeTurn 50 = .ok (.iload_n 1, 1) := by decide +kernel
theorem dX7_takeTurn_51 : decode cX7_takeTurn 51 = .ok (.bipush 64, 2) := by decide +kernel
theorem dX7_takeTurn_53 : decode cX7_takeTurn 53 = .ok (.idiv, 1) := by decide +kernel
theorem dX7_takeTurn_54 : decode cX7_takeTurn 54 = .ok (.bipush 7, 2) := by decide +kernel
theorem dX7_takeTurn_56 : decode cX7_takeTurn 56 = .ok (.irem, 1) := by decide +kernel
theorem dX7_takeTurn_57 : decode cX7_takeTurn 57 = .ok (.istore 4, 2) := by decide +kernel
theorem dX7_takeTurn_59 : decode cX7_takeTurn 59 = .ok (.iload_n 1, 1) := by decide +kernel
theorem dX7_takeTurn_60 : decode cX7_takeTurn 60 = .ok (.bipush 8, 2) := by decide +kernel
theorem dX7_takeTurn_62 : decode cX7_takeTurn 62 = .ok (.irem, 1) := by decide +kernel
theorem dX7_takeTurn_63 : decode cX7_takeTurn 63 = .ok (.tableswitch 114 0 6 #[41, 41, 53, 66, 80, 80, 94], 41) := by decide +kernel
theorem dX7_takeTurn_104 : decode cX7_takeTurn 104 = .ok (.aload_n 0, 1) := by decide +kernel
theorem dX7_takeTurn_105 : decode cX7_takeTurn 105 = .ok (.getfield 12, 3) := by decide +kernel
theorem dX7_takeTurn_108 : decode cX7_takeTurn 108 = .ok (.iload_n 2, 1) := by decide +kernel
theorem dX7_takeTurn_109 : decode cX7_takeTurn 109 = .ok (.invokevirtual 73, 3) := by decide +kernel
theorem dX7_takeTurn_112 : decode cX7_takeTurn 112 = .ok (.pop, 1) := by decide +kernel
theorem dX7_takeTurn_113 : decode cX7_takeTurn 113 = .ok (.goto 79, 3) := by decide +kernel
theorem dX7_takeTurn_116 : decode cX7_takeTurn 116 = .ok (.aload_n 0, 1) := by decide +kernel
theorem dX7_takeTurn_117 : decode cX7_takeTurn 117 = .ok (.getfield 12, 3) := by decide +kernel
theorem dX7_takeTurn_120 : decode cX7_takeTurn 120 = .ok (.iload_n 3, 1) := by decide +kernel
theorem dX7_takeTurn_121 : decode cX7_takeTurn 121 = .ok (.iload_n 2, 1) := by decide +kernel
theorem dX7_takeTurn_122 : decode cX7_takeTurn 122 = .ok (.invokevirtual 80, 3) := by decide +kernel
theorem dX7_takeTurn_125 : decode cX7_takeTurn 125 = .ok (.pop, 1) := by decide +kernel
theorem dX7_takeTurn_126 : decode cX7_takeTurn 126 = .ok (.goto 66, 3) := by decide +kernel
theorem dX7_takeTurn_129 : decode cX7_takeTurn 129 = .ok (.aload_n 0, 1) := by decide +kernel
theorem dX7_takeTurn_130 : decode cX7_takeTurn 130 = .ok (.getfield 12, 3) := by decide +kernel
theorem dX7_takeTurn_133 : decode cX7_takeTurn 133 = .ok (.iload_n 3, 1) := by decide +kernel
theorem dX7_takeTurn_134 : decode cX7_takeTurn 134 = .ok (.iload 4, 2) := by decide +kernel
theorem dX7_takeTurn_136 : decode cX7_takeTurn 136 = .ok (.invokevirtual 87, 3) := by decide +kernel
theorem dX7_takeTurn_139 : decode cX7_takeTurn 139 = .ok (.pop, 1) := by decide +kernel
theorem dX7_takeTurn_140 : decode cX7_takeTurn 140 = .ok (.goto 52, 3) := by decide +kernel
theorem dX7_takeTurn_143 : decode cX7_takeTurn 143 = .ok (.aload_n 0, 1) := by decide +kernel
theorem dX7_takeTurn_144 : decode cX7_takeTurn 144 = .ok (.getfield 12, 3) := by decide +kernel
theorem dX7_takeTurn_147 : decode cX7_takeTurn 147 = .ok (.iload_n 3, 1) := by decide +kernel
theorem dX7_takeTurn_148 : decode cX7_takeTurn 148 = .ok (.iload 4, 2) := by decide +kernel
theorem dX7_takeTurn_150 : decode cX7_takeTurn 150 = .ok (.invokevirtual 96, 3) := by decide +kernel
theorem dX7_takeTurn_153 : decode cX7_takeTurn 153 = .ok (.pop, 1) := by decide +kernel
theorem dX7_takeTurn_154 : decode cX7_takeTurn 154 = .ok (.goto 38, 3) := by decide +kernel
theorem dX7_takeTurn_157 : decode cX7_takeTurn 157 = .ok (.aload_n 0, 1) := by decide +kernel
theorem dX7_takeTurn_158 : decode cX7_takeTurn 158 = .ok (.getfield 12, 3) := by decide +kernel
theorem dX7_takeTurn_161 : decode cX7_takeTurn 161 = .ok (.iconst 0, 1) := by decide +kernel
theorem dX7_takeTurn_162 : decode cX7_takeTurn 162 = .ok (.iload_n 1, 1) := by decide +kernel
theorem dX7_takeTurn_163 : decode cX7_takeTurn 163 = .ok (.bipush 8, 2) := by decide +kernel
theorem dX7_takeTurn_165 : decode cX7_takeTurn 165 = .ok (.idiv, 1) := by decide +kernel
theorem dX7_takeTurn_166 : decode cX7_takeTurn 166 = .ok (.iconst 4, 1) := by decide +kernel
theorem dX7_takeTurn_167 : decode cX7_takeTurn 167 = .ok (.irem, 1) := by decide +kernel
theorem dX7_takeTurn_168 : decode cX7_takeTurn 168 = .ok (.iconst 1, 1) := by decide +kernel
theorem dX7_takeTurn_169 : decode cX7_takeTurn 169 = .ok (.iadd, 1) := by decide +kernel
theorem dX7_takeTurn_170 : decode cX7_takeTurn 170 = .ok (.invokevirtual 93, 3) := by decide +kernel
theorem dX7_takeTurn_173 : decode cX7_takeTurn 173 = .ok (.pop, 1) := by decide +kernel
theorem dX7_takeTurn_174 : decode cX7_takeTurn 174 = .ok (.goto 18, 3) := by decide +kernel
theorem dX7_takeTurn_177 : decode cX7_takeTurn 177 = .ok (.aload_n 0, 1) := by decide +kernel
theorem dX7_takeTurn_178 : decode cX7_takeTurn 178 = .ok (.getfield 12, 3) := by decide +kernel
theorem dX7_takeTurn_181 : decode cX7_takeTurn 181 = .ok (.iconst 2, 1) := by decide +kernel
theorem dX7_takeTurn_182 : decode cX7_takeTurn 182 = .ok (.iload_n 1, 1) := by decide +kernel
theorem dX7_takeTurn_183 : decode cX7_takeTurn 183 = .ok (.bipush 8, 2) := by decide +kernel
theorem dX7_takeTurn_185 : decode cX7_takeTurn 185 = .ok (.idiv, 1) := by decide +kernel
theorem dX7_takeTurn_186 : decode cX7_takeTurn 186 = .ok (.iconst 3, 1) := by decide +kernel
theorem dX7_takeTurn_187 : decode cX7_takeTurn 187 = .ok (.irem, 1) := by decide +kernel
theorem dX7_takeTurn_188 : decode cX7_takeTurn 188 = .ok (.invokevirtual 93, 3) := by decide +kernel
theorem dX7_takeTurn_191 : decode cX7_takeTurn 191 = .ok (.pop, 1) := by decide +kernel
theorem dX7_takeTurn_192 : decode cX7_takeTurn 192 = .ok (.return_, 1) := by decide +kernel
theorem dX7_seekBestOrGrown_0 : decode cX7_seekBestOrGrown 0 = .ok (.aload_n 0, 1) := by decide +kernel
theorem dX7_seekBestOrGrown_1 : decode cX7_seekBestOrGrown 1 = .ok (.getfield 58, 3) := by decide +kernel
theorem dX7_seekBestOrGrown_4 : decode cX7_seekBestOrGrown 4 = .ok (.aload_n 0, 1) := by decide +kernel
theorem dX7_seekBestOrGrown_5 : decode cX7_seekBestOrGrown 5 = .ok (.getfield 12, 3) := by decide +kernel
theorem dX7_seekBestOrGrown_8 : decode cX7_seekBestOrGrown 8 = .ok (.invokevirtual 191, 3) := by decide +kernel
theorem dX7_seekBestOrGrown_11 : decode cX7_seekBestOrGrown 11 = .ok (.iload_n 1, 1) := by decide +kernel
theorem dX7_seekBestOrGrown_12 : decode cX7_seekBestOrGrown 12 = .ok (.ifCond .eq 13, 3) := by decide +kernel
theorem dX7_seekBestOrGrown_15 : decode cX7_seekBestOrGrown 15 = .ok (.aload_n 0, 1) := by decide +kernel
theorem dX7_seekBestOrGrown_16 : decode cX7_seekBestOrGrown 16 = .ok (.getfield 58, 3) := by decide +kernel
theorem dX7_seekBestOrGrown_19 : decode cX7_seekBestOrGrown 19 = .ok (.invokevirtual 310, 3) := by decide +kernel
theorem dX7_seekBestOrGrown_22 : decode cX7_seekBestOrGrown 22 = .ok (.goto 10, 3) := by decide +kernel
theorem dX7_seekBestOrGrown_25 : decode cX7_seekBestOrGrown 25 = .ok (.aload_n 0, 1) := by decide +kernel
theorem dX7_seekBestOrGrown_26 : decode cX7_seekBestOrGrown 26 = .ok (.getfield 58, 3) := by decide +kernel
theorem dX7_seekBestOrGrown_29 : decode cX7_seekBestOrGrown 29 = .ok (.invokevirtual 313, 3) := by decide +kernel
theorem dX7_seekBestOrGrown_32 : decode cX7_seekBestOrGrown 32 = .ok (.return_, 1) := by decide +kernel
theorem dX7_countOfReading_0 : decode cX7_countOfReading 0 = .ok (.aload_n 0, 1) := by decide +kernel
theorem dX7_countOfReading_1 : decode cX7_countOfReading 1 = .ok (.getfield 51, 3) := by decide +kernel
theorem dX7_countOfReading_4 : decode cX7_countOfReading 4 = .ok (.aload_n 0, 1) := by decide +kernel
theorem dX7_countOfReading_5 : decode cX7_countOfReading 5 = .ok (.getfield 12, 3) := by decide +kernel
theorem dX7_countOfReading_8 : decode cX7_countOfReading 8 = .ok (.invokevirtual 119, 3) := by decide +kernel
theorem dX7_countOfReading_11 : decode cX7_countOfReading 11 = .ok (.aload_n 0, 1) := by decide +kernel
theorem dX7_countOfReading_12 : decode cX7_countOfReading 12 = .ok (.getfield 12, 3) := by decide +kernel
theorem dX7_countOfReading_15 : decode cX7_countOfReading 15 = .ok (.invokevirtual 316, 3) := by decide +kernel
theorem dX7_countOfReading_18 : decode cX7_countOfReading 18 = .ok (.ifCond .eq 24, 3) := by decide +kernel
theorem dX7_countOfReading_21 : decode cX7_countOfReading 21 = .ok (.aload_n 0, 1) := by decide +kernel
theorem dX7_countOfReading_22 : decode cX7_countOfReading 22 = .ok (.getfield 51, 3) := by decide +kernel
theorem dX7_countOfReading_25 : decode cX7_countOfReading 25 = .ok (.invokevirtual 320, 3) := by decide +kernel
theorem dX7_countOfReading_28 : decode cX7_countOfReading 28 = .ok (.aload_n 0, 1) := by decide +kernel
theorem dX7_countOfReading_29 : decode cX7_countOfReading 29 = .ok (.getfield 12, 3) := by decide +kernel
theorem dX7_countOfReading_32 : decode cX7_countOfReading 32 = .ok (.getfield 170, 3) := by decide +kernel
theorem dX7_countOfReading_35 : decode cX7_countOfReading 35 = .ok (.if_icmp .gt 7, 3) := by decide +kernel
theorem dX7_countOfReading_38 : decode cX7_countOfReading 38 = .ok (.iconst 1, 1) := by decide +kernel
theorem dX7_countOfReading_39 : decode cX7_countOfReading 39 = .ok (.goto 4, 3) := by decide +kernel
theorem dX7_countOfReading_42 : decode cX7_countOfReading 42 = .ok (.iconst 0, 1) := by decide +kernel
theorem dX7_countOfReading_43 : decode cX7_countOfReading 43 = .ok (.istore_n 2, 1) := by decide +kernel
theorem dX7_countOfReading_44 : decode cX7_countOfReading 44 = .ok (.iload_n 1, 1) := by decide +kernel
theorem dX7_countOfReading_45 : decode cX7_countOfReading 45 = .ok (.tableswitch 59 6 8 #[27, 35, 43], 27) := by decide +kernel
theorem dX7_countOfReading_72 : decode cX7_countOfReading 72 = .ok (.aload_n 0, 1) := by decide +kernel
theorem dX7_countOfReading_73 : decode cX7_countOfReading 73 = .ok (.getfield 51, 3) := by decide +kernel
theorem dX7_countOfReading_76 : decode cX7_countOfReading 76 = .ok (.invokevirtual 320, 3) := by decide +kernel
theorem dX7_countOfReading_79 : decode cX7_countOfReading 79 = .ok (.ireturn, 1) := by decide +kernel
theorem dX7_countOfReading_80 : decode cX7_countOfReading 80 = .ok (.aload_n 0, 1) := by decide +kernel
theorem dX7_countOfReading_81 : decode cX7_countOfReading 81 = .ok (.getfield 51, 3) := by decide +kernel
theorem dX7_countOfReading_84 : decode cX7_countOfReading 84 = .ok (.invokevirtual 323, 3) := by decide +kernel
theorem dX7_countOfReading_87 : decode cX7_countOfReading 87 = .ok (.ireturn, 1) := by decide +kernel
theorem dX7_countOfReading_88 : decode cX7_countOfReading 88 = .ok (.aload_n 0, 1) := by decide +kernel
theorem dX7_countOfReading_89 : decode cX7_countOfReading 89 = .ok (.getfield 12, 3) := by decide +kernel
theorem dX7_countOfReading_92 : decode cX7_countOfReading 92 = .ok (.invokevirtual 316, 3) := by decide +kernel
theorem dX7_countOfReading_95 : decode cX7_countOfReading 95 = .ok (.ifCond .eq 7, 3) := by decide +kernel
theorem dX7_countOfReading_98 : decode cX7_countOfReading 98 = .ok (.iconst 1, 1) := by decide +kernel
theorem dX7_countOfReading_99 : decode cX7_countOfReading 99 = .ok (.goto 4, 3) := by decide +kernel
theorem dX7_countOfReading_102 : decode cX7_countOfReading 102 = .ok (.iconst 0, 1) := by decide +kernel
theorem dX7_countOfReading_103 : decode cX7_countOfReading 103 = .ok (.ireturn, 1) := by decide +kernel
theorem dX7_countOfReading_104 : decode cX7_countOfReading 104 = .ok (.iload_n 2, 1) := by decide +kernel
theorem dX7_countOfReading_105 : decode cX7_countOfReading 105 = .ok (.ifCond .eq 7, 3) := by decide +kernel
theorem dX7_countOfReading_108 : decode cX7_countOfReading 108 = .ok (.iconst 1, 1) := by decide +kernel
theorem dX7_countOfReading_109 : decode cX7_countOfReading 109 = .ok (.goto 4, 3) := by decide +kernel
theorem dX7_countOfReading_112 : decode cX7_countOfReading 112 = .ok (.iconst 0, 1) := by decide +kernel
theorem dX7_countOfReading_113 : decode cX7_countOfReading 113 = .ok (.ireturn, 1) := by decide +kernel
theorem dX7_firstWith_0 : decode cX7_firstWith 0 = .ok (.iconst 0, 1) := by decide +kernel
theorem dX7_firstWith_1 : decode cX7_firstWith 1 = .ok (.istore_n 3, 1) := by decide +kernel
theorem dX7_firstWith_2 : decode cX7_firstWith 2 = .ok (.iload_n 3, 1) := by decide +kernel
theorem dX7_firstWith_3 : decode cX7_firstWith 3 = .ok (.aload_n 0, 1) := by decide +kernel
theorem dX7_firstWith_4 : decode cX7_firstWith 4 = .ok (.getfield 12, 3) := by decide +kernel
theorem dX7_firstWith_7 : decode cX7_firstWith 7 = .ok (.getfield 99, 3) := by decide +kernel
theorem dX7_firstWith_10 : decode cX7_firstWith 10 = .ok (.if_icmp .ge 21, 3) := by decide +kernel
theorem dX7_firstWith_13 : decode cX7_firstWith 13 = .ok (.aload_n 1, 1) := by decide +kernel
theorem dX7_firstWith_14 : decode cX7_firstWith 14 = .ok (.iload_n 3, 1) := by decide +kernel
theorem dX7_firstWith_15 : decode cX7_firstWith 15 = .ok (.iaload, 1) := by decide +kernel
theorem dX7_firstWith_16 : decode cX7_firstWith 16 = .ok (.iload_n 2, 1) := by decide +kernel
theorem dX7_firstWith_17 : decode cX7_firstWith 17 = .ok (.invokestatic 325, 3) := by decide +kernel
theorem dX7_firstWith_20 : decode cX7_firstWith 20 = .ok (.ifCond .eq 5, 3) := by decide +kernel
theorem dX7_firstWith_23 : decode cX7_firstWith 23 = .ok (.iload_n 3, 1) := by decide +kernel
theorem dX7_firstWith_24 : decode cX7_firstWith 24 = .ok (.ireturn, 1) := by decide +kernel
theorem dX7_firstWith_25 : decode cX7_firstWith 25 = .ok (.iinc 3 1, 3) := by decide +kernel
theorem dX7_firstWith_28 : decode cX7_firstWith 28 = .ok (.goto (-26), 3) := by decide +kernel
theorem dX7_firstWith_31 : decode cX7_firstWith 31 = .ok (.bipush (-4), 2) := by decide +kernel
theorem dX7_firstWith_33 : decode cX7_firstWith 33 = .ok (.ireturn, 1) := by decide +kernel
theorem dX7_howManyWith_0 : decode cX7_howManyWith 0 = .ok (.iconst 0, 1) := by decide +kernel
theorem dX7_howManyWith_1 : decode cX7_howManyWith 1 = .ok (.istore_n 3, 1) := by decide +kernel
theorem dX7_howManyWith_2 : decode cX7_howManyWith 2 = .ok (.iconst 0, 1) := by decide +kernel
theorem dX7_howManyWith_3 : decode cX7_howManyWith 3 = .ok (.istore 4, 2) := by decide +kernel
theorem dX7_howManyWith_5 : decode cX7_howManyWith 5 = .ok (.iload 4, 2) := by decide +kernel
theorem dX7_howManyWith_7 : decode cX7_howManyWith 7 = .ok (.aload_n 0, 1) := by decide +kernel
theorem dX7_howManyWith_8 : decode cX7_howManyWith 8 = .ok (.getfield 12, 3) := by decide +kernel
theorem dX7_howManyWith_11 : decode cX7_howManyWith 11 = .ok (.getfield 99, 3) := by decide +kernel
theorem dX7_howManyWith_14 : decode cX7_howManyWith 14 = .ok (.if_icmp .ge 23, 3) := by decide +kernel
theorem dX7_howManyWith_17 : decode cX7_howManyWith 17 = .ok (.aload_n 1, 1) := by decide +kernel
theorem dX7_howManyWith_18 : decode cX7_howManyWith 18 = .ok (.iload 4, 2) := by decide +kernel
theorem dX7_howManyWith_20 : decode cX7_howManyWith 20 = .ok (.iaload, 1) := by decide +kernel
theorem dX7_howManyWith_21 : decode cX7_howManyWith 21 = .ok (.iload_n 2, 1) := by decide +kernel
theorem dX7_howManyWith_22 : decode cX7_howManyWith 22 = .ok (.invokestatic 325, 3) := by decide +kernel
theorem dX7_howManyWith_25 : decode cX7_howManyWith 25 = .ok (.ifCond .eq 6, 3) := by decide +kernel
theorem dX7_howManyWith_28 : decode cX7_howManyWith 28 = .ok (.iinc 3 1, 3) := by decide +kernel
theorem dX7_howManyWith_31 : decode cX7_howManyWith 31 = .ok (.iinc 4 1, 3) := by decide +kernel
theorem dX7_howManyWith_34 : decode cX7_howManyWith 34 = .ok (.goto (-29), 3) := by decide +kernel
theorem dX7_howManyWith_37 : decode cX7_howManyWith 37 = .ok (.iload_n 3, 1) := by decide +kernel
theorem dX7_howManyWith_38 : decode cX7_howManyWith 38 = .ok (.ireturn, 1) := by decide +kernel
theorem dX7_placesWith_0 : decode cX7_placesWith 0 = .ok (.iconst 0, 1) := by decide +kernel
theorem dX7_placesWith_1 : decode cX7_placesWith 1 = .ok (.istore_n 2, 1) := by decide +kernel
theorem dX7_placesWith_2 : decode cX7_placesWith 2 = .ok (.iconst 0, 1) := by decide +kernel
theorem dX7_placesWith_3 : decode cX7_placesWith 3 = .ok (.istore_n 3, 1) := by decide +kernel
theorem dX7_placesWith_4 : decode cX7_placesWith 4 = .ok (.iload_n 3, 1) := by decide +kernel
theorem dX7_placesWith_5 : decode cX7_placesWith 5 = .ok (.aload_n 0, 1) := by decide +kernel
theorem dX7_placesWith_6 : decode cX7_placesWith 6 = .ok (.getfield 12, 3) := by decide +kernel
theorem dX7_placesWith_9 : decode cX7_placesWith 9 = .ok (.getfield 99, 3) := by decide +kernel
theorem dX7_placesWith_12 : decode cX7_placesWith 12 = .ok (.if_icmp .ge 38, 3) := by decide +kernel
theorem dX7_placesWith_15 : decode cX7_placesWith 15 = .ok (.aload_n 0, 1) := by decide +kernel
theorem dX7_placesWith_16 : decode cX7_placesWith 16 = .ok (.getfield 12, 3) := by decide +kernel
theorem dX7_placesWith_19 : decode cX7_placesWith 19 = .ok (.aload_n 0, 1) := by decide +kernel
theorem dX7_placesWith_20 : decode cX7_placesWith 20 = .ok (.getfield 12, 3) := by decide +kernel
theorem dX7_placesWith_23 : decode cX7_placesWith 23 = .ok (.getfield 122, 3) := by decide +kernel
theorem dX7_placesWith_26 : decode cX7_placesWith 26 = .ok (.iload_n 3, 1) := by decide +kernel
theorem dX7_placesWith_27 : decode cX7_placesWith 27 = .ok (.iaload, 1) := by decide +kernel
theorem dX7_placesWith_28 : decode cX7_placesWith 28 = .ok (.invokevirtual 328, 3) := by decide +kernel
theorem dX7_placesWith_31 : decode cX7_placesWith 31 = .ok (.iload_n 1, 1) := by decide +kernel
theorem dX7_placesWith_32 : decode cX7_placesWith 32 = .ok (.invokestatic 325, 3) := by decide +kernel
theorem dX7_placesWith_35 : decode cX7_placesWith 35 = .ok (.ifCond .eq 9, 3) := by decide +kernel
theorem dX7_placesWith_38 : decode cX7_placesWith 38 = .ok (.iload_n 2, 1) := by decide +kernel
theorem dX7_placesWith_39 : decode cX7_placesWith 39 = .ok (.iconst 1, 1) := by decide +kernel
theorem dX7_placesWith_40 : decode cX7_placesWith 40 = .ok (.iload_n 3, 1) := by decide +kernel
theorem dX7_placesWith_41 : decode cX7_placesWith 41 = .ok (.ishl, 1) := by decide +kernel
theorem dX7_placesWith_42 : decode cX7_placesWith 42 = .ok (.ior, 1) := by decide +kernel
theorem dX7_placesWith_43 : decode cX7_placesWith 43 = .ok (.istore_n 2, 1) := by decide +kernel
theorem dX7_placesWith_44 : decode cX7_placesWith 44 = .ok (.iinc 3 1, 3) := by decide +kernel
theorem dX7_placesWith_47 : decode cX7_placesWith 47 = .ok (.goto (-43), 3) := by decide +kernel
theorem dX7_placesWith_50 : decode cX7_placesWith 50 = .ok (.iload_n 2, 1) := by decide +kernel
theorem dX7_placesWith_51 : decode cX7_placesWith 51 = .ok (.ireturn, 1) := by decide +kernel
theorem dX7_waysToKeep_0 : decode cX7_waysToKeep 0 = .ok (.aload_n 0, 1) := by decide +kernel
theorem dX7_waysToKeep_1 : decode cX7_waysToKeep 1 = .ok (.getfield 51, 3) := by decide +kernel
theorem dX7_waysToKeep_4 : decode cX7_waysToKeep 4 = .ok (.aload_n 0, 1) := by decide +kernel
theorem dX7_waysToKeep_5 : decode cX7_waysToKeep 5 = .ok (.getfield 12, 3) := by decide +kernel
theorem dX7_waysToKeep_8 : decode cX7_waysToKeep 8 = .ok (.invokevirtual 331, 3) := by decide +kernel
theorem dX7_waysToKeep_11 : decode cX7_waysToKeep 11 = .ok (.iconst 0, 1) := by decide +kernel
theorem dX7_waysToKeep_12 : decode cX7_waysToKeep 12 = .ok (.istore_n 3, 1) := by decide +kernel
theorem dX7_waysToKeep_13 : decode cX7_waysToKeep 13 = .ok (.iconst 0, 1) := by decide +kernel
theorem dX7_waysToKeep_14 : decode cX7_waysToKeep 14 = .ok (.istore 4, 2) := by decide +kernel
theorem dX7_waysToKeep_16 : decode cX7_waysToKeep 16 = .ok (.iload 4, 2) := by decide +kernel
theorem dX7_waysToKeep_18 : decode cX7_waysToKeep 18 = .ok (.iconst 1, 1) := by decide +kernel
theorem dX7_waysToKeep_19 : decode cX7_waysToKeep 19 = .ok (.aload_n 0, 1) := by decide +kernel
theorem dX7_waysToKeep_20 : decode cX7_waysToKeep 20 = .ok (.getfield 12, 3) := by decide +kernel
theorem dX7_waysToKeep_23 : decode cX7_waysToKeep 23 = .ok (.getfield 99, 3) := by decide +kernel
theorem dX7_waysToKeep_26 : decode cX7_waysToKeep 26 = .ok (.ishl, 1) := by decide +kernel
theorem dX7_waysToKeep_27 : decode cX7_waysToKeep 27 = .ok (.if_icmp .ge 65, 3) := by decide +kernel
theorem dX7_waysToKeep_30 : decode cX7_waysToKeep 30 = .ok (.iload 4, 2) := by decide +kernel
theorem dX7_waysToKeep_32 : decode cX7_waysToKeep 32 = .ok (.iload_n 1, 1) := by decide +kernel
theorem dX7_waysToKeep_33 : decode cX7_waysToKeep 33 = .ok (.iconst (-1), 1) := by decide +kernel
theorem dX7_waysToKeep_34 : decode cX7_waysToKeep 34 = .ok (.ixor, 1) := by decide +kernel
theorem dX7_waysToKeep_35 : decode cX7_waysToKeep 35 = .ok (.iand, 1) := by decide +kernel
theorem dX7_waysToKeep_36 : decode cX7_waysToKeep 36 = .ok (.ifCond .ne 50, 3) := by decide +kernel
theorem dX7_waysToKeep_39 : decode cX7_waysToKeep 39 = .ok (.aload_n 0, 1) := by decide +kernel
theorem dX7_waysToKeep_40 : decode cX7_waysToKeep 40 = .ok (.getfield 51, 3) := by decide +kernel
theorem dX7_waysToKeep_43 : decode cX7_waysToKeep 43 = .ok (.iload 4, 2) := by decide +kernel
theorem dX7_waysToKeep_45 : decode cX7_waysToKeep 45 = .ok (.invokevirtual 334, 3) := by decide +kernel
theorem dX7_waysToKeep_48 : decode cX7_waysToKeep 48 = .ok (.ifCond .eq 38, 3) := by decide +kernel
theorem dX7_waysToKeep_51 : decode cX7_waysToKeep 51 = .ok (.iload 4, 2) := by decide +kernel
theorem dX7_waysToKeep_53 : decode cX7_waysToKeep 53 = .ok (.invokestatic 128, 3) := by decide +kernel
theorem dX7_waysToKeep_56 : decode cX7_waysToKeep 56 = .ok (.istore 5, 2) := by decide +kernel
theorem dX7_waysToKeep_58 : decode cX7_waysToKeep 58 = .ok (.iload_n 1, 1) := by decide +kernel
theorem dX7_waysToKeep_59 : decode cX7_waysToKeep 59 = .ok (.invokestatic 128, 3) := by decide +kernel
theorem dX7_waysToKeep_62 : decode cX7_waysToKeep 62 = .ok (.iload 5, 2) := by decide +kernel
theorem dX7_waysToKeep_64 : decode cX7_waysToKeep 64 = .ok (.isub, 1) := by decide +kernel
theorem dX7_waysToKeep_65 : decode cX7_waysToKeep 65 = .ok (.istore 6, 2) := by decide +kernel
theorem dX7_waysToKeep_67 : decode cX7_waysToKeep 67 = .ok (.iload_n 3, 1) := by decide +kernel
theorem dX7_waysToKeep_68 : decode cX7_waysToKeep 68 = .ok (.bipush 10, 2) := by decide +kernel
theorem dX7_waysToKeep_70 : decode cX7_waysToKeep 70 = .ok (.iload_n 2, 1) := by decide +kernel
theorem dX7_waysToKeep_71 : decode cX7_waysToKeep 71 = .ok (.isub, 1) := by decide +kernel
theorem dX7_waysToKeep_72 : decode cX7_waysToKeep 72 = .ok (.iload 5, 2) := by decide +kernel
theorem dX7_waysToKeep_74 : decode cX7_waysToKeep 74 = .ok (.invokestatic 212, 3) := by decide +kernel
theorem dX7_waysToKeep_77 : decode cX7_waysToKeep 77 = .ok (.iload_n 2, 1) := by decide +kernel
theorem dX7_waysToKeep_78 : decode cX7_waysToKeep 78 = .ok (.iload 6, 2) := by decide +kernel
theorem dX7_waysToKeep_80 : decode cX7_waysToKeep 80 = .ok (.invokestatic 212, 3) := by decide +kernel
theorem dX7_waysToKeep_83 : decode cX7_waysToKeep 83 = .ok (.imul, 1) := by decide +kernel
theorem dX7_waysToKeep_84 : decode cX7_waysToKeep 84 = .ok (.iadd, 1) := by decide +kernel
theorem dX7_waysToKeep_85 : decode cX7_waysToKeep 85 = .ok (.istore_n 3, 1) := by decide +kernel
theorem dX7_waysToKeep_86 : decode cX7_waysToKeep 86 = .ok (.iinc 4 1, 3) := by decide +kernel
theorem dX7_waysToKeep_89 : decode cX7_waysToKeep 89 = .ok (.goto (-73), 3) := by decide +kernel
theorem dX7_waysToKeep_92 : decode cX7_waysToKeep 92 = .ok (.iload_n 3, 1) := by decide +kernel
theorem dX7_waysToKeep_93 : decode cX7_waysToKeep 93 = .ok (.ireturn, 1) := by decide +kernel
theorem dX7_writeNote_0 : decode cX7_writeNote 0 = .ok (.aload_n 0, 1) := by decide +kernel
theorem dX7_writeNote_1 : decode cX7_writeNote 1 = .ok (.getfield 44, 3) := by decide +kernel
theorem dX7_writeNote_4 : decode cX7_writeNote 4 = .ok (.iconst 0, 1) := by decide +kernel
theorem dX7_writeNote_5 : decode cX7_writeNote 5 = .ok (.putfield 221, 3) := by decide +kernel
theorem dX7_writeNote_8 : decode cX7_writeNote 8 = .ok (.aload_n 0, 1) := by decide +kernel
theorem dX7_writeNote_9 : decode cX7_writeNote 9 = .ok (.getfield 12, 3) := by decide +kernel
theorem dX7_writeNote_12 : decode cX7_writeNote 12 = .ok (.getfield 99, 3) := by decide +kernel
theorem dX7_writeNote_15 : decode cX7_writeNote 15 = .ok (.ifCond .ne 36, 3) := by decide +kernel
theorem dX7_writeNote_18 : decode cX7_writeNote 18 = .ok (.iconst 0, 1) := by decide +kernel
theorem dX7_writeNote_19 : decode cX7_writeNote 19 = .ok (.istore_n 1, 1) := by decide +kernel
theorem dX7_writeNote_20 : decode cX7_writeNote 20 = .ok (.iload_n 1, 1) := by decide +kernel
theorem dX7_writeNote_21 : decode cX7_writeNote 21 = .ok (.ldc_w 337, 3) := by decide +kernel
theorem dX7_writeNote_24 : decode cX7_writeNote 24 = .ok (.invokevirtual 339, 3) := by decide +kernel
theorem dX7_writeNote_27 : decode cX7_writeNote 27 = .ok (.if_icmp .ge 24, 3) := by decide +kernel
theorem dX7_writeNote_30 : decode cX7_writeNote 30 = .ok (.aload_n 0, 1) := by decide +kernel
theorem dX7_writeNote_31 : decode cX7_writeNote 31 = .ok (.getfield 44, 3) := by decide +kernel
theorem dX7_writeNote_34 : decode cX7_writeNote 34 = .ok (.ldc_w 337, 3) := by decide +kernel
theorem dX7_writeNote_37 : decode cX7_writeNote 37 = .ok (.iload_n 1, 1) := by decide +kernel
theorem dX7_writeNote_38 : decode cX7_writeNote 38 = .ok (.invokevirtual 344, 3) := by decide +kernel
theorem dX7_writeNote_41 : decode cX7_writeNote 41 = .ok (.invokevirtual 229, 3) := by decide +kernel
theorem dX7_writeNote_44 : decode cX7_writeNote 44 = .ok (.pop, 1) := by decide +kernel
theorem dX7_writeNote_45 : decode cX7_writeNote 45 = .ok (.iinc 1 1, 3) := by decide +kernel
theorem dX7_writeNote_48 : decode cX7_writeNote 48 = .ok (.goto (-28), 3) := by decide +kernel
theorem dX7_writeNote_51 : decode cX7_writeNote 51 = .ok (.aload_n 0, 1) := by decide +kernel
theorem dX7_writeNote_52 : decode cX7_writeNote 52 = .ok (.getfield 51, 3) := by decide +kernel
theorem dX7_writeNote_55 : decode cX7_writeNote 55 = .ok (.aload_n 0, 1) := by decide +kernel
theorem dX7_writeNote_56 : decode cX7_writeNote 56 = .ok (.getfield 12, 3) := by decide +kernel
theorem dX7_writeNote_59 : decode cX7_writeNote 59 = .ok (.invokevirtual 119, 3) := by decide +kernel
theorem dX7_writeNote_62 : decode cX7_writeNote 62 = .ok (.iconst 0, 1) := by decide +kernel
theorem dX7_writeNote_63 : decode cX7_writeNote 63 = .ok (.istore_n 1, 1) := by decide +kernel
theorem dX7_writeNote_64 : decode cX7_writeNote 64 = .ok (.iload_n 1, 1) := by decide +kernel
theorem dX7_writeNote_65 : decode cX7_writeNote 65 = .ok (.aload_n 0, 1) := by decide +kernel
theorem dX7_writeNote_66 : decode cX7_writeNote 66 = .ok (.getfield 12, 3) := by decide +kernel
theorem dX7_writeNote_69 : decode cX7_writeNote 69 = .ok (.getfield 99, 3) := by decide +kernel
theorem dX7_writeNote_72 : decode cX7_writeNote 72 = .ok (.if_icmp .ge 109, 3) := by decide +kernel
theorem dX7_writeNote_75 : decode cX7_writeNote 75 = .ok (.iload_n 1, 1) := by decide +kernel
theorem dX7_writeNote_76 : decode cX7_writeNote 76 = .ok (.ifCond .le 13, 3) := by decide +kernel
theorem dX7_writeNote_79 : decode cX7_writeNote 79 = .ok (.aload_n 0, 1) := by decide +kernel
theorem dX7_writeNote_80 : decode cX7_writeNote 80 = .ok (.getfield 44, 3) := by decide +kernel
theorem dX7_writeNote_83 : decode cX7_writeNote 83 = .ok (.bipush 32, 2) := by decide +kernel
theorem dX7_writeNote_85 : decode cX7_writeNote 85 = .ok (.invokevirtual 229, 3) := by decide +kernel
theorem dX7_writeNote_88 : decode cX7_writeNote 88 = .ok (.pop, 1) := by decide +kernel
theorem dX7_writeNote_89 : decode cX7_writeNote 89 = .ok (.aload_n 0, 1) := by decide +kernel
theorem dX7_writeNote_90 : decode cX7_writeNote 90 = .ok (.getfield 44, 3) := by decide +kernel
theorem dX7_writeNote_93 : decode cX7_writeNote 93 = .ok (.aload_n 0, 1) := by decide +kernel
theorem dX7_writeNote_94 : decode cX7_writeNote 94 = .ok (.getfield 12, 3) := by decide +kernel
theorem dX7_writeNote_97 : decode cX7_writeNote 97 = .ok (.getfield 122, 3) := by decide +kernel
theorem dX7_writeNote_100 : decode cX7_writeNote 100 = .ok (.iload_n 1, 1) := by decide +kernel
theorem dX7_writeNote_101 : decode cX7_writeNote 101 = .ok (.iaload, 1) := by decide +kernel
theorem dX7_writeNote_102 : decode cX7_writeNote 102 = .ok (.invokevirtual 347, 3) := by decide +kernel
theorem dX7_writeNote_105 : decode cX7_writeNote 105 = .ok (.aload_n 0, 1) := by decide +kernel
theorem dX7_writeNote_106 : decode cX7_writeNote 106 = .ok (.getfield 44, 3) := by decide +kernel
theorem dX7_writeNote_109 : decode cX7_writeNote 109 = .ok (.bipush 43, 2) := by decide +kernel
theorem dX7_writeNote_111 : decode cX7_writeNote 111 = .ok (.invokevirtual 229, 3) := by decide +kernel
theorem dX7_writeNote_114 : decode cX7_writeNote 114 = .ok (.pop, 1) := by decide +kernel
theorem dX7_writeNote_115 : decode cX7_writeNote 115 = .ok (.aload_n 0, 1) := by decide +kernel
theorem dX7_writeNote_116 : decode cX7_writeNote 116 = .ok (.getfield 44, 3) := by decide +kernel
theorem dX7_writeNote_119 : decode cX7_writeNote 119 = .ok (.aload_n 0, 1) := by decide +kernel
theorem dX7_writeNote_120 : decode cX7_writeNote 120 = .ok (.getfield 51, 3) := by decide +kernel
theorem dX7_writeNote_123 : decode cX7_writeNote 123 = .ok (.getfield 125, 3) := by decide +kernel
theorem dX7_writeNote_126 : decode cX7_writeNote 126 = .ok (.iload_n 1, 1) := by decide +kernel
theorem dX7_writeNote_127 : decode cX7_writeNote 127 = .ok (.iaload, 1) := by decide +kernel
theorem dX7_writeNote_128 : decode cX7_writeNote 128 = .ok (.invokestatic 128, 3) := by decide +kernel
theorem dX7_writeNote_131 : decode cX7_writeNote 131 = .ok (.invokevirtual 347, 3) := by decide +kernel
theorem dX7_writeNote_134 : decode cX7_writeNote 134 = .ok (.aload_n 0, 1) := by decide +kernel
theorem dX7_writeNote_135 : decode cX7_writeNote 135 = .ok (.getfield 51, 3) := by decide +kernel
theorem dX7_writeNote_138 : decode cX7_writeNote 138 = .ok (.getfield 136, 3) := by decide +kernel
theorem dX7_writeNote_141 : decode cX7_writeNote 141 = .ok (.iload_n 1, 1) := by decide +kernel
theorem dX7_writeNote_142 : decode cX7_writeNote 142 = .ok (.iaload, 1) := by decide +kernel
theorem dX7_writeNote_143 : decode cX7_writeNote 143 = .ok (.ifCond .eq 32, 3) := by decide +kernel
theorem dX7_writeNote_146 : decode cX7_writeNote 146 = .ok (.aload_n 0, 1) := by decide +kernel
theorem dX7_writeNote_147 : decode cX7_writeNote 147 = .ok (.getfield 44, 3) := by decide +kernel
theorem dX7_writeNote_150 : decode cX7_writeNote 150 = .ok (.bipush 45, 2) := by decide +kernel
theorem dX7_writeNote_152 : decode cX7_writeNote 152 = .ok (.invokevirtual 229, 3) := by decide +kernel
theorem dX7_writeNote_155 : decode cX7_writeNote 155 = .ok (.pop, 1) := by decide +kernel
theorem dX7_writeNote_156 : decode cX7_writeNote 156 = .ok (.aload_n 0, 1) := by decide +kernel
theorem dX7_writeNote_157 : decode cX7_writeNote 157 = .ok (.getfield 44, 3) := by decide +kernel
theorem dX7_writeNote_160 : decode cX7_writeNote 160 = .ok (.aload_n 0, 1) := by decide +kernel
theorem dX7_writeNote_161 : decode cX7_writeNote 161 = .ok (.getfield 51, 3) := by decide +kernel
theorem dX7_writeNote_164 : decode cX7_writeNote 164 = .ok (.getfield 136, 3) := by decide +kernel
theorem dX7_writeNote_167 : decode cX7_writeNote 167 = .ok (.iload_n 1, 1) := by decide +kernel
theorem dX7_writeNote_168 : decode cX7_writeNote 168 = .ok (.iaload, 1) := by decide +kernel
theorem dX7_writeNote_169 : decode cX7_writeNote 169 = .ok (.invokestatic 128, 3) := by decide +kernel
theorem dX7_writeNote_172 : decode cX7_writeNote 172 = .ok (.invokevirtual 347, 3) := by decide +kernel
theorem dX7_writeNote_175 : decode cX7_writeNote 175 = .ok (.iinc 1 1, 3) := by decide +kernel
theorem dX7_writeNote_178 : decode cX7_writeNote 178 = .ok (.goto (-114), 3) := by decide +kernel
theorem dX7_writeNote_181 : decode cX7_writeNote 181 = .ok (.return_, 1) := by decide +kernel
theorem dX7_faultOfRow_0 : decode cX7_faultOfRow 0 = .ok (.iload_n 1, 1) := by decide +kernel
theorem dX7_faultOfRow_1 : decode cX7_faultOfRow 1 = .ok (.invokestatic 282, 3) := by decide +kernel
theorem dX7_faultOfRow_4 : decode cX7_faultOfRow 4 = .ok (.ifCond .eq 10, 3) := by decide +kernel
theorem dX7_faultOfRow_7 : decode cX7_faultOfRow 7 = .ok (.iload_n 2, 1) := by decide +kernel
theorem dX7_faultOfRow_8 : decode cX7_faultOfRow 8 = .ok (.invokestatic 285, 3) := by decide +kernel
theorem dX7_faultOfRow_11 : decode cX7_faultOfRow 11 = .ok (.ifCond .ne 5, 3) := by decide +kernel
theorem dX7_faultOfRow_14 : decode cX7_faultOfRow 14 = .ok (.iconst (-1), 1) := by decide +kernel
theorem dX7_faultOfRow_15 : decode cX7_faultOfRow 15 = .ok (.ireturn, 1) := by decide +kernel
theorem dX7_faultOfRow_16 : decode cX7_faultOfRow 16 = .ok (.aload_n 0, 1) := by decide +kernel
theorem dX7_faultOfRow_17 : decode cX7_faultOfRow 17 = .ok (.getfield 64, 3) := by decide +kernel
theorem dX7_faultOfRow_20 : decode cX7_faultOfRow 20 = .ok (.iload_n 1, 1) := by decide +kernel
theorem dX7_faultOfRow_21 : decode cX7_faultOfRow 21 = .ok (.aaload, 1) := by decide +kernel
theorem dX7_faultOfRow_22 : decode cX7_faultOfRow 22 = .ok (.getfield 291, 3) := by decide +kernel
theorem dX7_faultOfRow_25 : decode cX7_faultOfRow 25 = .ok (.iconst (-1), 1) := by decide +kernel
theorem dX7_faultOfRow_26 : decode cX7_faultOfRow 26 = .ok (.if_icmp .ne 6, 3) := by decide +kernel
theorem dX7_faultOfRow_29 : decode cX7_faultOfRow 29 = .ok (.bipush (-11), 2) := by decide +kernel
theorem dX7_faultOfRow_31 : decode cX7_faultOfRow 31 = .ok (.ireturn, 1) := by decide +kernel
theorem dX7_faultOfRow_32 : decode cX7_faultOfRow 32 = .ok (.aload_n 0, 1) := by decide +kernel
theorem dX7_faultOfRow_33 : decode cX7_faultOfRow 33 = .ok (.getfield 64, 3) := by decide +kernel
theorem dX7_faultOfRow_36 : decode cX7_faultOfRow 36 = .ok (.iload_n 1, 1) := by decide +kernel
theorem dX7_faultOfRow_37 : decode cX7_faultOfRow 37 = .ok (.aaload, 1) := by decide +kernel
theorem dX7_faultOfRow_38 : decode cX7_faultOfRow 38 = .ok (.getfield 291, 3) := by decide +kernel
theorem dX7_faultOfRow_41 : decode cX7_faultOfRow 41 = .ok (.iload_n 2, 1) := by decide +kernel
theorem dX7_faultOfRow_42 : decode cX7_faultOfRow 42 = .ok (.if_icmp .eq 6, 3) := by decide +kernel
theorem dX7_faultOfRow_45 : decode cX7_faultOfRow 45 = .ok (.bipush (-12), 2) := by decide +kernel
theorem dX7_faultOfRow_47 : decode cX7_faultOfRow 47 = .ok (.ireturn, 1) := by decide +kernel
theorem dX7_faultOfRow_48 : decode cX7_faultOfRow 48 = .ok (.aload_n 0, 1) := by decide +kernel
theorem dX7_faultOfRow_49 : decode cX7_faultOfRow 49 = .ok (.getfield 64, 3) := by decide +kernel
theorem dX7_faultOfRow_52 : decode cX7_faultOfRow 52 = .ok (.iload_n 1, 1) := by decide +kernel
theorem dX7_faultOfRow_53 : decode cX7_faultOfRow 53 = .ok (.aaload, 1) := by decide +kernel
theorem dX7_faultOfRow_54 : decode cX7_faultOfRow 54 = .ok (.iload_n 3, 1) := by decide +kernel
theorem dX7_faultOfRow_55 : decode cX7_faultOfRow 55 = .ok (.iload 4, 2) := by decide +kernel
theorem dX7_faultOfRow_57 : decode cX7_faultOfRow 57 = .ok (.invokevirtual 295, 3) := by decide +kernel
theorem dX7_faultOfRow_60 : decode cX7_faultOfRow 60 = .ok (.ifCond .eq 7, 3) := by decide +kernel
theorem dX7_faultOfRow_63 : decode cX7_faultOfRow 63 = .ok (.iconst 0, 1) := by decide +kernel
theorem dX7_faultOfRow_64 : decode cX7_faultOfRow 64 = .ok (.goto 5, 3) := by decide +kernel
theorem dX7_faultOfRow_67 : decode cX7_faultOfRow 67 = .ok (.bipush (-13), 2) := by decide +kernel
theorem dX7_faultOfRow_69 : decode cX7_faultOfRow 69 = .ok (.ireturn, 1) := by decide +kernel
theorem dX7_isSheet_0 : decode cX7_isSheet 0 = .ok (.iload_n 0, 1) := by decide +kernel
theorem dX7_isSheet_1 : decode cX7_isSheet 1 = .ok (.ifCond .lt 12, 3) := by decide +kernel
theorem dX7_isSheet_4 : decode cX7_isSheet 4 = .ok (.iload_n 0, 1) := by decide +kernel
theorem dX7_isSheet_5 : decode cX7_isSheet 5 = .ok (.iconst 4, 1) := by decide +kernel
theorem dX7_isSheet_6 : decode cX7_isSheet 6 = .ok (.if_icmp .ge 7, 3) := by decide +kernel
theorem dX7_isSheet_9 : decode cX7_isSheet 9 = .ok (.iconst 1, 1) := by decide +kernel
theorem dX7_isSheet_10 : decode cX7_isSheet 10 = .ok (.goto 4, 3) := by decide +kernel
theorem dX7_isSheet_13 : decode cX7_isSheet 13 = .ok (.iconst 0, 1) := by decide +kernel
theorem dX7_isSheet_14 : decode cX7_isSheet 14 = .ok (.ireturn, 1) := by decide +kernel
theorem dX7_isLane_0 : decode cX7_isLane 0 = .ok (.iload_n 0, 1) := by decide +kernel
theorem dX7_isLane_1 : decode cX7_isLane 1 = .ok (.ifCond .lt 12, 3) := by decide +kernel
theorem dX7_isLane_4 : decode cX7_isLane 4 = .ok (.iload_n 0, 1) := by decide +kernel
theorem dX7_isLane_5 : decode cX7_isLane 5 = .ok (.iconst 4, 1) := by decide +kernel
theorem dX7_isLane_6 : decode cX7_isLane 6 = .ok (.if_icmp .ge 7, 3) := by decide +kernel
theorem dX7_isLane_9 : decode cX7_isLane 9 = .ok (.iconst 1, 1) := by decide +kernel
theorem dX7_isLane_10 : decode cX7_isLane 10 = .ok (.goto 4, 3) := by decide +kernel
theorem dX7_isLane_13 : decode cX7_isLane 13 = .ok (.iconst 0, 1) := by decide +kernel
theorem dX7_isLane_14 : decode cX7_isLane 14 = .ok (.ireturn, 1) := by decide +kernel
theorem dX7_hasBit_0 : decode cX7_hasBit 0 = .ok (.iload_n 0, 1) := by decide +kernel
theorem dX7_hasBit_1 : decode cX7_hasBit 1 = .ok (.iload_n 1, 1) := by decide +kernel
theorem dX7_hasBit_2 : decode cX7_hasBit 2 = .ok (.ishr, 1) := by decide +kernel
theorem dX7_hasBit_3 : decode cX7_hasBit 3 = .ok (.iconst 1, 1) := by decide +kernel
theorem dX7_hasBit_4 : decode cX7_hasBit 4 = .ok (.iand, 1) := by decide +kernel
theorem dX7_hasBit_5 : decode cX7_hasBit 5 = .ok (.ifCond .eq 7, 3) := by decide +kernel
theorem dX7_hasBit_8 : decode cX7_hasBit 8 = .ok (.iconst 1, 1) := by decide +kernel
theorem dX7_hasBit_9 : decode cX7_hasBit 9 = .ok (.goto 4, 3) := by decide +kernel
theorem dX7_hasBit_12 : decode cX7_hasBit 12 = .ok (.iconst 0, 1) := by decide +kernel
theorem dX7_hasBit_13 : decode cX7_hasBit 13 = .ok (.ireturn, 1) := by decide +kernel
theorem dX7_power_0 : decode cX7_power 0 = .ok (.iconst 1, 1) := by decide +kernel
theorem dX7_power_1 : decode cX7_power 1 = .ok (.istore_n 2, 1) := by decide +kernel
theorem dX7_power_2 : decode cX7_power 2 = .ok (.iconst 0, 1) := by decide +kernel
theorem dX7_power_3 : decode cX7_power 3 = .ok (.istore_n 3, 1) := by decide +kernel
theorem dX7_power_4 : decode cX7_power 4 = .ok (.iload_n 3, 1) := by decide +kernel
theorem dX7_power_5 : decode cX7_power 5 = .ok (.iload_n 1, 1) := by decide +kernel
theorem dX7_power_6 : decode cX7_power 6 = .ok (.if_icmp .ge 13, 3) := by decide +kernel
theorem dX7_power_9 : decode cX7_power 9 = .ok (.iload_n 2, 1) := by decide +kernel
theorem dX7_power_10 : decode cX7_power 10 = .ok (.iload_n 0, 1) := by decide +kernel
theorem dX7_power_11 : decode cX7_power 11 = .ok (.imul, 1) := by decide +kernel
theorem dX7_power_12 : decode cX7_power 12 = .ok (.istore_n 2, 1) := by decide +kernel
theorem dX7_power_13 : decode cX7_power 13 = .ok (.iinc 3 1, 3) := by decide +kernel
theorem dX7_power_16 : decode cX7_power 16 = .ok (.goto (-12), 3) := by decide +kernel
theorem dX7_power_19 : decode cX7_power 19 = .ok (.iload_n 2, 1) := by decide +kernel
theorem dX7_power_20 : decode cX7_power 20 = .ok (.ireturn, 1) := by decide +kernel
theorem dX7_greatestDivisor_0 : decode cX7_greatestDivisor 0 = .ok (.iload_n 0, 1) := by decide +kernel
theorem dX7_greatestDivisor_1 : decode cX7_greatestDivisor 1 = .ok (.istore_n 2, 1) := by decide +kernel
theorem dX7_greatestDivisor_2 : decode cX7_greatestDivisor 2 = .ok (.iload_n 1, 1) := by decide +kernel
theorem dX7_greatestDivisor_3 : decode cX7_greatestDivisor 3 = .ok (.istore_n 3, 1) := by decide +kernel
theorem dX7_greatestDivisor_4 : decode cX7_greatestDivisor 4 = .ok (.iconst 0, 1) := by decide +kernel
theorem dX7_greatestDivisor_5 : decode cX7_greatestDivisor 5 = .ok (.istore 4, 2) := by decide +kernel
theorem dX7_greatestDivisor_7 : decode cX7_greatestDivisor 7 = .ok (.iload 4, 2) := by decide +kernel
theorem dX7_greatestDivisor_9 : decode cX7_greatestDivisor 9 = .ok (.bipush 64, 2) := by decide +kernel
theorem dX7_greatestDivisor_11 : decode cX7_greatestDivisor 11 = .ok (.if_icmp .ge 23, 3) := by decide +kernel
theorem dX7_greatestDivisor_14 : decode cX7_greatestDivisor 14 = .ok (.iload_n 3, 1) := by decide +kernel
theorem dX7_greatestDivisor_15 : decode cX7_greatestDivisor 15 = .ok (.ifCond .eq 19, 3) := by decide +kernel
theorem dX7_greatestDivisor_18 : decode cX7_greatestDivisor 18 = .ok (.iload_n 2, 1) := by decide +kernel
theorem dX7_greatestDivisor_19 : decode cX7_greatestDivisor 19 = .ok (.iload_n 3, 1) := by decide +kernel
theorem dX7_greatestDivisor_20 : decode cX7_greatestDivisor 20 = .ok (.irem, 1) := by decide +kernel
theorem dX7_greatestDivisor_21 : decode cX7_greatestDivisor 21 = .ok (.istore 5, 2) := by decide +kernel
theorem dX7_greatestDivisor_23 : decode cX7_greatestDivisor 23 = .ok (.iload_n 3, 1) := by decide +kernel
theorem dX7_greatestDivisor_24 : decode cX7_greatestDivisor 24 = .ok (.istore_n 2, 1) := by decide +kernel
theorem dX7_greatestDivisor_25 : decode cX7_greatestDivisor 25 = .ok (.iload 5, 2) := by decide +kernel
theorem dX7_greatestDivisor_27 : decode cX7_greatestDivisor 27 = .ok (.istore_n 3, 1) := by decide +kernel
theorem dX7_greatestDivisor_28 : decode cX7_greatestDivisor 28 = .ok (.iinc 4 1, 3) := by decide +kernel
theorem dX7_greatestDivisor_31 : decode cX7_greatestDivisor 31 = .ok (.goto (-24), 3) := by decide +kernel
theorem dX7_greatestDivisor_34 : decode cX7_greatestDivisor 34 = .ok (.iload_n 2, 1) := by decide +kernel
theorem dX7_greatestDivisor_35 : decode cX7_greatestDivisor 35 = .ok (.ireturn, 1) := by decide +kernel
theorem dX8_init_0 : decode cX8_init 0 = .ok (.aload_n 0, 1) := by decide +kernel
theorem dX8_init_1 : decode cX8_init 1 = .ok (.invokespecial 1, 3) := by decide +kernel
theorem dX8_init_4 : decode cX8_init 4 = .ok (.aload_n 0, 1) := by decide +kernel
theorem dX8_init_5 : decode cX8_init 5 = .ok (.bipush 27, 2) := by decide +kernel
theorem dX8_init_7 : decode cX8_init 7 = .ok (.newarray .int, 2) := by decide +kernel
theorem dX8_init_9 : decode cX8_init 9 = .ok (.putfield 7, 3) := by decide +kernel
theorem dX8_init_12 : decode cX8_init 12 = .ok (.aload_n 0, 1) := by decide +kernel
theorem dX8_init_13 : decode cX8_init 13 = .ok (.sipush 162, 3) := by decide +kernel
theorem dX8_init_16 : decode cX8_init 16 = .ok (.newarray .int, 2) := by decide +kernel
theorem dX8_init_18 : decode cX8_init 18 = .ok (.putfield 13, 3) := by decide +kernel
theorem dX8_init_21 : decode cX8_init 21 = .ok (.aload_n 0, 1) := by decide +kernel
theorem dX8_init_22 : decode cX8_init 22 = .ok (.bipush 27, 2) := by decide +kernel
theorem dX8_init_24 : decode cX8_init 24 = .ok (.newarray .int, 2) := by decide +kernel
theorem dX8_init_26 : decode cX8_init 26 = .ok (.putfield 16, 3) := by decide +kernel
theorem dX8_init_29 : decode cX8_init 29 = .ok (.aload_n 0, 1) := by decide +kernel
theorem dX8_init_30 : decode cX8_init 30 = .ok (.sipush 162, 3) := by decide +kernel
theorem dX8_init_33 : decode cX8_init 33 = .ok (.newarray .int, 2) := by decide +kernel
theorem dX8_init_35 : decode cX8_init 35 = .ok (.putfield 19, 3) := by decide +kernel
theorem dX8_init_38 : decode cX8_init 38 = .ok (.aload_n 0, 1) := by decide +kernel
theorem dX8_init_39 : decode cX8_init 39 = .ok (.iconst (-1), 1) := by decide +kernel
theorem dX8_init_40 : decode cX8_init 40 = .ok (.putfield 22, 3) := by decide +kernel
theorem dX8_init_43 : decode cX8_init 43 = .ok (.aload_n 0, 1) := by decide +kernel
theorem dX8_init_44 : decode cX8_init 44 = .ok (.bipush 90, 2) := by decide +kernel
theorem dX8_init_46 : decode cX8_init 46 = .ok (.newarray .int, 2) := by decide +kernel
theorem dX8_init_48 : decode cX8_init 48 = .ok (.putfield 26, 3) := by decide +kernel
theorem dX8_init_51 : decode cX8_init 51 = .ok (.aload_n 0, 1) := by decide +kernel
theorem dX8_init_52 : decode cX8_init 52 = .ok (.iconst 4, 1) := by decide +kernel
theorem dX8_init_53 : decode cX8_init 53 = .ok (.newarray .int, 2) := by decide +kernel
theorem dX8_init_55 : decode cX8_init 55 = .ok (.putfield 29, 3) := by decide +kernel
theorem dX8_init_58 : decode cX8_init 58 = .ok (.aload_n 0, 1) := by decide +kernel
theorem dX8_init_59 : decode cX8_init 59 = .ok (.iconst 4, 1) := by decide +kernel
theorem dX8_init_60 : decode cX8_init 60 = .ok (.newarray .int, 2) := by decide +kernel
theorem dX8_init_62 : decode cX8_init 62 = .ok (.putfield 32, 3) := by decide +kernel
theorem dX8_init_65 : decode cX8_init 65 = .ok (.aload_n 0, 1) := by decide +kernel
theorem dX8_init_66 : decode cX8_init 66 = .ok (.bipush 96, 2) := by decide +kernel
theorem dX8_init_68 : decode cX8_init 68 = .ok (.newarray .long, 2) := by decide +kernel
theorem dX8_init_70 : decode cX8_init 70 = .ok (.putfield 35, 3) := by decide +kernel
theorem dX8_init_73 : decode cX8_init 73 = .ok (.aload_n 0, 1) := by decide +kernel
theorem dX8_init_74 : decode cX8_init 74 = .ok (.bipush 24, 2) := by decide +kernel
theorem dX8_init_76 : decode cX8_init 76 = .ok (.newarray .long, 2) := by decide +kernel
theorem dX8_init_78 : decode cX8_init 78 = .ok (.putfield 39, 3) := by decide +kernel
theorem dX8_init_81 : decode cX8_init 81 = .ok (.aload_n 0, 1) := by decide +kernel
theorem dX8_init_82 : decode cX8_init 82 = .ok (.bipush 7, 2) := by decide +kernel
theorem dX8_init_84 : decode cX8_init 84 = .ok (.newarray .int, 2) := by decide +kernel
theorem dX8_init_86 : decode cX8_init 86 = .ok (.putfield 42, 3) := by decide +kernel
theorem dX8_init_89 : decode cX8_init 89 = .ok (.aload_n 0, 1) := by decide +kernel
theorem dX8_init_90 : decode cX8_init 90 = .ok (.bipush 20, 2) := by decide +kernel
theorem dX8_init_92 : decode cX8_init 92 = .ok (.newarray .int, 2) := by decide +kernel
theorem dX8_init_94 : decode cX8_init 94 = .ok (.putfield 45, 3) := by decide +kernel
theorem dX8_init_97 : decode cX8_init 97 = .ok (.aload_n 0, 1) := by decide +kernel
theorem dX8_init_98 : decode cX8_init 98 = .ok (.bipush 20, 2) := by decide +kernel
theorem dX8_init_100 : decode cX8_init 100 = .ok (.newarray .int, 2) := by decide +kernel
theorem dX8_init_102 : decode cX8_init 102 = .ok (.putfield 48, 3) := by decide +kernel
theorem dX8_init_105 : decode cX8_init 105 = .ok (.aload_n 0, 1) := by decide +kernel
theorem dX8_init_106 : decode cX8_init 106 = .ok (.bipush 7, 2) := by decide +kernel
theorem dX8_init_108 : decode cX8_init 108 = .ok (.newarray .int, 2) := by decide +kernel
theorem dX8_init_110 : decode cX8_init 110 = .ok (.putfield 51, 3) := by decide +kernel
theorem dX8_init_113 : decode cX8_init 113 = .ok (.aload_n 0, 1) := by decide +kernel
theorem dX8_init_114 : decode cX8_init 114 = .ok (.bipush 7, 2) := by decide +kernel
theorem dX8_init_116 : decode cX8_init 116 = .ok (.newarray .int, 2) := by decide +kernel
theorem dX8_init_118 : decode cX8_init 118 = .ok (.putfield 54, 3) := by decide +kernel
theorem dX8_init_121 : decode cX8_init 121 = .ok (.aload_n 0, 1) := by decide +kernel
theorem dX8_init_122 : decode cX8_init 122 = .ok (.bipush 7, 2) := by decide +kernel
theorem dX8_init_124 : decode cX8_init 124 = .ok (.newarray .int, 2) := by decide +kernel
theorem dX8_init_126 : decode cX8_init 126 = .ok (.putfield 57, 3) := by decide +kernel
theorem dX8_init_129 : decode cX8_init 129 = .ok (.aload_n 0, 1) := by decide +kernel
theorem dX8_init_130 : decode cX8_init 130 = .ok (.bipush 7, 2) := by decide +kernel
theorem dX8_init_132 : decode cX8_init 132 = .ok (.newarray .int, 2) := by decide +kernel
theorem dX8_init_134 : decode cX8_init 134 = .ok (.putfield 60, 3) := by decide +kernel
theorem dX8_init_137 : decode cX8_init 137 = .ok (.aload_n 0, 1) := by decide +kernel
theorem dX8_init_138 : decode cX8_init 138 = .ok (.bipush 64, 2) := by decide +kernel
theorem dX8_init_140 : decode cX8_init 140 = .ok (.newarray .int, 2) := by decide +kernel
theorem dX8_init_142 : decode cX8_init 142 = .ok (.putfield 63, 3) := by decide +kernel
theorem dX8_init_145 : decode cX8_init 145 = .ok (.aload_n 0, 1) := by decide +kernel
theorem dX8_init_146 : decode cX8_init 146 = .ok (.bipush 27, 2) := by decide +kernel
theorem dX8_init_148 : decode cX8_init 148 = .ok (.newarray .int, 2) := by decide +kernel
theorem dX8_init_150 : decode cX8_init 150 = .ok (.putfield 66, 3) := by decide +kernel
theorem dX8_init_153 : decode cX8_init 153 = .ok (.aload_n 0, 1) := by decide +kernel
theorem dX8_init_154 : decode cX8_init 154 = .ok (.getfield 7, 3) := by decide +kernel
theorem dX8_init_157 : decode cX8_init 157 = .ok (.iconst 2, 1) := by decide +kernel
theorem dX8_init_158 : decode cX8_init 158 = .ok (.iconst 2, 1) := by decide +kernel
theorem dX8_init_159 : decode cX8_init 159 = .ok (.iastore, 1) := by decide +kernel
theorem dX8_init_160 : decode cX8_init 160 = .ok (.aload_n 0, 1) := by decide +kernel
theorem dX8_init_161 : decode cX8_init 161 = .ok (.getfield 7, 3) := by decide +kernel
theorem dX8_init_164 : decode cX8_init 164 = .ok (.iconst 3, 1) := by decide +kernel
theorem dX8_init_165 : decode cX8_init 165 = .ok (.iconst 5, 1) := by decide +kernel
theorem dX8_init_166 : decode cX8_init 166 = .ok (.iastore, 1) := by decide +kernel
theorem dX8_init_167 : decode cX8_init 167 = .ok (.aload_n 0, 1) := by decide +kernel
theorem dX8_init_168 : decode cX8_init 168 = .ok (.getfield 7, 3) := by decide +kernel
theorem dX8_init_171 : decode cX8_init 171 = .ok (.iconst 5, 1) := by decide +kernel
theorem dX8_init_172 : decode cX8_init 172 = .ok (.iconst 1, 1) := by decide +kernel
theorem dX8_init_173 : decode cX8_init 173 = .ok (.iastore, 1) := by decide +kernel
theorem dX8_init_174 : decode cX8_init 174 = .ok (.iconst 0, 1) := by decide +kernel
theorem dX8_init_175 : decode cX8_init 175 = .ok (.istore_n 1, 1) := by decide +kernel
theorem dX8_init_176 : decode cX8_init 176 = .ok (.iload_n 1, 1) := by decide +kernel
theorem dX8_init_177 : decode cX8_init 177 = .ok (.iconst 4, 1) := by decide +kernel
theorem dX8_init_178 : decode cX8_init 178 = .ok (.if_icmp .ge 16, 3) := by decide +kernel
theorem dX8_init_181 : decode cX8_init 181 = .ok (.aload_n 0, 1) := by decide +kernel
theorem dX8_init_182 : decode cX8_init 182 = .ok (.getfield 29, 3) := by decide +kernel
theorem dX8_init_185 : decode cX8_init 185 = .ok (.iload_n 1, 1) := by decide +kernel
theorem dX8_init_186 : decode cX8_init 186 = .ok (.iconst (-1), 1) := by decide +kernel
theorem dX8_init_187 : decode cX8_init 187 = .ok (.iastore, 1) := by decide +kernel
theorem dX8_init_188 : decode cX8_init 188 = .ok (.iinc 1 1, 3) := by decide +kernel
theorem dX8_init_191 : decode cX8_init 191 = .ok (.goto (-15), 3) := by decide +kernel
theorem dX8_init_194 : decode cX8_init 194 = .ok (.return_, 1) := by decide +kernel
theorem dX8_in_0 : decode cX8_in 0 = .ok (.lload_n 0, 1) := by decide +kernel
theorem dX8_in_1 : decode cX8_in 1 = .ok (.lload_n 2, 1) := by decide +kernel
theorem dX8_in_2 : decode cX8_in 2 = .ok (.lcmp, 1) := by decide +kernel
theorem dX8_in_3 : decode cX8_in 3 = .ok (.ifCond .lt 14, 3) := by decide +kernel
theorem dX8_in_6 : decode cX8_in 6 = .ok (.lload_n 0, 1) := by decide +kernel
theorem dX8_in_7 : decode cX8_in 7 = .ok (.lload 4, 2) := by decide +kernel
theorem dX8_in_9 : decode cX8_in 9 = .ok (.lcmp, 1) := by decide +kernel
theorem dX8_in_10 : decode cX8_in 10 = .ok (.ifCond .gt 7, 3) := by decide +kernel
theorem dX8_in_13 : decode cX8_in 13 = .ok (.iconst 1, 1) := by decide +kernel
theorem dX8_in_14 : decode cX8_in 14 = .ok (.goto 4, 3) := by decide +kernel
theorem dX8_in_17 : decode cX8_in 17 = .ok (.iconst 0, 1) := by decide +kernel
theorem dX8_in_18 : decode cX8_in 18 = .ok (.ireturn, 1) := by decide +kernel
theorem dX8_has_0 : decode cX8_has 0 = .ok (.iload_n 0, 1) := by decide +kernel
theorem dX8_has_1 : decode cX8_has 1 = .ok (.iload_n 1, 1) := by decide +kernel
theorem dX8_has_2 : decode cX8_has 2 = .ok (.ishr, 1) := by decide +kernel
theorem dX8_has_3 : decode cX8_has 3 = .ok (.iconst 1, 1) := by decide +kernel
theorem dX8_has_4 : decode cX8_has 4 = .ok (.iand, 1) := by decide +kernel
theorem dX8_has_5 : decode cX8_has 5 = .ok (.iconst 1, 1) := by decide +kernel
theorem dX8_has_6 : decode cX8_has 6 = .ok (.if_icmp .ne 7, 3) := by decide +kernel
theorem dX8_has_9 : decode cX8_has 9 = .ok (.iconst 1, 1) := by decide +kernel
theorem dX8_has_10 : decode cX8_has 10 = .ok (.goto 4, 3) := by decide +kernel
theorem dX8_has_13 : decode cX8_has 13 = .ok (.iconst 0, 1) := by decide +kernel
theorem dX8_has_14 : decode cX8_has 14 = .ok (.ireturn, 1) := by decide +kernel
theorem dX8_sizeOf_0 : decode cX8_sizeOf 0 = .ok (.iconst 0, 1) := by decide +kernel
theorem dX8_sizeOf_1 : decode cX8_sizeOf 1 = .ok (.istore_n 1, 1) := by decide +kernel
theorem dX8_sizeOf_2 : decode cX8_sizeOf 2 = .ok (.iload_n 0, 1) := by decide +kernel
theorem dX8_sizeOf_3 : decode cX8_sizeOf 3 = .ok (.istore_n 2, 1) := by decide +kernel
theorem dX8_sizeOf_4 : decode cX8_sizeOf 4 = .ok (.iload_n 2, 1) := by decide +kernel
theorem dX8_sizeOf_5 : decode cX8_sizeOf 5 = .ok (.ifCond .eq 15, 3) := by decide +kernel
theorem dX8_sizeOf_8 : decode cX8_sizeOf 8 = .ok (.iinc 1 1, 3) := by decide +kernel
theorem dX8_sizeOf_11 : decode cX8_sizeOf 11 = .ok (.iload_n 2, 1) := by decide +kernel
theorem dX8_sizeOf_12 : decode cX8_sizeOf 12 = .ok (.iload_n 2, 1) := by decide +kernel
theorem dX8_sizeOf_13 : decode cX8_sizeOf 13 = .ok (.iconst 1, 1) := by decide +kernel
theorem dX8_sizeOf_14 : decode cX8_sizeOf 14 = .ok (.isub, 1) := by decide +kernel
theorem dX8_sizeOf_15 : decode cX8_sizeOf 15 = .ok (.iand, 1) := by decide +kernel
theorem dX8_sizeOf_16 : decode cX8_sizeOf 16 = .ok (.istore_n 2, 1) := by decide +kernel
theorem dX8_sizeOf_17 : decode cX8_sizeOf 17 = .ok (.goto (-13), 3) := by decide +kernel
theorem dX8_sizeOf_20 : decode cX8_sizeOf 20 = .ok (.iload_n 1, 1) := by decide +kernel
theorem dX8_sizeOf_21 : decode cX8_sizeOf 21 = .ok (.ireturn, 1) := by decide +kernel
theorem dX8_isSet_0 : decode cX8_isSet 0 = .ok (.iload_n 0, 1) := by decide +kernel
theorem dX8_isSet_1 : decode cX8_isSet 1 = .ok (.i2l, 1) := by decide +kernel
theorem dX8_isSet_2 : decode cX8_isSet 2 = .ok (.lconst 0, 1) := by decide +kernel
theorem dX8_isSet_3 : decode cX8_isSet 3 = .ok (.ldc2_w 69, 3) := by decide +kernel
theorem dX8_isSet_6 : decode cX8_isSet 6 = .ok (.invokestatic 71, 3) := by decide +kernel
theorem dX8_isSet_9 : decode cX8_isSet 9 = .ok (.ireturn, 1) := by decide +kernel
theorem dX8_isBook_0 : decode cX8_isBook 0 = .ok (.iload_n 1, 1) := by decide +kernel
theorem dX8_isBook_1 : decode cX8_isBook 1 = .ok (.i2l, 1) := by decide +kernel
theorem dX8_isBook_2 : decode cX8_isBook 2 = .ok (.lconst 0, 1) := by decide +kernel
theorem dX8_isBook_3 : decode cX8_isBook 3 = .ok (.aload_n 0, 1) := by decide +kernel
theorem dX8_isBook_4 : decode cX8_isBook 4 = .ok (.getfield 7, 3) := by decide +kernel
theorem dX8_isBook_7 : decode cX8_isBook 7 = .ok (.iconst 0, 1) := by decide +kernel
theorem dX8_isBook_8 : decode cX8_isBook 8 = .ok (.iaload, 1) := by decide +kernel
theorem dX8_isBook_9 : decode cX8_isBook 9 = .ok (.iconst 1, 1) := by decide +kernel
theorem dX8_isBook_10 : decode cX8_isBook 10 = .ok (.isub, 1) := by decide +kernel
theorem dX8_isBook_11 : decode cX8_isBook 11 = .ok (.i2l, 1) := by decide +kernel
theorem dX8_isBook_12 : decode cX8_isBook 12 = .ok (.invokestatic 71, 3) := by decide +kernel
theorem dX8_isBook_15 : decode cX8_isBook 15 = .ok (.ireturn, 1) := by decide +kernel
theorem dX8_lasts_0 : decode cX8_lasts 0 = .ok (.aload_n 0, 1) := by decide +kernel
theorem dX8_lasts_1 : decode cX8_lasts 1 = .ok (.getfield 7, 3) := by decide +kernel
theorem dX8_lasts_4 : decode cX8_lasts 4 = .ok (.iconst 2, 1) := by decide +kernel
theorem dX8_lasts_5 : decode cX8_lasts 5 = .ok (.iaload, 1) := by decide +kernel
theorem dX8_lasts_6 : decode cX8_lasts 6 = .ok (.istore_n 2, 1) := by decide +kernel
theorem dX8_lasts_7 : decode cX8_lasts 7 = .ok (.aload_n 0, 1) := by decide +kernel
theorem dX8_lasts_8 : decode cX8_lasts 8 = .ok (.getfield 7, 3) := by decide +kernel
theorem dX8_lasts_11 : decode cX8_lasts 11 = .ok (.iconst 4, 1) := by decide +kernel
theorem dX8_lasts_12 : decode cX8_lasts 12 = .ok (.iaload, 1) := by decide +kernel
theorem dX8_lasts_13 : decode cX8_lasts 13 = .ok (.iconst 1, 1) := by decide +kernel
theorem dX8_lasts_14 : decode cX8_lasts 14 = .ok (.if_icmp .ne 7, 3) := by decide +kernel
theorem dX8_lasts_17 : decode cX8_lasts 17 = .ok (.iload_n 2, 1) := by decide +kernel
theorem dX8_lasts_18 : decode cX8_lasts 18 = .ok (.iload_n 1, 1) := by decide +kernel
theorem dX8_lasts_19 : decode cX8_lasts 19 = .ok (.imul, 1) := by decide +kernel
theorem dX8_lasts_20 : decode cX8_lasts 20 = .ok (.istore_n 2, 1) := by decide +kernel
theorem dX8_lasts_21 : decode cX8_lasts 21 = .ok (.iconst 1, 1) := by decide +kernel
theorem dX8_lasts_22 : decode cX8_lasts 22 = .ok (.istore_n 3, 1) := by decide +kernel
theorem dX8_lasts_23 : decode cX8_lasts 23 = .ok (.iload_n 3, 1) := by decide +kernel
theorem dX8_lasts_24 : decode cX8_lasts 24 = .ok (.iload_n 1, 1) := by decide +kernel
theorem dX8_lasts_25 : decode cX8_lasts 25 = .ok (.if_icmp .ge 23, 3) := by decide +kernel
theorem dX8_lasts_28 : decode cX8_lasts 28 = .ok (.aload_n 0, 1) := by decide +kernel
theorem dX8_lasts_29 : decode cX8_lasts 29 = .ok (.getfield 7, 3) := by decide +kernel
theorem dX8_lasts_32 : decode cX8_lasts 32 = .ok (.iconst 4, 1) := by decide +kernel
theorem dX8_lasts_33 : decode cX8_lasts 33 = .ok (.iaload, 1) := by decide +kernel
theorem dX8_lasts_34 : decode cX8_lasts 34 = .ok (.iconst 2, 1) := by decide +kernel
theorem dX8_lasts_35 : decode cX8_lasts 35 = .ok (.if_icmp .ne 13, 3) := by decide +kernel
theorem dX8_lasts_38 : decode cX8_lasts 38 = .ok (.iload_n 2, 1) := by decide +kernel
theorem dX8_lasts_39 : decode cX8_lasts 39 = .ok (.iconst 2, 1) := by decide +kernel
theorem dX8_lasts_40 : decode cX8_lasts 40 = .ok (.imul, 1) := by decide +kernel
theorem dX8_lasts_41 : decode cX8_lasts 41 = .ok (.istore_n 2, 1) := by decide +kernel
theorem dX8_lasts_42 : decode cX8_lasts 42 = .ok (.iinc 3 1, 3) := by decide +kernel
theorem dX8_lasts_45 : decode cX8_lasts 45 = .ok (.goto (-22), 3) := by decide +kernel
theorem dX8_lasts_48 : decode cX8_lasts 48 = .ok (.iload_n 2, 1) := by decide +kernel
theorem dX8_lasts_49 : decode cX8_lasts 49 = .ok (.ireturn, 1) := by decide +kernel
theorem dX8_begins_0 : decode cX8_begins 0 = .ok (.iconst 0, 1) := by decide +kernel
theorem dX8_begins_1 : decode cX8_begins 1 = .ok (.istore_n 1, 1) := by decide +kernel
theorem dX8_begins_2 : decode cX8_begins 2 = .ok (.iload_n 1, 1) := by decide +kernel
theorem dX8_begins_3 : decode cX8_begins 3 = .ok (.bipush 20, 2) := by decide +kernel
theorem dX8_begins_5 : decode cX8_begins 5 = .ok (.if_icmp .ge 16, 3) := by decide +kernel
theorem dX8_begins_8 : decode cX8_begins 8 = .ok (.aload_n 0, 1) := by decide +kernel
theorem dX8_begins_9 : decode cX8_begins 9 = .ok (.getfield 45, 3) := by decide +kernel
theorem dX8_begins_12 : decode cX8_begins 12 = .ok (.iload_n 1, 1) := by decide +kernel
theorem dX8_begins_13 : decode cX8_begins 13 = .ok (.iconst 0, 1) := by decide +kernel
theorem dX8_begins_14 : decode cX8_begins 14 = .ok (.iastore, 1) := by decide +kernel
theorem dX8_begins_15 : decode cX8_begins 15 = .ok (.iinc 1 1, 3) := by decide +kernel
theorem dX8_begins_18 : decode cX8_begins 18 = .ok (.goto (-16), 3) := by decide +kernel
theorem dX8_begins_21 : decode cX8_begins 21 = .ok (.return_, 1) := by decide +kernel
theorem dX8_reads_0 : decode cX8_reads 0 = .ok (.aload_n 0, 1) := by decide +kernel
theorem dX8_reads_1 : decode cX8_reads 1 = .ok (.getfield 51, 3) := by decide +kernel
theorem dX8_reads_4 : decode cX8_reads 4 = .ok (.iload_n 1, 1) := by decide +kernel
theorem dX8_reads_5 : decode cX8_reads 5 = .ok (.iconst 0, 1) := by decide +kernel
theorem dX8_reads_6 : decode cX8_reads 6 = .ok (.iastore, 1) := by decide +kernel
theorem dX8_reads_7 : decode cX8_reads 7 = .ok (.aload_n 0, 1) := by decide +kernel
theorem dX8_reads_8 : decode cX8_reads 8 = .ok (.getfield 54, 3) := by decide +kernel
theorem dX8_reads_11 : decode cX8_reads 11 = .ok (.iload_n 1, 1) := by decide +kernel
theorem dX8_reads_12 : decode cX8_reads 12 = .ok (.iconst 0, 1) := by decide +kernel
theorem dX8_reads_13 : decode cX8_reads 13 = .ok (.iastore, 1) := by decide +kernel
theorem dX8_reads_14 : decode cX8_reads 14 = .ok (.aload_n 0, 1) := by decide +kernel
theorem dX8_reads_15 : decode cX8_reads 15 = .ok (.getfield 57, 3) := by decide +kernel
theorem dX8_reads_18 : decode cX8_reads 18 = .ok (.iload_n 1, 1) := by decide +kernel
theorem dX8_reads_19 : decode cX8_reads 19 = .ok (.iconst 0, 1) := by decide +kernel
theorem dX8_reads_20 : decode cX8_reads 20 = .ok (.iastore, 1) := by decide +kernel
theorem dX8_reads_21 : decode cX8_reads 21 = .ok (.aload_n 0, 1) := by decide +kernel
theorem dX8_reads_22 : decode cX8_reads 22 = .ok (.getfield 60, 3) := by decide +kernel
theorem dX8_reads_25 : decode cX8_reads 25 = .ok (.iload_n 1, 1) := by decide +kernel
theorem dX8_reads_26 : decode cX8_reads 26 = .ok (.iconst 0, 1) := by decide +kernel
theorem dX8_reads_27 : decode cX8_reads 27 = .ok (.iastore, 1) := by decide +kernel
theorem dX8_reads_28 : decode cX8_reads 28 = .ok (.iconst 0, 1) := by decide +kernel
theorem dX8_reads_29 : decode cX8_reads 29 = .ok (.istore_n 3, 1) := by decide +kernel
theorem dX8_reads_30 : decode cX8_reads 30 = .ok (.iload_n 3, 1) := by decide +kernel
theorem dX8_reads_31 : decode cX8_reads 31 = .ok (.bipush 20, 2) := by decide +kernel
theorem dX8_reads_33 : decode cX8_reads 33 = .ok (.if_icmp .ge 187, 3) := by decide +kernel
theorem dX8_reads_36 : decode cX8_reads 36 = .ok (.iload_n 2, 1) := by decide +kernel
theorem dX8_reads_37 : decode cX8_reads 37 = .ok (.aload_n 0, 1) := by decide +kernel
theorem dX8_reads_38 : decode cX8_reads 38 = .ok (.getfield 7, 3) := by decide +kernel
theorem dX8_reads_41 : decode cX8_reads 41 = .ok (.iconst 1, 1) := by decide +kernel
theorem dX8_reads_42 : decode cX8_reads 42 = .ok (.iaload, 1) := by decide +kernel
theorem dX8_reads_43 : decode cX8_reads 43 = .ok (.iconst (-1), 1) := by decide +kernel
theorem dX8_reads_44 : decode cX8_reads 44 = .ok (.ixor, 1) := by decide +kernel
theorem dX8_reads_45 : decode cX8_reads 45 = .ok (.iand, 1) := by decide +kernel
theorem dX8_reads_46 : decode cX8_reads 46 = .ok (.iload_n 3, 1) := by decide +kernel
theorem dX8_reads_47 : decode cX8_reads 47 = .ok (.invokestatic 75, 3) := by decide +kernel
theorem dX8_reads_50 : decode cX8_reads 50 = .ok (.ifCond .eq 90, 3) := by decide +kernel
theorem dX8_reads_53 : decode cX8_reads 53 = .ok (.aload_n 0, 1) := by decide +kernel
theorem dX8_reads_54 : decode cX8_reads 54 = .ok (.getfield 51, 3) := by decide +kernel
theorem dX8_reads_57 : decode cX8_reads 57 = .ok (.iload_n 1, 1) := by decide +kernel
theorem dX8_reads_58 : decode cX8_reads 58 = .ok (.dup2, 1) := by decide +kernel
theorem dX8_reads_59 : decode cX8_reads 59 = .ok (.iaload, 1) := by decide +kernel
theorem dX8_reads_60 : decode cX8_reads 60 = .ok (.aload_n 0, 1) := by decide +kernel
theorem dX8_reads_61 : decode cX8_reads 61 = .ok (.getfield 45, 3) := by decide +kernel
theorem dX8_reads_64 : decode cX8_reads 64 = .ok (.iload_n 3, 1) := by decide +kernel
theorem dX8_reads_65 : decode cX8_reads 65 = .ok (.iaload, 1) := by decide +kernel
theorem dX8_reads_66 : decode cX8_reads 66 = .ok (.ifCond .ne 9, 3) := by decide +kernel
theorem dX8_reads_69 : decode cX8_reads 69 = .ok (.iconst 1, 1) := by decide +kernel
theorem dX8_reads_70 : decode cX8_reads 70 = .ok (.iload_n 3, 1) := by decide +kernel
theorem dX8_reads_71 : decode cX8_reads 71 = .ok (.ishl, 1) := by decide +kernel
theorem dX8_reads_72 : decode cX8_reads 72 = .ok (.goto 4, 3) := by decide +kernel
theorem dX8_reads_75 : decode cX8_reads 75 = .ok (.iconst 0, 1) := by decide +kernel
theorem dX8_reads_76 : decode cX8_reads 76 = .ok (.ior, 1) := by decide +kernel
theorem dX8_reads_77 : decode cX8_reads 77 = .ok (.iastore, 1) := by decide +kernel
theorem dX8_reads_78 : decode cX8_reads 78 = .ok (.aload_n 0, 1) := by decide +kernel
theorem dX8_reads_79 : decode cX8_reads 79 = .ok (.getfield 54, 3) := by decide +kernel
theorem dX8_reads_82 : decode cX8_reads 82 = .ok (.iload_n 1, 1) := by decide +kernel
theorem dX8_reads_83 : decode cX8_reads 83 = .ok (.dup2, 1) := by decide +kernel
theorem dX8_reads_84 : decode cX8_reads 84 = .ok (.iaload, 1) := by decide +kernel
theorem dX8_reads_85 : decode cX8_reads 85 = .ok (.aload_n 0, 1) := by decide +kernel
theorem dX8_reads_86 : decode cX8_reads 86 = .ok (.getfield 45, 3) := by decide +kernel
theorem dX8_reads_89 : decode cX8_reads 89 = .ok (.iload_n 3, 1) := by decide +kernel
theorem dX8_reads_90 : decode cX8_reads 90 = .ok (.iaload, 1) := by decide +kernel
theorem dX8_reads_91 : decode cX8_reads 91 = .ok (.ifCond .le 9, 3) := by decide +kernel
theorem dX8_reads_94 : decode cX8_reads 94 = .ok (.iconst 1, 1) := by decide +kernel
theorem dX8_reads_95 : decode cX8_reads 95 = .ok (.iload_n 3, 1) := by decide +kernel
theorem dX8_reads_96 : decode cX8_reads 96 = .ok (.ishl, 1) := by decide +kernel
theorem dX8_reads_97 : decode cX8_reads 97 = .ok (.goto 4, 3) := by decide +kernel
theorem dX8_reads_100 : decode cX8_reads 100 = .ok (.iconst 0, 1) := by decide +kernel
theorem dX8_reads_101 : decode cX8_reads 101 = .ok (.ior, 1) := by decide +kernel
theorem dX8_reads_102 : decode cX8_reads 102 = .ok (.iastore, 1) := by decide +kernel
theorem dX8_reads_103 : decode cX8_reads 103 = .ok (.aload_n 0, 1) := by decide +kernel
theorem dX8_reads_104 : decode cX8_reads 104 = .ok (.getfield 45, 3) := by decide +kernel
theorem dX8_reads_107 : decode cX8_reads 107 = .ok (.iload_n 3, 1) := by decide +kernel
theorem dX8_reads_108 : decode cX8_reads 108 = .ok (.aload_n 0, 1) := by decide +kernel
theorem dX8_reads_109 : decode cX8_reads 109 = .ok (.getfield 45, 3) := by decide +kernel
theorem dX8_reads_112 : decode cX8_reads 112 = .ok (.iload_n 3, 1) := by decide +kernel
theorem dX8_reads_113 : decode cX8_reads 113 = .ok (.iaload, 1) := by decide +kernel
theorem dX8_reads_114 : decode cX8_reads 114 = .ok (.bipush 9, 2) := by decide +kernel
theorem dX8_reads_116 : decode cX8_reads 116 = .ok (.if_icmp .ne 8, 3) := by decide +kernel
theorem dX8_reads_119 : decode cX8_reads 119 = .ok (.bipush 9, 2) := by decide +kernel
theorem dX8_reads_121 : decode cX8_reads 121 = .ok (.goto 11, 3) := by decide +kernel
theorem dX8_reads_124 : decode cX8_reads 124 = .ok (.aload_n 0, 1) := by decide +kernel
theorem dX8_reads_125 : decode cX8_reads 125 = .ok (.getfield 45, 3) := by decide +kernel
theorem dX8_reads_128 : decode cX8_reads 128 = .ok (.iload_n 3, 1) := by decide +kernel
theorem dX8_reads_129 : decode cX8_reads 129 = .ok (.iaload, 1) := by decide +kernel
theorem dX8_reads_130 : decode cX8_reads 130 = .ok (.iconst 1, 1) := by decide +kernel
theorem dX8_reads_131 : decode cX8_reads 131 = .ok (.iadd, 1) := by decide +kernel
theorem dX8_reads_132 : decode cX8_reads 132 = .ok (.iastore, 1) := by decide +kernel
theorem dX8_reads_133 : decode cX8_reads 133 = .ok (.aload_n 0, 1) := by decide +kernel
theorem dX8_reads_134 : decode cX8_reads 134 = .ok (.getfield 48, 3) := by decide +kernel
theorem dX8_reads_137 : decode cX8_reads 137 = .ok (.iload_n 3, 1) := by decide +kernel
theorem dX8_reads_138 : decode cX8_reads 138 = .ok (.iload_n 1, 1) := by decide +kernel
theorem dX8_reads_139 : decode cX8_reads 139 = .ok (.iastore, 1) := by decide +kernel
theorem dX8_reads_140 : decode cX8_reads 140 = .ok (.aload_n 0, 1) := by decide +kernel
theorem dX8_reads_141 : decode cX8_reads 141 = .ok (.getfield 45, 3) := by decide +kernel
theorem dX8_reads_144 : decode cX8_reads 144 = .ok (.iload_n 3, 1) := by decide +kernel
theorem dX8_reads_145 : decode cX8_reads 145 = .ok (.iaload, 1) := by decide +kernel
theorem dX8_reads_146 : decode cX8_reads 146 = .ok (.ifCond .le 43, 3) := by decide +kernel
theorem dX8_reads_149 : decode cX8_reads 149 = .ok (.iload_n 1, 1) := by decide +kernel
theorem dX8_reads_150 : decode cX8_reads 150 = .ok (.aload_n 0, 1) := by decide +kernel
theorem dX8_reads_151 : decode cX8_reads 151 = .ok (.getfield 48, 3) := by decide +kernel
theorem dX8_reads_154 : decode cX8_reads 154 = .ok (.iload_n 3, 1) := by decide +kernel
theorem dX8_reads_155 : decode cX8_reads 155 = .ok (.iaload, 1) := by decide +kernel
theorem dX8_reads_156 : decode cX8_reads 156 = .ok (.isub, 1) := by decide +kernel
theorem dX8_reads_157 : decode cX8_reads 157 = .ok (.aload_n 0, 1) := by decide +kernel
theorem dX8_reads_158 : decode cX8_reads 158 = .ok (.aload_n 0, 1) := by decide +kernel
theorem dX8_reads_159 : decode cX8_reads 159 = .ok (.getfield 45, 3) := by decide +kernel
theorem dX8_reads_162 : decode cX8_reads 162 = .ok (.iload_n 3, 1) := by decide +kernel
theorem dX8_reads_163 : decode cX8_reads 163 = .ok (.iaload, 1) := by decide +kernel
theorem dX8_reads_164 : decode cX8_reads 164 = .ok (.invokevirtual 79, 3) := by decide +kernel
