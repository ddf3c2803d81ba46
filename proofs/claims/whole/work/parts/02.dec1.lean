theorem dX4_keepFound_7 : decode cX4_keepFound 7 = .ok (.putfield 65, 3) := by decide +kernel
theorem dX4_keepFound_10 : decode cX4_keepFound 10 = .ok (.aload_n 0, 1) := by decide +kernel
theorem dX4_keepFound_11 : decode cX4_keepFound 11 = .ok (.iload_n 1, 1) := by decide +kernel
theorem dX4_keepFound_12 : decode cX4_keepFound 12 = .ok (.putfield 68, 3) := by decide +kernel
theorem dX4_keepFound_15 : decode cX4_keepFound 15 = .ok (.aload_n 0, 1) := by decide +kernel
theorem dX4_keepFound_16 : decode cX4_keepFound 16 = .ok (.iload_n 2, 1) := by decide +kernel
theorem dX4_keepFound_17 : decode cX4_keepFound 17 = .ok (.putfield 71, 3) := by decide +kernel
theorem dX4_keepFound_20 : decode cX4_keepFound 20 = .ok (.aload_n 0, 1) := by decide +kernel
theorem dX4_keepFound_21 : decode cX4_keepFound 21 = .ok (.getfield 31, 3) := by decide +kernel
theorem dX4_keepFound_24 : decode cX4_keepFound 24 = .ok (.iconst 0, 1) := by decide +kernel
theorem dX4_keepFound_25 : decode cX4_keepFound 25 = .ok (.aload_n 0, 1) := by decide +kernel
theorem dX4_keepFound_26 : decode cX4_keepFound 26 = .ok (.getfield 34, 3) := by decide +kernel
theorem dX4_keepFound_29 : decode cX4_keepFound 29 = .ok (.iconst 0, 1) := by decide +kernel
theorem dX4_keepFound_30 : decode cX4_keepFound 30 = .ok (.bipush 7, 2) := by decide +kernel
theorem dX4_keepFound_32 : decode cX4_keepFound 32 = .ok (.invokestatic 115, 3) := by decide +kernel
theorem dX4_keepFound_35 : decode cX4_keepFound 35 = .ok (.return_, 1) := by decide +kernel
theorem dX4_grow_0 : decode cX4_grow 0 = .ok (.iconst 1, 1) := by decide +kernel
theorem dX4_grow_1 : decode cX4_grow 1 = .ok (.aload_n 0, 1) := by decide +kernel
theorem dX4_grow_2 : decode cX4_grow 2 = .ok (.getfield 47, 3) := by decide +kernel
theorem dX4_grow_5 : decode cX4_grow 5 = .ok (.ishl, 1) := by decide +kernel
theorem dX4_grow_6 : decode cX4_grow 6 = .ok (.iconst 1, 1) := by decide +kernel
theorem dX4_grow_7 : decode cX4_grow 7 = .ok (.isub, 1) := by decide +kernel
theorem dX4_grow_8 : decode cX4_grow 8 = .ok (.istore_n 1, 1) := by decide +kernel
theorem dX4_grow_9 : decode cX4_grow 9 = .ok (.iconst 0, 1) := by decide +kernel
theorem dX4_grow_10 : decode cX4_grow 10 = .ok (.istore_n 2, 1) := by decide +kernel
theorem dX4_grow_11 : decode cX4_grow 11 = .ok (.iload_n 2, 1) := by decide +kernel
theorem dX4_grow_12 : decode cX4_grow 12 = .ok (.aload_n 0, 1) := by decide +kernel
theorem dX4_grow_13 : decode cX4_grow 13 = .ok (.getfield 47, 3) := by decide +kernel
theorem dX4_grow_16 : decode cX4_grow 16 = .ok (.if_icmp .ge 50, 3) := by decide +kernel
theorem dX4_grow_19 : decode cX4_grow 19 = .ok (.aload_n 0, 1) := by decide +kernel
theorem dX4_grow_20 : decode cX4_grow 20 = .ok (.iload_n 2, 1) := by decide +kernel
theorem dX4_grow_21 : decode cX4_grow 21 = .ok (.iload_n 1, 1) := by decide +kernel
theorem dX4_grow_22 : decode cX4_grow 22 = .ok (.invokevirtual 121, 3) := by decide +kernel
theorem dX4_grow_25 : decode cX4_grow 25 = .ok (.istore_n 3, 1) := by decide +kernel
theorem dX4_grow_26 : decode cX4_grow 26 = .ok (.iload_n 3, 1) := by decide +kernel
theorem dX4_grow_27 : decode cX4_grow 27 = .ok (.ifCond .ge 4, 3) := by decide +kernel
theorem dX4_grow_30 : decode cX4_grow 30 = .ok (.return_, 1) := by decide +kernel
theorem dX4_grow_31 : decode cX4_grow 31 = .ok (.aload_n 0, 1) := by decide +kernel
theorem dX4_grow_32 : decode cX4_grow 32 = .ok (.getfield 12, 3) := by decide +kernel
theorem dX4_grow_35 : decode cX4_grow 35 = .ok (.iload_n 2, 1) := by decide +kernel
theorem dX4_grow_36 : decode cX4_grow 36 = .ok (.aload_n 0, 1) := by decide +kernel
theorem dX4_grow_37 : decode cX4_grow 37 = .ok (.getfield 18, 3) := by decide +kernel
theorem dX4_grow_40 : decode cX4_grow 40 = .ok (.iload_n 3, 1) := by decide +kernel
theorem dX4_grow_41 : decode cX4_grow 41 = .ok (.iaload, 1) := by decide +kernel
theorem dX4_grow_42 : decode cX4_grow 42 = .ok (.invokevirtual 89, 3) := by decide +kernel
theorem dX4_grow_45 : decode cX4_grow 45 = .ok (.aload_n 0, 1) := by decide +kernel
theorem dX4_grow_46 : decode cX4_grow 46 = .ok (.getfield 34, 3) := by decide +kernel
theorem dX4_grow_49 : decode cX4_grow 49 = .ok (.iload_n 2, 1) := by decide +kernel
theorem dX4_grow_50 : decode cX4_grow 50 = .ok (.iload_n 3, 1) := by decide +kernel
theorem dX4_grow_51 : decode cX4_grow 51 = .ok (.iastore, 1) := by decide +kernel
theorem dX4_grow_52 : decode cX4_grow 52 = .ok (.iload_n 1, 1) := by decide +kernel
theorem dX4_grow_53 : decode cX4_grow 53 = .ok (.iconst 1, 1) := by decide +kernel
theorem dX4_grow_54 : decode cX4_grow 54 = .ok (.iload_n 3, 1) := by decide +kernel
theorem dX4_grow_55 : decode cX4_grow 55 = .ok (.ishl, 1) := by decide +kernel
theorem dX4_grow_56 : decode cX4_grow 56 = .ok (.iconst (-1), 1) := by decide +kernel
theorem dX4_grow_57 : decode cX4_grow 57 = .ok (.ixor, 1) := by decide +kernel
theorem dX4_grow_58 : decode cX4_grow 58 = .ok (.iand, 1) := by decide +kernel
theorem dX4_grow_59 : decode cX4_grow 59 = .ok (.istore_n 1, 1) := by decide +kernel
theorem dX4_grow_60 : decode cX4_grow 60 = .ok (.iinc 2 1, 3) := by decide +kernel
theorem dX4_grow_63 : decode cX4_grow 63 = .ok (.goto (-52), 3) := by decide +kernel
theorem dX4_grow_66 : decode cX4_grow 66 = .ok (.aload_n 0, 1) := by decide +kernel
theorem dX4_grow_67 : decode cX4_grow 67 = .ok (.aload_n 0, 1) := by decide +kernel
theorem dX4_grow_68 : decode cX4_grow 68 = .ok (.getfield 12, 3) := by decide +kernel
theorem dX4_grow_71 : decode cX4_grow 71 = .ok (.invokevirtual 124, 3) := by decide +kernel
theorem dX4_grow_74 : decode cX4_grow 74 = .ok (.putfield 68, 3) := by decide +kernel
theorem dX4_grow_77 : decode cX4_grow 77 = .ok (.aload_n 0, 1) := by decide +kernel
theorem dX4_grow_78 : decode cX4_grow 78 = .ok (.aload_n 0, 1) := by decide +kernel
theorem dX4_grow_79 : decode cX4_grow 79 = .ok (.getfield 12, 3) := by decide +kernel
theorem dX4_grow_82 : decode cX4_grow 82 = .ok (.invokevirtual 127, 3) := by decide +kernel
theorem dX4_grow_85 : decode cX4_grow 85 = .ok (.putfield 71, 3) := by decide +kernel
theorem dX4_grow_88 : decode cX4_grow 88 = .ok (.return_, 1) := by decide +kernel
theorem dX4_nextGrown_0 : decode cX4_nextGrown 0 = .ok (.aload_n 0, 1) := by decide +kernel
theorem dX4_nextGrown_1 : decode cX4_nextGrown 1 = .ok (.getfield 12, 3) := by decide +kernel
theorem dX4_nextGrown_4 : decode cX4_nextGrown 4 = .ok (.iload_n 1, 1) := by decide +kernel
theorem dX4_nextGrown_5 : decode cX4_nextGrown 5 = .ok (.invokevirtual 129, 3) := by decide +kernel
theorem dX4_nextGrown_8 : decode cX4_nextGrown 8 = .ok (.istore_n 3, 1) := by decide +kernel
theorem dX4_nextGrown_9 : decode cX4_nextGrown 9 = .ok (.bipush (-4), 2) := by decide +kernel
theorem dX4_nextGrown_11 : decode cX4_nextGrown 11 = .ok (.istore 4, 2) := by decide +kernel
theorem dX4_nextGrown_13 : decode cX4_nextGrown 13 = .ok (.iconst 0, 1) := by decide +kernel
theorem dX4_nextGrown_14 : decode cX4_nextGrown 14 = .ok (.istore 5, 2) := by decide +kernel
theorem dX4_nextGrown_16 : decode cX4_nextGrown 16 = .ok (.iconst 0, 1) := by decide +kernel
theorem dX4_nextGrown_17 : decode cX4_nextGrown 17 = .ok (.istore 6, 2) := by decide +kernel
theorem dX4_nextGrown_19 : decode cX4_nextGrown 19 = .ok (.iconst 0, 1) := by decide +kernel
theorem dX4_nextGrown_20 : decode cX4_nextGrown 20 = .ok (.istore 7, 2) := by decide +kernel
theorem dX4_nextGrown_22 : decode cX4_nextGrown 22 = .ok (.iload 7, 2) := by decide +kernel
theorem dX4_nextGrown_24 : decode cX4_nextGrown 24 = .ok (.aload_n 0, 1) := by decide +kernel
theorem dX4_nextGrown_25 : decode cX4_nextGrown 25 = .ok (.getfield 47, 3) := by decide +kernel
theorem dX4_nextGrown_28 : decode cX4_nextGrown 28 = .ok (.if_icmp .ge 99, 3) := by decide +kernel
theorem dX4_nextGrown_31 : decode cX4_nextGrown 31 = .ok (.aload_n 0, 1) := by decide +kernel
theorem dX4_nextGrown_32 : decode cX4_nextGrown 32 = .ok (.getfield 18, 3) := by decide +kernel
theorem dX4_nextGrown_35 : decode cX4_nextGrown 35 = .ok (.iload 7, 2) := by decide +kernel
theorem dX4_nextGrown_37 : decode cX4_nextGrown 37 = .ok (.iaload, 1) := by decide +kernel
theorem dX4_nextGrown_38 : decode cX4_nextGrown 38 = .ok (.iload_n 3, 1) := by decide +kernel
theorem dX4_nextGrown_39 : decode cX4_nextGrown 39 = .ok (.iconst (-1), 1) := by decide +kernel
theorem dX4_nextGrown_40 : decode cX4_nextGrown 40 = .ok (.ixor, 1) := by decide +kernel
theorem dX4_nextGrown_41 : decode cX4_nextGrown 41 = .ok (.iand, 1) := by decide +kernel
theorem dX4_nextGrown_42 : decode cX4_nextGrown 42 = .ok (.invokestatic 95, 3) := by decide +kernel
theorem dX4_nextGrown_45 : decode cX4_nextGrown 45 = .ok (.istore 8, 2) := by decide +kernel
theorem dX4_nextGrown_47 : decode cX4_nextGrown 47 = .ok (.aload_n 0, 1) := by decide +kernel
theorem dX4_nextGrown_48 : decode cX4_nextGrown 48 = .ok (.getfield 18, 3) := by decide +kernel
theorem dX4_nextGrown_51 : decode cX4_nextGrown 51 = .ok (.iload 7, 2) := by decide +kernel
theorem dX4_nextGrown_53 : decode cX4_nextGrown 53 = .ok (.iaload, 1) := by decide +kernel
theorem dX4_nextGrown_54 : decode cX4_nextGrown 54 = .ok (.iload_n 3, 1) := by decide +kernel
theorem dX4_nextGrown_55 : decode cX4_nextGrown 55 = .ok (.iand, 1) := by decide +kernel
theorem dX4_nextGrown_56 : decode cX4_nextGrown 56 = .ok (.invokestatic 95, 3) := by decide +kernel
theorem dX4_nextGrown_59 : decode cX4_nextGrown 59 = .ok (.istore 9, 2) := by decide +kernel
theorem dX4_nextGrown_61 : decode cX4_nextGrown 61 = .ok (.iload 4, 2) := by decide +kernel
theorem dX4_nextGrown_63 : decode cX4_nextGrown 63 = .ok (.ifCond .lt 24, 3) := by decide +kernel
theorem dX4_nextGrown_66 : decode cX4_nextGrown 66 = .ok (.iload 8, 2) := by decide +kernel
theorem dX4_nextGrown_68 : decode cX4_nextGrown 68 = .ok (.iload 5, 2) := by decide +kernel
theorem dX4_nextGrown_70 : decode cX4_nextGrown 70 = .ok (.if_icmp .lt 17, 3) := by decide +kernel
theorem dX4_nextGrown_73 : decode cX4_nextGrown 73 = .ok (.iload 8, 2) := by decide +kernel
theorem dX4_nextGrown_75 : decode cX4_nextGrown 75 = .ok (.iload 5, 2) := by decide +kernel
theorem dX4_nextGrown_77 : decode cX4_nextGrown 77 = .ok (.if_icmp .ne 14, 3) := by decide +kernel
theorem dX4_nextGrown_80 : decode cX4_nextGrown 80 = .ok (.iload 9, 2) := by decide +kernel
theorem dX4_nextGrown_82 : decode cX4_nextGrown 82 = .ok (.iload 6, 2) := by decide +kernel
theorem dX4_nextGrown_84 : decode cX4_nextGrown 84 = .ok (.if_icmp .le 7, 3) := by decide +kernel
theorem dX4_nextGrown_87 : decode cX4_nextGrown 87 = .ok (.iconst 1, 1) := by decide +kernel
theorem dX4_nextGrown_88 : decode cX4_nextGrown 88 = .ok (.goto 4, 3) := by decide +kernel
theorem dX4_nextGrown_91 : decode cX4_nextGrown 91 = .ok (.iconst 0, 1) := by decide +kernel
theorem dX4_nextGrown_92 : decode cX4_nextGrown 92 = .ok (.istore 10, 2) := by decide +kernel
theorem dX4_nextGrown_94 : decode cX4_nextGrown 94 = .ok (.iload 10, 2) := by decide +kernel
theorem dX4_nextGrown_96 : decode cX4_nextGrown 96 = .ok (.ifCond .eq 25, 3) := by decide +kernel
theorem dX4_nextGrown_99 : decode cX4_nextGrown 99 = .ok (.aload_n 0, 1) := by decide +kernel
theorem dX4_nextGrown_100 : decode cX4_nextGrown 100 = .ok (.iload 7, 2) := by decide +kernel
theorem dX4_nextGrown_102 : decode cX4_nextGrown 102 = .ok (.iload_n 2, 1) := by decide +kernel
theorem dX4_nextGrown_103 : decode cX4_nextGrown 103 = .ok (.invokevirtual 85, 3) := by decide +kernel
theorem dX4_nextGrown_106 : decode cX4_nextGrown 106 = .ok (.ifCond .eq 15, 3) := by decide +kernel
theorem dX4_nextGrown_109 : decode cX4_nextGrown 109 = .ok (.iload 7, 2) := by decide +kernel
theorem dX4_nextGrown_111 : decode cX4_nextGrown 111 = .ok (.istore 4, 2) := by decide +kernel
theorem dX4_nextGrown_113 : decode cX4_nextGrown 113 = .ok (.iload 8, 2) := by decide +kernel
theorem dX4_nextGrown_115 : decode cX4_nextGrown 115 = .ok (.istore 5, 2) := by decide +kernel
theorem dX4_nextGrown_117 : decode cX4_nextGrown 117 = .ok (.iload 9, 2) := by decide +kernel
theorem dX4_nextGrown_119 : decode cX4_nextGrown 119 = .ok (.istore 6, 2) := by decide +kernel
theorem dX4_nextGrown_121 : decode cX4_nextGrown 121 = .ok (.iinc 7 1, 3) := by decide +kernel
theorem dX4_nextGrown_124 : decode cX4_nextGrown 124 = .ok (.goto (-102), 3) := by decide +kernel
theorem dX4_nextGrown_127 : decode cX4_nextGrown 127 = .ok (.iload 4, 2) := by decide +kernel
theorem dX4_nextGrown_129 : decode cX4_nextGrown 129 = .ok (.ireturn, 1) := by decide +kernel
theorem dX5_init_0 : decode cX5_init 0 = .ok (.aload_n 0, 1) := by decide +kernel
theorem dX5_init_1 : decode cX5_init 1 = .ok (.invokespecial 3, 3) := by decide +kernel
theorem dX5_init_4 : decode cX5_init 4 = .ok (.aload_n 0, 1) := by decide +kernel
theorem dX5_init_5 : decode cX5_init 5 = .ok (.bipush 24, 2) := by decide +kernel
theorem dX5_init_7 : decode cX5_init 7 = .ok (.newarray .long, 2) := by decide +kernel
theorem dX5_init_9 : decode cX5_init 9 = .ok (.putfield 9, 3) := by decide +kernel
theorem dX5_init_12 : decode cX5_init 12 = .ok (.aload_n 0, 1) := by decide +kernel
theorem dX5_init_13 : decode cX5_init 13 = .ok (.iconst (-1), 1) := by decide +kernel
theorem dX5_init_14 : decode cX5_init 14 = .ok (.putfield 15, 3) := by decide +kernel
theorem dX5_init_17 : decode cX5_init 17 = .ok (.return_, 1) := by decide +kernel
theorem dX5_renew_0 : decode cX5_renew 0 = .ok (.iconst 0, 1) := by decide +kernel
theorem dX5_renew_1 : decode cX5_renew 1 = .ok (.istore_n 3, 1) := by decide +kernel
theorem dX5_renew_2 : decode cX5_renew 2 = .ok (.iload_n 3, 1) := by decide +kernel
theorem dX5_renew_3 : decode cX5_renew 3 = .ok (.bipush 24, 2) := by decide +kernel
theorem dX5_renew_5 : decode cX5_renew 5 = .ok (.if_icmp .ge 16, 3) := by decide +kernel
theorem dX5_renew_8 : decode cX5_renew 8 = .ok (.aload_n 0, 1) := by decide +kernel
theorem dX5_renew_9 : decode cX5_renew 9 = .ok (.getfield 9, 3) := by decide +kernel
theorem dX5_renew_12 : decode cX5_renew 12 = .ok (.iload_n 3, 1) := by decide +kernel
theorem dX5_renew_13 : decode cX5_renew 13 = .ok (.lconst 0, 1) := by decide +kernel
theorem dX5_renew_14 : decode cX5_renew 14 = .ok (.lastore, 1) := by decide +kernel
theorem dX5_renew_15 : decode cX5_renew 15 = .ok (.iinc 3 1, 3) := by decide +kernel
theorem dX5_renew_18 : decode cX5_renew 18 = .ok (.goto (-16), 3) := by decide +kernel
theorem dX5_renew_21 : decode cX5_renew 21 = .ok (.aload_n 0, 1) := by decide +kernel
theorem dX5_renew_22 : decode cX5_renew 22 = .ok (.iload_n 1, 1) := by decide +kernel
theorem dX5_renew_23 : decode cX5_renew 23 = .ok (.putfield 15, 3) := by decide +kernel
theorem dX5_renew_26 : decode cX5_renew 26 = .ok (.aload_n 0, 1) := by decide +kernel
theorem dX5_renew_27 : decode cX5_renew 27 = .ok (.iload_n 2, 1) := by decide +kernel
theorem dX5_renew_28 : decode cX5_renew 28 = .ok (.putfield 19, 3) := by decide +kernel
theorem dX5_renew_31 : decode cX5_renew 31 = .ok (.return_, 1) := by decide +kernel
theorem dX5_has_0 : decode cX5_has 0 = .ok (.iload_n 2, 1) := by decide +kernel
theorem dX5_has_1 : decode cX5_has 1 = .ok (.ifCond .lt 21, 3) := by decide +kernel
theorem dX5_has_4 : decode cX5_has 4 = .ok (.iload_n 1, 1) := by decide +kernel
theorem dX5_has_5 : decode cX5_has 5 = .ok (.ifCond .lt 17, 3) := by decide +kernel
theorem dX5_has_8 : decode cX5_has 8 = .ok (.iload_n 1, 1) := by decide +kernel
theorem dX5_has_9 : decode cX5_has 9 = .ok (.aload_n 0, 1) := by decide +kernel
theorem dX5_has_10 : decode cX5_has 10 = .ok (.getfield 19, 3) := by decide +kernel
theorem dX5_has_13 : decode cX5_has 13 = .ok (.iload_n 2, 1) := by decide +kernel
theorem dX5_has_14 : decode cX5_has 14 = .ok (.isub, 1) := by decide +kernel
theorem dX5_has_15 : decode cX5_has 15 = .ok (.if_icmp .gt 7, 3) := by decide +kernel
theorem dX5_has_18 : decode cX5_has 18 = .ok (.iconst 1, 1) := by decide +kernel
theorem dX5_has_19 : decode cX5_has 19 = .ok (.goto 4, 3) := by decide +kernel
theorem dX5_has_22 : decode cX5_has 22 = .ok (.iconst 0, 1) := by decide +kernel
theorem dX5_has_23 : decode cX5_has 23 = .ok (.ireturn, 1) := by decide +kernel
theorem dX5_put_0 : decode cX5_put 0 = .ok (.iload_n 1, 1) := by decide +kernel
theorem dX5_put_1 : decode cX5_put 1 = .ok (.ifCond .lt 28, 3) := by decide +kernel
theorem dX5_put_4 : decode cX5_put 4 = .ok (.iload_n 1, 1) := by decide +kernel
theorem dX5_put_5 : decode cX5_put 5 = .ok (.aload_n 0, 1) := by decide +kernel
theorem dX5_put_6 : decode cX5_put 6 = .ok (.getfield 19, 3) := by decide +kernel
theorem dX5_put_9 : decode cX5_put 9 = .ok (.if_icmp .ge 20, 3) := by decide +kernel
theorem dX5_put_12 : decode cX5_put 12 = .ok (.iload_n 1, 1) := by decide +kernel
theorem dX5_put_13 : decode cX5_put 13 = .ok (.bipush 24, 2) := by decide +kernel
theorem dX5_put_15 : decode cX5_put 15 = .ok (.if_icmp .ge 14, 3) := by decide +kernel
theorem dX5_put_18 : decode cX5_put 18 = .ok (.aload_n 0, 1) := by decide +kernel
theorem dX5_put_19 : decode cX5_put 19 = .ok (.getfield 9, 3) := by decide +kernel
theorem dX5_put_22 : decode cX5_put 22 = .ok (.iload_n 1, 1) := by decide +kernel
theorem dX5_put_23 : decode cX5_put 23 = .ok (.aload_n 0, 1) := by decide +kernel
theorem dX5_put_24 : decode cX5_put 24 = .ok (.lload_n 2, 1) := by decide +kernel
theorem dX5_put_25 : decode cX5_put 25 = .ok (.invokevirtual 22, 3) := by decide +kernel
theorem dX5_put_28 : decode cX5_put 28 = .ok (.lastore, 1) := by decide +kernel
theorem dX5_put_29 : decode cX5_put 29 = .ok (.return_, 1) := by decide +kernel
theorem dX5_cut_0 : decode cX5_cut 0 = .ok (.aload_n 0, 1) := by decide +kernel
theorem dX5_cut_1 : decode cX5_cut 1 = .ok (.getfield 15, 3) := by decide +kernel
theorem dX5_cut_4 : decode cX5_cut 4 = .ok (.tableswitch 42 0 2 #[28, 33, 38], 28) := by decide +kernel
theorem dX5_cut_32 : decode cX5_cut 32 = .ok (.lload_n 1, 1) := by decide +kernel
theorem dX5_cut_33 : decode cX5_cut 33 = .ok (.l2i, 1) := by decide +kernel
theorem dX5_cut_34 : decode cX5_cut 34 = .ok (.i2b, 1) := by decide +kernel
theorem dX5_cut_35 : decode cX5_cut 35 = .ok (.i2l, 1) := by decide +kernel
theorem dX5_cut_36 : decode cX5_cut 36 = .ok (.lreturn, 1) := by decide +kernel
theorem dX5_cut_37 : decode cX5_cut 37 = .ok (.lload_n 1, 1) := by decide +kernel
theorem dX5_cut_38 : decode cX5_cut 38 = .ok (.l2i, 1) := by decide +kernel
theorem dX5_cut_39 : decode cX5_cut 39 = .ok (.i2s, 1) := by decide +kernel
theorem dX5_cut_40 : decode cX5_cut 40 = .ok (.i2l, 1) := by decide +kernel
theorem dX5_cut_41 : decode cX5_cut 41 = .ok (.lreturn, 1) := by decide +kernel
theorem dX5_cut_42 : decode cX5_cut 42 = .ok (.lload_n 1, 1) := by decide +kernel
theorem dX5_cut_43 : decode cX5_cut 43 = .ok (.l2i, 1) := by decide +kernel
theorem dX5_cut_44 : decode cX5_cut 44 = .ok (.i2l, 1) := by decide +kernel
theorem dX5_cut_45 : decode cX5_cut 45 = .ok (.lreturn, 1) := by decide +kernel
theorem dX5_cut_46 : decode cX5_cut 46 = .ok (.lload_n 1, 1) := by decide +kernel
theorem dX5_cut_47 : decode cX5_cut 47 = .ok (.lreturn, 1) := by decide +kernel
theorem dX6_init_0 : decode cX6_init 0 = .ok (.aload_n 0, 1) := by decide +kernel
theorem dX6_init_1 : decode cX6_init 1 = .ok (.invokespecial 3, 3) := by decide +kernel
theorem dX6_init_4 : decode cX6_init 4 = .ok (.aload_n 0, 1) := by decide +kernel
theorem dX6_init_5 : decode cX6_init 5 = .ok (.bipush 7, 2) := by decide +kernel
theorem dX6_init_7 : decode cX6_init 7 = .ok (.newarray .int, 2) := by decide +kernel
theorem dX6_init_9 : decode cX6_init 9 = .ok (.putfield 9, 3) := by decide +kernel
theorem dX6_init_12 : decode cX6_init 12 = .ok (.aload_n 0, 1) := by decide +kernel
theorem dX6_init_13 : decode cX6_init 13 = .ok (.bipush 7, 2) := by decide +kernel
theorem dX6_init_15 : decode cX6_init 15 = .ok (.newarray .int, 2) := by decide +kernel
theorem dX6_init_17 : decode cX6_init 17 = .ok (.putfield 15, 3) := by decide +kernel
theorem dX6_init_20 : decode cX6_init 20 = .ok (.aload_n 0, 1) := by decide +kernel
theorem dX6_init_21 : decode cX6_init 21 = .ok (.bipush 7, 2) := by decide +kernel
theorem dX6_init_23 : decode cX6_init 23 = .ok (.newarray .int, 2) := by decide +kernel
theorem dX6_init_25 : decode cX6_init 25 = .ok (.putfield 18, 3) := by decide +kernel
theorem dX6_init_28 : decode cX6_init 28 = .ok (.aload_n 0, 1) := by decide +kernel
theorem dX6_init_29 : decode cX6_init 29 = .ok (.iconst 2, 1) := by decide +kernel
theorem dX6_init_30 : decode cX6_init 30 = .ok (.putfield 21, 3) := by decide +kernel
theorem dX6_init_33 : decode cX6_init 33 = .ok (.aload_n 0, 1) := by decide +kernel
theorem dX6_init_34 : decode cX6_init 34 = .ok (.iconst 5, 1) := by decide +kernel
theorem dX6_init_35 : decode cX6_init 35 = .ok (.putfield 25, 3) := by decide +kernel
theorem dX6_init_38 : decode cX6_init 38 = .ok (.aload_n 0, 1) := by decide +kernel
theorem dX6_init_39 : decode cX6_init 39 = .ok (.iconst 0, 1) := by decide +kernel
theorem dX6_init_40 : decode cX6_init 40 = .ok (.putfield 28, 3) := by decide +kernel
theorem dX6_init_43 : decode cX6_init 43 = .ok (.aload_n 0, 1) := by decide +kernel
theorem dX6_init_44 : decode cX6_init 44 = .ok (.iconst 1, 1) := by decide +kernel
theorem dX6_init_45 : decode cX6_init 45 = .ok (.putfield 31, 3) := by decide +kernel
theorem dX6_init_48 : decode cX6_init 48 = .ok (.return_, 1) := by decide +kernel
theorem dX6_takeFrom_0 : decode cX6_takeFrom 0 = .ok (.aload_n 1, 1) := by decide +kernel
theorem dX6_takeFrom_1 : decode cX6_takeFrom 1 = .ok (.getfield 9, 3) := by decide +kernel
theorem dX6_takeFrom_4 : decode cX6_takeFrom 4 = .ok (.iconst 0, 1) := by decide +kernel
theorem dX6_takeFrom_5 : decode cX6_takeFrom 5 = .ok (.aload_n 0, 1) := by decide +kernel
theorem dX6_takeFrom_6 : decode cX6_takeFrom 6 = .ok (.getfield 9, 3) := by decide +kernel
theorem dX6_takeFrom_9 : decode cX6_takeFrom 9 = .ok (.iconst 0, 1) := by decide +kernel
theorem dX6_takeFrom_10 : decode cX6_takeFrom 10 = .ok (.bipush 7, 2) := by decide +kernel
theorem dX6_takeFrom_12 : decode cX6_takeFrom 12 = .ok (.invokestatic 34, 3) := by decide +kernel
theorem dX6_takeFrom_15 : decode cX6_takeFrom 15 = .ok (.aload_n 1, 1) := by decide +kernel
theorem dX6_takeFrom_16 : decode cX6_takeFrom 16 = .ok (.getfield 15, 3) := by decide +kernel
theorem dX6_takeFrom_19 : decode cX6_takeFrom 19 = .ok (.iconst 0, 1) := by decide +kernel
theorem dX6_takeFrom_20 : decode cX6_takeFrom 20 = .ok (.aload_n 0, 1) := by decide +kernel
theorem dX6_takeFrom_21 : decode cX6_takeFrom 21 = .ok (.getfield 15, 3) := by decide +kernel
theorem dX6_takeFrom_24 : decode cX6_takeFrom 24 = .ok (.iconst 0, 1) := by decide +kernel
theorem dX6_takeFrom_25 : decode cX6_takeFrom 25 = .ok (.bipush 7, 2) := by decide +kernel
theorem dX6_takeFrom_27 : decode cX6_takeFrom 27 = .ok (.invokestatic 34, 3) := by decide +kernel
theorem dX6_takeFrom_30 : decode cX6_takeFrom 30 = .ok (.aload_n 1, 1) := by decide +kernel
theorem dX6_takeFrom_31 : decode cX6_takeFrom 31 = .ok (.getfield 18, 3) := by decide +kernel
theorem dX6_takeFrom_34 : decode cX6_takeFrom 34 = .ok (.iconst 0, 1) := by decide +kernel
theorem dX6_takeFrom_35 : decode cX6_takeFrom 35 = .ok (.aload_n 0, 1) := by decide +kernel
theorem dX6_takeFrom_36 : decode cX6_takeFrom 36 = .ok (.getfield 18, 3) := by decide +kernel
theorem dX6_takeFrom_39 : decode cX6_takeFrom 39 = .ok (.iconst 0, 1) := by decide +kernel
theorem dX6_takeFrom_40 : decode cX6_takeFrom 40 = .ok (.bipush 7, 2) := by decide +kernel
theorem dX6_takeFrom_42 : decode cX6_takeFrom 42 = .ok (.invokestatic 34, 3) := by decide +kernel
theorem dX6_takeFrom_45 : decode cX6_takeFrom 45 = .ok (.aload_n 0, 1) := by decide +kernel
theorem dX6_takeFrom_46 : decode cX6_takeFrom 46 = .ok (.aload_n 1, 1) := by decide +kernel
theorem dX6_takeFrom_47 : decode cX6_takeFrom 47 = .ok (.getfield 40, 3) := by decide +kernel
theorem dX6_takeFrom_50 : decode cX6_takeFrom 50 = .ok (.putfield 40, 3) := by decide +kernel
theorem dX6_takeFrom_53 : decode cX6_takeFrom 53 = .ok (.aload_n 0, 1) := by decide +kernel
theorem dX6_takeFrom_54 : decode cX6_takeFrom 54 = .ok (.aload_n 1, 1) := by decide +kernel
theorem dX6_takeFrom_55 : decode cX6_takeFrom 55 = .ok (.getfield 43, 3) := by decide +kernel
theorem dX6_takeFrom_58 : decode cX6_takeFrom 58 = .ok (.putfield 43, 3) := by decide +kernel
theorem dX6_takeFrom_61 : decode cX6_takeFrom 61 = .ok (.aload_n 0, 1) := by decide +kernel
theorem dX6_takeFrom_62 : decode cX6_takeFrom 62 = .ok (.aload_n 1, 1) := by decide +kernel
theorem dX6_takeFrom_63 : decode cX6_takeFrom 63 = .ok (.getfield 21, 3) := by decide +kernel
theorem dX6_takeFrom_66 : decode cX6_takeFrom 66 = .ok (.putfield 21, 3) := by decide +kernel
theorem dX6_takeFrom_69 : decode cX6_takeFrom 69 = .ok (.aload_n 0, 1) := by decide +kernel
theorem dX6_takeFrom_70 : decode cX6_takeFrom 70 = .ok (.aload_n 1, 1) := by decide +kernel
theorem dX6_takeFrom_71 : decode cX6_takeFrom 71 = .ok (.getfield 25, 3) := by decide +kernel
theorem dX6_takeFrom_74 : decode cX6_takeFrom 74 = .ok (.putfield 25, 3) := by decide +kernel
theorem dX6_takeFrom_77 : decode cX6_takeFrom 77 = .ok (.aload_n 0, 1) := by decide +kernel
theorem dX6_takeFrom_78 : decode cX6_takeFrom 78 = .ok (.aload_n 1, 1) := by decide +kernel
theorem dX6_takeFrom_79 : decode cX6_takeFrom 79 = .ok (.getfield 28, 3) := by decide +kernel
theorem dX6_takeFrom_82 : decode cX6_takeFrom 82 = .ok (.putfield 28, 3) := by decide +kernel
theorem dX6_takeFrom_85 : decode cX6_takeFrom 85 = .ok (.aload_n 0, 1) := by decide +kernel
theorem dX6_takeFrom_86 : decode cX6_takeFrom 86 = .ok (.aload_n 1, 1) := by decide +kernel
theorem dX6_takeFrom_87 : decode cX6_takeFrom 87 = .ok (.getfield 31, 3) := by decide +kernel
theorem dX6_takeFrom_90 : decode cX6_takeFrom 90 = .ok (.putfield 31, 3) := by decide +kernel
theorem dX6_takeFrom_93 : decode cX6_takeFrom 93 = .ok (.return_, 1) := by decide +kernel
theorem dX6_goOn_0 : decode cX6_goOn 0 = .ok (.aload_n 0, 1) := by decide +kernel
theorem dX6_goOn_1 : decode cX6_goOn 1 = .ok (.aload_n 0, 1) := by decide +kernel
theorem dX6_goOn_2 : decode cX6_goOn 2 = .ok (.getfield 31, 3) := by decide +kernel
theorem dX6_goOn_5 : decode cX6_goOn 5 = .ok (.ldc 46, 2) := by decide +kernel
theorem dX6_goOn_7 : decode cX6_goOn 7 = .ok (.imul, 1) := by decide +kernel
theorem dX6_goOn_8 : decode cX6_goOn 8 = .ok (.sipush 12345, 3) := by decide +kernel
theorem dX6_goOn_11 : decode cX6_goOn 11 = .ok (.iadd, 1) := by decide +kernel
theorem dX6_goOn_12 : decode cX6_goOn 12 = .ok (.ldc 47, 2) := by decide +kernel
theorem dX6_goOn_14 : decode cX6_goOn 14 = .ok (.iand, 1) := by decide +kernel
theorem dX6_goOn_15 : decode cX6_goOn 15 = .ok (.putfield 31, 3) := by decide +kernel
theorem dX6_goOn_18 : decode cX6_goOn 18 = .ok (.return_, 1) := by decide +kernel
theorem dX6_isBook_0 : decode cX6_isBook 0 = .ok (.iload_n 1, 1) := by decide +kernel
theorem dX6_isBook_1 : decode cX6_isBook 1 = .ok (.ifCond .lt 15, 3) := by decide +kernel
theorem dX6_isBook_4 : decode cX6_isBook 4 = .ok (.iload_n 1, 1) := by decide +kernel
theorem dX6_isBook_5 : decode cX6_isBook 5 = .ok (.aload_n 0, 1) := by decide +kernel
theorem dX6_isBook_6 : decode cX6_isBook 6 = .ok (.getfield 40, 3) := by decide +kernel
theorem dX6_isBook_9 : decode cX6_isBook 9 = .ok (.if_icmp .ge 7, 3) := by decide +kernel
theorem dX6_isBook_12 : decode cX6_isBook 12 = .ok (.iconst 1, 1) := by decide +kernel
theorem dX6_isBook_13 : decode cX6_isBook 13 = .ok (.goto 4, 3) := by decide +kernel
theorem dX6_isBook_16 : decode cX6_isBook 16 = .ok (.iconst 0, 1) := by decide +kernel
theorem dX6_isBook_17 : decode cX6_isBook 17 = .ok (.ireturn, 1) := by decide +kernel
theorem dX6_isSetOfBook_0 : decode cX6_isSetOfBook 0 = .ok (.iload_n 0, 1) := by decide +kernel
theorem dX6_isSetOfBook_1 : decode cX6_isSetOfBook 1 = .ok (.ifCond .le 13, 3) := by decide +kernel
theorem dX6_isSetOfBook_4 : decode cX6_isSetOfBook 4 = .ok (.iload_n 0, 1) := by decide +kernel
theorem dX6_isSetOfBook_5 : decode cX6_isSetOfBook 5 = .ok (.ldc 48, 2) := by decide +kernel
theorem dX6_isSetOfBook_7 : decode cX6_isSetOfBook 7 = .ok (.if_icmp .gt 7, 3) := by decide +kernel
theorem dX6_isSetOfBook_10 : decode cX6_isSetOfBook 10 = .ok (.iconst 1, 1) := by decide +kernel
theorem dX6_isSetOfBook_11 : decode cX6_isSetOfBook 11 = .ok (.goto 4, 3) := by decide +kernel
theorem dX6_isSetOfBook_14 : decode cX6_isSetOfBook 14 = .ok (.iconst 0, 1) := by decide +kernel
theorem dX6_isSetOfBook_15 : decode cX6_isSetOfBook 15 = .ok (.ireturn, 1) := by decide +kernel
theorem dX6_addBook_0 : decode cX6_addBook 0 = .ok (.iload_n 1, 1) := by decide +kernel
theorem dX6_addBook_1 : decode cX6_addBook 1 = .ok (.invokestatic 49, 3) := by decide +kernel
theorem dX6_addBook_4 : decode cX6_addBook 4 = .ok (.ifCond .ne 5, 3) := by decide +kernel
theorem dX6_addBook_7 : decode cX6_addBook 7 = .ok (.iconst (-1), 1) := by decide +kernel
theorem dX6_addBook_8 : decode cX6_addBook 8 = .ok (.ireturn, 1) := by decide +kernel
theorem dX6_addBook_9 : decode cX6_addBook 9 = .ok (.aload_n 0, 1) := by decide +kernel
theorem dX6_addBook_10 : decode cX6_addBook 10 = .ok (.getfield 40, 3) := by decide +kernel
theorem dX6_addBook_13 : decode cX6_addBook 13 = .ok (.bipush 7, 2) := by decide +kernel
theorem dX6_addBook_15 : decode cX6_addBook 15 = .ok (.if_icmp .lt 6, 3) := by decide +kernel
theorem dX6_addBook_18 : decode cX6_addBook 18 = .ok (.bipush (-3), 2) := by decide +kernel
theorem dX6_addBook_20 : decode cX6_addBook 20 = .ok (.ireturn, 1) := by decide +kernel
theorem dX6_addBook_21 : decode cX6_addBook 21 = .ok (.aload_n 0, 1) := by decide +kernel
theorem dX6_addBook_22 : decode cX6_addBook 22 = .ok (.getfield 9, 3) := by decide +kernel
theorem dX6_addBook_25 : decode cX6_addBook 25 = .ok (.aload_n 0, 1) := by decide +kernel
theorem dX6_addBook_26 : decode cX6_addBook 26 = .ok (.getfield 40, 3) := by decide +kernel
theorem dX6_addBook_29 : decode cX6_addBook 29 = .ok (.iload_n 1, 1) := by decide +kernel
theorem dX6_addBook_30 : decode cX6_addBook 30 = .ok (.iastore, 1) := by decide +kernel
theorem dX6_addBook_31 : decode cX6_addBook 31 = .ok (.aload_n 0, 1) := by decide +kernel
theorem dX6_addBook_32 : decode cX6_addBook 32 = .ok (.getfield 15, 3) := by decide +kernel
theorem dX6_addBook_35 : decode cX6_addBook 35 = .ok (.aload_n 0, 1) := by decide +kernel
theorem dX6_addBook_36 : decode cX6_addBook 36 = .ok (.getfield 40, 3) := by decide +kernel
theorem dX6_addBook_39 : decode cX6_addBook 39 = .ok (.iconst 0, 1) := by decide +kernel
theorem dX6_addBook_40 : decode cX6_addBook 40 = .ok (.iastore, 1) := by decide +kernel
theorem dX6_addBook_41 : decode cX6_addBook 41 = .ok (.aload_n 0, 1) := by decide +kernel
theorem dX6_addBook_42 : decode cX6_addBook 42 = .ok (.getfield 18, 3) := by decide +kernel
theorem dX6_addBook_45 : decode cX6_addBook 45 = .ok (.aload_n 0, 1) := by decide +kernel
theorem dX6_addBook_46 : decode cX6_addBook 46 = .ok (.getfield 40, 3) := by decide +kernel
theorem dX6_addBook_49 : decode cX6_addBook 49 = .ok (.aload_n 0, 1) := by decide +kernel
theorem dX6_addBook_50 : decode cX6_addBook 50 = .ok (.getfield 40, 3) := by decide +kernel
theorem dX6_addBook_53 : decode cX6_addBook 53 = .ok (.iastore, 1) := by decide +kernel
theorem dX6_addBook_54 : decode cX6_addBook 54 = .ok (.aload_n 0, 1) := by decide +kernel
theorem dX6_addBook_55 : decode cX6_addBook 55 = .ok (.dup, 1) := by decide +kernel
theorem dX6_addBook_56 : decode cX6_addBook 56 = .ok (.getfield 40, 3) := by decide +kernel
theorem dX6_addBook_59 : decode cX6_addBook 59 = .ok (.iconst 1, 1) := by decide +kernel
theorem dX6_addBook_60 : decode cX6_addBook 60 = .ok (.iadd, 1) := by decide +kernel
theorem dX6_addBook_61 : decode cX6_addBook 61 = .ok (.putfield 40, 3) := by decide +kernel
theorem dX6_addBook_64 : decode cX6_addBook 64 = .ok (.aload_n 0, 1) := by decide +kernel
theorem dX6_addBook_65 : decode cX6_addBook 65 = .ok (.getfield 40, 3) := by decide +kernel
theorem dX6_addBook_68 : decode cX6_addBook 68 = .ok (.iconst 1, 1) := by decide +kernel
theorem dX6_addBook_69 : decode cX6_addBook 69 = .ok (.isub, 1) := by decide +kernel
theorem dX6_addBook_70 : decode cX6_addBook 70 = .ok (.ireturn, 1) := by decide +kernel
theorem dX6_changeWords_0 : decode cX6_changeWords 0 = .ok (.aload_n 0, 1) := by decide +kernel
theorem dX6_changeWords_1 : decode cX6_changeWords 1 = .ok (.iload_n 1, 1) := by decide +kernel
theorem dX6_changeWords_2 : decode cX6_changeWords 2 = .ok (.invokevirtual 53, 3) := by decide +kernel
theorem dX6_changeWords_5 : decode cX6_changeWords 5 = .ok (.ifCond .eq 10, 3) := by decide +kernel
theorem dX6_changeWords_8 : decode cX6_changeWords 8 = .ok (.iload_n 2, 1) := by decide +kernel
theorem dX6_changeWords_9 : decode cX6_changeWords 9 = .ok (.invokestatic 49, 3) := by decide +kernel
theorem dX6_changeWords_12 : decode cX6_changeWords 12 = .ok (.ifCond .ne 5, 3) := by decide +kernel
theorem dX6_changeWords_15 : decode cX6_changeWords 15 = .ok (.iconst (-1), 1) := by decide +kernel
theorem dX6_changeWords_16 : decode cX6_changeWords 16 = .ok (.ireturn, 1) := by decide +kernel
theorem dX6_changeWords_17 : decode cX6_changeWords 17 = .ok (.aload_n 0, 1) := by decide +kernel
theorem dX6_changeWords_18 : decode cX6_changeWords 18 = .ok (.getfield 9, 3) := by decide +kernel
theorem dX6_changeWords_21 : decode cX6_changeWords 21 = .ok (.iload_n 1, 1) := by decide +kernel
theorem dX6_changeWords_22 : decode cX6_changeWords 22 = .ok (.iaload, 1) := by decide +kernel
theorem dX6_changeWords_23 : decode cX6_changeWords 23 = .ok (.istore_n 3, 1) := by decide +kernel
theorem dX6_changeWords_24 : decode cX6_changeWords 24 = .ok (.iload_n 3, 1) := by decide +kernel
theorem dX6_changeWords_25 : decode cX6_changeWords 25 = .ok (.iload_n 2, 1) := by decide +kernel
theorem dX6_changeWords_26 : decode cX6_changeWords 26 = .ok (.if_icmp .ne 6, 3) := by decide +kernel
theorem dX6_changeWords_29 : decode cX6_changeWords 29 = .ok (.bipush (-2), 2) := by decide +kernel
theorem dX6_changeWords_31 : decode cX6_changeWords 31 = .ok (.ireturn, 1) := by decide +kernel
theorem dX6_changeWords_32 : decode cX6_changeWords 32 = .ok (.aload_n 0, 1) := by decide +kernel
theorem dX6_changeWords_33 : decode cX6_changeWords 33 = .ok (.getfield 9, 3) := by decide +kernel
theorem dX6_changeWords_36 : decode cX6_changeWords 36 = .ok (.iload_n 1, 1) := by decide +kernel
theorem dX6_changeWords_37 : decode cX6_changeWords 37 = .ok (.iload_n 2, 1) := by decide +kernel
theorem dX6_changeWords_38 : decode cX6_changeWords 38 = .ok (.iastore, 1) := by decide +kernel
theorem dX6_changeWords_39 : decode cX6_changeWords 39 = .ok (.iload_n 3, 1) := by decide +kernel
theorem dX6_changeWords_40 : decode cX6_changeWords 40 = .ok (.ireturn, 1) := by decide +kernel
theorem dX6_removeBook_0 : decode cX6_removeBook 0 = .ok (.aload_n 0, 1) := by decide +kernel
theorem dX6_removeBook_1 : decode cX6_removeBook 1 = .ok (.iload_n 1, 1) := by decide +kernel
theorem dX6_removeBook_2 : decode cX6_removeBook 2 = .ok (.invokevirtual 53, 3) := by decide +kernel
theorem dX6_removeBook_5 : decode cX6_removeBook 5 = .ok (.ifCond .ne 5, 3) := by decide +kernel
theorem dX6_removeBook_8 : decode cX6_removeBook 8 = .ok (.iconst (-1), 1) := by decide +kernel
theorem dX6_removeBook_9 : decode cX6_removeBook 9 = .ok (.ireturn, 1) := by decide +kernel
theorem dX6_removeBook_10 : decode cX6_removeBook 10 = .ok (.aload_n 0, 1) := by decide +kernel
theorem dX6_removeBook_11 : decode cX6_removeBook 11 = .ok (.aload_n 0, 1) := by decide +kernel
theorem dX6_removeBook_12 : decode cX6_removeBook 12 = .ok (.getfield 18, 3) := by decide +kernel
theorem dX6_removeBook_15 : decode cX6_removeBook 15 = .ok (.aload_n 0, 1) := by decide +kernel
theorem dX6_removeBook_16 : decode cX6_removeBook 16 = .ok (.iload_n 1, 1) := by decide +kernel
theorem dX6_removeBook_17 : decode cX6_removeBook 17 = .ok (.invokevirtual 56, 3) := by decide +kernel
theorem dX6_removeBook_20 : decode cX6_removeBook 20 = .ok (.invokevirtual 60, 3) := by decide +kernel
theorem dX6_removeBook_23 : decode cX6_removeBook 23 = .ok (.aload_n 0, 1) := by decide +kernel
theorem dX6_removeBook_24 : decode cX6_removeBook 24 = .ok (.aload_n 0, 1) := by decide +kernel
theorem dX6_removeBook_25 : decode cX6_removeBook 25 = .ok (.getfield 9, 3) := by decide +kernel
theorem dX6_removeBook_28 : decode cX6_removeBook 28 = .ok (.iload_n 1, 1) := by decide +kernel
theorem dX6_removeBook_29 : decode cX6_removeBook 29 = .ok (.invokevirtual 60, 3) := by decide +kernel
theorem dX6_removeBook_32 : decode cX6_removeBook 32 = .ok (.aload_n 0, 1) := by decide +kernel
theorem dX6_removeBook_33 : decode cX6_removeBook 33 = .ok (.aload_n 0, 1) := by decide +kernel
theorem dX6_removeBook_34 : decode cX6_removeBook 34 = .ok (.getfield 15, 3) := by decide +kernel
theorem dX6_removeBook_37 : decode cX6_removeBook 37 = .ok (.iload_n 1, 1) := by decide +kernel
theorem dX6_removeBook_38 : decode cX6_removeBook 38 = .ok (.invokevirtual 60, 3) := by decide +kernel
theorem dX6_removeBook_41 : decode cX6_removeBook 41 = .ok (.aload_n 0, 1) := by decide +kernel
theorem dX6_removeBook_42 : decode cX6_removeBook 42 = .ok (.dup, 1) := by decide +kernel
theorem dX6_removeBook_43 : decode cX6_removeBook 43 = .ok (.getfield 40, 3) := by decide +kernel
theorem dX6_removeBook_46 : decode cX6_removeBook 46 = .ok (.iconst 1, 1) := by decide +kernel
theorem dX6_removeBook_47 : decode cX6_removeBook 47 = .ok (.isub, 1) := by decide +kernel
theorem dX6_removeBook_48 : decode cX6_removeBook 48 = .ok (.putfield 40, 3) := by decide +kernel
theorem dX6_removeBook_51 : decode cX6_removeBook 51 = .ok (.iconst 0, 1) := by decide +kernel
theorem dX6_removeBook_52 : decode cX6_removeBook 52 = .ok (.istore_n 2, 1) := by decide +kernel
theorem dX6_removeBook_53 : decode cX6_removeBook 53 = .ok (.iload_n 2, 1) := by decide +kernel
theorem dX6_removeBook_54 : decode cX6_removeBook 54 = .ok (.aload_n 0, 1) := by decide +kernel
theorem dX6_removeBook_55 : decode cX6_removeBook 55 = .ok (.getfield 40, 3) := by decide +kernel
theorem dX6_removeBook_58 : decode cX6_removeBook 58 = .ok (.if_icmp .ge 45, 3) := by decide +kernel
theorem dX6_removeBook_61 : decode cX6_removeBook 61 = .ok (.aload_n 0, 1) := by decide +kernel
theorem dX6_removeBook_62 : decode cX6_removeBook 62 = .ok (.getfield 15, 3) := by decide +kernel
theorem dX6_removeBook_65 : decode cX6_removeBook 65 = .ok (.iload_n 2, 1) := by decide +kernel
theorem dX6_removeBook_66 : decode cX6_removeBook 66 = .ok (.aload_n 0, 1) := by decide +kernel
theorem dX6_removeBook_67 : decode cX6_removeBook 67 = .ok (.getfield 15, 3) := by decide +kernel
theorem dX6_removeBook_70 : decode cX6_removeBook 70 = .ok (.iload_n 2, 1) := by decide +kernel
theorem dX6_removeBook_71 : decode cX6_removeBook 71 = .ok (.iaload, 1) := by decide +kernel
theorem dX6_removeBook_72 : decode cX6_removeBook 72 = .ok (.iload_n 1, 1) := by decide +kernel
theorem dX6_removeBook_73 : decode cX6_removeBook 73 = .ok (.invokestatic 64, 3) := by decide +kernel
theorem dX6_removeBook_76 : decode cX6_removeBook 76 = .ok (.iastore, 1) := by decide +kernel
theorem dX6_removeBook_77 : decode cX6_removeBook 77 = .ok (.aload_n 0, 1) := by decide +kernel
theorem dX6_removeBook_78 : decode cX6_removeBook 78 = .ok (.getfield 18, 3) := by decide +kernel
theorem dX6_removeBook_81 : decode cX6_removeBook 81 = .ok (.iload_n 2, 1) := by decide +kernel
theorem dX6_removeBook_82 : decode cX6_removeBook 82 = .ok (.iaload, 1) := by decide +kernel
theorem dX6_removeBook_83 : decode cX6_removeBook 83 = .ok (.iload_n 1, 1) := by decide +kernel
theorem dX6_removeBook_84 : decode cX6_removeBook 84 = .ok (.if_icmp .le 13, 3) := by decide +kernel
theorem dX6_removeBook_87 : decode cX6_removeBook 87 = .ok (.aload_n 0, 1) := by decide +kernel
theorem dX6_removeBook_88 : decode cX6_removeBook 88 = .ok (.getfield 18, 3) := by decide +kernel
theorem dX6_removeBook_91 : decode cX6_removeBook 91 = .ok (.iload_n 2, 1) := by decide +kernel
theorem dX6_removeBook_92 : decode cX6_removeBook 92 = .ok (.dup2, 1) := by decide +kernel
theorem dX6_removeBook_93 : decode cX6_removeBook 93 = .ok (.iaload, 1) := by decide +kernel
theorem dX6_removeBook_94 : decode cX6_removeBook 94 = .ok (.iconst 1, 1) := by decide +kernel
theorem dX6_removeBook_95 : decode cX6_removeBook 95 = .ok (.isub, 1) := by decide +kernel
theorem dX6_removeBook_96 : decode cX6_removeBook 96 = .ok (.iastore, 1) := by decide +kernel
theorem dX6_removeBook_97 : decode cX6_removeBook 97 = .ok (.iinc 2 1, 3) := by decide +kernel
theorem dX6_removeBook_100 : decode cX6_removeBook 100 = .ok (.goto (-47), 3) := by decide +kernel
theorem dX6_removeBook_103 : decode cX6_removeBook 103 = .ok (.aload_n 0, 1) := by decide +kernel
theorem dX6_removeBook_104 : decode cX6_removeBook 104 = .ok (.getfield 40, 3) := by decide +kernel
theorem dX6_removeBook_107 : decode cX6_removeBook 107 = .ok (.ireturn, 1) := by decide +kernel
theorem dX6_closeGap_0 : decode cX6_closeGap 0 = .ok (.iconst 0, 1) := by decide +kernel
theorem dX6_closeGap_1 : decode cX6_closeGap 1 = .ok (.iload_n 2, 1) := by decide +kernel
theorem dX6_closeGap_2 : decode cX6_closeGap 2 = .ok (.invokestatic 68, 3) := by decide +kernel
theorem dX6_closeGap_5 : decode cX6_closeGap 5 = .ok (.istore_n 3, 1) := by decide +kernel
theorem dX6_closeGap_6 : decode cX6_closeGap 6 = .ok (.iload_n 3, 1) := by decide +kernel
theorem dX6_closeGap_7 : decode cX6_closeGap 7 = .ok (.iconst 1, 1) := by decide +kernel
theorem dX6_closeGap_8 : decode cX6_closeGap 8 = .ok (.iadd, 1) := by decide +kernel
theorem dX6_closeGap_9 : decode cX6_closeGap 9 = .ok (.aload_n 0, 1) := by decide +kernel
theorem dX6_closeGap_10 : decode cX6_closeGap 10 = .ok (.getfield 40, 3) := by decide +kernel
theorem dX6_closeGap_13 : decode cX6_closeGap 13 = .ok (.if_icmp .ge 17, 3) := by decide +kernel
theorem dX6_closeGap_16 : decode cX6_closeGap 16 = .ok (.aload_n 1, 1) := by decide +kernel
theorem dX6_closeGap_17 : decode cX6_closeGap 17 = .ok (.iload_n 3, 1) := by decide +kernel
theorem dX6_closeGap_18 : decode cX6_closeGap 18 = .ok (.aload_n 1, 1) := by decide +kernel
theorem dX6_closeGap_19 : decode cX6_closeGap 19 = .ok (.iload_n 3, 1) := by decide +kernel
theorem dX6_closeGap_20 : decode cX6_closeGap 20 = .ok (.iconst 1, 1) := by decide +kernel
theorem dX6_closeGap_21 : decode cX6_closeGap 21 = .ok (.iadd, 1) := by decide +kernel
theorem dX6_closeGap_22 : decode cX6_closeGap 22 = .ok (.iaload, 1) := by decide +kernel
theorem dX6_closeGap_23 : decode cX6_closeGap 23 = .ok (.iastore, 1) := by decide +kernel
theorem dX6_closeGap_24 : decode cX6_closeGap 24 = .ok (.iinc 3 1, 3) := by decide +kernel
theorem dX6_closeGap_27 : decode cX6_closeGap 27 = .ok (.goto (-21), 3) := by decide +kernel
theorem dX6_closeGap_30 : decode cX6_closeGap 30 = .ok (.return_, 1) := by decide +kernel
theorem dX6_withoutBit_0 : decode cX6_withoutBit 0 = .ok (.iload_n 0, 1) := by decide +kernel
theorem dX6_withoutBit_1 : decode cX6_withoutBit 1 = .ok (.iconst 1, 1) := by decide +kernel
theorem dX6_withoutBit_2 : decode cX6_withoutBit 2 = .ok (.iload_n 1, 1) := by decide +kernel
theorem dX6_withoutBit_3 : decode cX6_withoutBit 3 = .ok (.ishl, 1) := by decide +kernel
theorem dX6_withoutBit_4 : decode cX6_withoutBit 4 = .ok (.iconst 1, 1) := by decide +kernel
theorem dX6_withoutBit_5 : decode cX6_withoutBit 5 = .ok (.isub, 1) := by decide +kernel
theorem dX6_withoutBit_6 : decode cX6_withoutBit 6 = .ok (.iand, 1) := by decide +kernel
theorem dX6_withoutBit_7 : decode cX6_withoutBit 7 = .ok (.istore_n 2, 1) := by decide +kernel
theorem dX6_withoutBit_8 : decode cX6_withoutBit 8 = .ok (.iload_n 0, 1) := by decide +kernel
theorem dX6_withoutBit_9 : decode cX6_withoutBit 9 = .ok (.iload_n 1, 1) := by decide +kernel
theorem dX6_withoutBit_10 : decode cX6_withoutBit 10 = .ok (.iconst 1, 1) := by decide +kernel
theorem dX6_withoutBit_11 : decode cX6_withoutBit 11 = .ok (.iadd, 1) := by decide +kernel
theorem dX6_withoutBit_12 : decode cX6_withoutBit 12 = .ok (.ishr, 1) := by decide +kernel
theorem dX6_withoutBit_13 : decode cX6_withoutBit 13 = .ok (.istore_n 3, 1) := by decide +kernel
theorem dX6_withoutBit_14 : decode cX6_withoutBit 14 = .ok (.iload_n 2, 1) := by decide +kernel
theorem dX6_withoutBit_15 : decode cX6_withoutBit 15 = .ok (.iload_n 3, 1) := by decide +kernel
theorem dX6_withoutBit_16 : decode cX6_withoutBit 16 = .ok (.iload_n 1, 1) := by decide +kernel
theorem dX6_withoutBit_17 : decode cX6_withoutBit 17 = .ok (.ishl, 1) := by decide +kernel
theorem dX6_withoutBit_18 : decode cX6_withoutBit 18 = .ok (.ior, 1) := by decide +kernel
theorem dX6_withoutBit_19 : decode cX6_withoutBit 19 = .ok (.ireturn, 1) := by decide +kernel
theorem dX6_turnAhead_0 : decode cX6_turnAhead 0 = .ok (.aload_n 0, 1) := by decide +kernel
theorem dX6_turnAhead_1 : decode cX6_turnAhead 1 = .ok (.iload_n 1, 1) := by decide +kernel
theorem dX6_turnAhead_2 : decode cX6_turnAhead 2 = .ok (.invokevirtual 53, 3) := by decide +kernel
theorem dX6_turnAhead_5 : decode cX6_turnAhead 5 = .ok (.ifCond .eq 16, 3) := by decide +kernel
theorem dX6_turnAhead_8 : decode cX6_turnAhead 8 = .ok (.aload_n 0, 1) := by decide +kernel
theorem dX6_turnAhead_9 : decode cX6_turnAhead 9 = .ok (.iload_n 2, 1) := by decide +kernel
theorem dX6_turnAhead_10 : decode cX6_turnAhead 10 = .ok (.invokevirtual 53, 3) := by decide +kernel
theorem dX6_turnAhead_13 : decode cX6_turnAhead 13 = .ok (.ifCond .eq 8, 3) := by decide +kernel
theorem dX6_turnAhead_16 : decode cX6_turnAhead 16 = .ok (.iload_n 1, 1) := by decide +kernel
theorem dX6_turnAhead_17 : decode cX6_turnAhead 17 = .ok (.iload_n 2, 1) := by decide +kernel
theorem dX6_turnAhead_18 : decode cX6_turnAhead 18 = .ok (.if_icmp .ne 5, 3) := by decide +kernel
theorem dX6_turnAhead_21 : decode cX6_turnAhead 21 = .ok (.iconst (-1), 1) := by decide +kernel
theorem dX6_turnAhead_22 : decode cX6_turnAhead 22 = .ok (.ireturn, 1) := by decide +kernel
theorem dX6_turnAhead_23 : decode cX6_turnAhead 23 = .ok (.aload_n 0, 1) := by decide +kernel
theorem dX6_turnAhead_24 : decode cX6_turnAhead 24 = .ok (.getfield 15, 3) := by decide +kernel
theorem dX6_turnAhead_27 : decode cX6_turnAhead 27 = .ok (.iload_n 1, 1) := by decide +kernel
theorem dX6_turnAhead_28 : decode cX6_turnAhead 28 = .ok (.iaload, 1) := by decide +kernel
theorem dX6_turnAhead_29 : decode cX6_turnAhead 29 = .ok (.iload_n 2, 1) := by decide +kernel
theorem dX6_turnAhead_30 : decode cX6_turnAhead 30 = .ok (.invokestatic 73, 3) := by decide +kernel
theorem dX6_turnAhead_33 : decode cX6_turnAhead 33 = .ok (.ifCond .eq 19, 3) := by decide +kernel
theorem dX6_turnAhead_36 : decode cX6_turnAhead 36 = .ok (.aload_n 0, 1) := by decide +kernel
theorem dX6_turnAhead_37 : decode cX6_turnAhead 37 = .ok (.getfield 15, 3) := by decide +kernel
theorem dX6_turnAhead_40 : decode cX6_turnAhead 40 = .ok (.iload_n 1, 1) := by decide +kernel
theorem dX6_turnAhead_41 : decode cX6_turnAhead 41 = .ok (.dup2, 1) := by decide +kernel
theorem dX6_turnAhead_42 : decode cX6_turnAhead 42 = .ok (.iaload, 1) := by decide +kernel
theorem dX6_turnAhead_43 : decode cX6_turnAhead 43 = .ok (.iconst 1, 1) := by decide +kernel
theorem dX6_turnAhead_44 : decode cX6_turnAhead 44 = .ok (.iload_n 2, 1) := by decide +kernel
theorem dX6_turnAhead_45 : decode cX6_turnAhead 45 = .ok (.ishl, 1) := by decide +kernel
theorem dX6_turnAhead_46 : decode cX6_turnAhead 46 = .ok (.iconst (-1), 1) := by decide +kernel
theorem dX6_turnAhead_47 : decode cX6_turnAhead 47 = .ok (.ixor, 1) := by decide +kernel
theorem dX6_turnAhead_48 : decode cX6_turnAhead 48 = .ok (.iand, 1) := by decide +kernel
theorem dX6_turnAhead_49 : decode cX6_turnAhead 49 = .ok (.iastore, 1) := by decide +kernel
theorem dX6_turnAhead_50 : decode cX6_turnAhead 50 = .ok (.iconst 0, 1) := by decide +kernel
theorem dX6_turnAhead_51 : decode cX6_turnAhead 51 = .ok (.ireturn, 1) := by decide +kernel
theorem dX6_turnAhead_52 : decode cX6_turnAhead 52 = .ok (.aload_n 0, 1) := by decide +kernel
theorem dX6_turnAhead_53 : decode cX6_turnAhead 53 = .ok (.iload_n 2, 1) := by decide +kernel
theorem dX6_turnAhead_54 : decode cX6_turnAhead 54 = .ok (.invokevirtual 77, 3) := by decide +kernel
theorem dX6_turnAhead_57 : decode cX6_turnAhead 57 = .ok (.iload_n 1, 1) := by decide +kernel
theorem dX6_turnAhead_58 : decode cX6_turnAhead 58 = .ok (.invokestatic 73, 3) := by decide +kernel
theorem dX6_turnAhead_61 : decode cX6_turnAhead 61 = .ok (.ifCond .eq 6, 3) := by decide +kernel
theorem dX6_turnAhead_64 : decode cX6_turnAhead 64 = .ok (.bipush (-2), 2) := by decide +kernel
theorem dX6_turnAhead_66 : decode cX6_turnAhead 66 = .ok (.ireturn, 1) := by decide +kernel
theorem dX6_turnAhead_67 : decode cX6_turnAhead 67 = .ok (.aload_n 0, 1) := by decide +kernel
theorem dX6_turnAhead_68 : decode cX6_turnAhead 68 = .ok (.getfield 15, 3) := by decide +kernel
theorem dX6_turnAhead_71 : decode cX6_turnAhead 71 = .ok (.iload_n 1, 1) := by decide +kernel
theorem dX6_turnAhead_72 : decode cX6_turnAhead 72 = .ok (.dup2, 1) := by decide +kernel
theorem dX6_turnAhead_73 : decode cX6_turnAhead 73 = .ok (.iaload, 1) := by decide +kernel
theorem dX6_turnAhead_74 : decode cX6_turnAhead 74 = .ok (.iconst 1, 1) := by decide +kernel
theorem dX6_turnAhead_75 : decode cX6_turnAhead 75 = .ok (.iload_n 2, 1) := by decide +kernel
theorem dX6_turnAhead_76 : decode cX6_turnAhead 76 = .ok (.ishl, 1) := by decide +kernel
theorem dX6_turnAhead_77 : decode cX6_turnAhead 77 = .ok (.ior, 1) := by decide +kernel
theorem dX6_turnAhead_78 : decode cX6_turnAhead 78 = .ok (.iastore, 1) := by decide +kernel
theorem dX6_turnAhead_79 : decode cX6_turnAhead 79 = .ok (.iconst 1, 1) := by decide +kernel
theorem dX6_turnAhead_80 : decode cX6_turnAhead 80 = .ok (.ireturn, 1) := by decide +kernel
theorem dX6_allBehind_0 : decode cX6_allBehind 0 = .ok (.aload_n 0, 1) := by decide +kernel
theorem dX6_allBehind_1 : decode cX6_allBehind 1 = .ok (.getfield 15, 3) := by decide +kernel
theorem dX6_allBehind_4 : decode cX6_allBehind 4 = .ok (.iload_n 1, 1) := by decide +kernel
theorem dX6_allBehind_5 : decode cX6_allBehind 5 = .ok (.iaload, 1) := by decide +kernel
theorem dX6_allBehind_6 : decode cX6_allBehind 6 = .ok (.istore_n 2, 1) := by decide +kernel
theorem dX6_allBehind_7 : decode cX6_allBehind 7 = .ok (.iconst 0, 1) := by decide +kernel
theorem dX6_allBehind_8 : decode cX6_allBehind 8 = .ok (.istore_n 3, 1) := by decide +kernel
theorem dX6_allBehind_9 : decode cX6_allBehind 9 = .ok (.iload_n 3, 1) := by decide +kernel
theorem dX6_allBehind_10 : decode cX6_allBehind 10 = .ok (.aload_n 0, 1) := by decide +kernel
theorem dX6_allBehind_11 : decode cX6_allBehind 11 = .ok (.getfield 40, 3) := by decide +kernel
theorem dX6_allBehind_14 : decode cX6_allBehind 14 = .ok (.if_icmp .ge 46, 3) := by decide +kernel
theorem dX6_allBehind_17 : decode cX6_allBehind 17 = .ok (.iconst 0, 1) := by decide +kernel
theorem dX6_allBehind_18 : decode cX6_allBehind 18 = .ok (.istore 4, 2) := by decide +kernel
theorem dX6_allBehind_20 : decode cX6_allBehind 20 = .ok (.iload 4, 2) := by decide +kernel
theorem dX6_allBehind_22 : decode cX6_allBehind 22 = .ok (.aload_n 0, 1) := by decide +kernel
theorem dX6_allBehind_23 : decode cX6_allBehind 23 = .ok (.getfield 40, 3) := by decide +kernel
theorem dX6_allBehind_26 : decode cX6_allBehind 26 = .ok (.if_icmp .ge 28, 3) := by decide +kernel
theorem dX6_allBehind_29 : decode cX6_allBehind 29 = .ok (.iload_n 2, 1) := by decide +kernel
theorem dX6_allBehind_30 : decode cX6_allBehind 30 = .ok (.iload 4, 2) := by decide +kernel
theorem dX6_allBehind_32 : decode cX6_allBehind 32 = .ok (.invokestatic 73, 3) := by decide +kernel
theorem dX6_allBehind_35 : decode cX6_allBehind 35 = .ok (.ifCond .eq 13, 3) := by decide +kernel
theorem dX6_allBehind_38 : decode cX6_allBehind 38 = .ok (.iload_n 2, 1) := by decide +kernel
theorem dX6_allBehind_39 : decode cX6_allBehind 39 = .ok (.aload_n 0, 1) := by decide +kernel
theorem dX6_allBehind_40 : decode cX6_allBehind 40 = .ok (.getfield 15, 3) := by decide +kernel
theorem dX6_allBehind_43 : decode cX6_allBehind 43 = .ok (.iload 4, 2) := by decide +kernel
theorem dX6_allBehind_45 : decode cX6_allBehind 45 = .ok (.iaload, 1) := by decide +kernel
theorem dX6_allBehind_46 : decode cX6_allBehind 46 = .ok (.ior, 1) := by decide +kernel
theorem dX6_allBehind_47 : decode cX6_allBehind 47 = .ok (.istore_n 2, 1) := by decide +kernel
theorem dX6_allBehind_48 : decode cX6_allBehind 48 = .ok (.iinc 4 1, 3) := by decide +kernel
theorem dX6_allBehind_51 : decode cX6_allBehind 51 = .ok (.goto (-31), 3) := by decide +kernel
theorem dX6_allBehind_54 : decode cX6_allBehind 54 = .ok (.iinc 3 1, 3) := by decide +kernel
theorem dX6_allBehind_57 : decode cX6_allBehind 57 = .ok (.goto (-48), 3) := by decide +kernel
theorem dX6_allBehind_60 : decode cX6_allBehind 60 = .ok (.iload_n 2, 1) := by decide +kernel
theorem dX6_allBehind_61 : decode cX6_allBehind 61 = .ok (.ireturn, 1) := by decide +kernel
theorem dX6_leaders_0 : decode cX6_leaders 0 = .ok (.iconst 0, 1) := by decide +kernel
theorem dX6_leaders_1 : decode cX6_leaders 1 = .ok (.istore_n 2, 1) := by decide +kernel
theorem dX6_leaders_2 : decode cX6_leaders 2 = .ok (.iconst 0, 1) := by decide +kernel
theorem dX6_leaders_3 : decode cX6_leaders 3 = .ok (.istore_n 3, 1) := by decide +kernel
theorem dX6_leaders_4 : decode cX6_leaders 4 = .ok (.iload_n 3, 1) := by decide +kernel
theorem dX6_leaders_5 : decode cX6_leaders 5 = .ok (.aload_n 0, 1) := by decide +kernel
theorem dX6_leaders_6 : decode cX6_leaders 6 = .ok (.getfield 40, 3) := by decide +kernel
theorem dX6_leaders_9 : decode cX6_leaders 9 = .ok (.if_icmp .ge 28, 3) := by decide +kernel
theorem dX6_leaders_12 : decode cX6_leaders 12 = .ok (.aload_n 0, 1) := by decide +kernel
theorem dX6_leaders_13 : decode cX6_leaders 13 = .ok (.getfield 15, 3) := by decide +kernel
theorem dX6_leaders_16 : decode cX6_leaders 16 = .ok (.iload_n 3, 1) := by decide +kernel
theorem dX6_leaders_17 : decode cX6_leaders 17 = .ok (.iaload, 1) := by decide +kernel
theorem dX6_leaders_18 : decode cX6_leaders 18 = .ok (.iload_n 1, 1) := by decide +kernel
theorem dX6_leaders_19 : decode cX6_leaders 19 = .ok (.invokestatic 73, 3) := by decide +kernel
theorem dX6_leaders_22 : decode cX6_leaders 22 = .ok (.ifCond .eq 9, 3) := by decide +kernel
theorem dX6_leaders_25 : decode cX6_leaders 25 = .ok (.iload_n 2, 1) := by decide +kernel
theorem dX6_leaders_26 : decode cX6_leaders 26 = .ok (.iconst 1, 1) := by decide +kernel
theorem dX6_leaders_27 : decode cX6_leaders 27 = .ok (.iload_n 3, 1) := by decide +kernel
theorem dX6_leaders_28 : decode cX6_leaders 28 = .ok (.ishl, 1) := by decide +kernel
theorem dX6_leaders_29 : decode cX6_leaders 29 = .ok (.ior, 1) := by decide +kernel
theorem dX6_leaders_30 : decode cX6_leaders 30 = .ok (.istore_n 2, 1) := by decide +kernel
theorem dX6_leaders_31 : decode cX6_leaders 31 = .ok (.iinc 3 1, 3) := by decide +kernel
theorem dX6_leaders_34 : decode cX6_leaders 34 = .ok (.goto (-30), 3) := by decide +kernel
theorem dX6_leaders_37 : decode cX6_leaders 37 = .ok (.iload_n 2, 1) := by decide +kernel
theorem dX6_leaders_38 : decode cX6_leaders 38 = .ok (.ireturn, 1) := by decide +kernel
theorem dX6_changePrior_0 : decode cX6_changePrior 0 = .ok (.iload_n 1, 1) := by decide +kernel
theorem dX6_changePrior_1 : decode cX6_changePrior 1 = .ok (.ifCond .lt 9, 3) := by decide +kernel
theorem dX6_changePrior_4 : decode cX6_changePrior 4 = .ok (.iload_n 1, 1) := by decide +kernel
theorem dX6_changePrior_5 : decode cX6_changePrior 5 = .ok (.ldc 48, 2) := by decide +kernel
theorem dX6_changePrior_7 : decode cX6_changePrior 7 = .ok (.if_icmp .le 5, 3) := by decide +kernel
theorem dX6_changePrior_10 : decode cX6_changePrior 10 = .ok (.iconst (-1), 1) := by decide +kernel
theorem dX6_changePrior_11 : decode cX6_changePrior 11 = .ok (.ireturn, 1) := by decide +kernel
theorem dX6_changePrior_12 : decode cX6_changePrior 12 = .ok (.aload_n 0, 1) := by decide +kernel
theorem dX6_changePrior_13 : decode cX6_changePrior 13 = .ok (.getfield 43, 3) := by decide +kernel
theorem dX6_changePrior_16 : decode cX6_changePrior 16 = .ok (.istore_n 2, 1) := by decide +kernel
theorem dX6_changePrior_17 : decode cX6_changePrior 17 = .ok (.iload_n 2, 1) := by decide +kernel
theorem dX6_changePrior_18 : decode cX6_changePrior 18 = .ok (.iload_n 1, 1) := by decide +kernel
theorem dX6_changePrior_19 : decode cX6_changePrior 19 = .ok (.if_icmp .ne 6, 3) := by decide +kernel
theorem dX6_changePrior_22 : decode cX6_changePrior 22 = .ok (.bipush (-2), 2) := by decide +kernel
theorem dX6_changePrior_24 : decode cX6_changePrior 24 = .ok (.ireturn, 1) := by decide +kernel
theorem dX6_changePrior_25 : decode cX6_changePrior 25 = .ok (.aload_n 0, 1) := by decide +kernel
theorem dX6_changePrior_26 : decode cX6_changePrior 26 = .ok (.iload_n 1, 1) := by decide +kernel
theorem dX6_changePrior_27 : decode cX6_changePrior 27 = .ok (.putfield 43, 3) := by decide +kernel
theorem dX6_changePrior_30 : decode cX6_changePrior 30 = .ok (.iload_n 2, 1) := by decide +kernel
theorem dX6_changePrior_31 : decode cX6_changePrior 31 = .ok (.ireturn, 1) := by decide +kernel
theorem dX6_changeRules_0 : decode cX6_changeRules 0 = .ok (.iload_n 1, 1) := by decide +kernel
theorem dX6_changeRules_1 : decode cX6_changeRules 1 = .ok (.tableswitch 45 0 2 #[27, 33, 39], 27) := by decide +kernel
theorem dX6_changeRules_28 : decode cX6_changeRules 28 = .ok (.aload_n 0, 1) := by decide +kernel
theorem dX6_changeRules_29 : decode cX6_changeRules 29 = .ok (.iload_n 2, 1) := by decide +kernel
theorem dX6_changeRules_30 : decode cX6_changeRules 30 = .ok (.invokevirtual 80, 3) := by decide +kernel
theorem dX6_changeRules_33 : decode cX6_changeRules 33 = .ok (.ireturn, 1) := by decide +kernel
theorem dX6_changeRules_34 : decode cX6_changeRules 34 = .ok (.aload_n 0, 1) := by decide +kernel
theorem dX6_changeRules_35 : decode cX6_changeRules 35 = .ok (.iload_n 2, 1) := by decide +kernel
theorem dX6_changeRules_36 : decode cX6_changeRules 36 = .ok (.invokevirtual 83, 3) := by decide +kernel
theorem dX6_changeRules_39 : decode cX6_changeRules 39 = .ok (.ireturn, 1) := by decide +kernel
theorem dX6_changeRules_40 : decode cX6_changeRules 40 = .ok (.aload_n 0, 1) := by decide +kernel
theorem dX6_changeRules_41 : decode cX6_changeRules 41 = .ok (.iload_n 2, 1) := by decide +kernel
theorem dX6_changeRules_42 : decode cX6_changeRules 42 = .ok (.invokevirtual 86, 3) := by decide +kernel
theorem dX6_changeRules_45 : decode cX6_changeRules 45 = .ok (.ireturn, 1) := by decide +kernel
theorem dX6_changeRules_46 : decode cX6_changeRules 46 = .ok (.iconst (-1), 1) := by decide +kernel
theorem dX6_changeRules_47 : decode cX6_changeRules 47 = .ok (.ireturn, 1) := by decide +kernel
theorem dX6_changeSpan_0 : decode cX6_changeSpan 0 = .ok (.iload_n 1, 1) := by decide +kernel
theorem dX6_changeSpan_1 : decode cX6_changeSpan 1 = .ok (.iconst 1, 1) := by decide +kernel
theorem dX6_changeSpan_2 : decode cX6_changeSpan 2 = .ok (.if_icmp .lt 8, 3) := by decide +kernel
theorem dX6_changeSpan_5 : decode cX6_changeSpan 5 = .ok (.iload_n 1, 1) := by decide +kernel
theorem dX6_changeSpan_6 : decode cX6_changeSpan 6 = .ok (.iconst 4, 1) := by decide +kernel
theorem dX6_changeSpan_7 : decode cX6_changeSpan 7 = .ok (.if_icmp .le 5, 3) := by decide +kernel
theorem dX6_changeSpan_10 : decode cX6_changeSpan 10 = .ok (.iconst (-1), 1) := by decide +kernel
theorem dX6_changeSpan_11 : decode cX6_changeSpan 11 = .ok (.ireturn, 1) := by decide +kernel
theorem dX6_changeSpan_12 : decode cX6_changeSpan 12 = .ok (.aload_n 0, 1) := by decide +kernel
theorem dX6_changeSpan_13 : decode cX6_changeSpan 13 = .ok (.getfield 21, 3) := by decide +kernel
theorem dX6_changeSpan_16 : decode cX6_changeSpan 16 = .ok (.istore_n 2, 1) := by decide +kernel
theorem dX6_changeSpan_17 : decode cX6_changeSpan 17 = .ok (.aload_n 0, 1) := by decide +kernel
theorem dX6_changeSpan_18 : decode cX6_changeSpan 18 = .ok (.iload_n 1, 1) := by decide +kernel
theorem dX6_changeSpan_19 : decode cX6_changeSpan 19 = .ok (.putfield 21, 3) := by decide +kernel
theorem dX6_changeSpan_22 : decode cX6_changeSpan 22 = .ok (.iload_n 2, 1) := by decide +kernel
theorem dX6_changeSpan_23 : decode cX6_changeSpan 23 = .ok (.iload_n 1, 1) := by decide +kernel
theorem dX6_changeSpan_24 : decode cX6_changeSpan 24 = .ok (.if_icmp .ne 8, 3) := by decide +kernel
theorem dX6_changeSpan_27 : decode cX6_changeSpan 27 = .ok (.bipush (-2), 2) := by decide +kernel
theorem dX6_changeSpan_29 : decode cX6_changeSpan 29 = .ok (.goto 4, 3) := by decide +kernel
theorem dX6_changeSpan_32 : decode cX6_changeSpan 32 = .ok (.iload_n 2, 1) := by decide +kernel
theorem dX6_changeSpan_33 : decode cX6_changeSpan 33 = .ok (.ireturn, 1) := by decide +kernel
theorem dX6_changeBound_0 : decode cX6_changeBound 0 = .ok (.iload_n 1, 1) := by decide +kernel
theorem dX6_changeBound_1 : decode cX6_changeBound 1 = .ok (.ifCond .lt 9, 3) := by decide +kernel
theorem dX6_changeBound_4 : decode cX6_changeBound 4 = .ok (.iload_n 1, 1) := by decide +kernel
theorem dX6_changeBound_5 : decode cX6_changeBound 5 = .ok (.bipush 20, 2) := by decide +kernel
theorem dX6_changeBound_7 : decode cX6_changeBound 7 = .ok (.if_icmp .le 5, 3) := by decide +kernel
theorem dX6_changeBound_10 : decode cX6_changeBound 10 = .ok (.iconst (-1), 1) := by decide +kernel
theorem dX6_changeBound_11 : decode cX6_changeBound 11 = .ok (.ireturn, 1) := by decide +kernel
theorem dX6_changeBound_12 : decode cX6_changeBound 12 = .ok (.aload_n 0, 1) := by decide +kernel
theorem dX6_changeBound_13 : decode cX6_changeBound 13 = .ok (.getfield 25, 3) := by decide +kernel
theorem dX6_changeBound_16 : decode cX6_changeBound 16 = .ok (.istore_n 2, 1) := by decide +kernel
theorem dX6_changeBound_17 : decode cX6_changeBound 17 = .ok (.aload_n 0, 1) := by decide +kernel
theorem dX6_changeBound_18 : decode cX6_changeBound 18 = .ok (.iload_n 1, 1) := by decide +kernel
theorem dX6_changeBound_19 : decode cX6_changeBound 19 = .ok (.putfield 25, 3) := by decide +kernel
theorem dX6_changeBound_22 : decode cX6_changeBound 22 = .ok (.iload_n 2, 1) := by decide +kernel
theorem dX6_changeBound_23 : decode cX6_changeBound 23 = .ok (.iload_n 1, 1) := by decide +kernel
theorem dX6_changeBound_24 : decode cX6_changeBound 24 = .ok (.if_icmp .ne 8, 3) := by decide +kernel
theorem dX6_changeBound_27 : decode cX6_changeBound 27 = .ok (.bipush (-2), 2) := by decide +kernel
theorem dX6_changeBound_29 : decode cX6_changeBound 29 = .ok (.goto 4, 3) := by decide +kernel
theorem dX6_changeBound_32 : decode cX6_changeBound 32 = .ok (.iload_n 2, 1) := by decide +kernel
theorem dX6_changeBound_33 : decode cX6_changeBound 33 = .ok (.ireturn, 1) := by decide +kernel
theorem dX6_changeRule_0 : decode cX6_changeRule 0 = .ok (.iload_n 1, 1) := by decide +kernel
theorem dX6_changeRule_1 : decode cX6_changeRule 1 = .ok (.ifCond .lt 8, 3) := by decide +kernel
theorem dX6_changeRule_4 : decode cX6_changeRule 4 = .ok (.iload_n 1, 1) := by decide +kernel
theorem dX6_changeRule_5 : decode cX6_changeRule 5 = .ok (.iconst 3, 1) := by decide +kernel
theorem dX6_changeRule_6 : decode cX6_changeRule 6 = .ok (.if_icmp .lt 5, 3) := by decide +kernel
theorem dX6_changeRule_9 : decode cX6_changeRule 9 = .ok (.iconst (-1), 1) := by decide +kernel
theorem dX6_changeRule_10 : decode cX6_changeRule 10 = .ok (.ireturn, 1) := by decide +kernel
theorem dX6_changeRule_11 : decode cX6_changeRule 11 = .ok (.aload_n 0, 1) := by decide +kernel
theorem dX6_changeRule_12 : decode cX6_changeRule 12 = .ok (.getfield 28, 3) := by decide +kernel
theorem dX6_changeRule_15 : decode cX6_changeRule 15 = .ok (.istore_n 2, 1) := by decide +kernel
theorem dX6_changeRule_16 : decode cX6_changeRule 16 = .ok (.aload_n 0, 1) := by decide +kernel
theorem dX6_changeRule_17 : decode cX6_changeRule 17 = .ok (.iload_n 1, 1) := by decide +kernel
theorem dX6_changeRule_18 : decode cX6_changeRule 18 = .ok (.putfield 28, 3) := by decide +kernel
theorem dX6_changeRule_21 : decode cX6_changeRule 21 = .ok (.iload_n 2, 1) := by decide +kernel
theorem dX6_changeRule_22 : decode cX6_changeRule 22 = .ok (.iload_n 1, 1) := by decide +kernel
theorem dX6_changeRule_23 : decode cX6_changeRule 23 = .ok (.if_icmp .ne 8, 3) := by decide +kernel
theorem dX6_changeRule_26 : decode cX6_changeRule 26 = .ok (.bipush (-2), 2) := by decide +kernel
theorem dX6_changeRule_28 : decode cX6_changeRule 28 = .ok (.goto 4, 3) := by decide +kernel
theorem dX6_changeRule_31 : decode cX6_changeRule 31 = .ok (.iload_n 2, 1) := by decide +kernel
theorem dX6_changeRule_32 : decode cX6_changeRule 32 = .ok (.ireturn, 1) := by decide +kernel
theorem dX6_moveBook_0 : decode cX6_moveBook 0 = .ok (.aload_n 0, 1) := by decide +kernel
theorem dX6_moveBook_1 : decode cX6_moveBook 1 = .ok (.iload_n 1, 1) := by decide +kernel
theorem dX6_moveBook_2 : decode cX6_moveBook 2 = .ok (.invokevirtual 53, 3) := by decide +kernel
theorem dX6_moveBook_5 : decode cX6_moveBook 5 = .ok (.ifCond .eq 11, 3) := by decide +kernel
theorem dX6_moveBook_8 : decode cX6_moveBook 8 = .ok (.aload_n 0, 1) := by decide +kernel
theorem dX6_moveBook_9 : decode cX6_moveBook 9 = .ok (.iload_n 2, 1) := by decide +kernel
theorem dX6_moveBook_10 : decode cX6_moveBook 10 = .ok (.invokevirtual 53, 3) := by decide +kernel
theorem dX6_moveBook_13 : decode cX6_moveBook 13 = .ok (.ifCond .ne 5, 3) := by decide +kernel
theorem dX6_moveBook_16 : decode cX6_moveBook 16 = .ok (.iconst (-1), 1) := by decide +kernel
theorem dX6_moveBook_17 : decode cX6_moveBook 17 = .ok (.ireturn, 1) := by decide +kernel
theorem dX6_moveBook_18 : decode cX6_moveBook 18 = .ok (.iload_n 1, 1) := by decide +kernel
theorem dX6_moveBook_19 : decode cX6_moveBook 19 = .ok (.iload_n 2, 1) := by decide +kernel
theorem dX6_moveBook_20 : decode cX6_moveBook 20 = .ok (.if_icmp .ne 6, 3) := by decide +kernel
theorem dX6_moveBook_23 : decode cX6_moveBook 23 = .ok (.bipush (-2), 2) := by decide +kernel
theorem dX6_moveBook_25 : decode cX6_moveBook 25 = .ok (.ireturn, 1) := by decide +kernel
theorem dX6_moveBook_26 : decode cX6_moveBook 26 = .ok (.aload_n 0, 1) := by decide +kernel
theorem dX6_moveBook_27 : decode cX6_moveBook 27 = .ok (.getfield 18, 3) := by decide +kernel
theorem dX6_moveBook_30 : decode cX6_moveBook 30 = .ok (.iload_n 1, 1) := by decide +kernel
theorem dX6_moveBook_31 : decode cX6_moveBook 31 = .ok (.iaload, 1) := by decide +kernel
theorem dX6_moveBook_32 : decode cX6_moveBook 32 = .ok (.istore_n 3, 1) := by decide +kernel
theorem dX6_moveBook_33 : decode cX6_moveBook 33 = .ok (.iload_n 1, 1) := by decide +kernel
theorem dX6_moveBook_34 : decode cX6_moveBook 34 = .ok (.istore 4, 2) := by decide +kernel
theorem dX6_moveBook_36 : decode cX6_moveBook 36 = .ok (.iload 4, 2) := by decide +kernel
theorem dX6_moveBook_38 : decode cX6_moveBook 38 = .ok (.iload_n 2, 1) := by decide +kernel
theorem dX6_moveBook_39 : decode cX6_moveBook 39 = .ok (.if_icmp .ge 25, 3) := by decide +kernel
theorem dX6_moveBook_42 : decode cX6_moveBook 42 = .ok (.aload_n 0, 1) := by decide +kernel
theorem dX6_moveBook_43 : decode cX6_moveBook 43 = .ok (.getfield 18, 3) := by decide +kernel
theorem dX6_moveBook_46 : decode cX6_moveBook 46 = .ok (.iload 4, 2) := by decide +kernel
theorem dX6_moveBook_48 : decode cX6_moveBook 48 = .ok (.aload_n 0, 1) := by decide +kernel
theorem dX6_moveBook_49 : decode cX6_moveBook 49 = .ok (.getfield 18, 3) := by decide +kernel
theorem dX6_moveBook_52 : decode cX6_moveBook 52 = .ok (.iload 4, 2) := by decide +kernel
theorem dX6_moveBook_54 : decode cX6_moveBook 54 = .ok (.iconst 1, 1) := by decide +kernel
theorem dX6_moveBook_55 : decode cX6_moveBook 55 = .ok (.iadd, 1) := by decide +kernel
theorem dX6_moveBook_56 : decode cX6_moveBook 56 = .ok (.iaload, 1) := by decide +kernel
theorem dX6_moveBook_57 : decode cX6_moveBook 57 = .ok (.iastore, 1) := by decide +kernel
theorem dX6_moveBook_58 : decode cX6_moveBook 58 = .ok (.iinc 4 1, 3) := by decide +kernel
theorem dX6_moveBook_61 : decode cX6_moveBook 61 = .ok (.goto (-25), 3) := by decide +kernel
theorem dX6_moveBook_64 : decode cX6_moveBook 64 = .ok (.iload_n 1, 1) := by decide +kernel
theorem dX6_moveBook_65 : decode cX6_moveBook 65 = .ok (.istore 4, 2) := by decide +kernel
theorem dX6_moveBook_67 : decode cX6_moveBook 67 = .ok (.iload 4, 2) := by decide +kernel
theorem dX6_moveBook_69 : decode cX6_moveBook 69 = .ok (.iload_n 2, 1) := by decide +kernel
theorem dX6_moveBook_70 : decode cX6_moveBook 70 = .ok (.if_icmp .le 25, 3) := by decide +kernel
theorem dX6_moveBook_73 : decode cX6_moveBook 73 = .ok (.aload_n 0, 1) := by decide +kernel
theorem dX6_moveBook_74 : decode cX6_moveBook 74 = .ok (.getfield 18, 3) := by decide +kernel
theorem dX6_moveBook_77 : decode cX6_moveBook 77 = .ok (.iload 4, 2) := by decide +kernel
theorem dX6_moveBook_79 : decode cX6_moveBook 79 = .ok (.aload_n 0, 1) := by decide +kernel
theorem dX6_moveBook_80 : decode cX6_moveBook 80 = .ok (.getfield 18, 3) := by decide +kernel
theorem dX6_moveBook_83 : decode cX6_moveBook 83 = .ok (.iload 4, 2) := by decide +kernel
theorem dX6_moveBook_85 : decode cX6_moveBook 85 = .ok (.iconst 1, 1) := by decide +kernel
theorem dX6_moveBook_86 : decode cX6_moveBook 86 = .ok (.isub, 1) := by decide +kernel
theorem dX6_moveBook_87 : decode cX6_moveBook 87 = .ok (.iaload, 1) := by decide +kernel
theorem dX6_moveBook_88 : decode cX6_moveBook 88 = .ok (.iastore, 1) := by decide +kernel
theorem dX6_moveBook_89 : decode cX6_moveBook 89 = .ok (.iinc 4 (-1), 3) := by decide +kernel
theorem dX6_moveBook_92 : decode cX6_moveBook 92 = .ok (.goto (-25), 3) := by decide +kernel
theorem dX6_moveBook_95 : decode cX6_moveBook 95 = .ok (.aload_n 0, 1) := by decide +kernel
theorem dX6_moveBook_96 : decode cX6_moveBook 96 = .ok (.getfield 18, 3) := by decide +kernel
theorem dX6_moveBook_99 : decode cX6_moveBook 99 = .ok (.iload_n 2, 1) := by decide +kernel
theorem dX6_moveBook_100 : decode cX6_moveBook 100 = .ok (.iload_n 3, 1) := by decide +kernel
theorem dX6_moveBook_101 : decode cX6_moveBook 101 = .ok (.iastore, 1) := by decide +kernel
theorem dX6_moveBook_102 : decode cX6_moveBook 102 = .ok (.iload_n 3, 1) := by decide +kernel
theorem dX6_moveBook_103 : decode cX6_moveBook 103 = .ok (.ireturn, 1) := by decide +kernel
theorem dX6_changeOrder_0 : decode cX6_changeOrder 0 = .ok (.aload_n 0, 1) := by decide +kernel
theorem dX6_changeOrder_1 : decode cX6_changeOrder 1 = .ok (.aload_n 1, 1) := by decide +kernel
theorem dX6_changeOrder_2 : decode cX6_changeOrder 2 = .ok (.invokevirtual 89, 3) := by decide +kernel
theorem dX6_changeOrder_5 : decode cX6_changeOrder 5 = .ok (.istore_n 2, 1) := by decide +kernel
theorem dX6_changeOrder_6 : decode cX6_changeOrder 6 = .ok (.iload_n 2, 1) := by decide +kernel
theorem dX6_changeOrder_7 : decode cX6_changeOrder 7 = .ok (.aload_n 0, 1) := by decide +kernel
theorem dX6_changeOrder_8 : decode cX6_changeOrder 8 = .ok (.aload_n 0, 1) := by decide +kernel
theorem dX6_changeOrder_9 : decode cX6_changeOrder 9 = .ok (.getfield 18, 3) := by decide +kernel
theorem dX6_changeOrder_12 : decode cX6_changeOrder 12 = .ok (.invokevirtual 89, 3) := by decide +kernel
theorem dX6_changeOrder_15 : decode cX6_changeOrder 15 = .ok (.if_icmp .ne 6, 3) := by decide +kernel
theorem dX6_changeOrder_18 : decode cX6_changeOrder 18 = .ok (.bipush (-2), 2) := by decide +kernel
theorem dX6_changeOrder_20 : decode cX6_changeOrder 20 = .ok (.ireturn, 1) := by decide +kernel
theorem dX6_changeOrder_21 : decode cX6_changeOrder 21 = .ok (.aload_n 1, 1) := by decide +kernel
theorem dX6_changeOrder_22 : decode cX6_changeOrder 22 = .ok (.iconst 0, 1) := by decide +kernel
theorem dX6_changeOrder_23 : decode cX6_changeOrder 23 = .ok (.aload_n 0, 1) := by decide +kernel
theorem dX6_changeOrder_24 : decode cX6_changeOrder 24 = .ok (.getfield 18, 3) := by decide +kernel
theorem dX6_changeOrder_27 : decode cX6_changeOrder 27 = .ok (.iconst 0, 1) := by decide +kernel
theorem dX6_changeOrder_28 : decode cX6_changeOrder 28 = .ok (.bipush 7, 2) := by decide +kernel
theorem dX6_changeOrder_30 : decode cX6_changeOrder 30 = .ok (.invokestatic 34, 3) := by decide +kernel
theorem dX6_changeOrder_33 : decode cX6_changeOrder 33 = .ok (.iload_n 2, 1) := by decide +kernel
theorem dX6_changeOrder_34 : decode cX6_changeOrder 34 = .ok (.ireturn, 1) := by decide +kernel
theorem dX6_number_0 : decode cX6_number 0 = .ok (.iconst 0, 1) := by decide +kernel
theorem dX6_number_1 : decode cX6_number 1 = .ok (.istore_n 2, 1) := by decide +kernel
theorem dX6_number_2 : decode cX6_number 2 = .ok (.iconst 0, 1) := by decide +kernel
theorem dX6_number_3 : decode cX6_number 3 = .ok (.istore_n 3, 1) := by decide +kernel
theorem dX6_number_4 : decode cX6_number 4 = .ok (.iload_n 3, 1) := by decide +kernel
theorem dX6_number_5 : decode cX6_number 5 = .ok (.aload_n 0, 1) := by decide +kernel
theorem dX6_number_6 : decode cX6_number 6 = .ok (.getfield 40, 3) := by decide +kernel
theorem dX6_number_9 : decode cX6_number 9 = .ok (.if_icmp .ge 18, 3) := by decide +kernel
theorem dX6_number_12 : decode cX6_number 12 = .ok (.iload_n 2, 1) := by decide +kernel
theorem dX6_number_13 : decode cX6_number 13 = .ok (.bipush 10, 2) := by decide +kernel
theorem dX6_number_15 : decode cX6_number 15 = .ok (.imul, 1) := by decide +kernel
theorem dX6_number_16 : decode cX6_number 16 = .ok (.aload_n 1, 1) := by decide +kernel
theorem dX6_number_17 : decode cX6_number 17 = .ok (.iload_n 3, 1) := by decide +kernel
theorem dX6_number_18 : decode cX6_number 18 = .ok (.iaload, 1) := by decide +kernel
theorem dX6_number_19 : decode cX6_number 19 = .ok (.iadd, 1) := by decide +kernel
theorem dX6_number_20 : decode cX6_number 20 = .ok (.istore_n 2, 1) := by decide +kernel
theorem dX6_number_21 : decode cX6_number 21 = .ok (.iinc 3 1, 3) := by decide +kernel
theorem dX6_number_24 : decode cX6_number 24 = .ok (.goto (-20), 3) := by decide +kernel
theorem dX6_number_27 : decode cX6_number 27 = .ok (.iload_n 2, 1) := by decide +kernel
theorem dX6_number_28 : decode cX6_number 28 = .ok (.ireturn, 1) := by decide +kernel
theorem dX6_placeOf_0 : decode cX6_placeOf 0 = .ok (.iconst 0, 1) := by decide +kernel
theorem dX6_placeOf_1 : decode cX6_placeOf 1 = .ok (.istore_n 2, 1) := by decide +kernel
theorem dX6_placeOf_2 : decode cX6_placeOf 2 = .ok (.iload_n 2, 1) := by decide +kernel
theorem dX6_placeOf_3 : decode cX6_placeOf 3 = .ok (.aload_n 0, 1) := by decide +kernel
theorem dX6_placeOf_4 : decode cX6_placeOf 4 = .ok (.getfield 40, 3) := by decide +kernel
theorem dX6_placeOf_7 : decode cX6_placeOf 7 = .ok (.if_icmp .ge 21, 3) := by decide +kernel
theorem dX6_placeOf_10 : decode cX6_placeOf 10 = .ok (.aload_n 0, 1) := by decide +kernel
theorem dX6_placeOf_11 : decode cX6_placeOf 11 = .ok (.getfield 18, 3) := by decide +kernel
theorem dX6_placeOf_14 : decode cX6_placeOf 14 = .ok (.iload_n 2, 1) := by decide +kernel
theorem dX6_placeOf_15 : decode cX6_placeOf 15 = .ok (.iaload, 1) := by decide +kernel
theorem dX6_placeOf_16 : decode cX6_placeOf 16 = .ok (.iload_n 1, 1) := by decide +kernel
theorem dX6_placeOf_17 : decode cX6_placeOf 17 = .ok (.if_icmp .ne 5, 3) := by decide +kernel
theorem dX6_placeOf_20 : decode cX6_placeOf 20 = .ok (.iload_n 2, 1) := by decide +kernel
theorem dX6_placeOf_21 : decode cX6_placeOf 21 = .ok (.ireturn, 1) := by decide +kernel
theorem dX6_placeOf_22 : decode cX6_placeOf 22 = .ok (.iinc 2 1, 3) := by decide +kernel
theorem dX6_placeOf_25 : decode cX6_placeOf 25 = .ok (.goto (-23), 3) := by decide +kernel
theorem dX6_placeOf_28 : decode cX6_placeOf 28 = .ok (.bipush (-4), 2) := by decide +kernel
theorem dX6_placeOf_30 : decode cX6_placeOf 30 = .ok (.ireturn, 1) := by decide +kernel
theorem dX6_wordsThatCount_0 : decode cX6_wordsThatCount 0 = .ok (.aload_n 0, 1) := by decide +kernel
theorem dX6_wordsThatCount_1 : decode cX6_wordsThatCount 1 = .ok (.iload_n 1, 1) := by decide +kernel
theorem dX6_wordsThatCount_2 : decode cX6_wordsThatCount 2 = .ok (.invokevirtual 53, 3) := by decide +kernel
theorem dX6_wordsThatCount_5 : decode cX6_wordsThatCount 5 = .ok (.ifCond .eq 19, 3) := by decide +kernel
theorem dX6_wordsThatCount_8 : decode cX6_wordsThatCount 8 = .ok (.aload_n 0, 1) := by decide +kernel
theorem dX6_wordsThatCount_9 : decode cX6_wordsThatCount 9 = .ok (.getfield 9, 3) := by decide +kernel
theorem dX6_wordsThatCount_12 : decode cX6_wordsThatCount 12 = .ok (.iload_n 1, 1) := by decide +kernel
theorem dX6_wordsThatCount_13 : decode cX6_wordsThatCount 13 = .ok (.iaload, 1) := by decide +kernel
theorem dX6_wordsThatCount_14 : decode cX6_wordsThatCount 14 = .ok (.aload_n 0, 1) := by decide +kernel
theorem dX6_wordsThatCount_15 : decode cX6_wordsThatCount 15 = .ok (.getfield 43, 3) := by decide +kernel
theorem dX6_wordsThatCount_18 : decode cX6_wordsThatCount 18 = .ok (.iconst (-1), 1) := by decide +kernel
theorem dX6_wordsThatCount_19 : decode cX6_wordsThatCount 19 = .ok (.ixor, 1) := by decide +kernel
theorem dX6_wordsThatCount_20 : decode cX6_wordsThatCount 20 = .ok (.iand, 1) := by decide +kernel
theorem dX6_wordsThatCount_21 : decode cX6_wordsThatCount 21 = .ok (.goto 4, 3) := by decide +kernel
theorem dX6_wordsThatCount_24 : decode cX6_wordsThatCount 24 = .ok (.iconst 0, 1) := by decide +kernel
theorem dX6_wordsThatCount_25 : decode cX6_wordsThatCount 25 = .ok (.ireturn, 1) := by decide +kernel
theorem dX6_holds_0 : decode cX6_holds 0 = .ok (.iconst 1, 1) := by decide +kernel
theorem dX6_holds_1 : decode cX6_holds 1 = .ok (.aload_n 0, 1) := by decide +kernel
theorem dX6_holds_2 : decode cX6_holds 2 = .ok (.getfield 40, 3) := by decide +kernel
theorem dX6_holds_5 : decode cX6_holds 5 = .ok (.ishl, 1) := by decide +kernel
theorem dX6_holds_6 : decode cX6_holds 6 = .ok (.iconst 1, 1) := by decide +kernel
theorem dX6_holds_7 : decode cX6_holds 7 = .ok (.isub, 1) := by decide +kernel
theorem dX6_holds_8 : decode cX6_holds 8 = .ok (.istore_n 1, 1) := by decide +kernel
theorem dX6_holds_9 : decode cX6_holds 9 = .ok (.iconst 0, 1) := by decide +kernel
theorem dX6_holds_10 : decode cX6_holds 10 = .ok (.istore_n 2, 1) := by decide +kernel
theorem dX6_holds_11 : decode cX6_holds 11 = .ok (.iload_n 2, 1) := by decide +kernel
theorem dX6_holds_12 : decode cX6_holds 12 = .ok (.aload_n 0, 1) := by decide +kernel
theorem dX6_holds_13 : decode cX6_holds 13 = .ok (.getfield 40, 3) := by decide +kernel
theorem dX6_holds_16 : decode cX6_holds 16 = .ok (.if_icmp .ge 39, 3) := by decide +kernel
theorem dX6_holds_19 : decode cX6_holds 19 = .ok (.aload_n 0, 1) := by decide +kernel
theorem dX6_holds_20 : decode cX6_holds 20 = .ok (.aload_n 0, 1) := by decide +kernel
theorem dX6_holds_21 : decode cX6_holds 21 = .ok (.getfield 18, 3) := by decide +kernel
theorem dX6_holds_24 : decode cX6_holds 24 = .ok (.iload_n 2, 1) := by decide +kernel
theorem dX6_holds_25 : decode cX6_holds 25 = .ok (.iaload, 1) := by decide +kernel
theorem dX6_holds_26 : decode cX6_holds 26 = .ok (.invokevirtual 93, 3) := by decide +kernel
theorem dX6_holds_29 : decode cX6_holds 29 = .ok (.iload_n 1, 1) := by decide +kernel
theorem dX6_holds_30 : decode cX6_holds 30 = .ok (.iand, 1) := by decide +kernel
theorem dX6_holds_31 : decode cX6_holds 31 = .ok (.ifCond .eq 5, 3) := by decide +kernel
theorem dX6_holds_34 : decode cX6_holds 34 = .ok (.iconst 0, 1) := by decide +kernel
theorem dX6_holds_35 : decode cX6_holds 35 = .ok (.ireturn, 1) := by decide +kernel
theorem dX6_holds_36 : decode cX6_holds 36 = .ok (.iload_n 1, 1) := by decide +kernel
theorem dX6_holds_37 : decode cX6_holds 37 = .ok (.iconst 1, 1) := by decide +kernel
theorem dX6_holds_38 : decode cX6_holds 38 = .ok (.aload_n 0, 1) := by decide +kernel
theorem dX6_holds_39 : decode cX6_holds 39 = .ok (.getfield 18, 3) := by decide +kernel
theorem dX6_holds_42 : decode cX6_holds 42 = .ok (.iload_n 2, 1) := by decide +kernel
theorem dX6_holds_43 : decode cX6_holds 43 = .ok (.iaload, 1) := by decide +kernel
theorem dX6_holds_44 : decode cX6_holds 44 = .ok (.ishl, 1) := by decide +kernel
theorem dX6_holds_45 : decode cX6_holds 45 = .ok (.iconst (-1), 1) := by decide +kernel
theorem dX6_holds_46 : decode cX6_holds 46 = .ok (.ixor, 1) := by decide +kernel
theorem dX6_holds_47 : decode cX6_holds 47 = .ok (.iand, 1) := by decide +kernel
theorem dX6_holds_48 : decode cX6_holds 48 = .ok (.istore_n 1, 1) := by decide +kernel
theorem dX6_holds_49 : decode cX6_holds 49 = .ok (.iinc 2 1, 3) := by decide +kernel
theorem dX6_holds_52 : decode cX6_holds 52 = .ok (.goto (-41), 3) := by decide +kernel
theorem dX6_holds_55 : decode cX6_holds 55 = .ok (.iconst 1, 1) := by decide +kernel
theorem dX6_holds_56 : decode cX6_holds 56 = .ok (.ireturn, 1) := by decide +kernel
theorem dX7_init_0 : decode cX7_init 0 = .ok (.aload_n 0, 1) := by decide +kernel
theorem dX7_init_1 : decode cX7_init 1 = .ok (.invokespecial 3, 3) := by decide +kernel
theorem dX7_init_4 : decode cX7_init 4 = .ok (.aload_n 0, 1) := by decide +kernel
theorem dX7_init_5 : decode cX7_init 5 = .ok (.new 9, 3) := by decide +kernel
theorem dX7_init_8 : decode cX7_init 8 = .ok (.dup, 1) := by decide +kernel
theorem dX7_init_9 : decode cX7_init 9 = .ok (.invokespecial 11, 3) := by decide +kernel
theorem dX7_init_12 : decode cX7_init 12 = .ok (.putfield 12, 3) := by decide +kernel
theorem dX7_init_15 : decode cX7_init 15 = .ok (.aload_n 0, 1) := by decide +kernel
theorem dX7_init_16 : decode cX7_init 16 = .ok (.new 9, 3) := by decide +kernel
theorem dX7_init_19 : decode cX7_init 19 = .ok (.dup, 1) := by decide +kernel
theorem dX7_init_20 : decode cX7_init 20 = .ok (.invokespecial 11, 3) := by decide +kernel
theorem dX7_init_23 : decode cX7_init 23 = .ok (.putfield 16, 3) := by decide +kernel
theorem dX7_init_26 : decode cX7_init 26 = .ok (.aload_n 0, 1) := by decide +kernel
theorem dX7_init_27 : decode cX7_init 27 = .ok (.new 19, 3) := by decide +kernel
theorem dX7_init_30 : decode cX7_init 30 = .ok (.dup, 1) := by decide +kernel
theorem dX7_init_31 : decode cX7_init 31 = .ok (.invokespecial 21, 3) := by decide +kernel
theorem dX7_init_34 : decode cX7_init 34 = .ok (.putfield 22, 3) := by decide +kernel
theorem dX7_init_37 : decode cX7_init 37 = .ok (.aload_n 0, 1) := by decide +kernel
theorem dX7_init_38 : decode cX7_init 38 = .ok (.new 9, 3) := by decide +kernel
theorem dX7_init_41 : decode cX7_init 41 = .ok (.dup, 1) := by decide +kernel
theorem dX7_init_42 : decode cX7_init 42 = .ok (.invokespecial 11, 3) := by decide +kernel
theorem dX7_init_45 : decode cX7_init 45 = .ok (.putfield 26, 3) := by decide +kernel
theorem dX7_init_48 : decode cX7_init 48 = .ok (.aload_n 0, 1) := by decide +kernel
theorem dX7_init_49 : decode cX7_init 49 = .ok (.new 19, 3) := by decide +kernel
theorem dX7_init_52 : decode cX7_init 52 = .ok (.dup, 1) := by decide +kernel
theorem dX7_init_53 : decode cX7_init 53 = .ok (.invokespecial 21, 3) := by decide +kernel
theorem dX7_init_56 : decode cX7_init 56 = .ok (.putfield 29, 3) := by decide +kernel
theorem dX7_init_59 : decode cX7_init 59 = .ok (.aload_n 0, 1) := by decide +kernel
theorem dX7_init_60 : decode cX7_init 60 = .ok (.new 32, 3) := by decide +kernel
theorem dX7_init_63 : decode cX7_init 63 = .ok (.dup, 1) := by decide +kernel
theorem dX7_init_64 : decode cX7_init 64 = .ok (.invokespecial 34, 3) := by decide +kernel
theorem dX7_init_67 : decode cX7_init 67 = .ok (.putfield 35, 3) := by decide +kernel
theorem dX7_init_70 : decode cX7_init 70 = .ok (.aload_n 0, 1) := by decide +kernel
theorem dX7_init_71 : decode cX7_init 71 = .ok (.new 39, 3) := by decide +kernel
theorem dX7_init_74 : decode cX7_init 74 = .ok (.dup, 1) := by decide +kernel
theorem dX7_init_75 : decode cX7_init 75 = .ok (.bipush 64, 2) := by decide +kernel
theorem dX7_init_77 : decode cX7_init 77 = .ok (.invokespecial 41, 3) := by decide +kernel
theorem dX7_init_80 : decode cX7_init 80 = .ok (.putfield 44, 3) := by decide +kernel
theorem dX7_init_83 : decode cX7_init 83 = .ok (.aload_n 0, 1) := by decide +kernel
theorem dX7_init_84 : decode cX7_init 84 = .ok (.new 48, 3) := by decide +kernel
theorem dX7_init_87 : decode cX7_init 87 = .ok (.dup, 1) := by decide +kernel
theorem dX7_init_88 : decode cX7_init 88 = .ok (.invokespecial 50, 3) := by decide +kernel
theorem dX7_init_91 : decode cX7_init 91 = .ok (.putfield 51, 3) := by decide +kernel
theorem dX7_init_94 : decode cX7_init 94 = .ok (.aload_n 0, 1) := by decide +kernel
theorem dX7_init_95 : decode cX7_init 95 = .ok (.new 55, 3) := by decide +kernel
theorem dX7_init_98 : decode cX7_init 98 = .ok (.dup, 1) := by decide +kernel
theorem dX7_init_99 : decode cX7_init 99 = .ok (.invokespecial 57, 3) := by decide +kernel
theorem dX7_init_102 : decode cX7_init 102 = .ok (.putfield 58, 3) := by decide +kernel
theorem dX7_init_105 : decode cX7_init 105 = .ok (.aload_n 0, 1) := by decide +kernel
theorem dX7_init_106 : decode cX7_init 106 = .ok (.iconst 4, 1) := by decide +kernel
theorem dX7_init_107 : decode cX7_init 107 = .ok (.anewarray 62, 3) := by decide +kernel
theorem dX7_init_110 : decode cX7_init 110 = .ok (.putfield 64, 3) := by decide +kernel
theorem dX7_init_113 : decode cX7_init 113 = .ok (.iconst 0, 1) := by decide +kernel
theorem dX7_init_114 : decode cX7_init 114 = .ok (.istore_n 1, 1) := by decide +kernel
theorem dX7_init_115 : decode cX7_init 115 = .ok (.iload_n 1, 1) := by decide +kernel
theorem dX7_init_116 : decode cX7_init 116 = .ok (.iconst 4, 1) := by decide +kernel
theorem dX7_init_117 : decode cX7_init 117 = .ok (.if_icmp .ge 22, 3) := by decide +kernel
theorem dX7_init_120 : decode cX7_init 120 = .ok (.aload_n 0, 1) := by decide +kernel
theorem dX7_init_121 : decode cX7_init 121 = .ok (.getfield 64, 3) := by decide +kernel
theorem dX7_init_124 : decode cX7_init 124 = .ok (.iload_n 1, 1) := by decide +kernel
theorem dX7_init_125 : decode cX7_init 125 = .ok (.new 62, 3) := by decide +kernel
theorem dX7_init_128 : decode cX7_init 128 = .ok (.dup, 1) := by decide +kernel
theorem dX7_init_129 : decode cX7_init 129 = .ok (.invokespecial 68, 3) := by decide +kernel
theorem dX7_init_132 : decode cX7_init 132 = .ok (.aastore, 1) := by decide +kernel
theorem dX7_init_133 : decode cX7_init 133 = .ok (.iinc 1 1, 3) := by decide +kernel
theorem dX7_init_136 : decode cX7_init 136 = .ok (.goto (-21), 3) := by decide +kernel
theorem dX7_init_139 : decode cX7_init 139 = .ok (.return_, 1) := by decide +kernel
theorem dX7_book_0 : decode cX7_book 0 = .ok (.aload_n 0, 1) := by decide +kernel
theorem dX7_book_1 : decode cX7_book 1 = .ok (.getfield 16, 3) := by decide +kernel
theorem dX7_book_4 : decode cX7_book 4 = .ok (.aload_n 0, 1) := by decide +kernel
theorem dX7_book_5 : decode cX7_book 5 = .ok (.getfield 12, 3) := by decide +kernel
theorem dX7_book_8 : decode cX7_book 8 = .ok (.invokevirtual 69, 3) := by decide +kernel
theorem dX7_book_11 : decode cX7_book 11 = .ok (.aload_n 0, 1) := by decide +kernel
theorem dX7_book_12 : decode cX7_book 12 = .ok (.aload_n 0, 1) := by decide +kernel
theorem dX7_book_13 : decode cX7_book 13 = .ok (.getfield 12, 3) := by decide +kernel
theorem dX7_book_16 : decode cX7_book 16 = .ok (.iload_n 1, 1) := by decide +kernel
theorem dX7_book_17 : decode cX7_book 17 = .ok (.invokevirtual 73, 3) := by decide +kernel
theorem dX7_book_20 : decode cX7_book 20 = .ok (.invokevirtual 77, 3) := by decide +kernel
theorem dX7_book_23 : decode cX7_book 23 = .ok (.ireturn, 1) := by decide +kernel
theorem dX7_words_0 : decode cX7_words 0 = .ok (.aload_n 0, 1) := by decide +kernel
theorem dX7_words_1 : decode cX7_words 1 = .ok (.getfield 16, 3) := by decide +kernel
theorem dX7_words_4 : decode cX7_words 4 = .ok (.aload_n 0, 1) := by decide +kernel
theorem dX7_words_5 : decode cX7_words 5 = .ok (.getfield 12, 3) := by decide +kernel
theorem dX7_words_8 : decode cX7_words 8 = .ok (.invokevirtual 69, 3) := by decide +kernel
theorem dX7_words_11 : decode cX7_words 11 = .ok (.aload_n 0, 1) := by decide +kernel
theorem dX7_words_12 : decode cX7_words 12 = .ok (.aload_n 0, 1) := by decide +kernel
theorem dX7_words_13 : decode cX7_words 13 = .ok (.getfield 12, 3) := by decide +kernel
theorem dX7_words_16 : decode cX7_words 16 = .ok (.iload_n 1, 1) := by decide +kernel
theorem dX7_words_17 : decode cX7_words 17 = .ok (.iload_n 2, 1) := by decide +kernel
theorem dX7_words_18 : decode cX7_words 18 = .ok (.invokevirtual 80, 3) := by decide +kernel
theorem dX7_words_21 : decode cX7_words 21 = .ok (.invokevirtual 77, 3) := by decide +kernel
theorem dX7_words_24 : decode cX7_words 24 = .ok (.ireturn, 1) := by decide +kernel
theorem dX7_lose_0 : decode cX7_lose 0 = .ok (.aload_n 0, 1) := by decide +kernel
theorem dX7_lose_1 : decode cX7_lose 1 = .ok (.getfield 16, 3) := by decide +kernel
theorem dX7_lose_4 : decode cX7_lose 4 = .ok (.aload_n 0, 1) := by decide +kernel
theorem dX7_lose_5 : decode cX7_lose 5 = .ok (.getfield 12, 3) := by decide +kernel
theorem dX7_lose_8 : decode cX7_lose 8 = .ok (.invokevirtual 69, 3) := by decide +kernel
theorem dX7_lose_11 : decode cX7_lose 11 = .ok (.aload_n 0, 1) := by decide +kernel
theorem dX7_lose_12 : decode cX7_lose 12 = .ok (.aload_n 0, 1) := by decide +kernel
theorem dX7_lose_13 : decode cX7_lose 13 = .ok (.getfield 12, 3) := by decide +kernel
theorem dX7_lose_16 : decode cX7_lose 16 = .ok (.iload_n 1, 1) := by decide +kernel
theorem dX7_lose_17 : decode cX7_lose 17 = .ok (.invokevirtual 84, 3) := by decide +kernel
theorem dX7_lose_20 : decode cX7_lose 20 = .ok (.invokevirtual 77, 3) := by decide +kernel
theorem dX7_lose_23 : decode cX7_lose 23 = .ok (.ireturn, 1) := by decide +kernel
theorem dX7_ahead_0 : decode cX7_ahead 0 = .ok (.aload_n 0, 1) := by decide +kernel
theorem dX7_ahead_1 : decode cX7_ahead 1 = .ok (.getfield 16, 3) := by decide +kernel
theorem dX7_ahead_4 : decode cX7_ahead 4 = .ok (.aload_n 0, 1) := by decide +kernel
theorem dX7_ahead_5 : decode cX7_ahead 5 = .ok (.getfield 12, 3) := by decide +kernel
theorem dX7_ahead_8 : decode cX7_ahead 8 = .ok (.invokevirtual 69, 3) := by decide +kernel
theorem dX7_ahead_11 : decode cX7_ahead 11 = .ok (.aload_n 0, 1) := by decide +kernel
theorem dX7_ahead_12 : decode cX7_ahead 12 = .ok (.aload_n 0, 1) := by decide +kernel
theorem dX7_ahead_13 : decode cX7_ahead 13 = .ok (.getfield 12, 3) := by decide +kernel
theorem dX7_ahead_16 : decode cX7_ahead 16 = .ok (.iload_n 1, 1) := by decide +kernel
theorem dX7_ahead_17 : decode cX7_ahead 17 = .ok (.iload_n 2, 1) := by decide +kernel
theorem dX7_ahead_18 : decode cX7_ahead 18 = .ok (.invokevirtual 87, 3) := by decide +kernel
theorem dX7_ahead_21 : decode cX7_ahead 21 = .ok (.invokevirtual 77, 3) := by decide +kernel
theorem dX7_ahead_24 : decode cX7_ahead 24 = .ok (.ireturn, 1) := by decide +kernel
theorem dX7_prior_0 : decode cX7_prior 0 = .ok (.aload_n 0, 1) := by decide +kernel
theorem dX7_prior_1 : decode cX7_prior 1 = .ok (.getfield 16, 3) := by decide +kernel
theorem dX7_prior_4 : decode cX7_prior 4 = .ok (.aload_n 0, 1) := by decide +kernel
theorem dX7_prior_5 : decode cX7_prior 5 = .ok (.getfield 12, 3) := by decide +kernel
theorem dX7_prior_8 : decode cX7_prior 8 = .ok (.invokevirtual 69, 3) := by decide +kernel
theorem dX7_prior_11 : decode cX7_prior 11 = .ok (.aload_n 0, 1) := by decide +kernel
theorem dX7_prior_12 : decode cX7_prior 12 = .ok (.aload_n 0, 1) := by decide +kernel
theorem dX7_prior_13 : decode cX7_prior 13 = .ok (.getfield 12, 3) := by decide +kernel
theorem dX7_prior_16 : decode cX7_prior 16 = .ok (.iload_n 1, 1) := by decide +kernel
theorem dX7_prior_17 : decode cX7_prior 17 = .ok (.invokevirtual 90, 3) := by decide +kernel
theorem dX7_prior_20 : decode cX7_prior 20 = .ok (.invokevirtual 77, 3) := by decide +kernel
theorem dX7_prior_23 : decode cX7_prior 23 = .ok (.ireturn, 1) := by decide +kernel
theorem dX7_tell_0 : decode cX7_tell 0 = .ok (.aload_n 0, 1) := by decide +kernel
theorem dX7_tell_1 : decode cX7_tell 1 = .ok (.getfield 16, 3) := by decide +kernel
theorem dX7_tell_4 : decode cX7_tell 4 = .ok (.aload_n 0, 1) := by decide +kernel
theorem dX7_tell_5 : decode cX7_tell 5 = .ok (.getfield 12, 3) := by decide +kernel
theorem dX7_tell_8 : decode cX7_tell 8 = .ok (.invokevirtual 69, 3) := by decide +kernel
theorem dX7_tell_11 : decode cX7_tell 11 = .ok (.aload_n 0, 1) := by decide +kernel
theorem dX7_tell_12 : decode cX7_tell 12 = .ok (.aload_n 0, 1) := by decide +kernel
theorem dX7_tell_13 : decode cX7_tell 13 = .ok (.getfield 12, 3) := by decide +kernel
theorem dX7_tell_16 : decode cX7_tell 16 = .ok (.iload_n 1, 1) := by decide +kernel
theorem dX7_tell_17 : decode cX7_tell 17 = .ok (.iload_n 2, 1) := by decide +kernel
theorem dX7_tell_18 : decode cX7_tell 18 = .ok (.invokevirtual 93, 3) := by decide +kernel
theorem dX7_tell_21 : decode cX7_tell 21 = .ok (.invokevirtual 77, 3) := by decide +kernel
theorem dX7_tell_24 : decode cX7_tell 24 = .ok (.ireturn, 1) := by decide +kernel
theorem dX7_move_0 : decode cX7_move 0 = .ok (.aload_n 0, 1) := by decide +kernel
theorem dX7_move_1 : decode cX7_move 1 = .ok (.getfield 16, 3) := by decide +kernel
theorem dX7_move_4 : decode cX7_move 4 = .ok (.aload_n 0, 1) := by decide +kernel
theorem dX7_move_5 : decode cX7_move 5 = .ok (.getfield 12, 3) := by decide +kernel
theorem dX7_move_8 : decode cX7_move 8 = .ok (.invokevirtual 69, 3) := by decide +kernel
theorem dX7_move_11 : decode cX7_move 11 = .ok (.aload_n 0, 1) := by decide +kernel
theorem dX7_move_12 : decode cX7_move 12 = .ok (.aload_n 0, 1) := by decide +kernel
theorem dX7_move_13 : decode cX7_move 13 = .ok (.getfield 12, 3) := by decide +kernel
theorem dX7_move_16 : decode cX7_move 16 = .ok (.iload_n 1, 1) := by decide +kernel
theorem dX7_move_17 : decode cX7_move 17 = .ok (.iload_n 2, 1) := by decide +kernel
theorem dX7_move_18 : decode cX7_move 18 = .ok (.invokevirtual 96, 3) := by decide +kernel
theorem dX7_move_21 : decode cX7_move 21 = .ok (.invokevirtual 77, 3) := by decide +kernel
theorem dX7_move_24 : decode cX7_move 24 = .ok (.ireturn, 1) := by decide +kernel
theorem dX7_settle_0 : decode cX7_settle 0 = .ok (.iload_n 1, 1) := by decide +kernel
theorem dX7_settle_1 : decode cX7_settle 1 = .ok (.ifCond .lt 8, 3) := by decide +kernel
theorem dX7_settle_4 : decode cX7_settle 4 = .ok (.iload_n 1, 1) := by decide +kernel
theorem dX7_settle_5 : decode cX7_settle 5 = .ok (.iconst 1, 1) := by decide +kernel
theorem dX7_settle_6 : decode cX7_settle 6 = .ok (.if_icmp .le 5, 3) := by decide +kernel
theorem dX7_settle_9 : decode cX7_settle 9 = .ok (.iconst (-1), 1) := by decide +kernel
theorem dX7_settle_10 : decode cX7_settle 10 = .ok (.ireturn, 1) := by decide +kernel
theorem dX7_settle_11 : decode cX7_settle 11 = .ok (.aload_n 0, 1) := by decide +kernel
theorem dX7_settle_12 : decode cX7_settle 12 = .ok (.getfield 12, 3) := by decide +kernel
theorem dX7_settle_15 : decode cX7_settle 15 = .ok (.getfield 99, 3) := by decide +kernel
theorem dX7_settle_18 : decode cX7_settle 18 = .ok (.ifCond .ne 6, 3) := by decide +kernel
theorem dX7_settle_21 : decode cX7_settle 21 = .ok (.bipush (-2), 2) := by decide +kernel
theorem dX7_settle_23 : decode cX7_settle 23 = .ok (.ireturn, 1) := by decide +kernel
theorem dX7_settle_24 : decode cX7_settle 24 = .ok (.aload_n 0, 1) := by decide +kernel
theorem dX7_settle_25 : decode cX7_settle 25 = .ok (.iload_n 1, 1) := by decide +kernel
theorem dX7_settle_26 : decode cX7_settle 26 = .ok (.iconst 1, 1) := by decide +kernel
theorem dX7_settle_27 : decode cX7_settle 27 = .ok (.if_icmp .ne 7, 3) := by decide +kernel
theorem dX7_settle_30 : decode cX7_settle 30 = .ok (.iconst 1, 1) := by decide +kernel
theorem dX7_settle_31 : decode cX7_settle 31 = .ok (.goto 4, 3) := by decide +kernel
theorem dX7_settle_34 : decode cX7_settle 34 = .ok (.iconst 0, 1) := by decide +kernel
theorem dX7_settle_35 : decode cX7_settle 35 = .ok (.invokevirtual 103, 3) := by decide +kernel
theorem dX7_settle_38 : decode cX7_settle 38 = .ok (.aload_n 0, 1) := by decide +kernel
theorem dX7_settle_39 : decode cX7_settle 39 = .ok (.getfield 16, 3) := by decide +kernel
theorem dX7_settle_42 : decode cX7_settle 42 = .ok (.aload_n 0, 1) := by decide +kernel
theorem dX7_settle_43 : decode cX7_settle 43 = .ok (.getfield 12, 3) := by decide +kernel
theorem dX7_settle_46 : decode cX7_settle 46 = .ok (.invokevirtual 69, 3) := by decide +kernel
theorem dX7_settle_49 : decode cX7_settle 49 = .ok (.aload_n 0, 1) := by decide +kernel
theorem dX7_settle_50 : decode cX7_settle 50 = .ok (.aload_n 0, 1) := by decide +kernel
theorem dX7_settle_51 : decode cX7_settle 51 = .ok (.getfield 12, 3) := by decide +kernel
theorem dX7_settle_54 : decode cX7_settle 54 = .ok (.aload_n 0, 1) := by decide +kernel
theorem dX7_settle_55 : decode cX7_settle 55 = .ok (.getfield 58, 3) := by decide +kernel
theorem dX7_settle_58 : decode cX7_settle 58 = .ok (.getfield 107, 3) := by decide +kernel
theorem dX7_settle_61 : decode cX7_settle 61 = .ok (.invokevirtual 111, 3) := by decide +kernel
theorem dX7_settle_64 : decode cX7_settle 64 = .ok (.invokevirtual 77, 3) := by decide +kernel
theorem dX7_settle_67 : decode cX7_settle 67 = .ok (.ireturn, 1) := by decide +kernel
theorem dX7_place_0 : decode cX7_place 0 = .ok (.aload_n 0, 1) := by decide +kernel
theorem dX7_place_1 : decode cX7_place 1 = .ok (.getfield 12, 3) := by decide +kernel
theorem dX7_place_4 : decode cX7_place 4 = .ok (.iload_n 1, 1) := by decide +kernel
theorem dX7_place_5 : decode cX7_place 5 = .ok (.invokevirtual 115, 3) := by decide +kernel
theorem dX7_place_8 : decode cX7_place 8 = .ok (.ifCond .eq 13, 3) := by decide +kernel
theorem dX7_place_11 : decode cX7_place 11 = .ok (.iload_n 2, 1) := by decide +kernel
theorem dX7_place_12 : decode cX7_place 12 = .ok (.ifCond .lt 9, 3) := by decide +kernel
theorem dX7_place_15 : decode cX7_place 15 = .ok (.iload_n 2, 1) := by decide +kernel
theorem dX7_place_16 : decode cX7_place 16 = .ok (.bipush 6, 2) := by decide +kernel
theorem dX7_place_18 : decode cX7_place 18 = .ok (.if_icmp .le 5, 3) := by decide +kernel
theorem dX7_place_21 : decode cX7_place 21 = .ok (.iconst (-1), 1) := by decide +kernel
theorem dX7_place_22 : decode cX7_place 22 = .ok (.ireturn, 1) := by decide +kernel
theorem dX7_place_23 : decode cX7_place 23 = .ok (.aload_n 0, 1) := by decide +kernel
theorem dX7_place_24 : decode cX7_place 24 = .ok (.getfield 51, 3) := by decide +kernel
theorem dX7_place_27 : decode cX7_place 27 = .ok (.aload_n 0, 1) := by decide +kernel
theorem dX7_place_28 : decode cX7_place 28 = .ok (.getfield 12, 3) := by decide +kernel
theorem dX7_place_31 : decode cX7_place 31 = .ok (.invokevirtual 119, 3) := by decide +kernel
theorem dX7_place_34 : decode cX7_place 34 = .ok (.iload_n 2, 1) := by decide +kernel
theorem dX7_place_35 : decode cX7_place 35 = .ok (.tableswitch 106 0 5 #[37, 47, 60, 73, 86, 96], 37) := by decide +kernel
theorem dX7_place_72 : decode cX7_place 72 = .ok (.aload_n 0, 1) := by decide +kernel
theorem dX7_place_73 : decode cX7_place 73 = .ok (.getfield 12, 3) := by decide +kernel
theorem dX7_place_76 : decode cX7_place 76 = .ok (.getfield 122, 3) := by decide +kernel
theorem dX7_place_79 : decode cX7_place 79 = .ok (.iload_n 1, 1) := by decide +kernel
theorem dX7_place_80 : decode cX7_place 80 = .ok (.iaload, 1) := by decide +kernel
theorem dX7_place_81 : decode cX7_place 81 = .ok (.ireturn, 1) := by decide +kernel
theorem dX7_place_82 : decode cX7_place 82 = .ok (.aload_n 0, 1) := by decide +kernel
theorem dX7_place_83 : decode cX7_place 83 = .ok (.getfield 51, 3) := by decide +kernel
theorem dX7_place_86 : decode cX7_place 86 = .ok (.getfield 125, 3) := by decide +kernel
theorem dX7_place_89 : decode cX7_place 89 = .ok (.iload_n 1, 1) := by decide +kernel
theorem dX7_place_90 : decode cX7_place 90 = .ok (.iaload, 1) := by decide +kernel
theorem dX7_place_91 : decode cX7_place 91 = .ok (.invokestatic 128, 3) := by decide +kernel
theorem dX7_place_94 : decode cX7_place 94 = .ok (.ireturn, 1) := by decide +kernel
theorem dX7_place_95 : decode cX7_place 95 = .ok (.aload_n 0, 1) := by decide +kernel
theorem dX7_place_96 : decode cX7_place 96 = .ok (.getfield 51, 3) := by decide +kernel
theorem dX7_place_99 : decode cX7_place 99 = .ok (.getfield 133, 3) := by decide +kernel
theorem dX7_place_102 : decode cX7_place 102 = .ok (.iload_n 1, 1) := by decide +kernel
theorem dX7_place_103 : decode cX7_place 103 = .ok (.iaload, 1) := by decide +kernel
theorem dX7_place_104 : decode cX7_place 104 = .ok (.invokestatic 128, 3) := by decide +kernel
theorem dX7_place_107 : decode cX7_place 107 = .ok (.ireturn, 1) := by decide +kernel
theorem dX7_place_108 : decode cX7_place 108 = .ok (.aload_n 0, 1) := by decide +kernel
theorem dX7_place_109 : decode cX7_place 109 = .ok (.getfield 51, 3) := by decide +kernel
theorem dX7_place_112 : decode cX7_place 112 = .ok (.getfield 136, 3) := by decide +kernel
theorem dX7_place_115 : decode cX7_place 115 = .ok (.iload_n 1, 1) := by decide +kernel
theorem dX7_place_116 : decode cX7_place 116 = .ok (.iaload, 1) := by decide +kernel
theorem dX7_place_117 : decode cX7_place 117 = .ok (.invokestatic 128, 3) := by decide +kernel
theorem dX7_place_120 : decode cX7_place 120 = .ok (.ireturn, 1) := by decide +kernel
theorem dX7_place_121 : decode cX7_place 121 = .ok (.aload_n 0, 1) := by decide +kernel
theorem dX7_place_122 : decode cX7_place 122 = .ok (.getfield 51, 3) := by decide +kernel
theorem dX7_place_125 : decode cX7_place 125 = .ok (.getfield 125, 3) := by decide +kernel
theorem dX7_place_128 : decode cX7_place 128 = .ok (.iload_n 1, 1) := by decide +kernel
theorem dX7_place_129 : decode cX7_place 129 = .ok (.iaload, 1) := by decide +kernel
theorem dX7_place_130 : decode cX7_place 130 = .ok (.ireturn, 1) := by decide +kernel
theorem dX7_place_131 : decode cX7_place 131 = .ok (.aload_n 0, 1) := by decide +kernel
theorem dX7_place_132 : decode cX7_place 132 = .ok (.getfield 51, 3) := by decide +kernel
theorem dX7_place_135 : decode cX7_place 135 = .ok (.getfield 136, 3) := by decide +kernel
theorem dX7_place_138 : decode cX7_place 138 = .ok (.iload_n 1, 1) := by decide +kernel
theorem dX7_place_139 : decode cX7_place 139 = .ok (.iaload, 1) := by decide +kernel
theorem dX7_place_140 : decode cX7_place 140 = .ok (.ireturn, 1) := by decide +kernel
theorem dX7_place_141 : decode cX7_place 141 = .ok (.aload_n 0, 1) := by decide +kernel
theorem dX7_place_142 : decode cX7_place 142 = .ok (.getfield 51, 3) := by decide +kernel
theorem dX7_place_145 : decode cX7_place 145 = .ok (.iload_n 1, 1) := by decide +kernel
theorem dX7_place_146 : decode cX7_place 146 = .ok (.iconst 1, 1) := by decide +kernel
theorem dX7_place_147 : decode cX7_place 147 = .ok (.iadd, 1) := by decide +kernel
theorem dX7_place_148 : decode cX7_place 148 = .ok (.invokevirtual 139, 3) := by decide +kernel
theorem dX7_place_151 : decode cX7_place 151 = .ok (.ireturn, 1) := by decide +kernel
theorem dX7_word_0 : decode cX7_word 0 = .ok (.iload_n 1, 1) := by decide +kernel
theorem dX7_word_1 : decode cX7_word 1 = .ok (.ifCond .lt 18, 3) := by decide +kernel
theorem dX7_word_4 : decode cX7_word 4 = .ok (.iload_n 1, 1) := by decide +kernel
theorem dX7_word_5 : decode cX7_word 5 = .ok (.bipush 20, 2) := by decide +kernel
theorem dX7_word_7 : decode cX7_word 7 = .ok (.if_icmp .ge 12, 3) := by decide +kernel
theorem dX7_word_10 : decode cX7_word 10 = .ok (.iload_n 2, 1) := by decide +kernel
theorem dX7_word_11 : decode cX7_word 11 = .ok (.ifCond .lt 8, 3) := by decide +kernel
theorem dX7_word_14 : decode cX7_word 14 = .ok (.iload_n 2, 1) := by decide +kernel
theorem dX7_word_15 : decode cX7_word 15 = .ok (.iconst 4, 1) := by decide +kernel
theorem dX7_word_16 : decode cX7_word 16 = .ok (.if_icmp .le 5, 3) := by decide +kernel
theorem dX7_word_19 : decode cX7_word 19 = .ok (.iconst (-1), 1) := by decide +kernel
theorem dX7_word_20 : decode cX7_word 20 = .ok (.ireturn, 1) := by decide +kernel
theorem dX7_word_21 : decode cX7_word 21 = .ok (.aload_n 0, 1) := by decide +kernel
theorem dX7_word_22 : decode cX7_word 22 = .ok (.getfield 51, 3) := by decide +kernel
theorem dX7_word_25 : decode cX7_word 25 = .ok (.aload_n 0, 1) := by decide +kernel
theorem dX7_word_26 : decode cX7_word 26 = .ok (.getfield 12, 3) := by decide +kernel
theorem dX7_word_29 : decode cX7_word 29 = .ok (.invokevirtual 119, 3) := by decide +kernel
theorem dX7_word_32 : decode cX7_word 32 = .ok (.iload_n 2, 1) := by decide +kernel
theorem dX7_word_33 : decode cX7_word 33 = .ok (.tableswitch 79 0 3 #[31, 44, 53, 66], 31) := by decide +kernel
theorem dX7_word_64 : decode cX7_word 64 = .ok (.aload_n 0, 1) := by decide +kernel
theorem dX7_word_65 : decode cX7_word 65 = .ok (.aload_n 0, 1) := by decide +kernel
theorem dX7_word_66 : decode cX7_word 66 = .ok (.getfield 51, 3) := by decide +kernel
theorem dX7_word_69 : decode cX7_word 69 = .ok (.getfield 125, 3) := by decide +kernel
theorem dX7_word_72 : decode cX7_word 72 = .ok (.iload_n 1, 1) := by decide +kernel
theorem dX7_word_73 : decode cX7_word 73 = .ok (.invokevirtual 142, 3) := by decide +kernel
theorem dX7_word_76 : decode cX7_word 76 = .ok (.ireturn, 1) := by decide +kernel
theorem dX7_word_77 : decode cX7_word 77 = .ok (.aload_n 0, 1) := by decide +kernel
theorem dX7_word_78 : decode cX7_word 78 = .ok (.getfield 51, 3) := by decide +kernel
theorem dX7_word_81 : decode cX7_word 81 = .ok (.iload_n 1, 1) := by decide +kernel
theorem dX7_word_82 : decode cX7_word 82 = .ok (.invokevirtual 146, 3) := by decide +kernel
theorem dX7_word_85 : decode cX7_word 85 = .ok (.ireturn, 1) := by decide +kernel
theorem dX7_word_86 : decode cX7_word 86 = .ok (.aload_n 0, 1) := by decide +kernel
theorem dX7_word_87 : decode cX7_word 87 = .ok (.aload_n 0, 1) := by decide +kernel
theorem dX7_word_88 : decode cX7_word 88 = .ok (.getfield 51, 3) := by decide +kernel
theorem dX7_word_91 : decode cX7_word 91 = .ok (.getfield 125, 3) := by decide +kernel
theorem dX7_word_94 : decode cX7_word 94 = .ok (.iload_n 1, 1) := by decide +kernel
theorem dX7_word_95 : decode cX7_word 95 = .ok (.invokevirtual 149, 3) := by decide +kernel
theorem dX7_word_98 : decode cX7_word 98 = .ok (.ireturn, 1) := by decide +kernel
theorem dX7_word_99 : decode cX7_word 99 = .ok (.aload_n 0, 1) := by decide +kernel
theorem dX7_word_100 : decode cX7_word 100 = .ok (.aload_n 0, 1) := by decide +kernel
theorem dX7_word_101 : decode cX7_word 101 = .ok (.getfield 51, 3) := by decide +kernel
theorem dX7_word_104 : decode cX7_word 104 = .ok (.getfield 136, 3) := by decide +kernel
theorem dX7_word_107 : decode cX7_word 107 = .ok (.iload_n 1, 1) := by decide +kernel
theorem dX7_word_108 : decode cX7_word 108 = .ok (.invokevirtual 149, 3) := by decide +kernel
theorem dX7_word_111 : decode cX7_word 111 = .ok (.ireturn, 1) := by decide +kernel
theorem dX7_word_112 : decode cX7_word 112 = .ok (.aload_n 0, 1) := by decide +kernel
theorem dX7_word_113 : decode cX7_word 113 = .ok (.aload_n 0, 1) := by decide +kernel
theorem dX7_word_114 : decode cX7_word 114 = .ok (.getfield 12, 3) := by decide +kernel
theorem dX7_word_117 : decode cX7_word 117 = .ok (.getfield 152, 3) := by decide +kernel
theorem dX7_word_120 : decode cX7_word 120 = .ok (.iload_n 1, 1) := by decide +kernel
theorem dX7_word_121 : decode cX7_word 121 = .ok (.invokevirtual 149, 3) := by decide +kernel
theorem dX7_word_124 : decode cX7_word 124 = .ok (.ireturn, 1) := by decide +kernel
theorem dX7_told_0 : decode cX7_told 0 = .ok (.aload_n 0, 1) := by decide +kernel
theorem dX7_told_1 : decode cX7_told 1 = .ok (.getfield 12, 3) := by decide +kernel
theorem dX7_told_4 : decode cX7_told 4 = .ok (.iload_n 1, 1) := by decide +kernel
theorem dX7_told_5 : decode cX7_told 5 = .ok (.invokevirtual 115, 3) := by decide +kernel
theorem dX7_told_8 : decode cX7_told 8 = .ok (.ifCond .eq 12, 3) := by decide +kernel
theorem dX7_told_11 : decode cX7_told 11 = .ok (.iload_n 2, 1) := by decide +kernel
theorem dX7_told_12 : decode cX7_told 12 = .ok (.ifCond .lt 8, 3) := by decide +kernel
theorem dX7_told_15 : decode cX7_told 15 = .ok (.iload_n 2, 1) := by decide +kernel
theorem dX7_told_16 : decode cX7_told 16 = .ok (.iconst 3, 1) := by decide +kernel
theorem dX7_told_17 : decode cX7_told 17 = .ok (.if_icmp .le 5, 3) := by decide +kernel
theorem dX7_told_20 : decode cX7_told 20 = .ok (.iconst (-1), 1) := by decide +kernel
theorem dX7_told_21 : decode cX7_told 21 = .ok (.ireturn, 1) := by decide +kernel
theorem dX7_told_22 : decode cX7_told 22 = .ok (.iload_n 2, 1) := by decide +kernel
theorem dX7_told_23 : decode cX7_told 23 = .ok (.tableswitch 54 0 2 #[25, 35, 45], 25) := by decide +kernel
theorem dX7_told_48 : decode cX7_told 48 = .ok (.aload_n 0, 1) := by decide +kernel
theorem dX7_told_49 : decode cX7_told 49 = .ok (.getfield 12, 3) := by decide +kernel
theorem dX7_told_52 : decode cX7_told 52 = .ok (.getfield 152, 3) := by decide +kernel
theorem dX7_told_55 : decode cX7_told 55 = .ok (.iload_n 1, 1) := by decide +kernel
theorem dX7_told_56 : decode cX7_told 56 = .ok (.iaload, 1) := by decide +kernel
theorem dX7_told_57 : decode cX7_told 57 = .ok (.ireturn, 1) := by decide +kernel
theorem dX7_told_58 : decode cX7_told 58 = .ok (.aload_n 0, 1) := by decide +kernel
theorem dX7_told_59 : decode cX7_told 59 = .ok (.getfield 12, 3) := by decide +kernel
theorem dX7_told_62 : decode cX7_told 62 = .ok (.getfield 155, 3) := by decide +kernel
theorem dX7_told_65 : decode cX7_told 65 = .ok (.iload_n 1, 1) := by decide +kernel
theorem dX7_told_66 : decode cX7_told 66 = .ok (.iaload, 1) := by decide +kernel
theorem dX7_told_67 : decode cX7_told 67 = .ok (.ireturn, 1) := by decide +kernel
theorem dX7_told_68 : decode cX7_told 68 = .ok (.aload_n 0, 1) := by decide +kernel
theorem dX7_told_69 : decode cX7_told 69 = .ok (.getfield 12, 3) := by decide +kernel
theorem dX7_told_72 : decode cX7_told 72 = .ok (.iload_n 1, 1) := by decide +kernel
theorem dX7_told_73 : decode cX7_told 73 = .ok (.invokevirtual 158, 3) := by decide +kernel
theorem dX7_told_76 : decode cX7_told 76 = .ok (.ireturn, 1) := by decide +kernel
theorem dX7_told_77 : decode cX7_told 77 = .ok (.aload_n 0, 1) := by decide +kernel
theorem dX7_told_78 : decode cX7_told 78 = .ok (.getfield 12, 3) := by decide +kernel
theorem dX7_told_81 : decode cX7_told 81 = .ok (.iload_n 1, 1) := by decide +kernel
theorem dX7_told_82 : decode cX7_told 82 = .ok (.invokevirtual 161, 3) := by decide +kernel
theorem dX7_told_85 : decode cX7_told 85 = .ok (.ireturn, 1) := by decide +kernel
theorem dX7_count_0 : decode cX7_count 0 = .ok (.iload_n 1, 1) := by decide +kernel
theorem dX7_count_1 : decode cX7_count 1 = .ok (.tableswitch 122 0 10 #[59, 67, 75, 83, 91, 99, 122, 122, 122, 122, 114], 59) := by decide +kernel
theorem dX7_count_60 : decode cX7_count 60 = .ok (.aload_n 0, 1) := by decide +kernel
theorem dX7_count_61 : decode cX7_count 61 = .ok (.getfield 12, 3) := by decide +kernel
theorem dX7_count_64 : decode cX7_count 64 = .ok (.getfield 99, 3) := by decide +kernel
theorem dX7_count_67 : decode cX7_count 67 = .ok (.ireturn, 1) := by decide +kernel
theorem dX7_count_68 : decode cX7_count 68 = .ok (.aload_n 0, 1) := by decide +kernel
theorem dX7_count_69 : decode cX7_count 69 = .ok (.getfield 12, 3) := by decide +kernel
theorem dX7_count_72 : decode cX7_count 72 = .ok (.getfield 164, 3) := by decide +kernel
theorem dX7_count_75 : decode cX7_count 75 = .ok (.ireturn, 1) := by decide +kernel
theorem dX7_count_76 : decode cX7_count 76 = .ok (.aload_n 0, 1) := by decide +kernel
theorem dX7_count_77 : decode cX7_count 77 = .ok (.getfield 12, 3) := by decide +kernel
theorem dX7_count_80 : decode cX7_count 80 = .ok (.getfield 167, 3) := by decide +kernel
theorem dX7_count_83 : decode cX7_count 83 = .ok (.ireturn, 1) := by decide +kernel
theorem dX7_count_84 : decode cX7_count 84 = .ok (.aload_n 0, 1) := by decide +kernel
theorem dX7_count_85 : decode cX7_count 85 = .ok (.getfield 12, 3) := by decide +kernel
theorem dX7_count_88 : decode cX7_count 88 = .ok (.getfield 170, 3) := by decide +kernel
theorem dX7_count_91 : decode cX7_count 91 = .ok (.ireturn, 1) := by decide +kernel
theorem dX7_count_92 : decode cX7_count 92 = .ok (.aload_n 0, 1) := by decide +kernel
theorem dX7_count_93 : decode cX7_count 93 = .ok (.getfield 12, 3) := by decide +kernel
theorem dX7_count_96 : decode cX7_count 96 = .ok (.getfield 173, 3) := by decide +kernel
theorem dX7_count_99 : decode cX7_count 99 = .ok (.ireturn, 1) := by decide +kernel
theorem dX7_count_100 : decode cX7_count 100 = .ok (.aload_n 0, 1) := by decide +kernel
theorem dX7_count_101 : decode cX7_count 101 = .ok (.getfield 12, 3) := by decide +kernel
theorem dX7_count_104 : decode cX7_count 104 = .ok (.aload_n 0, 1) := by decide +kernel
theorem dX7_count_105 : decode cX7_count 105 = .ok (.getfield 12, 3) := by decide +kernel
theorem dX7_count_108 : decode cX7_count 108 = .ok (.getfield 122, 3) := by decide +kernel
theorem dX7_count_111 : decode cX7_count 111 = .ok (.invokevirtual 176, 3) := by decide +kernel
theorem dX7_count_114 : decode cX7_count 114 = .ok (.ireturn, 1) := by decide +kernel
theorem dX7_count_115 : decode cX7_count 115 = .ok (.aload_n 0, 1) := by decide +kernel
theorem dX7_count_116 : decode cX7_count 116 = .ok (.getfield 22, 3) := by decide +kernel
theorem dX7_count_119 : decode cX7_count 119 = .ok (.getfield 179, 3) := by decide +kernel
theorem dX7_count_122 : decode cX7_count 122 = .ok (.ireturn, 1) := by decide +kernel
theorem dX7_count_123 : decode cX7_count 123 = .ok (.iload_n 1, 1) := by decide +kernel
theorem dX7_count_124 : decode cX7_count 124 = .ok (.ifCond .lt 9, 3) := by decide +kernel
theorem dX7_count_127 : decode cX7_count 127 = .ok (.iload_n 1, 1) := by decide +kernel
theorem dX7_count_128 : decode cX7_count 128 = .ok (.bipush 10, 2) := by decide +kernel
theorem dX7_count_130 : decode cX7_count 130 = .ok (.if_icmp .le 7, 3) := by decide +kernel
theorem dX7_count_133 : decode cX7_count 133 = .ok (.iconst (-1), 1) := by decide +kernel
theorem dX7_count_134 : decode cX7_count 134 = .ok (.goto 8, 3) := by decide +kernel
theorem dX7_count_137 : decode cX7_count 137 = .ok (.aload_n 0, 1) := by decide +kernel
theorem dX7_count_138 : decode cX7_count 138 = .ok (.iload_n 1, 1) := by decide +kernel
theorem dX7_count_139 : decode cX7_count 139 = .ok (.invokevirtual 182, 3) := by decide +kernel
theorem dX7_count_142 : decode cX7_count 142 = .ok (.ireturn, 1) := by decide +kernel
theorem dX7_best_0 : decode cX7_best 0 = .ok (.iload_n 1, 1) := by decide +kernel
theorem dX7_best_1 : decode cX7_best 1 = .ok (.ifCond .lt 8, 3) := by decide +kernel
theorem dX7_best_4 : decode cX7_best 4 = .ok (.iload_n 1, 1) := by decide +kernel
theorem dX7_best_5 : decode cX7_best 5 = .ok (.iconst 5, 1) := by decide +kernel
theorem dX7_best_6 : decode cX7_best 6 = .ok (.if_icmp .le 5, 3) := by decide +kernel
theorem dX7_best_9 : decode cX7_best 9 = .ok (.iconst (-1), 1) := by decide +kernel
theorem dX7_best_10 : decode cX7_best 10 = .ok (.ireturn, 1) := by decide +kernel
theorem dX7_best_11 : decode cX7_best 11 = .ok (.aload_n 0, 1) := by decide +kernel
theorem dX7_best_12 : decode cX7_best 12 = .ok (.iload_n 1, 1) := by decide +kernel
theorem dX7_best_13 : decode cX7_best 13 = .ok (.iconst 2, 1) := by decide +kernel
theorem dX7_best_14 : decode cX7_best 14 = .ok (.if_icmp .le 7, 3) := by decide +kernel
theorem dX7_best_17 : decode cX7_best 17 = .ok (.iconst 1, 1) := by decide +kernel
theorem dX7_best_18 : decode cX7_best 18 = .ok (.goto 4, 3) := by decide +kernel
theorem dX7_best_21 : decode cX7_best 21 = .ok (.iconst 0, 1) := by decide +kernel
theorem dX7_best_22 : decode cX7_best 22 = .ok (.invokevirtual 103, 3) := by decide +kernel
theorem dX7_best_25 : decode cX7_best 25 = .ok (.iload_n 1, 1) := by decide +kernel
theorem dX7_best_26 : decode cX7_best 26 = .ok (.iconst 3, 1) := by decide +kernel
theorem dX7_best_27 : decode cX7_best 27 = .ok (.irem, 1) := by decide +kernel
theorem dX7_best_28 : decode cX7_best 28 = .ok (.lookupswitch 51 #[(0, 28), (1, 43)], 28) := by decide +kernel
theorem dX7_best_56 : decode cX7_best 56 = .ok (.aload_n 0, 1) := by decide +kernel
theorem dX7_best_57 : decode cX7_best 57 = .ok (.getfield 12, 3) := by decide +kernel
theorem dX7_best_60 : decode cX7_best 60 = .ok (.aload_n 0, 1) := by decide +kernel
theorem dX7_best_61 : decode cX7_best 61 = .ok (.getfield 58, 3) := by decide +kernel
theorem dX7_best_64 : decode cX7_best 64 = .ok (.getfield 107, 3) := by decide +kernel
theorem dX7_best_67 : decode cX7_best 67 = .ok (.invokevirtual 176, 3) := by decide +kernel
theorem dX7_best_70 : decode cX7_best 70 = .ok (.ireturn, 1) := by decide +kernel
theorem dX7_best_71 : decode cX7_best 71 = .ok (.aload_n 0, 1) := by decide +kernel
theorem dX7_best_72 : decode cX7_best 72 = .ok (.getfield 58, 3) := by decide +kernel
theorem dX7_best_75 : decode cX7_best 75 = .ok (.getfield 185, 3) := by decide +kernel
theorem dX7_best_78 : decode cX7_best 78 = .ok (.ireturn, 1) := by decide +kernel
theorem dX7_best_79 : decode cX7_best 79 = .ok (.aload_n 0, 1) := by decide +kernel
theorem dX7_best_80 : decode cX7_best 80 = .ok (.getfield 58, 3) := by decide +kernel
theorem dX7_best_83 : decode cX7_best 83 = .ok (.getfield 188, 3) := by decide +kernel
