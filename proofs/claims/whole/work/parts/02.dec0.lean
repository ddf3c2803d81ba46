theorem dX0_init_0 : decode cX0_init 0 = .ok (.aload_n 0, 1) := by decide +kernel
theorem dX0_init_1 : decode cX0_init 1 = .ok (.invokespecial 1, 3) := by decide +kernel
theorem dX0_init_4 : decode cX0_init 4 = .ok (.aload_n 0, 1) := by decide +kernel
theorem dX0_init_5 : decode cX0_init 5 = .ok (.iload_n 1, 1) := by decide +kernel
theorem dX0_init_6 : decode cX0_init 6 = .ok (.ifCond .ge 7, 3) := by decide +kernel
theorem dX0_init_9 : decode cX0_init 9 = .ok (.iconst 0, 1) := by decide +kernel
theorem dX0_init_10 : decode cX0_init 10 = .ok (.goto 4, 3) := by decide +kernel
theorem dX0_init_13 : decode cX0_init 13 = .ok (.iload_n 1, 1) := by decide +kernel
theorem dX0_init_14 : decode cX0_init 14 = .ok (.newarray .char, 2) := by decide +kernel
theorem dX0_init_16 : decode cX0_init 16 = .ok (.putfield 7, 3) := by decide +kernel
theorem dX0_init_19 : decode cX0_init 19 = .ok (.return_, 1) := by decide +kernel
theorem dX0_add_0 : decode cX0_add 0 = .ok (.aload_n 0, 1) := by decide +kernel
theorem dX0_add_1 : decode cX0_add 1 = .ok (.getfield 13, 3) := by decide +kernel
theorem dX0_add_4 : decode cX0_add 4 = .ok (.aload_n 0, 1) := by decide +kernel
theorem dX0_add_5 : decode cX0_add 5 = .ok (.getfield 7, 3) := by decide +kernel
theorem dX0_add_8 : decode cX0_add 8 = .ok (.arraylength, 1) := by decide +kernel
theorem dX0_add_9 : decode cX0_add 9 = .ok (.if_icmp .lt 5, 3) := by decide +kernel
theorem dX0_add_12 : decode cX0_add 12 = .ok (.iconst 0, 1) := by decide +kernel
theorem dX0_add_13 : decode cX0_add 13 = .ok (.ireturn, 1) := by decide +kernel
theorem dX0_add_14 : decode cX0_add 14 = .ok (.aload_n 0, 1) := by decide +kernel
theorem dX0_add_15 : decode cX0_add 15 = .ok (.getfield 7, 3) := by decide +kernel
theorem dX0_add_18 : decode cX0_add 18 = .ok (.aload_n 0, 1) := by decide +kernel
theorem dX0_add_19 : decode cX0_add 19 = .ok (.getfield 13, 3) := by decide +kernel
theorem dX0_add_22 : decode cX0_add 22 = .ok (.iload_n 1, 1) := by decide +kernel
theorem dX0_add_23 : decode cX0_add 23 = .ok (.castore, 1) := by decide +kernel
theorem dX0_add_24 : decode cX0_add 24 = .ok (.aload_n 0, 1) := by decide +kernel
theorem dX0_add_25 : decode cX0_add 25 = .ok (.dup, 1) := by decide +kernel
theorem dX0_add_26 : decode cX0_add 26 = .ok (.getfield 13, 3) := by decide +kernel
theorem dX0_add_29 : decode cX0_add 29 = .ok (.iconst 1, 1) := by decide +kernel
theorem dX0_add_30 : decode cX0_add 30 = .ok (.iadd, 1) := by decide +kernel
theorem dX0_add_31 : decode cX0_add 31 = .ok (.putfield 13, 3) := by decide +kernel
theorem dX0_add_34 : decode cX0_add 34 = .ok (.iconst 1, 1) := by decide +kernel
theorem dX0_add_35 : decode cX0_add 35 = .ok (.ireturn, 1) := by decide +kernel
theorem dX0_addNumber_0 : decode cX0_addNumber 0 = .ok (.iload_n 1, 1) := by decide +kernel
theorem dX0_addNumber_1 : decode cX0_addNumber 1 = .ok (.bipush 10, 2) := by decide +kernel
theorem dX0_addNumber_3 : decode cX0_addNumber 3 = .ok (.if_icmp .lt 19, 3) := by decide +kernel
theorem dX0_addNumber_6 : decode cX0_addNumber 6 = .ok (.aload_n 0, 1) := by decide +kernel
theorem dX0_addNumber_7 : decode cX0_addNumber 7 = .ok (.bipush 48, 2) := by decide +kernel
theorem dX0_addNumber_9 : decode cX0_addNumber 9 = .ok (.iload_n 1, 1) := by decide +kernel
theorem dX0_addNumber_10 : decode cX0_addNumber 10 = .ok (.bipush 10, 2) := by decide +kernel
theorem dX0_addNumber_12 : decode cX0_addNumber 12 = .ok (.idiv, 1) := by decide +kernel
theorem dX0_addNumber_13 : decode cX0_addNumber 13 = .ok (.bipush 10, 2) := by decide +kernel
theorem dX0_addNumber_15 : decode cX0_addNumber 15 = .ok (.irem, 1) := by decide +kernel
theorem dX0_addNumber_16 : decode cX0_addNumber 16 = .ok (.iadd, 1) := by decide +kernel
theorem dX0_addNumber_17 : decode cX0_addNumber 17 = .ok (.i2c, 1) := by decide +kernel
theorem dX0_addNumber_18 : decode cX0_addNumber 18 = .ok (.invokevirtual 17, 3) := by decide +kernel
theorem dX0_addNumber_21 : decode cX0_addNumber 21 = .ok (.pop, 1) := by decide +kernel
theorem dX0_addNumber_22 : decode cX0_addNumber 22 = .ok (.aload_n 0, 1) := by decide +kernel
theorem dX0_addNumber_23 : decode cX0_addNumber 23 = .ok (.bipush 48, 2) := by decide +kernel
theorem dX0_addNumber_25 : decode cX0_addNumber 25 = .ok (.iload_n 1, 1) := by decide +kernel
theorem dX0_addNumber_26 : decode cX0_addNumber 26 = .ok (.bipush 10, 2) := by decide +kernel
theorem dX0_addNumber_28 : decode cX0_addNumber 28 = .ok (.irem, 1) := by decide +kernel
theorem dX0_addNumber_29 : decode cX0_addNumber 29 = .ok (.iadd, 1) := by decide +kernel
theorem dX0_addNumber_30 : decode cX0_addNumber 30 = .ok (.i2c, 1) := by decide +kernel
theorem dX0_addNumber_31 : decode cX0_addNumber 31 = .ok (.invokevirtual 17, 3) := by decide +kernel
theorem dX0_addNumber_34 : decode cX0_addNumber 34 = .ok (.pop, 1) := by decide +kernel
theorem dX0_addNumber_35 : decode cX0_addNumber 35 = .ok (.return_, 1) := by decide +kernel
theorem dX0_at_0 : decode cX0_at 0 = .ok (.iload_n 1, 1) := by decide +kernel
theorem dX0_at_1 : decode cX0_at 1 = .ok (.ifCond .lt 20, 3) := by decide +kernel
theorem dX0_at_4 : decode cX0_at 4 = .ok (.iload_n 1, 1) := by decide +kernel
theorem dX0_at_5 : decode cX0_at 5 = .ok (.aload_n 0, 1) := by decide +kernel
theorem dX0_at_6 : decode cX0_at 6 = .ok (.getfield 13, 3) := by decide +kernel
theorem dX0_at_9 : decode cX0_at 9 = .ok (.if_icmp .ge 12, 3) := by decide +kernel
theorem dX0_at_12 : decode cX0_at 12 = .ok (.aload_n 0, 1) := by decide +kernel
theorem dX0_at_13 : decode cX0_at 13 = .ok (.getfield 7, 3) := by decide +kernel
theorem dX0_at_16 : decode cX0_at 16 = .ok (.iload_n 1, 1) := by decide +kernel
theorem dX0_at_17 : decode cX0_at 17 = .ok (.caload, 1) := by decide +kernel
theorem dX0_at_18 : decode cX0_at 18 = .ok (.goto 4, 3) := by decide +kernel
theorem dX0_at_21 : decode cX0_at 21 = .ok (.iconst 0, 1) := by decide +kernel
theorem dX0_at_22 : decode cX0_at 22 = .ok (.ireturn, 1) := by decide +kernel
theorem dX1_init_0 : decode cX1_init 0 = .ok (.aload_n 0, 1) := by decide +kernel
theorem dX1_init_1 : decode cX1_init 1 = .ok (.invokespecial 3, 3) := by decide +kernel
theorem dX1_init_4 : decode cX1_init 4 = .ok (.aload_n 0, 1) := by decide +kernel
theorem dX1_init_5 : decode cX1_init 5 = .ok (.new 9, 3) := by decide +kernel
theorem dX1_init_8 : decode cX1_init 8 = .ok (.dup, 1) := by decide +kernel
theorem dX1_init_9 : decode cX1_init 9 = .ok (.bipush 90, 2) := by decide +kernel
theorem dX1_init_11 : decode cX1_init 11 = .ok (.invokespecial 11, 3) := by decide +kernel
theorem dX1_init_14 : decode cX1_init 14 = .ok (.putfield 14, 3) := by decide +kernel
theorem dX1_init_17 : decode cX1_init 17 = .ok (.aload_n 0, 1) := by decide +kernel
theorem dX1_init_18 : decode cX1_init 18 = .ok (.new 20, 3) := by decide +kernel
theorem dX1_init_21 : decode cX1_init 21 = .ok (.dup, 1) := by decide +kernel
theorem dX1_init_22 : decode cX1_init 22 = .ok (.invokespecial 22, 3) := by decide +kernel
theorem dX1_init_25 : decode cX1_init 25 = .ok (.putfield 23, 3) := by decide +kernel
theorem dX1_init_28 : decode cX1_init 28 = .ok (.return_, 1) := by decide +kernel
theorem dX1_parses_0 : decode cX1_parses 0 = .ok (.aload_n 0, 1) := by decide +kernel
theorem dX1_parses_1 : decode cX1_parses 1 = .ok (.getfield 23, 3) := by decide +kernel
theorem dX1_parses_4 : decode cX1_parses 4 = .ok (.aload_n 1, 1) := by decide +kernel
theorem dX1_parses_5 : decode cX1_parses 5 = .ok (.invokevirtual 27, 3) := by decide +kernel
theorem dX1_parses_8 : decode cX1_parses 8 = .ok (.aload_n 0, 1) := by decide +kernel
theorem dX1_parses_9 : decode cX1_parses 9 = .ok (.getfield 23, 3) := by decide +kernel
theorem dX1_parses_12 : decode cX1_parses 12 = .ok (.iconst 0, 1) := by decide +kernel
theorem dX1_parses_13 : decode cX1_parses 13 = .ok (.putfield 31, 3) := by decide +kernel
theorem dX1_parses_16 : decode cX1_parses 16 = .ok (.aload_n 0, 1) := by decide +kernel
theorem dX1_parses_17 : decode cX1_parses 17 = .ok (.iconst 0, 1) := by decide +kernel
theorem dX1_parses_18 : decode cX1_parses 18 = .ok (.putfield 35, 3) := by decide +kernel
theorem dX1_parses_21 : decode cX1_parses 21 = .ok (.aload_n 0, 1) := by decide +kernel
theorem dX1_parses_22 : decode cX1_parses 22 = .ok (.invokevirtual 38, 3) := by decide +kernel
theorem dX1_parses_25 : decode cX1_parses 25 = .ok (.ifCond .eq 30, 3) := by decide +kernel
theorem dX1_parses_28 : decode cX1_parses 28 = .ok (.aload_n 0, 1) := by decide +kernel
theorem dX1_parses_29 : decode cX1_parses 29 = .ok (.invokevirtual 42, 3) := by decide +kernel
theorem dX1_parses_32 : decode cX1_parses 32 = .ok (.ifCond .eq 23, 3) := by decide +kernel
theorem dX1_parses_35 : decode cX1_parses 35 = .ok (.aload_n 0, 1) := by decide +kernel
theorem dX1_parses_36 : decode cX1_parses 36 = .ok (.bipush 58, 2) := by decide +kernel
theorem dX1_parses_38 : decode cX1_parses 38 = .ok (.invokevirtual 45, 3) := by decide +kernel
theorem dX1_parses_41 : decode cX1_parses 41 = .ok (.ifCond .eq 14, 3) := by decide +kernel
theorem dX1_parses_44 : decode cX1_parses 44 = .ok (.aload_n 0, 1) := by decide +kernel
theorem dX1_parses_45 : decode cX1_parses 45 = .ok (.invokevirtual 49, 3) := by decide +kernel
theorem dX1_parses_48 : decode cX1_parses 48 = .ok (.ifCond .eq 7, 3) := by decide +kernel
theorem dX1_parses_51 : decode cX1_parses 51 = .ok (.iconst 1, 1) := by decide +kernel
theorem dX1_parses_52 : decode cX1_parses 52 = .ok (.goto 4, 3) := by decide +kernel
theorem dX1_parses_55 : decode cX1_parses 55 = .ok (.iconst 0, 1) := by decide +kernel
theorem dX1_parses_56 : decode cX1_parses 56 = .ok (.istore_n 2, 1) := by decide +kernel
theorem dX1_parses_57 : decode cX1_parses 57 = .ok (.iload_n 2, 1) := by decide +kernel
theorem dX1_parses_58 : decode cX1_parses 58 = .ok (.ifCond .eq 30, 3) := by decide +kernel
theorem dX1_parses_61 : decode cX1_parses 61 = .ok (.aload_n 0, 1) := by decide +kernel
theorem dX1_parses_62 : decode cX1_parses 62 = .ok (.invokevirtual 52, 3) := by decide +kernel
theorem dX1_parses_65 : decode cX1_parses 65 = .ok (.ifCond .ne 19, 3) := by decide +kernel
theorem dX1_parses_68 : decode cX1_parses 68 = .ok (.aload_n 0, 1) := by decide +kernel
theorem dX1_parses_69 : decode cX1_parses 69 = .ok (.bipush 59, 2) := by decide +kernel
theorem dX1_parses_71 : decode cX1_parses 71 = .ok (.invokevirtual 45, 3) := by decide +kernel
theorem dX1_parses_74 : decode cX1_parses 74 = .ok (.ifCond .eq 14, 3) := by decide +kernel
theorem dX1_parses_77 : decode cX1_parses 77 = .ok (.aload_n 0, 1) := by decide +kernel
theorem dX1_parses_78 : decode cX1_parses 78 = .ok (.invokevirtual 55, 3) := by decide +kernel
theorem dX1_parses_81 : decode cX1_parses 81 = .ok (.ifCond .eq 7, 3) := by decide +kernel
theorem dX1_parses_84 : decode cX1_parses 84 = .ok (.iconst 1, 1) := by decide +kernel
theorem dX1_parses_85 : decode cX1_parses 85 = .ok (.goto 4, 3) := by decide +kernel
theorem dX1_parses_88 : decode cX1_parses 88 = .ok (.iconst 0, 1) := by decide +kernel
theorem dX1_parses_89 : decode cX1_parses 89 = .ok (.ireturn, 1) := by decide +kernel
theorem dX1_next_0 : decode cX1_next 0 = .ok (.aload_n 0, 1) := by decide +kernel
theorem dX1_next_1 : decode cX1_next 1 = .ok (.getfield 35, 3) := by decide +kernel
theorem dX1_next_4 : decode cX1_next 4 = .ok (.aload_n 0, 1) := by decide +kernel
theorem dX1_next_5 : decode cX1_next 5 = .ok (.getfield 14, 3) := by decide +kernel
theorem dX1_next_8 : decode cX1_next 8 = .ok (.getfield 58, 3) := by decide +kernel
theorem dX1_next_11 : decode cX1_next 11 = .ok (.if_icmp .ge 32, 3) := by decide +kernel
theorem dX1_next_14 : decode cX1_next 14 = .ok (.aload_n 0, 1) := by decide +kernel
theorem dX1_next_15 : decode cX1_next 15 = .ok (.getfield 14, 3) := by decide +kernel
theorem dX1_next_18 : decode cX1_next 18 = .ok (.aload_n 0, 1) := by decide +kernel
theorem dX1_next_19 : decode cX1_next 19 = .ok (.getfield 35, 3) := by decide +kernel
theorem dX1_next_22 : decode cX1_next 22 = .ok (.invokevirtual 61, 3) := by decide +kernel
theorem dX1_next_25 : decode cX1_next 25 = .ok (.bipush 32, 2) := by decide +kernel
theorem dX1_next_27 : decode cX1_next 27 = .ok (.if_icmp .ne 16, 3) := by decide +kernel
theorem dX1_next_30 : decode cX1_next 30 = .ok (.aload_n 0, 1) := by decide +kernel
theorem dX1_next_31 : decode cX1_next 31 = .ok (.dup, 1) := by decide +kernel
theorem dX1_next_32 : decode cX1_next 32 = .ok (.getfield 35, 3) := by decide +kernel
theorem dX1_next_35 : decode cX1_next 35 = .ok (.iconst 1, 1) := by decide +kernel
theorem dX1_next_36 : decode cX1_next 36 = .ok (.iadd, 1) := by decide +kernel
theorem dX1_next_37 : decode cX1_next 37 = .ok (.putfield 35, 3) := by decide +kernel
theorem dX1_next_40 : decode cX1_next 40 = .ok (.goto (-40), 3) := by decide +kernel
theorem dX1_next_43 : decode cX1_next 43 = .ok (.aload_n 0, 1) := by decide +kernel
theorem dX1_next_44 : decode cX1_next 44 = .ok (.getfield 14, 3) := by decide +kernel
theorem dX1_next_47 : decode cX1_next 47 = .ok (.aload_n 0, 1) := by decide +kernel
theorem dX1_next_48 : decode cX1_next 48 = .ok (.getfield 35, 3) := by decide +kernel
theorem dX1_next_51 : decode cX1_next 51 = .ok (.invokevirtual 61, 3) := by decide +kernel
theorem dX1_next_54 : decode cX1_next 54 = .ok (.ireturn, 1) := by decide +kernel
theorem dX1_isAtEnd_0 : decode cX1_isAtEnd 0 = .ok (.aload_n 0, 1) := by decide +kernel
theorem dX1_isAtEnd_1 : decode cX1_isAtEnd 1 = .ok (.invokevirtual 64, 3) := by decide +kernel
theorem dX1_isAtEnd_4 : decode cX1_isAtEnd 4 = .ok (.pop, 1) := by decide +kernel
theorem dX1_isAtEnd_5 : decode cX1_isAtEnd 5 = .ok (.aload_n 0, 1) := by decide +kernel
theorem dX1_isAtEnd_6 : decode cX1_isAtEnd 6 = .ok (.getfield 35, 3) := by decide +kernel
theorem dX1_isAtEnd_9 : decode cX1_isAtEnd 9 = .ok (.aload_n 0, 1) := by decide +kernel
theorem dX1_isAtEnd_10 : decode cX1_isAtEnd 10 = .ok (.getfield 14, 3) := by decide +kernel
theorem dX1_isAtEnd_13 : decode cX1_isAtEnd 13 = .ok (.getfield 58, 3) := by decide +kernel
theorem dX1_isAtEnd_16 : decode cX1_isAtEnd 16 = .ok (.if_icmp .lt 7, 3) := by decide +kernel
theorem dX1_isAtEnd_19 : decode cX1_isAtEnd 19 = .ok (.iconst 1, 1) := by decide +kernel
theorem dX1_isAtEnd_20 : decode cX1_isAtEnd 20 = .ok (.goto 4, 3) := by decide +kernel
theorem dX1_isAtEnd_23 : decode cX1_isAtEnd 23 = .ok (.iconst 0, 1) := by decide +kernel
theorem dX1_isAtEnd_24 : decode cX1_isAtEnd 24 = .ok (.ireturn, 1) := by decide +kernel
theorem dX1_takesSign_0 : decode cX1_takesSign 0 = .ok (.aload_n 0, 1) := by decide +kernel
theorem dX1_takesSign_1 : decode cX1_takesSign 1 = .ok (.invokevirtual 64, 3) := by decide +kernel
theorem dX1_takesSign_4 : decode cX1_takesSign 4 = .ok (.iload_n 1, 1) := by decide +kernel
theorem dX1_takesSign_5 : decode cX1_takesSign 5 = .ok (.if_icmp .eq 5, 3) := by decide +kernel
theorem dX1_takesSign_8 : decode cX1_takesSign 8 = .ok (.iconst 0, 1) := by decide +kernel
theorem dX1_takesSign_9 : decode cX1_takesSign 9 = .ok (.ireturn, 1) := by decide +kernel
theorem dX1_takesSign_10 : decode cX1_takesSign 10 = .ok (.aload_n 0, 1) := by decide +kernel
theorem dX1_takesSign_11 : decode cX1_takesSign 11 = .ok (.dup, 1) := by decide +kernel
theorem dX1_takesSign_12 : decode cX1_takesSign 12 = .ok (.getfield 35, 3) := by decide +kernel
theorem dX1_takesSign_15 : decode cX1_takesSign 15 = .ok (.iconst 1, 1) := by decide +kernel
theorem dX1_takesSign_16 : decode cX1_takesSign 16 = .ok (.iadd, 1) := by decide +kernel
theorem dX1_takesSign_17 : decode cX1_takesSign 17 = .ok (.putfield 35, 3) := by decide +kernel
theorem dX1_takesSign_20 : decode cX1_takesSign 20 = .ok (.iconst 1, 1) := by decide +kernel
theorem dX1_takesSign_21 : decode cX1_takesSign 21 = .ok (.ireturn, 1) := by decide +kernel
theorem dX1_nextFigure_0 : decode cX1_nextFigure 0 = .ok (.aload_n 0, 1) := by decide +kernel
theorem dX1_nextFigure_1 : decode cX1_nextFigure 1 = .ok (.invokevirtual 64, 3) := by decide +kernel
theorem dX1_nextFigure_4 : decode cX1_nextFigure 4 = .ok (.istore_n 1, 1) := by decide +kernel
theorem dX1_nextFigure_5 : decode cX1_nextFigure 5 = .ok (.iload_n 1, 1) := by decide +kernel
theorem dX1_nextFigure_6 : decode cX1_nextFigure 6 = .ok (.bipush 48, 2) := by decide +kernel
theorem dX1_nextFigure_8 : decode cX1_nextFigure 8 = .ok (.if_icmp .lt 16, 3) := by decide +kernel
theorem dX1_nextFigure_11 : decode cX1_nextFigure 11 = .ok (.iload_n 1, 1) := by decide +kernel
theorem dX1_nextFigure_12 : decode cX1_nextFigure 12 = .ok (.bipush 57, 2) := by decide +kernel
theorem dX1_nextFigure_14 : decode cX1_nextFigure 14 = .ok (.if_icmp .gt 10, 3) := by decide +kernel
theorem dX1_nextFigure_17 : decode cX1_nextFigure 17 = .ok (.iload_n 1, 1) := by decide +kernel
theorem dX1_nextFigure_18 : decode cX1_nextFigure 18 = .ok (.bipush 48, 2) := by decide +kernel
theorem dX1_nextFigure_20 : decode cX1_nextFigure 20 = .ok (.isub, 1) := by decide +kernel
theorem dX1_nextFigure_21 : decode cX1_nextFigure 21 = .ok (.goto 5, 3) := by decide +kernel
theorem dX1_nextFigure_24 : decode cX1_nextFigure 24 = .ok (.bipush (-4), 2) := by decide +kernel
theorem dX1_nextFigure_26 : decode cX1_nextFigure 26 = .ok (.ireturn, 1) := by decide +kernel
theorem dX1_takesRule_0 : decode cX1_takesRule 0 = .ok (.aload_n 0, 1) := by decide +kernel
theorem dX1_takesRule_1 : decode cX1_takesRule 1 = .ok (.invokevirtual 64, 3) := by decide +kernel
theorem dX1_takesRule_4 : decode cX1_takesRule 4 = .ok (.pop, 1) := by decide +kernel
theorem dX1_takesRule_5 : decode cX1_takesRule 5 = .ok (.aload_n 0, 1) := by decide +kernel
theorem dX1_takesRule_6 : decode cX1_takesRule 6 = .ok (.getfield 35, 3) := by decide +kernel
theorem dX1_takesRule_9 : decode cX1_takesRule 9 = .ok (.istore_n 1, 1) := by decide +kernel
theorem dX1_takesRule_10 : decode cX1_takesRule 10 = .ok (.aload_n 0, 1) := by decide +kernel
theorem dX1_takesRule_11 : decode cX1_takesRule 11 = .ok (.getfield 35, 3) := by decide +kernel
theorem dX1_takesRule_14 : decode cX1_takesRule 14 = .ok (.aload_n 0, 1) := by decide +kernel
theorem dX1_takesRule_15 : decode cX1_takesRule 15 = .ok (.getfield 14, 3) := by decide +kernel
theorem dX1_takesRule_18 : decode cX1_takesRule 18 = .ok (.getfield 58, 3) := by decide +kernel
theorem dX1_takesRule_21 : decode cX1_takesRule 21 = .ok (.if_icmp .ge 48, 3) := by decide +kernel
theorem dX1_takesRule_24 : decode cX1_takesRule 24 = .ok (.aload_n 0, 1) := by decide +kernel
theorem dX1_takesRule_25 : decode cX1_takesRule 25 = .ok (.getfield 14, 3) := by decide +kernel
theorem dX1_takesRule_28 : decode cX1_takesRule 28 = .ok (.aload_n 0, 1) := by decide +kernel
theorem dX1_takesRule_29 : decode cX1_takesRule 29 = .ok (.getfield 35, 3) := by decide +kernel
theorem dX1_takesRule_32 : decode cX1_takesRule 32 = .ok (.invokevirtual 61, 3) := by decide +kernel
theorem dX1_takesRule_35 : decode cX1_takesRule 35 = .ok (.bipush 97, 2) := by decide +kernel
theorem dX1_takesRule_37 : decode cX1_takesRule 37 = .ok (.if_icmp .lt 32, 3) := by decide +kernel
theorem dX1_takesRule_40 : decode cX1_takesRule 40 = .ok (.aload_n 0, 1) := by decide +kernel
theorem dX1_takesRule_41 : decode cX1_takesRule 41 = .ok (.getfield 14, 3) := by decide +kernel
theorem dX1_takesRule_44 : decode cX1_takesRule 44 = .ok (.aload_n 0, 1) := by decide +kernel
theorem dX1_takesRule_45 : decode cX1_takesRule 45 = .ok (.getfield 35, 3) := by decide +kernel
theorem dX1_takesRule_48 : decode cX1_takesRule 48 = .ok (.invokevirtual 61, 3) := by decide +kernel
theorem dX1_takesRule_51 : decode cX1_takesRule 51 = .ok (.bipush 122, 2) := by decide +kernel
theorem dX1_takesRule_53 : decode cX1_takesRule 53 = .ok (.if_icmp .gt 16, 3) := by decide +kernel
theorem dX1_takesRule_56 : decode cX1_takesRule 56 = .ok (.aload_n 0, 1) := by decide +kernel
theorem dX1_takesRule_57 : decode cX1_takesRule 57 = .ok (.dup, 1) := by decide +kernel
theorem dX1_takesRule_58 : decode cX1_takesRule 58 = .ok (.getfield 35, 3) := by decide +kernel
theorem dX1_takesRule_61 : decode cX1_takesRule 61 = .ok (.iconst 1, 1) := by decide +kernel
theorem dX1_takesRule_62 : decode cX1_takesRule 62 = .ok (.iadd, 1) := by decide +kernel
theorem dX1_takesRule_63 : decode cX1_takesRule 63 = .ok (.putfield 35, 3) := by decide +kernel
theorem dX1_takesRule_66 : decode cX1_takesRule 66 = .ok (.goto (-56), 3) := by decide +kernel
theorem dX1_takesRule_69 : decode cX1_takesRule 69 = .ok (.iconst 0, 1) := by decide +kernel
theorem dX1_takesRule_70 : decode cX1_takesRule 70 = .ok (.istore_n 2, 1) := by decide +kernel
theorem dX1_takesRule_71 : decode cX1_takesRule 71 = .ok (.iload_n 2, 1) := by decide +kernel
theorem dX1_takesRule_72 : decode cX1_takesRule 72 = .ok (.iconst 3, 1) := by decide +kernel
theorem dX1_takesRule_73 : decode cX1_takesRule 73 = .ok (.if_icmp .ge 35, 3) := by decide +kernel
theorem dX1_takesRule_76 : decode cX1_takesRule 76 = .ok (.aload_n 0, 1) := by decide +kernel
theorem dX1_takesRule_77 : decode cX1_takesRule 77 = .ok (.iload_n 2, 1) := by decide +kernel
theorem dX1_takesRule_78 : decode cX1_takesRule 78 = .ok (.invokestatic 68, 3) := by decide +kernel
theorem dX1_takesRule_81 : decode cX1_takesRule 81 = .ok (.iload_n 1, 1) := by decide +kernel
theorem dX1_takesRule_82 : decode cX1_takesRule 82 = .ok (.aload_n 0, 1) := by decide +kernel
theorem dX1_takesRule_83 : decode cX1_takesRule 83 = .ok (.getfield 35, 3) := by decide +kernel
theorem dX1_takesRule_86 : decode cX1_takesRule 86 = .ok (.invokevirtual 72, 3) := by decide +kernel
theorem dX1_takesRule_89 : decode cX1_takesRule 89 = .ok (.ifCond .eq 13, 3) := by decide +kernel
theorem dX1_takesRule_92 : decode cX1_takesRule 92 = .ok (.aload_n 0, 1) := by decide +kernel
theorem dX1_takesRule_93 : decode cX1_takesRule 93 = .ok (.getfield 23, 3) := by decide +kernel
theorem dX1_takesRule_96 : decode cX1_takesRule 96 = .ok (.iload_n 2, 1) := by decide +kernel
theorem dX1_takesRule_97 : decode cX1_takesRule 97 = .ok (.putfield 76, 3) := by decide +kernel
theorem dX1_takesRule_100 : decode cX1_takesRule 100 = .ok (.iconst 1, 1) := by decide +kernel
theorem dX1_takesRule_101 : decode cX1_takesRule 101 = .ok (.ireturn, 1) := by decide +kernel
theorem dX1_takesRule_102 : decode cX1_takesRule 102 = .ok (.iinc 2 1, 3) := by decide +kernel
theorem dX1_takesRule_105 : decode cX1_takesRule 105 = .ok (.goto (-34), 3) := by decide +kernel
theorem dX1_takesRule_108 : decode cX1_takesRule 108 = .ok (.aload_n 0, 1) := by decide +kernel
theorem dX1_takesRule_109 : decode cX1_takesRule 109 = .ok (.iload_n 1, 1) := by decide +kernel
theorem dX1_takesRule_110 : decode cX1_takesRule 110 = .ok (.putfield 35, 3) := by decide +kernel
theorem dX1_takesRule_113 : decode cX1_takesRule 113 = .ok (.iconst 0, 1) := by decide +kernel
theorem dX1_takesRule_114 : decode cX1_takesRule 114 = .ok (.ireturn, 1) := by decide +kernel
theorem dX1_nameOf_0 : decode cX1_nameOf 0 = .ok (.iload_n 0, 1) := by decide +kernel
theorem dX1_nameOf_1 : decode cX1_nameOf 1 = .ok (.lookupswitch 33 #[(0, 27), (1, 30)], 27) := by decide +kernel
theorem dX1_nameOf_28 : decode cX1_nameOf 28 = .ok (.ldc 79, 2) := by decide +kernel
theorem dX1_nameOf_30 : decode cX1_nameOf 30 = .ok (.areturn, 1) := by decide +kernel
theorem dX1_nameOf_31 : decode cX1_nameOf 31 = .ok (.ldc 81, 2) := by decide +kernel
theorem dX1_nameOf_33 : decode cX1_nameOf 33 = .ok (.areturn, 1) := by decide +kernel
theorem dX1_nameOf_34 : decode cX1_nameOf 34 = .ok (.ldc 83, 2) := by decide +kernel
theorem dX1_nameOf_36 : decode cX1_nameOf 36 = .ok (.areturn, 1) := by decide +kernel
theorem dX1_isName_0 : decode cX1_isName 0 = .ok (.iload_n 3, 1) := by decide +kernel
theorem dX1_isName_1 : decode cX1_isName 1 = .ok (.iload_n 2, 1) := by decide +kernel
theorem dX1_isName_2 : decode cX1_isName 2 = .ok (.isub, 1) := by decide +kernel
theorem dX1_isName_3 : decode cX1_isName 3 = .ok (.aload_n 1, 1) := by decide +kernel
theorem dX1_isName_4 : decode cX1_isName 4 = .ok (.invokevirtual 85, 3) := by decide +kernel
theorem dX1_isName_7 : decode cX1_isName 7 = .ok (.if_icmp .eq 5, 3) := by decide +kernel
theorem dX1_isName_10 : decode cX1_isName 10 = .ok (.iconst 0, 1) := by decide +kernel
theorem dX1_isName_11 : decode cX1_isName 11 = .ok (.ireturn, 1) := by decide +kernel
theorem dX1_isName_12 : decode cX1_isName 12 = .ok (.iconst 0, 1) := by decide +kernel
theorem dX1_isName_13 : decode cX1_isName 13 = .ok (.istore 4, 2) := by decide +kernel
theorem dX1_isName_15 : decode cX1_isName 15 = .ok (.iload 4, 2) := by decide +kernel
theorem dX1_isName_17 : decode cX1_isName 17 = .ok (.aload_n 1, 1) := by decide +kernel
theorem dX1_isName_18 : decode cX1_isName 18 = .ok (.invokevirtual 85, 3) := by decide +kernel
theorem dX1_isName_21 : decode cX1_isName 21 = .ok (.if_icmp .ge 31, 3) := by decide +kernel
theorem dX1_isName_24 : decode cX1_isName 24 = .ok (.aload_n 0, 1) := by decide +kernel
theorem dX1_isName_25 : decode cX1_isName 25 = .ok (.getfield 14, 3) := by decide +kernel
theorem dX1_isName_28 : decode cX1_isName 28 = .ok (.iload_n 2, 1) := by decide +kernel
theorem dX1_isName_29 : decode cX1_isName 29 = .ok (.iload 4, 2) := by decide +kernel
theorem dX1_isName_31 : decode cX1_isName 31 = .ok (.iadd, 1) := by decide +kernel
theorem dX1_isName_32 : decode cX1_isName 32 = .ok (.invokevirtual 61, 3) := by decide +kernel
theorem dX1_isName_35 : decode cX1_isName 35 = .ok (.aload_n 1, 1) := by decide +kernel
theorem dX1_isName_36 : decode cX1_isName 36 = .ok (.iload 4, 2) := by decide +kernel
theorem dX1_isName_38 : decode cX1_isName 38 = .ok (.invokevirtual 91, 3) := by decide +kernel
theorem dX1_isName_41 : decode cX1_isName 41 = .ok (.if_icmp .eq 5, 3) := by decide +kernel
theorem dX1_isName_44 : decode cX1_isName 44 = .ok (.iconst 0, 1) := by decide +kernel
theorem dX1_isName_45 : decode cX1_isName 45 = .ok (.ireturn, 1) := by decide +kernel
theorem dX1_isName_46 : decode cX1_isName 46 = .ok (.iinc 4 1, 3) := by decide +kernel
theorem dX1_isName_49 : decode cX1_isName 49 = .ok (.goto (-34), 3) := by decide +kernel
theorem dX1_isName_52 : decode cX1_isName 52 = .ok (.iconst 1, 1) := by decide +kernel
theorem dX1_isName_53 : decode cX1_isName 53 = .ok (.ireturn, 1) := by decide +kernel
theorem dX1_takesSpan_0 : decode cX1_takesSpan 0 = .ok (.aload_n 0, 1) := by decide +kernel
theorem dX1_takesSpan_1 : decode cX1_takesSpan 1 = .ok (.invokevirtual 94, 3) := by decide +kernel
theorem dX1_takesSpan_4 : decode cX1_takesSpan 4 = .ok (.istore_n 1, 1) := by decide +kernel
theorem dX1_takesSpan_5 : decode cX1_takesSpan 5 = .ok (.iload_n 1, 1) := by decide +kernel
theorem dX1_takesSpan_6 : decode cX1_takesSpan 6 = .ok (.iconst 1, 1) := by decide +kernel
theorem dX1_takesSpan_7 : decode cX1_takesSpan 7 = .ok (.if_icmp .lt 8, 3) := by decide +kernel
theorem dX1_takesSpan_10 : decode cX1_takesSpan 10 = .ok (.iload_n 1, 1) := by decide +kernel
theorem dX1_takesSpan_11 : decode cX1_takesSpan 11 = .ok (.iconst 4, 1) := by decide +kernel
theorem dX1_takesSpan_12 : decode cX1_takesSpan 12 = .ok (.if_icmp .le 5, 3) := by decide +kernel
theorem dX1_takesSpan_15 : decode cX1_takesSpan 15 = .ok (.iconst 0, 1) := by decide +kernel
theorem dX1_takesSpan_16 : decode cX1_takesSpan 16 = .ok (.ireturn, 1) := by decide +kernel
theorem dX1_takesSpan_17 : decode cX1_takesSpan 17 = .ok (.aload_n 0, 1) := by decide +kernel
theorem dX1_takesSpan_18 : decode cX1_takesSpan 18 = .ok (.getfield 23, 3) := by decide +kernel
theorem dX1_takesSpan_21 : decode cX1_takesSpan 21 = .ok (.iload_n 1, 1) := by decide +kernel
theorem dX1_takesSpan_22 : decode cX1_takesSpan 22 = .ok (.putfield 97, 3) := by decide +kernel
theorem dX1_takesSpan_25 : decode cX1_takesSpan 25 = .ok (.aload_n 0, 1) := by decide +kernel
theorem dX1_takesSpan_26 : decode cX1_takesSpan 26 = .ok (.dup, 1) := by decide +kernel
theorem dX1_takesSpan_27 : decode cX1_takesSpan 27 = .ok (.getfield 35, 3) := by decide +kernel
theorem dX1_takesSpan_30 : decode cX1_takesSpan 30 = .ok (.iconst 1, 1) := by decide +kernel
theorem dX1_takesSpan_31 : decode cX1_takesSpan 31 = .ok (.iadd, 1) := by decide +kernel
theorem dX1_takesSpan_32 : decode cX1_takesSpan 32 = .ok (.putfield 35, 3) := by decide +kernel
theorem dX1_takesSpan_35 : decode cX1_takesSpan 35 = .ok (.iconst 1, 1) := by decide +kernel
theorem dX1_takesSpan_36 : decode cX1_takesSpan 36 = .ok (.ireturn, 1) := by decide +kernel
theorem dX1_takesBooks_0 : decode cX1_takesBooks 0 = .ok (.iconst 0, 1) := by decide +kernel
theorem dX1_takesBooks_1 : decode cX1_takesBooks 1 = .ok (.istore_n 1, 1) := by decide +kernel
theorem dX1_takesBooks_2 : decode cX1_takesBooks 2 = .ok (.iload_n 1, 1) := by decide +kernel
theorem dX1_takesBooks_3 : decode cX1_takesBooks 3 = .ok (.bipush 7, 2) := by decide +kernel
theorem dX1_takesBooks_5 : decode cX1_takesBooks 5 = .ok (.if_icmp .ge 29, 3) := by decide +kernel
theorem dX1_takesBooks_8 : decode cX1_takesBooks 8 = .ok (.aload_n 0, 1) := by decide +kernel
theorem dX1_takesBooks_9 : decode cX1_takesBooks 9 = .ok (.invokevirtual 100, 3) := by decide +kernel
theorem dX1_takesBooks_12 : decode cX1_takesBooks 12 = .ok (.ifCond .ne 5, 3) := by decide +kernel
theorem dX1_takesBooks_15 : decode cX1_takesBooks 15 = .ok (.iconst 0, 1) := by decide +kernel
theorem dX1_takesBooks_16 : decode cX1_takesBooks 16 = .ok (.ireturn, 1) := by decide +kernel
theorem dX1_takesBooks_17 : decode cX1_takesBooks 17 = .ok (.aload_n 0, 1) := by decide +kernel
theorem dX1_takesBooks_18 : decode cX1_takesBooks 18 = .ok (.bipush 44, 2) := by decide +kernel
theorem dX1_takesBooks_20 : decode cX1_takesBooks 20 = .ok (.invokevirtual 45, 3) := by decide +kernel
theorem dX1_takesBooks_23 : decode cX1_takesBooks 23 = .ok (.ifCond .ne 5, 3) := by decide +kernel
theorem dX1_takesBooks_26 : decode cX1_takesBooks 26 = .ok (.iconst 1, 1) := by decide +kernel
theorem dX1_takesBooks_27 : decode cX1_takesBooks 27 = .ok (.ireturn, 1) := by decide +kernel
theorem dX1_takesBooks_28 : decode cX1_takesBooks 28 = .ok (.iinc 1 1, 3) := by decide +kernel
theorem dX1_takesBooks_31 : decode cX1_takesBooks 31 = .ok (.goto (-29), 3) := by decide +kernel
theorem dX1_takesBooks_34 : decode cX1_takesBooks 34 = .ok (.aload_n 0, 1) := by decide +kernel
theorem dX1_takesBooks_35 : decode cX1_takesBooks 35 = .ok (.invokevirtual 64, 3) := by decide +kernel
theorem dX1_takesBooks_38 : decode cX1_takesBooks 38 = .ok (.pop, 1) := by decide +kernel
theorem dX1_takesBooks_39 : decode cX1_takesBooks 39 = .ok (.iconst 0, 1) := by decide +kernel
theorem dX1_takesBooks_40 : decode cX1_takesBooks 40 = .ok (.ireturn, 1) := by decide +kernel
theorem dX1_takesBook_0 : decode cX1_takesBook 0 = .ok (.aload_n 0, 1) := by decide +kernel
theorem dX1_takesBook_1 : decode cX1_takesBook 1 = .ok (.invokevirtual 64, 3) := by decide +kernel
theorem dX1_takesBook_4 : decode cX1_takesBook 4 = .ok (.pop, 1) := by decide +kernel
theorem dX1_takesBook_5 : decode cX1_takesBook 5 = .ok (.iconst 0, 1) := by decide +kernel
theorem dX1_takesBook_6 : decode cX1_takesBook 6 = .ok (.istore_n 1, 1) := by decide +kernel
theorem dX1_takesBook_7 : decode cX1_takesBook 7 = .ok (.aload_n 0, 1) := by decide +kernel
theorem dX1_takesBook_8 : decode cX1_takesBook 8 = .ok (.getfield 35, 3) := by decide +kernel
theorem dX1_takesBook_11 : decode cX1_takesBook 11 = .ok (.aload_n 0, 1) := by decide +kernel
theorem dX1_takesBook_12 : decode cX1_takesBook 12 = .ok (.getfield 14, 3) := by decide +kernel
theorem dX1_takesBook_15 : decode cX1_takesBook 15 = .ok (.getfield 58, 3) := by decide +kernel
theorem dX1_takesBook_18 : decode cX1_takesBook 18 = .ok (.if_icmp .ge 67, 3) := by decide +kernel
theorem dX1_takesBook_21 : decode cX1_takesBook 21 = .ok (.aload_n 0, 1) := by decide +kernel
theorem dX1_takesBook_22 : decode cX1_takesBook 22 = .ok (.getfield 14, 3) := by decide +kernel
theorem dX1_takesBook_25 : decode cX1_takesBook 25 = .ok (.aload_n 0, 1) := by decide +kernel
theorem dX1_takesBook_26 : decode cX1_takesBook 26 = .ok (.getfield 35, 3) := by decide +kernel
theorem dX1_takesBook_29 : decode cX1_takesBook 29 = .ok (.invokevirtual 61, 3) := by decide +kernel
theorem dX1_takesBook_32 : decode cX1_takesBook 32 = .ok (.bipush 97, 2) := by decide +kernel
theorem dX1_takesBook_34 : decode cX1_takesBook 34 = .ok (.if_icmp .lt 51, 3) := by decide +kernel
theorem dX1_takesBook_37 : decode cX1_takesBook 37 = .ok (.aload_n 0, 1) := by decide +kernel
theorem dX1_takesBook_38 : decode cX1_takesBook 38 = .ok (.getfield 14, 3) := by decide +kernel
theorem dX1_takesBook_41 : decode cX1_takesBook 41 = .ok (.aload_n 0, 1) := by decide +kernel
theorem dX1_takesBook_42 : decode cX1_takesBook 42 = .ok (.getfield 35, 3) := by decide +kernel
theorem dX1_takesBook_45 : decode cX1_takesBook 45 = .ok (.invokevirtual 61, 3) := by decide +kernel
theorem dX1_takesBook_48 : decode cX1_takesBook 48 = .ok (.bipush 117, 2) := by decide +kernel
theorem dX1_takesBook_50 : decode cX1_takesBook 50 = .ok (.if_icmp .ge 35, 3) := by decide +kernel
theorem dX1_takesBook_53 : decode cX1_takesBook 53 = .ok (.iload_n 1, 1) := by decide +kernel
theorem dX1_takesBook_54 : decode cX1_takesBook 54 = .ok (.iconst 1, 1) := by decide +kernel
theorem dX1_takesBook_55 : decode cX1_takesBook 55 = .ok (.aload_n 0, 1) := by decide +kernel
theorem dX1_takesBook_56 : decode cX1_takesBook 56 = .ok (.getfield 14, 3) := by decide +kernel
theorem dX1_takesBook_59 : decode cX1_takesBook 59 = .ok (.aload_n 0, 1) := by decide +kernel
theorem dX1_takesBook_60 : decode cX1_takesBook 60 = .ok (.getfield 35, 3) := by decide +kernel
theorem dX1_takesBook_63 : decode cX1_takesBook 63 = .ok (.invokevirtual 61, 3) := by decide +kernel
theorem dX1_takesBook_66 : decode cX1_takesBook 66 = .ok (.bipush 97, 2) := by decide +kernel
theorem dX1_takesBook_68 : decode cX1_takesBook 68 = .ok (.isub, 1) := by decide +kernel
theorem dX1_takesBook_69 : decode cX1_takesBook 69 = .ok (.ishl, 1) := by decide +kernel
theorem dX1_takesBook_70 : decode cX1_takesBook 70 = .ok (.ior, 1) := by decide +kernel
theorem dX1_takesBook_71 : decode cX1_takesBook 71 = .ok (.istore_n 1, 1) := by decide +kernel
theorem dX1_takesBook_72 : decode cX1_takesBook 72 = .ok (.aload_n 0, 1) := by decide +kernel
theorem dX1_takesBook_73 : decode cX1_takesBook 73 = .ok (.dup, 1) := by decide +kernel
theorem dX1_takesBook_74 : decode cX1_takesBook 74 = .ok (.getfield 35, 3) := by decide +kernel
theorem dX1_takesBook_77 : decode cX1_takesBook 77 = .ok (.iconst 1, 1) := by decide +kernel
theorem dX1_takesBook_78 : decode cX1_takesBook 78 = .ok (.iadd, 1) := by decide +kernel
theorem dX1_takesBook_79 : decode cX1_takesBook 79 = .ok (.putfield 35, 3) := by decide +kernel
theorem dX1_takesBook_82 : decode cX1_takesBook 82 = .ok (.goto (-75), 3) := by decide +kernel
theorem dX1_takesBook_85 : decode cX1_takesBook 85 = .ok (.aload_n 0, 1) := by decide +kernel
theorem dX1_takesBook_86 : decode cX1_takesBook 86 = .ok (.getfield 23, 3) := by decide +kernel
theorem dX1_takesBook_89 : decode cX1_takesBook 89 = .ok (.iload_n 1, 1) := by decide +kernel
theorem dX1_takesBook_90 : decode cX1_takesBook 90 = .ok (.invokevirtual 103, 3) := by decide +kernel
theorem dX1_takesBook_93 : decode cX1_takesBook 93 = .ok (.ifCond .lt 7, 3) := by decide +kernel
theorem dX1_takesBook_96 : decode cX1_takesBook 96 = .ok (.iconst 1, 1) := by decide +kernel
theorem dX1_takesBook_97 : decode cX1_takesBook 97 = .ok (.goto 4, 3) := by decide +kernel
theorem dX1_takesBook_100 : decode cX1_takesBook 100 = .ok (.iconst 0, 1) := by decide +kernel
theorem dX1_takesBook_101 : decode cX1_takesBook 101 = .ok (.ireturn, 1) := by decide +kernel
theorem dX1_takesPairs_0 : decode cX1_takesPairs 0 = .ok (.iconst 0, 1) := by decide +kernel
theorem dX1_takesPairs_1 : decode cX1_takesPairs 1 = .ok (.istore_n 1, 1) := by decide +kernel
theorem dX1_takesPairs_2 : decode cX1_takesPairs 2 = .ok (.iload_n 1, 1) := by decide +kernel
theorem dX1_takesPairs_3 : decode cX1_takesPairs 3 = .ok (.bipush 90, 2) := by decide +kernel
theorem dX1_takesPairs_5 : decode cX1_takesPairs 5 = .ok (.if_icmp .ge 38, 3) := by decide +kernel
theorem dX1_takesPairs_8 : decode cX1_takesPairs 8 = .ok (.aload_n 0, 1) := by decide +kernel
theorem dX1_takesPairs_9 : decode cX1_takesPairs 9 = .ok (.invokevirtual 107, 3) := by decide +kernel
theorem dX1_takesPairs_12 : decode cX1_takesPairs 12 = .ok (.ifCond .ne 5, 3) := by decide +kernel
theorem dX1_takesPairs_15 : decode cX1_takesPairs 15 = .ok (.iconst 0, 1) := by decide +kernel
theorem dX1_takesPairs_16 : decode cX1_takesPairs 16 = .ok (.ireturn, 1) := by decide +kernel
theorem dX1_takesPairs_17 : decode cX1_takesPairs 17 = .ok (.aload_n 0, 1) := by decide +kernel
theorem dX1_takesPairs_18 : decode cX1_takesPairs 18 = .ok (.invokevirtual 52, 3) := by decide +kernel
theorem dX1_takesPairs_21 : decode cX1_takesPairs 21 = .ok (.ifCond .eq 5, 3) := by decide +kernel
theorem dX1_takesPairs_24 : decode cX1_takesPairs 24 = .ok (.iconst 1, 1) := by decide +kernel
theorem dX1_takesPairs_25 : decode cX1_takesPairs 25 = .ok (.ireturn, 1) := by decide +kernel
theorem dX1_takesPairs_26 : decode cX1_takesPairs 26 = .ok (.aload_n 0, 1) := by decide +kernel
theorem dX1_takesPairs_27 : decode cX1_takesPairs 27 = .ok (.bipush 44, 2) := by decide +kernel
theorem dX1_takesPairs_29 : decode cX1_takesPairs 29 = .ok (.invokevirtual 45, 3) := by decide +kernel
theorem dX1_takesPairs_32 : decode cX1_takesPairs 32 = .ok (.ifCond .ne 5, 3) := by decide +kernel
theorem dX1_takesPairs_35 : decode cX1_takesPairs 35 = .ok (.iconst 0, 1) := by decide +kernel
theorem dX1_takesPairs_36 : decode cX1_takesPairs 36 = .ok (.ireturn, 1) := by decide +kernel
theorem dX1_takesPairs_37 : decode cX1_takesPairs 37 = .ok (.iinc 1 1, 3) := by decide +kernel
theorem dX1_takesPairs_40 : decode cX1_takesPairs 40 = .ok (.goto (-38), 3) := by decide +kernel
theorem dX1_takesPairs_43 : decode cX1_takesPairs 43 = .ok (.iconst 0, 1) := by decide +kernel
theorem dX1_takesPairs_44 : decode cX1_takesPairs 44 = .ok (.ireturn, 1) := by decide +kernel
theorem dX1_takesPair_0 : decode cX1_takesPair 0 = .ok (.aload_n 0, 1) := by decide +kernel
theorem dX1_takesPair_1 : decode cX1_takesPair 1 = .ok (.invokevirtual 94, 3) := by decide +kernel
theorem dX1_takesPair_4 : decode cX1_takesPair 4 = .ok (.istore_n 1, 1) := by decide +kernel
theorem dX1_takesPair_5 : decode cX1_takesPair 5 = .ok (.aload_n 0, 1) := by decide +kernel
theorem dX1_takesPair_6 : decode cX1_takesPair 6 = .ok (.getfield 23, 3) := by decide +kernel
theorem dX1_takesPair_9 : decode cX1_takesPair 9 = .ok (.iload_n 1, 1) := by decide +kernel
theorem dX1_takesPair_10 : decode cX1_takesPair 10 = .ok (.invokevirtual 110, 3) := by decide +kernel
theorem dX1_takesPair_13 : decode cX1_takesPair 13 = .ok (.ifCond .ne 5, 3) := by decide +kernel
theorem dX1_takesPair_16 : decode cX1_takesPair 16 = .ok (.iconst 0, 1) := by decide +kernel
theorem dX1_takesPair_17 : decode cX1_takesPair 17 = .ok (.ireturn, 1) := by decide +kernel
theorem dX1_takesPair_18 : decode cX1_takesPair 18 = .ok (.aload_n 0, 1) := by decide +kernel
theorem dX1_takesPair_19 : decode cX1_takesPair 19 = .ok (.dup, 1) := by decide +kernel
theorem dX1_takesPair_20 : decode cX1_takesPair 20 = .ok (.getfield 35, 3) := by decide +kernel
theorem dX1_takesPair_23 : decode cX1_takesPair 23 = .ok (.iconst 1, 1) := by decide +kernel
theorem dX1_takesPair_24 : decode cX1_takesPair 24 = .ok (.iadd, 1) := by decide +kernel
theorem dX1_takesPair_25 : decode cX1_takesPair 25 = .ok (.putfield 35, 3) := by decide +kernel
theorem dX1_takesPair_28 : decode cX1_takesPair 28 = .ok (.aload_n 0, 1) := by decide +kernel
theorem dX1_takesPair_29 : decode cX1_takesPair 29 = .ok (.invokevirtual 94, 3) := by decide +kernel
theorem dX1_takesPair_32 : decode cX1_takesPair 32 = .ok (.istore_n 2, 1) := by decide +kernel
theorem dX1_takesPair_33 : decode cX1_takesPair 33 = .ok (.aload_n 0, 1) := by decide +kernel
theorem dX1_takesPair_34 : decode cX1_takesPair 34 = .ok (.getfield 23, 3) := by decide +kernel
theorem dX1_takesPair_37 : decode cX1_takesPair 37 = .ok (.iload_n 2, 1) := by decide +kernel
theorem dX1_takesPair_38 : decode cX1_takesPair 38 = .ok (.invokevirtual 110, 3) := by decide +kernel
theorem dX1_takesPair_41 : decode cX1_takesPair 41 = .ok (.ifCond .eq 31, 3) := by decide +kernel
theorem dX1_takesPair_44 : decode cX1_takesPair 44 = .ok (.aload_n 0, 1) := by decide +kernel
theorem dX1_takesPair_45 : decode cX1_takesPair 45 = .ok (.getfield 23, 3) := by decide +kernel
theorem dX1_takesPair_48 : decode cX1_takesPair 48 = .ok (.getfield 114, 3) := by decide +kernel
theorem dX1_takesPair_51 : decode cX1_takesPair 51 = .ok (.iload_n 1, 1) := by decide +kernel
theorem dX1_takesPair_52 : decode cX1_takesPair 52 = .ok (.iaload, 1) := by decide +kernel
theorem dX1_takesPair_53 : decode cX1_takesPair 53 = .ok (.iload_n 2, 1) := by decide +kernel
theorem dX1_takesPair_54 : decode cX1_takesPair 54 = .ok (.invokestatic 118, 3) := by decide +kernel
theorem dX1_takesPair_57 : decode cX1_takesPair 57 = .ok (.ifCond .ne 15, 3) := by decide +kernel
theorem dX1_takesPair_60 : decode cX1_takesPair 60 = .ok (.aload_n 0, 1) := by decide +kernel
theorem dX1_takesPair_61 : decode cX1_takesPair 61 = .ok (.getfield 23, 3) := by decide +kernel
theorem dX1_takesPair_64 : decode cX1_takesPair 64 = .ok (.iload_n 1, 1) := by decide +kernel
theorem dX1_takesPair_65 : decode cX1_takesPair 65 = .ok (.iload_n 2, 1) := by decide +kernel
theorem dX1_takesPair_66 : decode cX1_takesPair 66 = .ok (.invokevirtual 122, 3) := by decide +kernel
theorem dX1_takesPair_69 : decode cX1_takesPair 69 = .ok (.ifCond .ge 5, 3) := by decide +kernel
theorem dX1_takesPair_72 : decode cX1_takesPair 72 = .ok (.iconst 0, 1) := by decide +kernel
theorem dX1_takesPair_73 : decode cX1_takesPair 73 = .ok (.ireturn, 1) := by decide +kernel
theorem dX1_takesPair_74 : decode cX1_takesPair 74 = .ok (.aload_n 0, 1) := by decide +kernel
theorem dX1_takesPair_75 : decode cX1_takesPair 75 = .ok (.dup, 1) := by decide +kernel
theorem dX1_takesPair_76 : decode cX1_takesPair 76 = .ok (.getfield 35, 3) := by decide +kernel
theorem dX1_takesPair_79 : decode cX1_takesPair 79 = .ok (.iconst 1, 1) := by decide +kernel
theorem dX1_takesPair_80 : decode cX1_takesPair 80 = .ok (.iadd, 1) := by decide +kernel
theorem dX1_takesPair_81 : decode cX1_takesPair 81 = .ok (.putfield 35, 3) := by decide +kernel
theorem dX1_takesPair_84 : decode cX1_takesPair 84 = .ok (.iconst 1, 1) := by decide +kernel
theorem dX1_takesPair_85 : decode cX1_takesPair 85 = .ok (.ireturn, 1) := by decide +kernel
theorem dX2_init_0 : decode cX2_init 0 = .ok (.aload_n 0, 1) := by decide +kernel
theorem dX2_init_1 : decode cX2_init 1 = .ok (.invokespecial 3, 3) := by decide +kernel
theorem dX2_init_4 : decode cX2_init 4 = .ok (.aload_n 0, 1) := by decide +kernel
theorem dX2_init_5 : decode cX2_init 5 = .ok (.bipush 6, 2) := by decide +kernel
theorem dX2_init_7 : decode cX2_init 7 = .ok (.anewarray 9, 3) := by decide +kernel
theorem dX2_init_10 : decode cX2_init 10 = .ok (.putfield 11, 3) := by decide +kernel
theorem dX2_init_13 : decode cX2_init 13 = .ok (.iconst 0, 1) := by decide +kernel
theorem dX2_init_14 : decode cX2_init 14 = .ok (.istore_n 1, 1) := by decide +kernel
theorem dX2_init_15 : decode cX2_init 15 = .ok (.iload_n 1, 1) := by decide +kernel
theorem dX2_init_16 : decode cX2_init 16 = .ok (.bipush 6, 2) := by decide +kernel
theorem dX2_init_18 : decode cX2_init 18 = .ok (.if_icmp .ge 22, 3) := by decide +kernel
theorem dX2_init_21 : decode cX2_init 21 = .ok (.aload_n 0, 1) := by decide +kernel
theorem dX2_init_22 : decode cX2_init 22 = .ok (.getfield 11, 3) := by decide +kernel
theorem dX2_init_25 : decode cX2_init 25 = .ok (.iload_n 1, 1) := by decide +kernel
theorem dX2_init_26 : decode cX2_init 26 = .ok (.new 9, 3) := by decide +kernel
theorem dX2_init_29 : decode cX2_init 29 = .ok (.dup, 1) := by decide +kernel
theorem dX2_init_30 : decode cX2_init 30 = .ok (.invokespecial 17, 3) := by decide +kernel
theorem dX2_init_33 : decode cX2_init 33 = .ok (.aastore, 1) := by decide +kernel
theorem dX2_init_34 : decode cX2_init 34 = .ok (.iinc 1 1, 3) := by decide +kernel
theorem dX2_init_37 : decode cX2_init 37 = .ok (.goto (-22), 3) := by decide +kernel
theorem dX2_init_40 : decode cX2_init 40 = .ok (.return_, 1) := by decide +kernel
theorem dX2_keep_0 : decode cX2_keep 0 = .ok (.aload_n 0, 1) := by decide +kernel
theorem dX2_keep_1 : decode cX2_keep 1 = .ok (.getfield 18, 3) := by decide +kernel
theorem dX2_keep_4 : decode cX2_keep 4 = .ok (.bipush 6, 2) := by decide +kernel
theorem dX2_keep_6 : decode cX2_keep 6 = .ok (.if_icmp .lt 7, 3) := by decide +kernel
theorem dX2_keep_9 : decode cX2_keep 9 = .ok (.aload_n 0, 1) := by decide +kernel
theorem dX2_keep_10 : decode cX2_keep 10 = .ok (.invokevirtual 22, 3) := by decide +kernel
theorem dX2_keep_13 : decode cX2_keep 13 = .ok (.aload_n 0, 1) := by decide +kernel
theorem dX2_keep_14 : decode cX2_keep 14 = .ok (.getfield 11, 3) := by decide +kernel
theorem dX2_keep_17 : decode cX2_keep 17 = .ok (.aload_n 0, 1) := by decide +kernel
theorem dX2_keep_18 : decode cX2_keep 18 = .ok (.getfield 18, 3) := by decide +kernel
theorem dX2_keep_21 : decode cX2_keep 21 = .ok (.aaload, 1) := by decide +kernel
theorem dX2_keep_22 : decode cX2_keep 22 = .ok (.aload_n 1, 1) := by decide +kernel
theorem dX2_keep_23 : decode cX2_keep 23 = .ok (.invokevirtual 25, 3) := by decide +kernel
theorem dX2_keep_26 : decode cX2_keep 26 = .ok (.aload_n 0, 1) := by decide +kernel
theorem dX2_keep_27 : decode cX2_keep 27 = .ok (.dup, 1) := by decide +kernel
theorem dX2_keep_28 : decode cX2_keep 28 = .ok (.getfield 18, 3) := by decide +kernel
theorem dX2_keep_31 : decode cX2_keep 31 = .ok (.iconst 1, 1) := by decide +kernel
theorem dX2_keep_32 : decode cX2_keep 32 = .ok (.iadd, 1) := by decide +kernel
theorem dX2_keep_33 : decode cX2_keep 33 = .ok (.putfield 18, 3) := by decide +kernel
theorem dX2_keep_36 : decode cX2_keep 36 = .ok (.return_, 1) := by decide +kernel
theorem dX2_loseOldest_0 : decode cX2_loseOldest 0 = .ok (.aload_n 0, 1) := by decide +kernel
theorem dX2_loseOldest_1 : decode cX2_loseOldest 1 = .ok (.getfield 11, 3) := by decide +kernel
theorem dX2_loseOldest_4 : decode cX2_loseOldest 4 = .ok (.iconst 0, 1) := by decide +kernel
theorem dX2_loseOldest_5 : decode cX2_loseOldest 5 = .ok (.aaload, 1) := by decide +kernel
theorem dX2_loseOldest_6 : decode cX2_loseOldest 6 = .ok (.astore_n 1, 1) := by decide +kernel
theorem dX2_loseOldest_7 : decode cX2_loseOldest 7 = .ok (.iconst 0, 1) := by decide +kernel
theorem dX2_loseOldest_8 : decode cX2_loseOldest 8 = .ok (.istore_n 2, 1) := by decide +kernel
theorem dX2_loseOldest_9 : decode cX2_loseOldest 9 = .ok (.iload_n 2, 1) := by decide +kernel
theorem dX2_loseOldest_10 : decode cX2_loseOldest 10 = .ok (.iconst 1, 1) := by decide +kernel
theorem dX2_loseOldest_11 : decode cX2_loseOldest 11 = .ok (.iadd, 1) := by decide +kernel
theorem dX2_loseOldest_12 : decode cX2_loseOldest 12 = .ok (.bipush 6, 2) := by decide +kernel
theorem dX2_loseOldest_14 : decode cX2_loseOldest 14 = .ok (.if_icmp .ge 23, 3) := by decide +kernel
theorem dX2_loseOldest_17 : decode cX2_loseOldest 17 = .ok (.aload_n 0, 1) := by decide +kernel
theorem dX2_loseOldest_18 : decode cX2_loseOldest 18 = .ok (.getfield 11, 3) := by decide +kernel
theorem dX2_loseOldest_21 : decode cX2_loseOldest 21 = .ok (.iload_n 2, 1) := by decide +kernel
theorem dX2_loseOldest_22 : decode cX2_loseOldest 22 = .ok (.aload_n 0, 1) := by decide +kernel
theorem dX2_loseOldest_23 : decode cX2_loseOldest 23 = .ok (.getfield 11, 3) := by decide +kernel
theorem dX2_loseOldest_26 : decode cX2_loseOldest 26 = .ok (.iload_n 2, 1) := by decide +kernel
theorem dX2_loseOldest_27 : decode cX2_loseOldest 27 = .ok (.iconst 1, 1) := by decide +kernel
theorem dX2_loseOldest_28 : decode cX2_loseOldest 28 = .ok (.iadd, 1) := by decide +kernel
theorem dX2_loseOldest_29 : decode cX2_loseOldest 29 = .ok (.aaload, 1) := by decide +kernel
theorem dX2_loseOldest_30 : decode cX2_loseOldest 30 = .ok (.aastore, 1) := by decide +kernel
theorem dX2_loseOldest_31 : decode cX2_loseOldest 31 = .ok (.iinc 2 1, 3) := by decide +kernel
theorem dX2_loseOldest_34 : decode cX2_loseOldest 34 = .ok (.goto (-25), 3) := by decide +kernel
theorem dX2_loseOldest_37 : decode cX2_loseOldest 37 = .ok (.aload_n 0, 1) := by decide +kernel
theorem dX2_loseOldest_38 : decode cX2_loseOldest 38 = .ok (.getfield 11, 3) := by decide +kernel
theorem dX2_loseOldest_41 : decode cX2_loseOldest 41 = .ok (.iconst 5, 1) := by decide +kernel
theorem dX2_loseOldest_42 : decode cX2_loseOldest 42 = .ok (.aload_n 1, 1) := by decide +kernel
theorem dX2_loseOldest_43 : decode cX2_loseOldest 43 = .ok (.aastore, 1) := by decide +kernel
theorem dX2_loseOldest_44 : decode cX2_loseOldest 44 = .ok (.aload_n 0, 1) := by decide +kernel
theorem dX2_loseOldest_45 : decode cX2_loseOldest 45 = .ok (.iconst 5, 1) := by decide +kernel
theorem dX2_loseOldest_46 : decode cX2_loseOldest 46 = .ok (.putfield 18, 3) := by decide +kernel
theorem dX2_loseOldest_49 : decode cX2_loseOldest 49 = .ok (.return_, 1) := by decide +kernel
theorem dX2_bringBack_0 : decode cX2_bringBack 0 = .ok (.aload_n 0, 1) := by decide +kernel
theorem dX2_bringBack_1 : decode cX2_bringBack 1 = .ok (.getfield 18, 3) := by decide +kernel
theorem dX2_bringBack_4 : decode cX2_bringBack 4 = .ok (.ifCond .gt 5, 3) := by decide +kernel
theorem dX2_bringBack_7 : decode cX2_bringBack 7 = .ok (.iconst 0, 1) := by decide +kernel
theorem dX2_bringBack_8 : decode cX2_bringBack 8 = .ok (.ireturn, 1) := by decide +kernel
theorem dX2_bringBack_9 : decode cX2_bringBack 9 = .ok (.aload_n 0, 1) := by decide +kernel
theorem dX2_bringBack_10 : decode cX2_bringBack 10 = .ok (.dup, 1) := by decide +kernel
theorem dX2_bringBack_11 : decode cX2_bringBack 11 = .ok (.getfield 18, 3) := by decide +kernel
theorem dX2_bringBack_14 : decode cX2_bringBack 14 = .ok (.iconst 1, 1) := by decide +kernel
theorem dX2_bringBack_15 : decode cX2_bringBack 15 = .ok (.isub, 1) := by decide +kernel
theorem dX2_bringBack_16 : decode cX2_bringBack 16 = .ok (.putfield 18, 3) := by decide +kernel
theorem dX2_bringBack_19 : decode cX2_bringBack 19 = .ok (.aload_n 1, 1) := by decide +kernel
theorem dX2_bringBack_20 : decode cX2_bringBack 20 = .ok (.aload_n 0, 1) := by decide +kernel
theorem dX2_bringBack_21 : decode cX2_bringBack 21 = .ok (.getfield 11, 3) := by decide +kernel
theorem dX2_bringBack_24 : decode cX2_bringBack 24 = .ok (.aload_n 0, 1) := by decide +kernel
theorem dX2_bringBack_25 : decode cX2_bringBack 25 = .ok (.getfield 18, 3) := by decide +kernel
theorem dX2_bringBack_28 : decode cX2_bringBack 28 = .ok (.aaload, 1) := by decide +kernel
theorem dX2_bringBack_29 : decode cX2_bringBack 29 = .ok (.invokevirtual 25, 3) := by decide +kernel
theorem dX2_bringBack_32 : decode cX2_bringBack 32 = .ok (.iconst 1, 1) := by decide +kernel
theorem dX2_bringBack_33 : decode cX2_bringBack 33 = .ok (.ireturn, 1) := by decide +kernel
theorem dX2_takeFrom_0 : decode cX2_takeFrom 0 = .ok (.iconst 0, 1) := by decide +kernel
theorem dX2_takeFrom_1 : decode cX2_takeFrom 1 = .ok (.istore_n 2, 1) := by decide +kernel
theorem dX2_takeFrom_2 : decode cX2_takeFrom 2 = .ok (.iload_n 2, 1) := by decide +kernel
theorem dX2_takeFrom_3 : decode cX2_takeFrom 3 = .ok (.bipush 6, 2) := by decide +kernel
theorem dX2_takeFrom_5 : decode cX2_takeFrom 5 = .ok (.if_icmp .ge 24, 3) := by decide +kernel
theorem dX2_takeFrom_8 : decode cX2_takeFrom 8 = .ok (.aload_n 0, 1) := by decide +kernel
theorem dX2_takeFrom_9 : decode cX2_takeFrom 9 = .ok (.getfield 11, 3) := by decide +kernel
theorem dX2_takeFrom_12 : decode cX2_takeFrom 12 = .ok (.iload_n 2, 1) := by decide +kernel
theorem dX2_takeFrom_13 : decode cX2_takeFrom 13 = .ok (.aaload, 1) := by decide +kernel
theorem dX2_takeFrom_14 : decode cX2_takeFrom 14 = .ok (.aload_n 1, 1) := by decide +kernel
theorem dX2_takeFrom_15 : decode cX2_takeFrom 15 = .ok (.getfield 11, 3) := by decide +kernel
theorem dX2_takeFrom_18 : decode cX2_takeFrom 18 = .ok (.iload_n 2, 1) := by decide +kernel
theorem dX2_takeFrom_19 : decode cX2_takeFrom 19 = .ok (.aaload, 1) := by decide +kernel
theorem dX2_takeFrom_20 : decode cX2_takeFrom 20 = .ok (.invokevirtual 25, 3) := by decide +kernel
theorem dX2_takeFrom_23 : decode cX2_takeFrom 23 = .ok (.iinc 2 1, 3) := by decide +kernel
theorem dX2_takeFrom_26 : decode cX2_takeFrom 26 = .ok (.goto (-24), 3) := by decide +kernel
theorem dX2_takeFrom_29 : decode cX2_takeFrom 29 = .ok (.aload_n 0, 1) := by decide +kernel
theorem dX2_takeFrom_30 : decode cX2_takeFrom 30 = .ok (.aload_n 1, 1) := by decide +kernel
theorem dX2_takeFrom_31 : decode cX2_takeFrom 31 = .ok (.getfield 18, 3) := by decide +kernel
theorem dX2_takeFrom_34 : decode cX2_takeFrom 34 = .ok (.putfield 18, 3) := by decide +kernel
theorem dX2_takeFrom_37 : decode cX2_takeFrom 37 = .ok (.return_, 1) := by decide +kernel
theorem dX3_init_0 : decode cX3_init 0 = .ok (.aload_n 0, 1) := by decide +kernel
theorem dX3_init_1 : decode cX3_init 1 = .ok (.invokespecial 3, 3) := by decide +kernel
theorem dX3_init_4 : decode cX3_init 4 = .ok (.aload_n 0, 1) := by decide +kernel
theorem dX3_init_5 : decode cX3_init 5 = .ok (.bipush 10, 2) := by decide +kernel
theorem dX3_init_7 : decode cX3_init 7 = .ok (.newarray .int, 2) := by decide +kernel
theorem dX3_init_9 : decode cX3_init 9 = .ok (.putfield 9, 3) := by decide +kernel
theorem dX3_init_12 : decode cX3_init 12 = .ok (.aload_n 0, 1) := by decide +kernel
theorem dX3_init_13 : decode cX3_init 13 = .ok (.bipush 8, 2) := by decide +kernel
theorem dX3_init_15 : decode cX3_init 15 = .ok (.newarray .int, 2) := by decide +kernel
theorem dX3_init_17 : decode cX3_init 17 = .ok (.putfield 15, 3) := by decide +kernel
theorem dX3_init_20 : decode cX3_init 20 = .ok (.aload_n 0, 1) := by decide +kernel
theorem dX3_init_21 : decode cX3_init 21 = .ok (.bipush 8, 2) := by decide +kernel
theorem dX3_init_23 : decode cX3_init 23 = .ok (.newarray .int, 2) := by decide +kernel
theorem dX3_init_25 : decode cX3_init 25 = .ok (.putfield 18, 3) := by decide +kernel
theorem dX3_init_28 : decode cX3_init 28 = .ok (.aload_n 0, 1) := by decide +kernel
theorem dX3_init_29 : decode cX3_init 29 = .ok (.bipush 8, 2) := by decide +kernel
theorem dX3_init_31 : decode cX3_init 31 = .ok (.newarray .int, 2) := by decide +kernel
theorem dX3_init_33 : decode cX3_init 33 = .ok (.putfield 21, 3) := by decide +kernel
theorem dX3_init_36 : decode cX3_init 36 = .ok (.aload_n 0, 1) := by decide +kernel
theorem dX3_init_37 : decode cX3_init 37 = .ok (.bipush 8, 2) := by decide +kernel
theorem dX3_init_39 : decode cX3_init 39 = .ok (.bipush 7, 2) := by decide +kernel
theorem dX3_init_41 : decode cX3_init 41 = .ok (.multianewarray 24 2, 4) := by decide +kernel
theorem dX3_init_45 : decode cX3_init 45 = .ok (.putfield 26, 3) := by decide +kernel
theorem dX3_init_48 : decode cX3_init 48 = .ok (.aload_n 0, 1) := by decide +kernel
theorem dX3_init_49 : decode cX3_init 49 = .ok (.bipush 7, 2) := by decide +kernel
theorem dX3_init_51 : decode cX3_init 51 = .ok (.newarray .int, 2) := by decide +kernel
theorem dX3_init_53 : decode cX3_init 53 = .ok (.putfield 29, 3) := by decide +kernel
theorem dX3_init_56 : decode cX3_init 56 = .ok (.aload_n 0, 1) := by decide +kernel
theorem dX3_init_57 : decode cX3_init 57 = .ok (.bipush 7, 2) := by decide +kernel
theorem dX3_init_59 : decode cX3_init 59 = .ok (.newarray .int, 2) := by decide +kernel
theorem dX3_init_61 : decode cX3_init 61 = .ok (.putfield 32, 3) := by decide +kernel
theorem dX3_init_64 : decode cX3_init 64 = .ok (.aload_n 0, 1) := by decide +kernel
theorem dX3_init_65 : decode cX3_init 65 = .ok (.bipush 7, 2) := by decide +kernel
theorem dX3_init_67 : decode cX3_init 67 = .ok (.newarray .int, 2) := by decide +kernel
theorem dX3_init_69 : decode cX3_init 69 = .ok (.putfield 35, 3) := by decide +kernel
theorem dX3_init_72 : decode cX3_init 72 = .ok (.return_, 1) := by decide +kernel
theorem dX3_begin_0 : decode cX3_begin 0 = .ok (.aload_n 0, 1) := by decide +kernel
theorem dX3_begin_1 : decode cX3_begin 1 = .ok (.aload_n 1, 1) := by decide +kernel
theorem dX3_begin_2 : decode cX3_begin 2 = .ok (.getfield 38, 3) := by decide +kernel
theorem dX3_begin_5 : decode cX3_begin 5 = .ok (.putfield 44, 3) := by decide +kernel
theorem dX3_begin_8 : decode cX3_begin 8 = .ok (.iconst 1, 1) := by decide +kernel
theorem dX3_begin_9 : decode cX3_begin 9 = .ok (.istore_n 2, 1) := by decide +kernel
theorem dX3_begin_10 : decode cX3_begin 10 = .ok (.iload_n 2, 1) := by decide +kernel
theorem dX3_begin_11 : decode cX3_begin 11 = .ok (.bipush 9, 2) := by decide +kernel
theorem dX3_begin_13 : decode cX3_begin 13 = .ok (.if_icmp .gt 28, 3) := by decide +kernel
theorem dX3_begin_16 : decode cX3_begin 16 = .ok (.aload_n 0, 1) := by decide +kernel
theorem dX3_begin_17 : decode cX3_begin 17 = .ok (.getfield 9, 3) := by decide +kernel
theorem dX3_begin_20 : decode cX3_begin 20 = .ok (.iload_n 2, 1) := by decide +kernel
theorem dX3_begin_21 : decode cX3_begin 21 = .ok (.aload_n 1, 1) := by decide +kernel
theorem dX3_begin_22 : decode cX3_begin 22 = .ok (.getfield 47, 3) := by decide +kernel
theorem dX3_begin_25 : decode cX3_begin 25 = .ok (.aload_n 1, 1) := by decide +kernel
theorem dX3_begin_26 : decode cX3_begin 26 = .ok (.getfield 50, 3) := by decide +kernel
theorem dX3_begin_29 : decode cX3_begin 29 = .ok (.iload_n 2, 1) := by decide +kernel
theorem dX3_begin_30 : decode cX3_begin 30 = .ok (.invokestatic 53, 3) := by decide +kernel
theorem dX3_begin_33 : decode cX3_begin 33 = .ok (.imul, 1) := by decide +kernel
theorem dX3_begin_34 : decode cX3_begin 34 = .ok (.iastore, 1) := by decide +kernel
theorem dX3_begin_35 : decode cX3_begin 35 = .ok (.iinc 2 1, 3) := by decide +kernel
theorem dX3_begin_38 : decode cX3_begin 38 = .ok (.goto (-28), 3) := by decide +kernel
theorem dX3_begin_41 : decode cX3_begin 41 = .ok (.return_, 1) := by decide +kernel
theorem dX3_factor_0 : decode cX3_factor 0 = .ok (.iload_n 0, 1) := by decide +kernel
theorem dX3_factor_1 : decode cX3_factor 1 = .ok (.lookupswitch 35 #[(1, 27), (2, 29)], 27) := by decide +kernel
theorem dX3_factor_28 : decode cX3_factor 28 = .ok (.iload_n 1, 1) := by decide +kernel
theorem dX3_factor_29 : decode cX3_factor 29 = .ok (.ireturn, 1) := by decide +kernel
theorem dX3_factor_30 : decode cX3_factor 30 = .ok (.iconst 1, 1) := by decide +kernel
theorem dX3_factor_31 : decode cX3_factor 31 = .ok (.iload_n 1, 1) := by decide +kernel
theorem dX3_factor_32 : decode cX3_factor 32 = .ok (.iconst 1, 1) := by decide +kernel
theorem dX3_factor_33 : decode cX3_factor 33 = .ok (.isub, 1) := by decide +kernel
theorem dX3_factor_34 : decode cX3_factor 34 = .ok (.ishl, 1) := by decide +kernel
theorem dX3_factor_35 : decode cX3_factor 35 = .ok (.ireturn, 1) := by decide +kernel
theorem dX3_factor_36 : decode cX3_factor 36 = .ok (.iconst 1, 1) := by decide +kernel
theorem dX3_factor_37 : decode cX3_factor 37 = .ok (.ireturn, 1) := by decide +kernel
theorem dX3_readOrder_0 : decode cX3_readOrder 0 = .ok (.aload_n 0, 1) := by decide +kernel
theorem dX3_readOrder_1 : decode cX3_readOrder 1 = .ok (.aload_n 1, 1) := by decide +kernel
theorem dX3_readOrder_2 : decode cX3_readOrder 2 = .ok (.invokevirtual 57, 3) := by decide +kernel
theorem dX3_readOrder_5 : decode cX3_readOrder 5 = .ok (.iconst 0, 1) := by decide +kernel
theorem dX3_readOrder_6 : decode cX3_readOrder 6 = .ok (.istore_n 2, 1) := by decide +kernel
theorem dX3_readOrder_7 : decode cX3_readOrder 7 = .ok (.iload_n 2, 1) := by decide +kernel
theorem dX3_readOrder_8 : decode cX3_readOrder 8 = .ok (.aload_n 0, 1) := by decide +kernel
theorem dX3_readOrder_9 : decode cX3_readOrder 9 = .ok (.getfield 44, 3) := by decide +kernel
theorem dX3_readOrder_12 : decode cX3_readOrder 12 = .ok (.if_icmp .ge 24, 3) := by decide +kernel
theorem dX3_readOrder_15 : decode cX3_readOrder 15 = .ok (.aload_n 0, 1) := by decide +kernel
theorem dX3_readOrder_16 : decode cX3_readOrder 16 = .ok (.iload_n 2, 1) := by decide +kernel
theorem dX3_readOrder_17 : decode cX3_readOrder 17 = .ok (.aload_n 1, 1) := by decide +kernel
theorem dX3_readOrder_18 : decode cX3_readOrder 18 = .ok (.aload_n 1, 1) := by decide +kernel
theorem dX3_readOrder_19 : decode cX3_readOrder 19 = .ok (.getfield 61, 3) := by decide +kernel
theorem dX3_readOrder_22 : decode cX3_readOrder 22 = .ok (.iload_n 2, 1) := by decide +kernel
theorem dX3_readOrder_23 : decode cX3_readOrder 23 = .ok (.iaload, 1) := by decide +kernel
theorem dX3_readOrder_24 : decode cX3_readOrder 24 = .ok (.invokevirtual 64, 3) := by decide +kernel
theorem dX3_readOrder_27 : decode cX3_readOrder 27 = .ok (.invokevirtual 68, 3) := by decide +kernel
theorem dX3_readOrder_30 : decode cX3_readOrder 30 = .ok (.iinc 2 1, 3) := by decide +kernel
theorem dX3_readOrder_33 : decode cX3_readOrder 33 = .ok (.goto (-26), 3) := by decide +kernel
theorem dX3_readOrder_36 : decode cX3_readOrder 36 = .ok (.return_, 1) := by decide +kernel
theorem dX3_step_0 : decode cX3_step 0 = .ok (.iload_n 1, 1) := by decide +kernel
theorem dX3_step_1 : decode cX3_step 1 = .ok (.ifCond .lt 17, 3) := by decide +kernel
theorem dX3_step_4 : decode cX3_step 4 = .ok (.iload_n 1, 1) := by decide +kernel
theorem dX3_step_5 : decode cX3_step 5 = .ok (.aload_n 0, 1) := by decide +kernel
theorem dX3_step_6 : decode cX3_step 6 = .ok (.getfield 44, 3) := by decide +kernel
theorem dX3_step_9 : decode cX3_step 9 = .ok (.if_icmp .ge 9, 3) := by decide +kernel
theorem dX3_step_12 : decode cX3_step 12 = .ok (.iload_n 1, 1) := by decide +kernel
theorem dX3_step_13 : decode cX3_step 13 = .ok (.bipush 7, 2) := by decide +kernel
theorem dX3_step_15 : decode cX3_step 15 = .ok (.if_icmp .lt 4, 3) := by decide +kernel
theorem dX3_step_18 : decode cX3_step 18 = .ok (.return_, 1) := by decide +kernel
theorem dX3_step_19 : decode cX3_step 19 = .ok (.aload_n 0, 1) := by decide +kernel
theorem dX3_step_20 : decode cX3_step 20 = .ok (.iload_n 1, 1) := by decide +kernel
theorem dX3_step_21 : decode cX3_step 21 = .ok (.invokevirtual 72, 3) := by decide +kernel
theorem dX3_step_24 : decode cX3_step 24 = .ok (.istore_n 3, 1) := by decide +kernel
theorem dX3_step_25 : decode cX3_step 25 = .ok (.aload_n 0, 1) := by decide +kernel
theorem dX3_step_26 : decode cX3_step 26 = .ok (.getfield 29, 3) := by decide +kernel
theorem dX3_step_29 : decode cX3_step 29 = .ok (.iload_n 1, 1) := by decide +kernel
theorem dX3_step_30 : decode cX3_step 30 = .ok (.iload_n 2, 1) := by decide +kernel
theorem dX3_step_31 : decode cX3_step 31 = .ok (.iload_n 3, 1) := by decide +kernel
theorem dX3_step_32 : decode cX3_step 32 = .ok (.iconst (-1), 1) := by decide +kernel
theorem dX3_step_33 : decode cX3_step 33 = .ok (.ixor, 1) := by decide +kernel
theorem dX3_step_34 : decode cX3_step 34 = .ok (.iand, 1) := by decide +kernel
theorem dX3_step_35 : decode cX3_step 35 = .ok (.iastore, 1) := by decide +kernel
theorem dX3_step_36 : decode cX3_step 36 = .ok (.aload_n 0, 1) := by decide +kernel
theorem dX3_step_37 : decode cX3_step 37 = .ok (.getfield 32, 3) := by decide +kernel
theorem dX3_step_40 : decode cX3_step 40 = .ok (.iload_n 1, 1) := by decide +kernel
theorem dX3_step_41 : decode cX3_step 41 = .ok (.iload_n 2, 1) := by decide +kernel
theorem dX3_step_42 : decode cX3_step 42 = .ok (.iload_n 3, 1) := by decide +kernel
theorem dX3_step_43 : decode cX3_step 43 = .ok (.iand, 1) := by decide +kernel
theorem dX3_step_44 : decode cX3_step 44 = .ok (.iastore, 1) := by decide +kernel
theorem dX3_step_45 : decode cX3_step 45 = .ok (.iload_n 2, 1) := by decide +kernel
theorem dX3_step_46 : decode cX3_step 46 = .ok (.aload_n 0, 1) := by decide +kernel
theorem dX3_step_47 : decode cX3_step 47 = .ok (.getfield 15, 3) := by decide +kernel
theorem dX3_step_50 : decode cX3_step 50 = .ok (.iload_n 1, 1) := by decide +kernel
theorem dX3_step_51 : decode cX3_step 51 = .ok (.iaload, 1) := by decide +kernel
theorem dX3_step_52 : decode cX3_step 52 = .ok (.iand, 1) := by decide +kernel
theorem dX3_step_53 : decode cX3_step 53 = .ok (.istore 4, 2) := by decide +kernel
theorem dX3_step_55 : decode cX3_step 55 = .ok (.aload_n 0, 1) := by decide +kernel
theorem dX3_step_56 : decode cX3_step 56 = .ok (.getfield 15, 3) := by decide +kernel
theorem dX3_step_59 : decode cX3_step 59 = .ok (.iload_n 1, 1) := by decide +kernel
theorem dX3_step_60 : decode cX3_step 60 = .ok (.iaload, 1) := by decide +kernel
theorem dX3_step_61 : decode cX3_step 61 = .ok (.iload_n 2, 1) := by decide +kernel
theorem dX3_step_62 : decode cX3_step 62 = .ok (.ixor, 1) := by decide +kernel
theorem dX3_step_63 : decode cX3_step 63 = .ok (.istore 5, 2) := by decide +kernel
theorem dX3_step_65 : decode cX3_step 65 = .ok (.aload_n 0, 1) := by decide +kernel
theorem dX3_step_66 : decode cX3_step 66 = .ok (.getfield 18, 3) := by decide +kernel
theorem dX3_step_69 : decode cX3_step 69 = .ok (.iload_n 1, 1) := by decide +kernel
theorem dX3_step_70 : decode cX3_step 70 = .ok (.iaload, 1) := by decide +kernel
theorem dX3_step_71 : decode cX3_step 71 = .ok (.iload 4, 2) := by decide +kernel
theorem dX3_step_73 : decode cX3_step 73 = .ok (.ixor, 1) := by decide +kernel
theorem dX3_step_74 : decode cX3_step 74 = .ok (.istore 6, 2) := by decide +kernel
theorem dX3_step_76 : decode cX3_step 76 = .ok (.aload_n 0, 1) := by decide +kernel
theorem dX3_step_77 : decode cX3_step 77 = .ok (.getfield 21, 3) := by decide +kernel
theorem dX3_step_80 : decode cX3_step 80 = .ok (.iload_n 1, 1) := by decide +kernel
theorem dX3_step_81 : decode cX3_step 81 = .ok (.iaload, 1) := by decide +kernel
theorem dX3_step_82 : decode cX3_step 82 = .ok (.iload 4, 2) := by decide +kernel
theorem dX3_step_84 : decode cX3_step 84 = .ok (.aload_n 0, 1) := by decide +kernel
theorem dX3_step_85 : decode cX3_step 85 = .ok (.getfield 18, 3) := by decide +kernel
theorem dX3_step_88 : decode cX3_step 88 = .ok (.iload_n 1, 1) := by decide +kernel
theorem dX3_step_89 : decode cX3_step 89 = .ok (.iaload, 1) := by decide +kernel
theorem dX3_step_90 : decode cX3_step 90 = .ok (.iand, 1) := by decide +kernel
theorem dX3_step_91 : decode cX3_step 91 = .ok (.ixor, 1) := by decide +kernel
theorem dX3_step_92 : decode cX3_step 92 = .ok (.istore 7, 2) := by decide +kernel
theorem dX3_step_94 : decode cX3_step 94 = .ok (.iload_n 1, 1) := by decide +kernel
theorem dX3_step_95 : decode cX3_step 95 = .ok (.istore 8, 2) := by decide +kernel
theorem dX3_step_97 : decode cX3_step 97 = .ok (.iload 8, 2) := by decide +kernel
theorem dX3_step_99 : decode cX3_step 99 = .ok (.aload_n 0, 1) := by decide +kernel
theorem dX3_step_100 : decode cX3_step 100 = .ok (.getfield 44, 3) := by decide +kernel
theorem dX3_step_103 : decode cX3_step 103 = .ok (.if_icmp .ge 33, 3) := by decide +kernel
theorem dX3_step_106 : decode cX3_step 106 = .ok (.aload_n 0, 1) := by decide +kernel
theorem dX3_step_107 : decode cX3_step 107 = .ok (.getfield 26, 3) := by decide +kernel
theorem dX3_step_110 : decode cX3_step 110 = .ok (.iload_n 1, 1) := by decide +kernel
theorem dX3_step_111 : decode cX3_step 111 = .ok (.iconst 1, 1) := by decide +kernel
theorem dX3_step_112 : decode cX3_step 112 = .ok (.iadd, 1) := by decide +kernel
theorem dX3_step_113 : decode cX3_step 113 = .ok (.aaload, 1) := by decide +kernel
theorem dX3_step_114 : decode cX3_step 114 = .ok (.iload 8, 2) := by decide +kernel
theorem dX3_step_116 : decode cX3_step 116 = .ok (.aload_n 0, 1) := by decide +kernel
theorem dX3_step_117 : decode cX3_step 117 = .ok (.getfield 26, 3) := by decide +kernel
theorem dX3_step_120 : decode cX3_step 120 = .ok (.iload_n 1, 1) := by decide +kernel
theorem dX3_step_121 : decode cX3_step 121 = .ok (.aaload, 1) := by decide +kernel
theorem dX3_step_122 : decode cX3_step 122 = .ok (.iload 8, 2) := by decide +kernel
theorem dX3_step_124 : decode cX3_step 124 = .ok (.iaload, 1) := by decide +kernel
theorem dX3_step_125 : decode cX3_step 125 = .ok (.iload_n 2, 1) := by decide +kernel
theorem dX3_step_126 : decode cX3_step 126 = .ok (.iconst (-1), 1) := by decide +kernel
theorem dX3_step_127 : decode cX3_step 127 = .ok (.ixor, 1) := by decide +kernel
theorem dX3_step_128 : decode cX3_step 128 = .ok (.iand, 1) := by decide +kernel
theorem dX3_step_129 : decode cX3_step 129 = .ok (.iastore, 1) := by decide +kernel
theorem dX3_step_130 : decode cX3_step 130 = .ok (.iinc 8 1, 3) := by decide +kernel
theorem dX3_step_133 : decode cX3_step 133 = .ok (.goto (-36), 3) := by decide +kernel
theorem dX3_step_136 : decode cX3_step 136 = .ok (.iconst 1, 1) := by decide +kernel
theorem dX3_step_137 : decode cX3_step 137 = .ok (.istore 8, 2) := by decide +kernel
theorem dX3_step_139 : decode cX3_step 139 = .ok (.iload 8, 2) := by decide +kernel
theorem dX3_step_141 : decode cX3_step 141 = .ok (.iload_n 1, 1) := by decide +kernel
theorem dX3_step_142 : decode cX3_step 142 = .ok (.iconst 1, 1) := by decide +kernel
theorem dX3_step_143 : decode cX3_step 143 = .ok (.iadd, 1) := by decide +kernel
theorem dX3_step_144 : decode cX3_step 144 = .ok (.if_icmp .gt 59, 3) := by decide +kernel
theorem dX3_step_147 : decode cX3_step 147 = .ok (.iload_n 1, 1) := by decide +kernel
theorem dX3_step_148 : decode cX3_step 148 = .ok (.aload_n 0, 1) := by decide +kernel
theorem dX3_step_149 : decode cX3_step 149 = .ok (.getfield 9, 3) := by decide +kernel
theorem dX3_step_152 : decode cX3_step 152 = .ok (.iload 8, 2) := by decide +kernel
theorem dX3_step_154 : decode cX3_step 154 = .ok (.iaload, 1) := by decide +kernel
theorem dX3_step_155 : decode cX3_step 155 = .ok (.iadd, 1) := by decide +kernel
theorem dX3_step_156 : decode cX3_step 156 = .ok (.aload_n 0, 1) := by decide +kernel
theorem dX3_step_157 : decode cX3_step 157 = .ok (.getfield 44, 3) := by decide +kernel
theorem dX3_step_160 : decode cX3_step 160 = .ok (.if_icmp .ge 43, 3) := by decide +kernel
theorem dX3_step_163 : decode cX3_step 163 = .ok (.aload_n 0, 1) := by decide +kernel
theorem dX3_step_164 : decode cX3_step 164 = .ok (.getfield 26, 3) := by decide +kernel
theorem dX3_step_167 : decode cX3_step 167 = .ok (.iload_n 1, 1) := by decide +kernel
theorem dX3_step_168 : decode cX3_step 168 = .ok (.iconst 1, 1) := by decide +kernel
theorem dX3_step_169 : decode cX3_step 169 = .ok (.iadd, 1) := by decide +kernel
theorem dX3_step_170 : decode cX3_step 170 = .ok (.aaload, 1) := by decide +kernel
theorem dX3_step_171 : decode cX3_step 171 = .ok (.iload_n 1, 1) := by decide +kernel
theorem dX3_step_172 : decode cX3_step 172 = .ok (.aload_n 0, 1) := by decide +kernel
theorem dX3_step_173 : decode cX3_step 173 = .ok (.getfield 9, 3) := by decide +kernel
theorem dX3_step_176 : decode cX3_step 176 = .ok (.iload 8, 2) := by decide +kernel
theorem dX3_step_178 : decode cX3_step 178 = .ok (.iaload, 1) := by decide +kernel
theorem dX3_step_179 : decode cX3_step 179 = .ok (.iadd, 1) := by decide +kernel
theorem dX3_step_180 : decode cX3_step 180 = .ok (.dup2, 1) := by decide +kernel
theorem dX3_step_181 : decode cX3_step 181 = .ok (.iaload, 1) := by decide +kernel
theorem dX3_step_182 : decode cX3_step 182 = .ok (.iload_n 2, 1) := by decide +kernel
theorem dX3_step_183 : decode cX3_step 183 = .ok (.iload 8, 2) := by decide +kernel
theorem dX3_step_185 : decode cX3_step 185 = .ok (.iload 5, 2) := by decide +kernel
theorem dX3_step_187 : decode cX3_step 187 = .ok (.iload 6, 2) := by decide +kernel
theorem dX3_step_189 : decode cX3_step 189 = .ok (.iload 7, 2) := by decide +kernel
theorem dX3_step_191 : decode cX3_step 191 = .ok (.invokestatic 75, 3) := by decide +kernel
theorem dX3_step_194 : decode cX3_step 194 = .ok (.iand, 1) := by decide +kernel
theorem dX3_step_195 : decode cX3_step 195 = .ok (.ior, 1) := by decide +kernel
theorem dX3_step_196 : decode cX3_step 196 = .ok (.iastore, 1) := by decide +kernel
theorem dX3_step_197 : decode cX3_step 197 = .ok (.iinc 8 1, 3) := by decide +kernel
theorem dX3_step_200 : decode cX3_step 200 = .ok (.goto (-61), 3) := by decide +kernel
theorem dX3_step_203 : decode cX3_step 203 = .ok (.aload_n 0, 1) := by decide +kernel
theorem dX3_step_204 : decode cX3_step 204 = .ok (.getfield 35, 3) := by decide +kernel
theorem dX3_step_207 : decode cX3_step 207 = .ok (.iload_n 1, 1) := by decide +kernel
theorem dX3_step_208 : decode cX3_step 208 = .ok (.aload_n 0, 1) := by decide +kernel
theorem dX3_step_209 : decode cX3_step 209 = .ok (.getfield 26, 3) := by decide +kernel
theorem dX3_step_212 : decode cX3_step 212 = .ok (.iload_n 1, 1) := by decide +kernel
theorem dX3_step_213 : decode cX3_step 213 = .ok (.iconst 1, 1) := by decide +kernel
theorem dX3_step_214 : decode cX3_step 214 = .ok (.iadd, 1) := by decide +kernel
theorem dX3_step_215 : decode cX3_step 215 = .ok (.aaload, 1) := by decide +kernel
theorem dX3_step_216 : decode cX3_step 216 = .ok (.iload_n 1, 1) := by decide +kernel
theorem dX3_step_217 : decode cX3_step 217 = .ok (.iaload, 1) := by decide +kernel
theorem dX3_step_218 : decode cX3_step 218 = .ok (.iastore, 1) := by decide +kernel
theorem dX3_step_219 : decode cX3_step 219 = .ok (.aload_n 0, 1) := by decide +kernel
theorem dX3_step_220 : decode cX3_step 220 = .ok (.getfield 15, 3) := by decide +kernel
theorem dX3_step_223 : decode cX3_step 223 = .ok (.iload_n 1, 1) := by decide +kernel
theorem dX3_step_224 : decode cX3_step 224 = .ok (.iconst 1, 1) := by decide +kernel
theorem dX3_step_225 : decode cX3_step 225 = .ok (.iadd, 1) := by decide +kernel
theorem dX3_step_226 : decode cX3_step 226 = .ok (.iload 5, 2) := by decide +kernel
theorem dX3_step_228 : decode cX3_step 228 = .ok (.aload_n 0, 1) := by decide +kernel
theorem dX3_step_229 : decode cX3_step 229 = .ok (.getfield 35, 3) := by decide +kernel
theorem dX3_step_232 : decode cX3_step 232 = .ok (.iload_n 1, 1) := by decide +kernel
theorem dX3_step_233 : decode cX3_step 233 = .ok (.iaload, 1) := by decide +kernel
theorem dX3_step_234 : decode cX3_step 234 = .ok (.iconst (-1), 1) := by decide +kernel
theorem dX3_step_235 : decode cX3_step 235 = .ok (.ixor, 1) := by decide +kernel
theorem dX3_step_236 : decode cX3_step 236 = .ok (.iand, 1) := by decide +kernel
theorem dX3_step_237 : decode cX3_step 237 = .ok (.iastore, 1) := by decide +kernel
theorem dX3_step_238 : decode cX3_step 238 = .ok (.aload_n 0, 1) := by decide +kernel
theorem dX3_step_239 : decode cX3_step 239 = .ok (.getfield 18, 3) := by decide +kernel
theorem dX3_step_242 : decode cX3_step 242 = .ok (.iload_n 1, 1) := by decide +kernel
theorem dX3_step_243 : decode cX3_step 243 = .ok (.iconst 1, 1) := by decide +kernel
theorem dX3_step_244 : decode cX3_step 244 = .ok (.iadd, 1) := by decide +kernel
theorem dX3_step_245 : decode cX3_step 245 = .ok (.iload 6, 2) := by decide +kernel
theorem dX3_step_247 : decode cX3_step 247 = .ok (.aload_n 0, 1) := by decide +kernel
theorem dX3_step_248 : decode cX3_step 248 = .ok (.getfield 35, 3) := by decide +kernel
theorem dX3_step_251 : decode cX3_step 251 = .ok (.iload_n 1, 1) := by decide +kernel
theorem dX3_step_252 : decode cX3_step 252 = .ok (.iaload, 1) := by decide +kernel
theorem dX3_step_253 : decode cX3_step 253 = .ok (.iconst (-1), 1) := by decide +kernel
theorem dX3_step_254 : decode cX3_step 254 = .ok (.ixor, 1) := by decide +kernel
theorem dX3_step_255 : decode cX3_step 255 = .ok (.iand, 1) := by decide +kernel
theorem dX3_step_256 : decode cX3_step 256 = .ok (.iastore, 1) := by decide +kernel
theorem dX3_step_257 : decode cX3_step 257 = .ok (.aload_n 0, 1) := by decide +kernel
theorem dX3_step_258 : decode cX3_step 258 = .ok (.getfield 21, 3) := by decide +kernel
theorem dX3_step_261 : decode cX3_step 261 = .ok (.iload_n 1, 1) := by decide +kernel
theorem dX3_step_262 : decode cX3_step 262 = .ok (.iconst 1, 1) := by decide +kernel
theorem dX3_step_263 : decode cX3_step 263 = .ok (.iadd, 1) := by decide +kernel
theorem dX3_step_264 : decode cX3_step 264 = .ok (.iload 7, 2) := by decide +kernel
theorem dX3_step_266 : decode cX3_step 266 = .ok (.aload_n 0, 1) := by decide +kernel
theorem dX3_step_267 : decode cX3_step 267 = .ok (.getfield 35, 3) := by decide +kernel
theorem dX3_step_270 : decode cX3_step 270 = .ok (.iload_n 1, 1) := by decide +kernel
theorem dX3_step_271 : decode cX3_step 271 = .ok (.iaload, 1) := by decide +kernel
theorem dX3_step_272 : decode cX3_step 272 = .ok (.iconst (-1), 1) := by decide +kernel
theorem dX3_step_273 : decode cX3_step 273 = .ok (.ixor, 1) := by decide +kernel
theorem dX3_step_274 : decode cX3_step 274 = .ok (.iand, 1) := by decide +kernel
theorem dX3_step_275 : decode cX3_step 275 = .ok (.iastore, 1) := by decide +kernel
theorem dX3_step_276 : decode cX3_step 276 = .ok (.return_, 1) := by decide +kernel
theorem dX3_ofStrength_0 : decode cX3_ofStrength 0 = .ok (.iload_n 0, 1) := by decide +kernel
theorem dX3_ofStrength_1 : decode cX3_ofStrength 1 = .ok (.iconst 1, 1) := by decide +kernel
theorem dX3_ofStrength_2 : decode cX3_ofStrength 2 = .ok (.iand, 1) := by decide +kernel
theorem dX3_ofStrength_3 : decode cX3_ofStrength 3 = .ok (.ifCond .eq 7, 3) := by decide +kernel
theorem dX3_ofStrength_6 : decode cX3_ofStrength 6 = .ok (.iload_n 1, 1) := by decide +kernel
theorem dX3_ofStrength_7 : decode cX3_ofStrength 7 = .ok (.goto 6, 3) := by decide +kernel
theorem dX3_ofStrength_10 : decode cX3_ofStrength 10 = .ok (.iload_n 1, 1) := by decide +kernel
theorem dX3_ofStrength_11 : decode cX3_ofStrength 11 = .ok (.iconst (-1), 1) := by decide +kernel
theorem dX3_ofStrength_12 : decode cX3_ofStrength 12 = .ok (.ixor, 1) := by decide +kernel
theorem dX3_ofStrength_13 : decode cX3_ofStrength 13 = .ok (.iload_n 0, 1) := by decide +kernel
theorem dX3_ofStrength_14 : decode cX3_ofStrength 14 = .ok (.iconst 2, 1) := by decide +kernel
theorem dX3_ofStrength_15 : decode cX3_ofStrength 15 = .ok (.iand, 1) := by decide +kernel
theorem dX3_ofStrength_16 : decode cX3_ofStrength 16 = .ok (.ifCond .eq 7, 3) := by decide +kernel
theorem dX3_ofStrength_19 : decode cX3_ofStrength 19 = .ok (.iload_n 2, 1) := by decide +kernel
theorem dX3_ofStrength_20 : decode cX3_ofStrength 20 = .ok (.goto 6, 3) := by decide +kernel
theorem dX3_ofStrength_23 : decode cX3_ofStrength 23 = .ok (.iload_n 2, 1) := by decide +kernel
theorem dX3_ofStrength_24 : decode cX3_ofStrength 24 = .ok (.iconst (-1), 1) := by decide +kernel
theorem dX3_ofStrength_25 : decode cX3_ofStrength 25 = .ok (.ixor, 1) := by decide +kernel
theorem dX3_ofStrength_26 : decode cX3_ofStrength 26 = .ok (.iand, 1) := by decide +kernel
theorem dX3_ofStrength_27 : decode cX3_ofStrength 27 = .ok (.iload_n 0, 1) := by decide +kernel
theorem dX3_ofStrength_28 : decode cX3_ofStrength 28 = .ok (.iconst 4, 1) := by decide +kernel
theorem dX3_ofStrength_29 : decode cX3_ofStrength 29 = .ok (.iand, 1) := by decide +kernel
theorem dX3_ofStrength_30 : decode cX3_ofStrength 30 = .ok (.ifCond .eq 7, 3) := by decide +kernel
theorem dX3_ofStrength_33 : decode cX3_ofStrength 33 = .ok (.iload_n 3, 1) := by decide +kernel
theorem dX3_ofStrength_34 : decode cX3_ofStrength 34 = .ok (.goto 6, 3) := by decide +kernel
theorem dX3_ofStrength_37 : decode cX3_ofStrength 37 = .ok (.iload_n 3, 1) := by decide +kernel
theorem dX3_ofStrength_38 : decode cX3_ofStrength 38 = .ok (.iconst (-1), 1) := by decide +kernel
theorem dX3_ofStrength_39 : decode cX3_ofStrength 39 = .ok (.ixor, 1) := by decide +kernel
theorem dX3_ofStrength_40 : decode cX3_ofStrength 40 = .ok (.iand, 1) := by decide +kernel
theorem dX3_ofStrength_41 : decode cX3_ofStrength 41 = .ok (.ireturn, 1) := by decide +kernel
theorem dX3_knownAhead_0 : decode cX3_knownAhead 0 = .ok (.iload_n 1, 1) := by decide +kernel
theorem dX3_knownAhead_1 : decode cX3_knownAhead 1 = .ok (.ifCond .lt 9, 3) := by decide +kernel
theorem dX3_knownAhead_4 : decode cX3_knownAhead 4 = .ok (.iload_n 1, 1) := by decide +kernel
theorem dX3_knownAhead_5 : decode cX3_knownAhead 5 = .ok (.bipush 7, 2) := by decide +kernel
theorem dX3_knownAhead_7 : decode cX3_knownAhead 7 = .ok (.if_icmp .le 7, 3) := by decide +kernel
theorem dX3_knownAhead_10 : decode cX3_knownAhead 10 = .ok (.iconst 0, 1) := by decide +kernel
theorem dX3_knownAhead_11 : decode cX3_knownAhead 11 = .ok (.goto 23, 3) := by decide +kernel
theorem dX3_knownAhead_14 : decode cX3_knownAhead 14 = .ok (.aload_n 0, 1) := by decide +kernel
theorem dX3_knownAhead_15 : decode cX3_knownAhead 15 = .ok (.getfield 15, 3) := by decide +kernel
theorem dX3_knownAhead_18 : decode cX3_knownAhead 18 = .ok (.iload_n 1, 1) := by decide +kernel
theorem dX3_knownAhead_19 : decode cX3_knownAhead 19 = .ok (.iaload, 1) := by decide +kernel
theorem dX3_knownAhead_20 : decode cX3_knownAhead 20 = .ok (.aload_n 0, 1) := by decide +kernel
theorem dX3_knownAhead_21 : decode cX3_knownAhead 21 = .ok (.getfield 18, 3) := by decide +kernel
theorem dX3_knownAhead_24 : decode cX3_knownAhead 24 = .ok (.iload_n 1, 1) := by decide +kernel
theorem dX3_knownAhead_25 : decode cX3_knownAhead 25 = .ok (.iaload, 1) := by decide +kernel
theorem dX3_knownAhead_26 : decode cX3_knownAhead 26 = .ok (.ior, 1) := by decide +kernel
theorem dX3_knownAhead_27 : decode cX3_knownAhead 27 = .ok (.aload_n 0, 1) := by decide +kernel
theorem dX3_knownAhead_28 : decode cX3_knownAhead 28 = .ok (.getfield 21, 3) := by decide +kernel
theorem dX3_knownAhead_31 : decode cX3_knownAhead 31 = .ok (.iload_n 1, 1) := by decide +kernel
theorem dX3_knownAhead_32 : decode cX3_knownAhead 32 = .ok (.iaload, 1) := by decide +kernel
theorem dX3_knownAhead_33 : decode cX3_knownAhead 33 = .ok (.ior, 1) := by decide +kernel
theorem dX3_knownAhead_34 : decode cX3_knownAhead 34 = .ok (.ireturn, 1) := by decide +kernel
theorem dX3_strengthBehindAll_0 : decode cX3_strengthBehindAll 0 = .ok (.aload_n 0, 1) := by decide +kernel
theorem dX3_strengthBehindAll_1 : decode cX3_strengthBehindAll 1 = .ok (.getfield 15, 3) := by decide +kernel
theorem dX3_strengthBehindAll_4 : decode cX3_strengthBehindAll 4 = .ok (.aload_n 0, 1) := by decide +kernel
theorem dX3_strengthBehindAll_5 : decode cX3_strengthBehindAll 5 = .ok (.getfield 44, 3) := by decide +kernel
theorem dX3_strengthBehindAll_8 : decode cX3_strengthBehindAll 8 = .ok (.iaload, 1) := by decide +kernel
theorem dX3_strengthBehindAll_9 : decode cX3_strengthBehindAll 9 = .ok (.iload_n 1, 1) := by decide +kernel
theorem dX3_strengthBehindAll_10 : decode cX3_strengthBehindAll 10 = .ok (.ishr, 1) := by decide +kernel
theorem dX3_strengthBehindAll_11 : decode cX3_strengthBehindAll 11 = .ok (.iconst 1, 1) := by decide +kernel
theorem dX3_strengthBehindAll_12 : decode cX3_strengthBehindAll 12 = .ok (.iand, 1) := by decide +kernel
theorem dX3_strengthBehindAll_13 : decode cX3_strengthBehindAll 13 = .ok (.istore_n 2, 1) := by decide +kernel
theorem dX3_strengthBehindAll_14 : decode cX3_strengthBehindAll 14 = .ok (.aload_n 0, 1) := by decide +kernel
theorem dX3_strengthBehindAll_15 : decode cX3_strengthBehindAll 15 = .ok (.getfield 18, 3) := by decide +kernel
theorem dX3_strengthBehindAll_18 : decode cX3_strengthBehindAll 18 = .ok (.aload_n 0, 1) := by decide +kernel
theorem dX3_strengthBehindAll_19 : decode cX3_strengthBehindAll 19 = .ok (.getfield 44, 3) := by decide +kernel
theorem dX3_strengthBehindAll_22 : decode cX3_strengthBehindAll 22 = .ok (.iaload, 1) := by decide +kernel
theorem dX3_strengthBehindAll_23 : decode cX3_strengthBehindAll 23 = .ok (.iload_n 1, 1) := by decide +kernel
theorem dX3_strengthBehindAll_24 : decode cX3_strengthBehindAll 24 = .ok (.ishr, 1) := by decide +kernel
theorem dX3_strengthBehindAll_25 : decode cX3_strengthBehindAll 25 = .ok (.iconst 1, 1) := by decide +kernel
theorem dX3_strengthBehindAll_26 : decode cX3_strengthBehindAll 26 = .ok (.iand, 1) := by decide +kernel
theorem dX3_strengthBehindAll_27 : decode cX3_strengthBehindAll 27 = .ok (.istore_n 3, 1) := by decide +kernel
theorem dX3_strengthBehindAll_28 : decode cX3_strengthBehindAll 28 = .ok (.aload_n 0, 1) := by decide +kernel
theorem dX3_strengthBehindAll_29 : decode cX3_strengthBehindAll 29 = .ok (.getfield 21, 3) := by decide +kernel
theorem dX3_strengthBehindAll_32 : decode cX3_strengthBehindAll 32 = .ok (.aload_n 0, 1) := by decide +kernel
theorem dX3_strengthBehindAll_33 : decode cX3_strengthBehindAll 33 = .ok (.getfield 44, 3) := by decide +kernel
theorem dX3_strengthBehindAll_36 : decode cX3_strengthBehindAll 36 = .ok (.iaload, 1) := by decide +kernel
theorem dX3_strengthBehindAll_37 : decode cX3_strengthBehindAll 37 = .ok (.iload_n 1, 1) := by decide +kernel
theorem dX3_strengthBehindAll_38 : decode cX3_strengthBehindAll 38 = .ok (.ishr, 1) := by decide +kernel
theorem dX3_strengthBehindAll_39 : decode cX3_strengthBehindAll 39 = .ok (.iconst 1, 1) := by decide +kernel
theorem dX3_strengthBehindAll_40 : decode cX3_strengthBehindAll 40 = .ok (.iand, 1) := by decide +kernel
theorem dX3_strengthBehindAll_41 : decode cX3_strengthBehindAll 41 = .ok (.istore 4, 2) := by decide +kernel
theorem dX3_strengthBehindAll_43 : decode cX3_strengthBehindAll 43 = .ok (.iload_n 2, 1) := by decide +kernel
theorem dX3_strengthBehindAll_44 : decode cX3_strengthBehindAll 44 = .ok (.iconst 2, 1) := by decide +kernel
theorem dX3_strengthBehindAll_45 : decode cX3_strengthBehindAll 45 = .ok (.iload_n 3, 1) := by decide +kernel
theorem dX3_strengthBehindAll_46 : decode cX3_strengthBehindAll 46 = .ok (.imul, 1) := by decide +kernel
theorem dX3_strengthBehindAll_47 : decode cX3_strengthBehindAll 47 = .ok (.iadd, 1) := by decide +kernel
theorem dX3_strengthBehindAll_48 : decode cX3_strengthBehindAll 48 = .ok (.iconst 4, 1) := by decide +kernel
theorem dX3_strengthBehindAll_49 : decode cX3_strengthBehindAll 49 = .ok (.iload 4, 2) := by decide +kernel
theorem dX3_strengthBehindAll_51 : decode cX3_strengthBehindAll 51 = .ok (.imul, 1) := by decide +kernel
theorem dX3_strengthBehindAll_52 : decode cX3_strengthBehindAll 52 = .ok (.iadd, 1) := by decide +kernel
theorem dX3_strengthBehindAll_53 : decode cX3_strengthBehindAll 53 = .ok (.ireturn, 1) := by decide +kernel
theorem dX3_keepsWordMetAt_0 : decode cX3_keepsWordMetAt 0 = .ok (.iconst 0, 1) := by decide +kernel
theorem dX3_keepsWordMetAt_1 : decode cX3_keepsWordMetAt 1 = .ok (.istore_n 2, 1) := by decide +kernel
theorem dX3_keepsWordMetAt_2 : decode cX3_keepsWordMetAt 2 = .ok (.iload_n 2, 1) := by decide +kernel
theorem dX3_keepsWordMetAt_3 : decode cX3_keepsWordMetAt 3 = .ok (.aload_n 0, 1) := by decide +kernel
theorem dX3_keepsWordMetAt_4 : decode cX3_keepsWordMetAt 4 = .ok (.getfield 44, 3) := by decide +kernel
theorem dX3_keepsWordMetAt_7 : decode cX3_keepsWordMetAt 7 = .ok (.if_icmp .ge 19, 3) := by decide +kernel
theorem dX3_keepsWordMetAt_10 : decode cX3_keepsWordMetAt 10 = .ok (.aload_n 0, 1) := by decide +kernel
theorem dX3_keepsWordMetAt_11 : decode cX3_keepsWordMetAt 11 = .ok (.iload_n 2, 1) := by decide +kernel
theorem dX3_keepsWordMetAt_12 : decode cX3_keepsWordMetAt 12 = .ok (.iload_n 1, 1) := by decide +kernel
theorem dX3_keepsWordMetAt_13 : decode cX3_keepsWordMetAt 13 = .ok (.iload_n 2, 1) := by decide +kernel
theorem dX3_keepsWordMetAt_14 : decode cX3_keepsWordMetAt 14 = .ok (.ishr, 1) := by decide +kernel
theorem dX3_keepsWordMetAt_15 : decode cX3_keepsWordMetAt 15 = .ok (.iconst 1, 1) := by decide +kernel
theorem dX3_keepsWordMetAt_16 : decode cX3_keepsWordMetAt 16 = .ok (.iand, 1) := by decide +kernel
theorem dX3_keepsWordMetAt_17 : decode cX3_keepsWordMetAt 17 = .ok (.invokevirtual 68, 3) := by decide +kernel
theorem dX3_keepsWordMetAt_20 : decode cX3_keepsWordMetAt 20 = .ok (.iinc 2 1, 3) := by decide +kernel
theorem dX3_keepsWordMetAt_23 : decode cX3_keepsWordMetAt 23 = .ok (.goto (-21), 3) := by decide +kernel
theorem dX3_keepsWordMetAt_26 : decode cX3_keepsWordMetAt 26 = .ok (.aload_n 0, 1) := by decide +kernel
theorem dX3_keepsWordMetAt_27 : decode cX3_keepsWordMetAt 27 = .ok (.aload_n 0, 1) := by decide +kernel
theorem dX3_keepsWordMetAt_28 : decode cX3_keepsWordMetAt 28 = .ok (.getfield 44, 3) := by decide +kernel
theorem dX3_keepsWordMetAt_31 : decode cX3_keepsWordMetAt 31 = .ok (.invokevirtual 72, 3) := by decide +kernel
theorem dX3_keepsWordMetAt_34 : decode cX3_keepsWordMetAt 34 = .ok (.ifCond .eq 7, 3) := by decide +kernel
theorem dX3_keepsWordMetAt_37 : decode cX3_keepsWordMetAt 37 = .ok (.iconst 1, 1) := by decide +kernel
theorem dX3_keepsWordMetAt_38 : decode cX3_keepsWordMetAt 38 = .ok (.goto 4, 3) := by decide +kernel
theorem dX3_keepsWordMetAt_41 : decode cX3_keepsWordMetAt 41 = .ok (.iconst 0, 1) := by decide +kernel
theorem dX3_keepsWordMetAt_42 : decode cX3_keepsWordMetAt 42 = .ok (.ireturn, 1) := by decide +kernel
theorem dX3_peak_0 : decode cX3_peak 0 = .ok (.iconst 0, 1) := by decide +kernel
theorem dX3_peak_1 : decode cX3_peak 1 = .ok (.istore_n 1, 1) := by decide +kernel
theorem dX3_peak_2 : decode cX3_peak 2 = .ok (.iconst 0, 1) := by decide +kernel
theorem dX3_peak_3 : decode cX3_peak 3 = .ok (.istore_n 2, 1) := by decide +kernel
theorem dX3_peak_4 : decode cX3_peak 4 = .ok (.iload_n 2, 1) := by decide +kernel
theorem dX3_peak_5 : decode cX3_peak 5 = .ok (.aload_n 0, 1) := by decide +kernel
theorem dX3_peak_6 : decode cX3_peak 6 = .ok (.getfield 44, 3) := by decide +kernel
theorem dX3_peak_9 : decode cX3_peak 9 = .ok (.if_icmp .ge 23, 3) := by decide +kernel
theorem dX3_peak_12 : decode cX3_peak 12 = .ok (.iload_n 1, 1) := by decide +kernel
theorem dX3_peak_13 : decode cX3_peak 13 = .ok (.aload_n 0, 1) := by decide +kernel
theorem dX3_peak_14 : decode cX3_peak 14 = .ok (.getfield 29, 3) := by decide +kernel
theorem dX3_peak_17 : decode cX3_peak 17 = .ok (.iload_n 2, 1) := by decide +kernel
theorem dX3_peak_18 : decode cX3_peak 18 = .ok (.iaload, 1) := by decide +kernel
theorem dX3_peak_19 : decode cX3_peak 19 = .ok (.invokestatic 79, 3) := by decide +kernel
theorem dX3_peak_22 : decode cX3_peak 22 = .ok (.invokestatic 84, 3) := by decide +kernel
theorem dX3_peak_25 : decode cX3_peak 25 = .ok (.istore_n 1, 1) := by decide +kernel
theorem dX3_peak_26 : decode cX3_peak 26 = .ok (.iinc 2 1, 3) := by decide +kernel
theorem dX3_peak_29 : decode cX3_peak 29 = .ok (.goto (-25), 3) := by decide +kernel
theorem dX3_peak_32 : decode cX3_peak 32 = .ok (.iload_n 1, 1) := by decide +kernel
theorem dX3_peak_33 : decode cX3_peak 33 = .ok (.ireturn, 1) := by decide +kernel
theorem dX3_loss_0 : decode cX3_loss 0 = .ok (.iconst 0, 1) := by decide +kernel
theorem dX3_loss_1 : decode cX3_loss 1 = .ok (.istore_n 1, 1) := by decide +kernel
theorem dX3_loss_2 : decode cX3_loss 2 = .ok (.iconst 0, 1) := by decide +kernel
theorem dX3_loss_3 : decode cX3_loss 3 = .ok (.istore_n 2, 1) := by decide +kernel
theorem dX3_loss_4 : decode cX3_loss 4 = .ok (.iload_n 2, 1) := by decide +kernel
theorem dX3_loss_5 : decode cX3_loss 5 = .ok (.aload_n 0, 1) := by decide +kernel
theorem dX3_loss_6 : decode cX3_loss 6 = .ok (.getfield 44, 3) := by decide +kernel
theorem dX3_loss_9 : decode cX3_loss 9 = .ok (.if_icmp .ge 21, 3) := by decide +kernel
theorem dX3_loss_12 : decode cX3_loss 12 = .ok (.iload_n 1, 1) := by decide +kernel
theorem dX3_loss_13 : decode cX3_loss 13 = .ok (.aload_n 0, 1) := by decide +kernel
theorem dX3_loss_14 : decode cX3_loss 14 = .ok (.getfield 35, 3) := by decide +kernel
theorem dX3_loss_17 : decode cX3_loss 17 = .ok (.iload_n 2, 1) := by decide +kernel
theorem dX3_loss_18 : decode cX3_loss 18 = .ok (.iaload, 1) := by decide +kernel
theorem dX3_loss_19 : decode cX3_loss 19 = .ok (.invokestatic 79, 3) := by decide +kernel
theorem dX3_loss_22 : decode cX3_loss 22 = .ok (.iadd, 1) := by decide +kernel
theorem dX3_loss_23 : decode cX3_loss 23 = .ok (.istore_n 1, 1) := by decide +kernel
theorem dX3_loss_24 : decode cX3_loss 24 = .ok (.iinc 2 1, 3) := by decide +kernel
theorem dX3_loss_27 : decode cX3_loss 27 = .ok (.goto (-23), 3) := by decide +kernel
theorem dX3_loss_30 : decode cX3_loss 30 = .ok (.iload_n 1, 1) := by decide +kernel
theorem dX3_loss_31 : decode cX3_loss 31 = .ok (.ireturn, 1) := by decide +kernel
theorem dX4_init_0 : decode cX4_init 0 = .ok (.aload_n 0, 1) := by decide +kernel
theorem dX4_init_1 : decode cX4_init 1 = .ok (.invokespecial 3, 3) := by decide +kernel
theorem dX4_init_4 : decode cX4_init 4 = .ok (.aload_n 0, 1) := by decide +kernel
theorem dX4_init_5 : decode cX4_init 5 = .ok (.new 9, 3) := by decide +kernel
theorem dX4_init_8 : decode cX4_init 8 = .ok (.dup, 1) := by decide +kernel
theorem dX4_init_9 : decode cX4_init 9 = .ok (.invokespecial 11, 3) := by decide +kernel
theorem dX4_init_12 : decode cX4_init 12 = .ok (.putfield 12, 3) := by decide +kernel
theorem dX4_init_15 : decode cX4_init 15 = .ok (.aload_n 0, 1) := by decide +kernel
theorem dX4_init_16 : decode cX4_init 16 = .ok (.bipush 7, 2) := by decide +kernel
theorem dX4_init_18 : decode cX4_init 18 = .ok (.newarray .int, 2) := by decide +kernel
theorem dX4_init_20 : decode cX4_init 20 = .ok (.putfield 18, 3) := by decide +kernel
theorem dX4_init_23 : decode cX4_init 23 = .ok (.aload_n 0, 1) := by decide +kernel
theorem dX4_init_24 : decode cX4_init 24 = .ok (.bipush 7, 2) := by decide +kernel
theorem dX4_init_26 : decode cX4_init 26 = .ok (.newarray .int, 2) := by decide +kernel
theorem dX4_init_28 : decode cX4_init 28 = .ok (.putfield 22, 3) := by decide +kernel
theorem dX4_init_31 : decode cX4_init 31 = .ok (.aload_n 0, 1) := by decide +kernel
theorem dX4_init_32 : decode cX4_init 32 = .ok (.bipush 7, 2) := by decide +kernel
theorem dX4_init_34 : decode cX4_init 34 = .ok (.newarray .int, 2) := by decide +kernel
theorem dX4_init_36 : decode cX4_init 36 = .ok (.putfield 25, 3) := by decide +kernel
theorem dX4_init_39 : decode cX4_init 39 = .ok (.aload_n 0, 1) := by decide +kernel
theorem dX4_init_40 : decode cX4_init 40 = .ok (.bipush 7, 2) := by decide +kernel
theorem dX4_init_42 : decode cX4_init 42 = .ok (.newarray .int, 2) := by decide +kernel
theorem dX4_init_44 : decode cX4_init 44 = .ok (.putfield 28, 3) := by decide +kernel
theorem dX4_init_47 : decode cX4_init 47 = .ok (.aload_n 0, 1) := by decide +kernel
theorem dX4_init_48 : decode cX4_init 48 = .ok (.bipush 7, 2) := by decide +kernel
theorem dX4_init_50 : decode cX4_init 50 = .ok (.newarray .int, 2) := by decide +kernel
theorem dX4_init_52 : decode cX4_init 52 = .ok (.putfield 31, 3) := by decide +kernel
theorem dX4_init_55 : decode cX4_init 55 = .ok (.aload_n 0, 1) := by decide +kernel
theorem dX4_init_56 : decode cX4_init 56 = .ok (.bipush 7, 2) := by decide +kernel
theorem dX4_init_58 : decode cX4_init 58 = .ok (.newarray .int, 2) := by decide +kernel
theorem dX4_init_60 : decode cX4_init 60 = .ok (.putfield 34, 3) := by decide +kernel
theorem dX4_init_63 : decode cX4_init 63 = .ok (.return_, 1) := by decide +kernel
theorem dX4_prepare_0 : decode cX4_prepare 0 = .ok (.aload_n 0, 1) := by decide +kernel
theorem dX4_prepare_1 : decode cX4_prepare 1 = .ok (.getfield 12, 3) := by decide +kernel
theorem dX4_prepare_4 : decode cX4_prepare 4 = .ok (.aload_n 1, 1) := by decide +kernel
theorem dX4_prepare_5 : decode cX4_prepare 5 = .ok (.invokevirtual 37, 3) := by decide +kernel
theorem dX4_prepare_8 : decode cX4_prepare 8 = .ok (.aload_n 0, 1) := by decide +kernel
theorem dX4_prepare_9 : decode cX4_prepare 9 = .ok (.aload_n 1, 1) := by decide +kernel
theorem dX4_prepare_10 : decode cX4_prepare 10 = .ok (.getfield 41, 3) := by decide +kernel
theorem dX4_prepare_13 : decode cX4_prepare 13 = .ok (.putfield 47, 3) := by decide +kernel
theorem dX4_prepare_16 : decode cX4_prepare 16 = .ok (.iconst 0, 1) := by decide +kernel
theorem dX4_prepare_17 : decode cX4_prepare 17 = .ok (.istore_n 2, 1) := by decide +kernel
theorem dX4_prepare_18 : decode cX4_prepare 18 = .ok (.iload_n 2, 1) := by decide +kernel
theorem dX4_prepare_19 : decode cX4_prepare 19 = .ok (.aload_n 0, 1) := by decide +kernel
theorem dX4_prepare_20 : decode cX4_prepare 20 = .ok (.getfield 47, 3) := by decide +kernel
theorem dX4_prepare_23 : decode cX4_prepare 23 = .ok (.if_icmp .ge 31, 3) := by decide +kernel
theorem dX4_prepare_26 : decode cX4_prepare 26 = .ok (.aload_n 0, 1) := by decide +kernel
theorem dX4_prepare_27 : decode cX4_prepare 27 = .ok (.getfield 18, 3) := by decide +kernel
theorem dX4_prepare_30 : decode cX4_prepare 30 = .ok (.iload_n 2, 1) := by decide +kernel
theorem dX4_prepare_31 : decode cX4_prepare 31 = .ok (.aload_n 1, 1) := by decide +kernel
theorem dX4_prepare_32 : decode cX4_prepare 32 = .ok (.iload_n 2, 1) := by decide +kernel
theorem dX4_prepare_33 : decode cX4_prepare 33 = .ok (.invokevirtual 48, 3) := by decide +kernel
theorem dX4_prepare_36 : decode cX4_prepare 36 = .ok (.iastore, 1) := by decide +kernel
theorem dX4_prepare_37 : decode cX4_prepare 37 = .ok (.aload_n 0, 1) := by decide +kernel
theorem dX4_prepare_38 : decode cX4_prepare 38 = .ok (.getfield 22, 3) := by decide +kernel
theorem dX4_prepare_41 : decode cX4_prepare 41 = .ok (.iload_n 2, 1) := by decide +kernel
theorem dX4_prepare_42 : decode cX4_prepare 42 = .ok (.aload_n 1, 1) := by decide +kernel
theorem dX4_prepare_43 : decode cX4_prepare 43 = .ok (.iload_n 2, 1) := by decide +kernel
theorem dX4_prepare_44 : decode cX4_prepare 44 = .ok (.invokevirtual 52, 3) := by decide +kernel
theorem dX4_prepare_47 : decode cX4_prepare 47 = .ok (.iastore, 1) := by decide +kernel
theorem dX4_prepare_48 : decode cX4_prepare 48 = .ok (.iinc 2 1, 3) := by decide +kernel
theorem dX4_prepare_51 : decode cX4_prepare 51 = .ok (.goto (-33), 3) := by decide +kernel
theorem dX4_prepare_54 : decode cX4_prepare 54 = .ok (.aload_n 0, 1) := by decide +kernel
theorem dX4_prepare_55 : decode cX4_prepare 55 = .ok (.bipush 20, 2) := by decide +kernel
theorem dX4_prepare_57 : decode cX4_prepare 57 = .ok (.invokevirtual 54, 3) := by decide +kernel
theorem dX4_prepare_60 : decode cX4_prepare 60 = .ok (.aload_n 0, 1) := by decide +kernel
theorem dX4_prepare_61 : decode cX4_prepare 61 = .ok (.iconst 0, 1) := by decide +kernel
theorem dX4_prepare_62 : decode cX4_prepare 62 = .ok (.putfield 58, 3) := by decide +kernel
theorem dX4_prepare_65 : decode cX4_prepare 65 = .ok (.aload_n 0, 1) := by decide +kernel
theorem dX4_prepare_66 : decode cX4_prepare 66 = .ok (.sipush 5040, 3) := by decide +kernel
theorem dX4_prepare_69 : decode cX4_prepare 69 = .ok (.putfield 62, 3) := by decide +kernel
theorem dX4_prepare_72 : decode cX4_prepare 72 = .ok (.aload_n 0, 1) := by decide +kernel
theorem dX4_prepare_73 : decode cX4_prepare 73 = .ok (.iconst 0, 1) := by decide +kernel
theorem dX4_prepare_74 : decode cX4_prepare 74 = .ok (.putfield 65, 3) := by decide +kernel
theorem dX4_prepare_77 : decode cX4_prepare 77 = .ok (.aload_n 0, 1) := by decide +kernel
theorem dX4_prepare_78 : decode cX4_prepare 78 = .ok (.iconst 0, 1) := by decide +kernel
theorem dX4_prepare_79 : decode cX4_prepare 79 = .ok (.putfield 68, 3) := by decide +kernel
theorem dX4_prepare_82 : decode cX4_prepare 82 = .ok (.aload_n 0, 1) := by decide +kernel
theorem dX4_prepare_83 : decode cX4_prepare 83 = .ok (.iconst 0, 1) := by decide +kernel
theorem dX4_prepare_84 : decode cX4_prepare 84 = .ok (.putfield 71, 3) := by decide +kernel
theorem dX4_prepare_87 : decode cX4_prepare 87 = .ok (.return_, 1) := by decide +kernel
theorem dX4_forgetLeaders_0 : decode cX4_forgetLeaders 0 = .ok (.iconst 0, 1) := by decide +kernel
theorem dX4_forgetLeaders_1 : decode cX4_forgetLeaders 1 = .ok (.istore_n 1, 1) := by decide +kernel
theorem dX4_forgetLeaders_2 : decode cX4_forgetLeaders 2 = .ok (.iload_n 1, 1) := by decide +kernel
theorem dX4_forgetLeaders_3 : decode cX4_forgetLeaders 3 = .ok (.aload_n 0, 1) := by decide +kernel
theorem dX4_forgetLeaders_4 : decode cX4_forgetLeaders 4 = .ok (.getfield 47, 3) := by decide +kernel
theorem dX4_forgetLeaders_7 : decode cX4_forgetLeaders 7 = .ok (.if_icmp .ge 16, 3) := by decide +kernel
theorem dX4_forgetLeaders_10 : decode cX4_forgetLeaders 10 = .ok (.aload_n 0, 1) := by decide +kernel
theorem dX4_forgetLeaders_11 : decode cX4_forgetLeaders 11 = .ok (.getfield 22, 3) := by decide +kernel
theorem dX4_forgetLeaders_14 : decode cX4_forgetLeaders 14 = .ok (.iload_n 1, 1) := by decide +kernel
theorem dX4_forgetLeaders_15 : decode cX4_forgetLeaders 15 = .ok (.iconst 0, 1) := by decide +kernel
theorem dX4_forgetLeaders_16 : decode cX4_forgetLeaders 16 = .ok (.iastore, 1) := by decide +kernel
theorem dX4_forgetLeaders_17 : decode cX4_forgetLeaders 17 = .ok (.iinc 1 1, 3) := by decide +kernel
theorem dX4_forgetLeaders_20 : decode cX4_forgetLeaders 20 = .ok (.goto (-18), 3) := by decide +kernel
theorem dX4_forgetLeaders_23 : decode cX4_forgetLeaders 23 = .ok (.return_, 1) := by decide +kernel
theorem dX4_limitFresh_0 : decode cX4_limitFresh 0 = .ok (.iconst 0, 1) := by decide +kernel
theorem dX4_limitFresh_1 : decode cX4_limitFresh 1 = .ok (.istore_n 2, 1) := by decide +kernel
theorem dX4_limitFresh_2 : decode cX4_limitFresh 2 = .ok (.iload_n 2, 1) := by decide +kernel
theorem dX4_limitFresh_3 : decode cX4_limitFresh 3 = .ok (.aload_n 0, 1) := by decide +kernel
theorem dX4_limitFresh_4 : decode cX4_limitFresh 4 = .ok (.getfield 47, 3) := by decide +kernel
theorem dX4_limitFresh_7 : decode cX4_limitFresh 7 = .ok (.if_icmp .ge 23, 3) := by decide +kernel
theorem dX4_limitFresh_10 : decode cX4_limitFresh 10 = .ok (.aload_n 0, 1) := by decide +kernel
theorem dX4_limitFresh_11 : decode cX4_limitFresh 11 = .ok (.getfield 25, 3) := by decide +kernel
theorem dX4_limitFresh_14 : decode cX4_limitFresh 14 = .ok (.iload_n 2, 1) := by decide +kernel
theorem dX4_limitFresh_15 : decode cX4_limitFresh 15 = .ok (.iconst 0, 1) := by decide +kernel
theorem dX4_limitFresh_16 : decode cX4_limitFresh 16 = .ok (.iastore, 1) := by decide +kernel
theorem dX4_limitFresh_17 : decode cX4_limitFresh 17 = .ok (.aload_n 0, 1) := by decide +kernel
theorem dX4_limitFresh_18 : decode cX4_limitFresh 18 = .ok (.getfield 28, 3) := by decide +kernel
theorem dX4_limitFresh_21 : decode cX4_limitFresh 21 = .ok (.iload_n 2, 1) := by decide +kernel
theorem dX4_limitFresh_22 : decode cX4_limitFresh 22 = .ok (.iload_n 1, 1) := by decide +kernel
theorem dX4_limitFresh_23 : decode cX4_limitFresh 23 = .ok (.iastore, 1) := by decide +kernel
theorem dX4_limitFresh_24 : decode cX4_limitFresh 24 = .ok (.iinc 2 1, 3) := by decide +kernel
theorem dX4_limitFresh_27 : decode cX4_limitFresh 27 = .ok (.goto (-25), 3) := by decide +kernel
theorem dX4_limitFresh_30 : decode cX4_limitFresh 30 = .ok (.return_, 1) := by decide +kernel
theorem dX4_wantFresh_0 : decode cX4_wantFresh 0 = .ok (.iload_n 1, 1) := by decide +kernel
theorem dX4_wantFresh_1 : decode cX4_wantFresh 1 = .ok (.ifCond .lt 23, 3) := by decide +kernel
theorem dX4_wantFresh_4 : decode cX4_wantFresh 4 = .ok (.iload_n 1, 1) := by decide +kernel
theorem dX4_wantFresh_5 : decode cX4_wantFresh 5 = .ok (.bipush 7, 2) := by decide +kernel
theorem dX4_wantFresh_7 : decode cX4_wantFresh 7 = .ok (.if_icmp .ge 17, 3) := by decide +kernel
theorem dX4_wantFresh_10 : decode cX4_wantFresh 10 = .ok (.aload_n 0, 1) := by decide +kernel
theorem dX4_wantFresh_11 : decode cX4_wantFresh 11 = .ok (.getfield 25, 3) := by decide +kernel
theorem dX4_wantFresh_14 : decode cX4_wantFresh 14 = .ok (.iload_n 1, 1) := by decide +kernel
theorem dX4_wantFresh_15 : decode cX4_wantFresh 15 = .ok (.iload_n 2, 1) := by decide +kernel
theorem dX4_wantFresh_16 : decode cX4_wantFresh 16 = .ok (.iastore, 1) := by decide +kernel
theorem dX4_wantFresh_17 : decode cX4_wantFresh 17 = .ok (.aload_n 0, 1) := by decide +kernel
theorem dX4_wantFresh_18 : decode cX4_wantFresh 18 = .ok (.getfield 28, 3) := by decide +kernel
theorem dX4_wantFresh_21 : decode cX4_wantFresh 21 = .ok (.iload_n 1, 1) := by decide +kernel
theorem dX4_wantFresh_22 : decode cX4_wantFresh 22 = .ok (.iload_n 2, 1) := by decide +kernel
theorem dX4_wantFresh_23 : decode cX4_wantFresh 23 = .ok (.iastore, 1) := by decide +kernel
theorem dX4_wantFresh_24 : decode cX4_wantFresh 24 = .ok (.return_, 1) := by decide +kernel
theorem dX4_seek_0 : decode cX4_seek 0 = .ok (.aload_n 0, 1) := by decide +kernel
theorem dX4_seek_1 : decode cX4_seek 1 = .ok (.iconst 0, 1) := by decide +kernel
theorem dX4_seek_2 : decode cX4_seek 2 = .ok (.iconst 1, 1) := by decide +kernel
theorem dX4_seek_3 : decode cX4_seek 3 = .ok (.aload_n 0, 1) := by decide +kernel
theorem dX4_seek_4 : decode cX4_seek 4 = .ok (.getfield 47, 3) := by decide +kernel
theorem dX4_seek_7 : decode cX4_seek 7 = .ok (.ishl, 1) := by decide +kernel
theorem dX4_seek_8 : decode cX4_seek 8 = .ok (.iconst 1, 1) := by decide +kernel
theorem dX4_seek_9 : decode cX4_seek 9 = .ok (.isub, 1) := by decide +kernel
theorem dX4_seek_10 : decode cX4_seek 10 = .ok (.iconst 0, 1) := by decide +kernel
theorem dX4_seek_11 : decode cX4_seek 11 = .ok (.iconst 0, 1) := by decide +kernel
theorem dX4_seek_12 : decode cX4_seek 12 = .ok (.invokestatic 74, 3) := by decide +kernel
theorem dX4_seek_15 : decode cX4_seek 15 = .ok (.return_, 1) := by decide +kernel
theorem dX4_seekLeast_0 : decode cX4_seekLeast 0 = .ok (.aload_n 0, 1) := by decide +kernel
theorem dX4_seekLeast_1 : decode cX4_seekLeast 1 = .ok (.iconst 1, 1) := by decide +kernel
theorem dX4_seekLeast_2 : decode cX4_seekLeast 2 = .ok (.putfield 58, 3) := by decide +kernel
theorem dX4_seekLeast_5 : decode cX4_seekLeast 5 = .ok (.aload_n 0, 1) := by decide +kernel
theorem dX4_seekLeast_6 : decode cX4_seekLeast 6 = .ok (.invokevirtual 78, 3) := by decide +kernel
theorem dX4_seekLeast_9 : decode cX4_seekLeast 9 = .ok (.return_, 1) := by decide +kernel
theorem dX4_goThrough_0 : decode cX4_goThrough 0 = .ok (.iload_n 1, 1) := by decide +kernel
theorem dX4_goThrough_1 : decode cX4_goThrough 1 = .ok (.aload_n 0, 1) := by decide +kernel
theorem dX4_goThrough_2 : decode cX4_goThrough 2 = .ok (.getfield 47, 3) := by decide +kernel
theorem dX4_goThrough_5 : decode cX4_goThrough 5 = .ok (.if_icmp .ge 9, 3) := by decide +kernel
theorem dX4_goThrough_8 : decode cX4_goThrough 8 = .ok (.iload_n 1, 1) := by decide +kernel
theorem dX4_goThrough_9 : decode cX4_goThrough 9 = .ok (.bipush 7, 2) := by decide +kernel
theorem dX4_goThrough_11 : decode cX4_goThrough 11 = .ok (.if_icmp .lt 11, 3) := by decide +kernel
theorem dX4_goThrough_14 : decode cX4_goThrough 14 = .ok (.aload_n 0, 1) := by decide +kernel
theorem dX4_goThrough_15 : decode cX4_goThrough 15 = .ok (.iload_n 3, 1) := by decide +kernel
theorem dX4_goThrough_16 : decode cX4_goThrough 16 = .ok (.iload 4, 2) := by decide +kernel
theorem dX4_goThrough_18 : decode cX4_goThrough 18 = .ok (.invokevirtual 81, 3) := by decide +kernel
theorem dX4_goThrough_21 : decode cX4_goThrough 21 = .ok (.return_, 1) := by decide +kernel
theorem dX4_goThrough_22 : decode cX4_goThrough 22 = .ok (.iconst 0, 1) := by decide +kernel
theorem dX4_goThrough_23 : decode cX4_goThrough 23 = .ok (.istore 5, 2) := by decide +kernel
theorem dX4_goThrough_25 : decode cX4_goThrough 25 = .ok (.iload 5, 2) := by decide +kernel
theorem dX4_goThrough_27 : decode cX4_goThrough 27 = .ok (.aload_n 0, 1) := by decide +kernel
theorem dX4_goThrough_28 : decode cX4_goThrough 28 = .ok (.getfield 47, 3) := by decide +kernel
theorem dX4_goThrough_31 : decode cX4_goThrough 31 = .ok (.if_icmp .ge 147, 3) := by decide +kernel
theorem dX4_goThrough_34 : decode cX4_goThrough 34 = .ok (.aload_n 0, 1) := by decide +kernel
theorem dX4_goThrough_35 : decode cX4_goThrough 35 = .ok (.getfield 65, 3) := by decide +kernel
theorem dX4_goThrough_38 : decode cX4_goThrough 38 = .ok (.aload_n 0, 1) := by decide +kernel
theorem dX4_goThrough_39 : decode cX4_goThrough 39 = .ok (.getfield 62, 3) := by decide +kernel
theorem dX4_goThrough_42 : decode cX4_goThrough 42 = .ok (.if_icmp .gt 136, 3) := by decide +kernel
theorem dX4_goThrough_45 : decode cX4_goThrough 45 = .ok (.aload_n 0, 1) := by decide +kernel
theorem dX4_goThrough_46 : decode cX4_goThrough 46 = .ok (.iload 5, 2) := by decide +kernel
theorem dX4_goThrough_48 : decode cX4_goThrough 48 = .ok (.iload_n 2, 1) := by decide +kernel
theorem dX4_goThrough_49 : decode cX4_goThrough 49 = .ok (.invokevirtual 85, 3) := by decide +kernel
theorem dX4_goThrough_52 : decode cX4_goThrough 52 = .ok (.ifCond .ne 6, 3) := by decide +kernel
theorem dX4_goThrough_55 : decode cX4_goThrough 55 = .ok (.goto 117, 3) := by decide +kernel
theorem dX4_goThrough_58 : decode cX4_goThrough 58 = .ok (.aload_n 0, 1) := by decide +kernel
theorem dX4_goThrough_59 : decode cX4_goThrough 59 = .ok (.getfield 12, 3) := by decide +kernel
theorem dX4_goThrough_62 : decode cX4_goThrough 62 = .ok (.iload_n 1, 1) := by decide +kernel
theorem dX4_goThrough_63 : decode cX4_goThrough 63 = .ok (.aload_n 0, 1) := by decide +kernel
theorem dX4_goThrough_64 : decode cX4_goThrough 64 = .ok (.getfield 18, 3) := by decide +kernel
theorem dX4_goThrough_67 : decode cX4_goThrough 67 = .ok (.iload 5, 2) := by decide +kernel
theorem dX4_goThrough_69 : decode cX4_goThrough 69 = .ok (.iaload, 1) := by decide +kernel
theorem dX4_goThrough_70 : decode cX4_goThrough 70 = .ok (.invokevirtual 89, 3) := by decide +kernel
theorem dX4_goThrough_73 : decode cX4_goThrough 73 = .ok (.aload_n 0, 1) := by decide +kernel
theorem dX4_goThrough_74 : decode cX4_goThrough 74 = .ok (.getfield 12, 3) := by decide +kernel
theorem dX4_goThrough_77 : decode cX4_goThrough 77 = .ok (.getfield 92, 3) := by decide +kernel
theorem dX4_goThrough_80 : decode cX4_goThrough 80 = .ok (.iload_n 1, 1) := by decide +kernel
theorem dX4_goThrough_81 : decode cX4_goThrough 81 = .ok (.iaload, 1) := by decide +kernel
theorem dX4_goThrough_82 : decode cX4_goThrough 82 = .ok (.invokestatic 95, 3) := by decide +kernel
theorem dX4_goThrough_85 : decode cX4_goThrough 85 = .ok (.istore 6, 2) := by decide +kernel
theorem dX4_goThrough_87 : decode cX4_goThrough 87 = .ok (.iload_n 3, 1) := by decide +kernel
theorem dX4_goThrough_88 : decode cX4_goThrough 88 = .ok (.iload 6, 2) := by decide +kernel
theorem dX4_goThrough_90 : decode cX4_goThrough 90 = .ok (.invokestatic 100, 3) := by decide +kernel
theorem dX4_goThrough_93 : decode cX4_goThrough 93 = .ok (.istore 7, 2) := by decide +kernel
theorem dX4_goThrough_95 : decode cX4_goThrough 95 = .ok (.iload 4, 2) := by decide +kernel
theorem dX4_goThrough_97 : decode cX4_goThrough 97 = .ok (.aload_n 0, 1) := by decide +kernel
theorem dX4_goThrough_98 : decode cX4_goThrough 98 = .ok (.getfield 12, 3) := by decide +kernel
theorem dX4_goThrough_101 : decode cX4_goThrough 101 = .ok (.getfield 106, 3) := by decide +kernel
theorem dX4_goThrough_104 : decode cX4_goThrough 104 = .ok (.iload_n 1, 1) := by decide +kernel
theorem dX4_goThrough_105 : decode cX4_goThrough 105 = .ok (.iaload, 1) := by decide +kernel
theorem dX4_goThrough_106 : decode cX4_goThrough 106 = .ok (.invokestatic 95, 3) := by decide +kernel
theorem dX4_goThrough_109 : decode cX4_goThrough 109 = .ok (.iadd, 1) := by decide +kernel
theorem dX4_goThrough_110 : decode cX4_goThrough 110 = .ok (.istore 8, 2) := by decide +kernel
theorem dX4_goThrough_112 : decode cX4_goThrough 112 = .ok (.iload 6, 2) := by decide +kernel
theorem dX4_goThrough_114 : decode cX4_goThrough 114 = .ok (.aload_n 0, 1) := by decide +kernel
theorem dX4_goThrough_115 : decode cX4_goThrough 115 = .ok (.getfield 25, 3) := by decide +kernel
theorem dX4_goThrough_118 : decode cX4_goThrough 118 = .ok (.iload_n 1, 1) := by decide +kernel
theorem dX4_goThrough_119 : decode cX4_goThrough 119 = .ok (.iaload, 1) := by decide +kernel
theorem dX4_goThrough_120 : decode cX4_goThrough 120 = .ok (.if_icmp .lt 52, 3) := by decide +kernel
theorem dX4_goThrough_123 : decode cX4_goThrough 123 = .ok (.iload 6, 2) := by decide +kernel
theorem dX4_goThrough_125 : decode cX4_goThrough 125 = .ok (.aload_n 0, 1) := by decide +kernel
theorem dX4_goThrough_126 : decode cX4_goThrough 126 = .ok (.getfield 28, 3) := by decide +kernel
theorem dX4_goThrough_129 : decode cX4_goThrough 129 = .ok (.iload_n 1, 1) := by decide +kernel
theorem dX4_goThrough_130 : decode cX4_goThrough 130 = .ok (.iaload, 1) := by decide +kernel
theorem dX4_goThrough_131 : decode cX4_goThrough 131 = .ok (.if_icmp .gt 41, 3) := by decide +kernel
theorem dX4_goThrough_134 : decode cX4_goThrough 134 = .ok (.aload_n 0, 1) := by decide +kernel
theorem dX4_goThrough_135 : decode cX4_goThrough 135 = .ok (.iload 7, 2) := by decide +kernel
theorem dX4_goThrough_137 : decode cX4_goThrough 137 = .ok (.iload 8, 2) := by decide +kernel
theorem dX4_goThrough_139 : decode cX4_goThrough 139 = .ok (.invokevirtual 109, 3) := by decide +kernel
theorem dX4_goThrough_142 : decode cX4_goThrough 142 = .ok (.ifCond .eq 30, 3) := by decide +kernel
theorem dX4_goThrough_145 : decode cX4_goThrough 145 = .ok (.aload_n 0, 1) := by decide +kernel
theorem dX4_goThrough_146 : decode cX4_goThrough 146 = .ok (.getfield 31, 3) := by decide +kernel
theorem dX4_goThrough_149 : decode cX4_goThrough 149 = .ok (.iload_n 1, 1) := by decide +kernel
theorem dX4_goThrough_150 : decode cX4_goThrough 150 = .ok (.iload 5, 2) := by decide +kernel
theorem dX4_goThrough_152 : decode cX4_goThrough 152 = .ok (.iastore, 1) := by decide +kernel
theorem dX4_goThrough_153 : decode cX4_goThrough 153 = .ok (.aload_n 0, 1) := by decide +kernel
theorem dX4_goThrough_154 : decode cX4_goThrough 154 = .ok (.iload_n 1, 1) := by decide +kernel
theorem dX4_goThrough_155 : decode cX4_goThrough 155 = .ok (.iconst 1, 1) := by decide +kernel
theorem dX4_goThrough_156 : decode cX4_goThrough 156 = .ok (.iadd, 1) := by decide +kernel
theorem dX4_goThrough_157 : decode cX4_goThrough 157 = .ok (.iload_n 2, 1) := by decide +kernel
theorem dX4_goThrough_158 : decode cX4_goThrough 158 = .ok (.iconst 1, 1) := by decide +kernel
theorem dX4_goThrough_159 : decode cX4_goThrough 159 = .ok (.iload 5, 2) := by decide +kernel
theorem dX4_goThrough_161 : decode cX4_goThrough 161 = .ok (.ishl, 1) := by decide +kernel
theorem dX4_goThrough_162 : decode cX4_goThrough 162 = .ok (.iconst (-1), 1) := by decide +kernel
theorem dX4_goThrough_163 : decode cX4_goThrough 163 = .ok (.ixor, 1) := by decide +kernel
theorem dX4_goThrough_164 : decode cX4_goThrough 164 = .ok (.iand, 1) := by decide +kernel
theorem dX4_goThrough_165 : decode cX4_goThrough 165 = .ok (.iload 7, 2) := by decide +kernel
theorem dX4_goThrough_167 : decode cX4_goThrough 167 = .ok (.iload 8, 2) := by decide +kernel
theorem dX4_goThrough_169 : decode cX4_goThrough 169 = .ok (.invokestatic 74, 3) := by decide +kernel
theorem dX4_goThrough_172 : decode cX4_goThrough 172 = .ok (.iinc 5 1, 3) := by decide +kernel
theorem dX4_goThrough_175 : decode cX4_goThrough 175 = .ok (.goto (-150), 3) := by decide +kernel
theorem dX4_goThrough_178 : decode cX4_goThrough 178 = .ok (.return_, 1) := by decide +kernel
theorem dX4_mayCome_0 : decode cX4_mayCome 0 = .ok (.iload_n 2, 1) := by decide +kernel
theorem dX4_mayCome_1 : decode cX4_mayCome 1 = .ok (.iload_n 1, 1) := by decide +kernel
theorem dX4_mayCome_2 : decode cX4_mayCome 2 = .ok (.invokestatic 112, 3) := by decide +kernel
theorem dX4_mayCome_5 : decode cX4_mayCome 5 = .ok (.ifCond .eq 18, 3) := by decide +kernel
theorem dX4_mayCome_8 : decode cX4_mayCome 8 = .ok (.aload_n 0, 1) := by decide +kernel
theorem dX4_mayCome_9 : decode cX4_mayCome 9 = .ok (.getfield 22, 3) := by decide +kernel
theorem dX4_mayCome_12 : decode cX4_mayCome 12 = .ok (.iload_n 1, 1) := by decide +kernel
theorem dX4_mayCome_13 : decode cX4_mayCome 13 = .ok (.iaload, 1) := by decide +kernel
theorem dX4_mayCome_14 : decode cX4_mayCome 14 = .ok (.iload_n 2, 1) := by decide +kernel
theorem dX4_mayCome_15 : decode cX4_mayCome 15 = .ok (.iand, 1) := by decide +kernel
theorem dX4_mayCome_16 : decode cX4_mayCome 16 = .ok (.ifCond .ne 7, 3) := by decide +kernel
theorem dX4_mayCome_19 : decode cX4_mayCome 19 = .ok (.iconst 1, 1) := by decide +kernel
theorem dX4_mayCome_20 : decode cX4_mayCome 20 = .ok (.goto 4, 3) := by decide +kernel
theorem dX4_mayCome_23 : decode cX4_mayCome 23 = .ok (.iconst 0, 1) := by decide +kernel
theorem dX4_mayCome_24 : decode cX4_mayCome 24 = .ok (.ireturn, 1) := by decide +kernel
theorem dX4_isWanted_0 : decode cX4_isWanted 0 = .ok (.aload_n 0, 1) := by decide +kernel
theorem dX4_isWanted_1 : decode cX4_isWanted 1 = .ok (.getfield 58, 3) := by decide +kernel
theorem dX4_isWanted_4 : decode cX4_isWanted 4 = .ok (.ifCond .eq 34, 3) := by decide +kernel
theorem dX4_isWanted_7 : decode cX4_isWanted 7 = .ok (.aload_n 0, 1) := by decide +kernel
theorem dX4_isWanted_8 : decode cX4_isWanted 8 = .ok (.getfield 65, 3) := by decide +kernel
theorem dX4_isWanted_11 : decode cX4_isWanted 11 = .ok (.ifCond .eq 27, 3) := by decide +kernel
theorem dX4_isWanted_14 : decode cX4_isWanted 14 = .ok (.iload_n 1, 1) := by decide +kernel
theorem dX4_isWanted_15 : decode cX4_isWanted 15 = .ok (.aload_n 0, 1) := by decide +kernel
theorem dX4_isWanted_16 : decode cX4_isWanted 16 = .ok (.getfield 68, 3) := by decide +kernel
theorem dX4_isWanted_19 : decode cX4_isWanted 19 = .ok (.if_icmp .lt 19, 3) := by decide +kernel
theorem dX4_isWanted_22 : decode cX4_isWanted 22 = .ok (.iload_n 1, 1) := by decide +kernel
theorem dX4_isWanted_23 : decode cX4_isWanted 23 = .ok (.aload_n 0, 1) := by decide +kernel
theorem dX4_isWanted_24 : decode cX4_isWanted 24 = .ok (.getfield 68, 3) := by decide +kernel
theorem dX4_isWanted_27 : decode cX4_isWanted 27 = .ok (.if_icmp .ne 15, 3) := by decide +kernel
theorem dX4_isWanted_30 : decode cX4_isWanted 30 = .ok (.iload_n 2, 1) := by decide +kernel
theorem dX4_isWanted_31 : decode cX4_isWanted 31 = .ok (.aload_n 0, 1) := by decide +kernel
theorem dX4_isWanted_32 : decode cX4_isWanted 32 = .ok (.getfield 71, 3) := by decide +kernel
theorem dX4_isWanted_35 : decode cX4_isWanted 35 = .ok (.if_icmp .ge 7, 3) := by decide +kernel
theorem dX4_isWanted_38 : decode cX4_isWanted 38 = .ok (.iconst 1, 1) := by decide +kernel
theorem dX4_isWanted_39 : decode cX4_isWanted 39 = .ok (.goto 4, 3) := by decide +kernel
theorem dX4_isWanted_42 : decode cX4_isWanted 42 = .ok (.iconst 0, 1) := by decide +kernel
theorem dX4_isWanted_43 : decode cX4_isWanted 43 = .ok (.ireturn, 1) := by decide +kernel
theorem dX4_keepFound_0 : decode cX4_keepFound 0 = .ok (.aload_n 0, 1) := by decide +kernel
theorem dX4_keepFound_1 : decode cX4_keepFound 1 = .ok (.dup, 1) := by decide +kernel
theorem dX4_keepFound_2 : decode cX4_keepFound 2 = .ok (.getfield 65, 3) := by decide +kernel
theorem dX4_keepFound_5 : decode cX4_keepFound 5 = .ok (.iconst 1, 1) := by decide +kernel
theorem dX4_keepFound_6 : decode cX4_keepFound 6 = .ok (.iadd, 1) := by decide +kernel
