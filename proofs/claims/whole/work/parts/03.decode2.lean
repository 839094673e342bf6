theorem dX10_perform_36 : decode cX10_perform 36 = .ok (.iload 4, 2) := by decide +kernel
theorem dX10_perform_38 : decode cX10_perform 38 = .ok (.iload_n 3, 1) := by decide +kernel
theorem dX10_perform_39 : decode cX10_perform 39 = .ok (.if_icmp .ge 36, 3) := by decide +kernel
theorem dX10_perform_42 : decode cX10_perform 42 = .ok (.aload_n 0, 1) := by decide +kernel
theorem dX10_perform_43 : decode cX10_perform 43 = .ok (.getfield 68, 3) := by decide +kernel
theorem dX10_perform_46 : decode cX10_perform 46 = .ok (.aload_n 2, 1) := by decide +kernel
theorem dX10_perform_47 : decode cX10_perform 47 = .ok (.getfield 199, 3) := by decide +kernel
theorem dX10_perform_50 : decode cX10_perform 50 = .ok (.iload 4, 2) := by decide +kernel
theorem dX10_perform_52 : decode cX10_perform 52 = .ok (.laload, 1) := by decide +kernel
theorem dX10_perform_53 : decode cX10_perform 53 = .ok (.invokestatic 211, 3) := by decide +kernel
theorem dX10_perform_56 : decode cX10_perform 56 = .ok (.aload_n 2, 1) := by decide +kernel
theorem dX10_perform_57 : decode cX10_perform 57 = .ok (.getfield 199, 3) := by decide +kernel
theorem dX10_perform_60 : decode cX10_perform 60 = .ok (.iload 4, 2) := by decide +kernel
theorem dX10_perform_62 : decode cX10_perform 62 = .ok (.laload, 1) := by decide +kernel
theorem dX10_perform_63 : decode cX10_perform 63 = .ok (.invokestatic 215, 3) := by decide +kernel
theorem dX10_perform_66 : decode cX10_perform 66 = .ok (.invokevirtual 157, 3) := by decide +kernel
theorem dX10_perform_69 : decode cX10_perform 69 = .ok (.iinc 4 1, 3) := by decide +kernel
theorem dX10_perform_72 : decode cX10_perform 72 = .ok (.goto (-36), 3) := by decide +kernel
theorem dX10_perform_75 : decode cX10_perform 75 = .ok (.iload_n 3, 1) := by decide +kernel
theorem dX10_perform_76 : decode cX10_perform 76 = .ok (.ireturn, 1) := by decide +kernel
theorem dX10_writable_0 : decode cX10_writable 0 = .ok (.iconst 0, 1) := by decide +kernel
theorem dX10_writable_1 : decode cX10_writable 1 = .ok (.istore_n 2, 1) := by decide +kernel
theorem dX10_writable_2 : decode cX10_writable 2 = .ok (.iload_n 2, 1) := by decide +kernel
theorem dX10_writable_3 : decode cX10_writable 3 = .ok (.aload_n 1, 1) := by decide +kernel
theorem dX10_writable_4 : decode cX10_writable 4 = .ok (.getfield 198, 3) := by decide +kernel
theorem dX10_writable_7 : decode cX10_writable 7 = .ok (.if_icmp .ge 33, 3) := by decide +kernel
theorem dX10_writable_10 : decode cX10_writable 10 = .ok (.aload_n 0, 1) := by decide +kernel
theorem dX10_writable_11 : decode cX10_writable 11 = .ok (.aload_n 1, 1) := by decide +kernel
theorem dX10_writable_12 : decode cX10_writable 12 = .ok (.getfield 199, 3) := by decide +kernel
theorem dX10_writable_15 : decode cX10_writable 15 = .ok (.iload_n 2, 1) := by decide +kernel
theorem dX10_writable_16 : decode cX10_writable 16 = .ok (.laload, 1) := by decide +kernel
theorem dX10_writable_17 : decode cX10_writable 17 = .ok (.aload_n 0, 1) := by decide +kernel
theorem dX10_writable_18 : decode cX10_writable 18 = .ok (.getfield 68, 3) := by decide +kernel
theorem dX10_writable_21 : decode cX10_writable 21 = .ok (.getfield 154, 3) := by decide +kernel
theorem dX10_writable_24 : decode cX10_writable 24 = .ok (.iload_n 2, 1) := by decide +kernel
theorem dX10_writable_25 : decode cX10_writable 25 = .ok (.iadd, 1) := by decide +kernel
theorem dX10_writable_26 : decode cX10_writable 26 = .ok (.invokevirtual 203, 3) := by decide +kernel
theorem dX10_writable_29 : decode cX10_writable 29 = .ok (.ifCond .eq 5, 3) := by decide +kernel
theorem dX10_writable_32 : decode cX10_writable 32 = .ok (.iload_n 2, 1) := by decide +kernel
theorem dX10_writable_33 : decode cX10_writable 33 = .ok (.ireturn, 1) := by decide +kernel
theorem dX10_writable_34 : decode cX10_writable 34 = .ok (.iinc 2 1, 3) := by decide +kernel
theorem dX10_writable_37 : decode cX10_writable 37 = .ok (.goto (-35), 3) := by decide +kernel
theorem dX10_writable_40 : decode cX10_writable 40 = .ok (.aload_n 1, 1) := by decide +kernel
theorem dX10_writable_41 : decode cX10_writable 41 = .ok (.getfield 198, 3) := by decide +kernel
theorem dX10_writable_44 : decode cX10_writable 44 = .ok (.ireturn, 1) := by decide +kernel
theorem dX10_tellFault_0 : decode cX10_tellFault 0 = .ok (.lload_n 1, 1) := by decide +kernel
theorem dX10_tellFault_1 : decode cX10_tellFault 1 = .ok (.lconst 0, 1) := by decide +kernel
theorem dX10_tellFault_2 : decode cX10_tellFault 2 = .ok (.lcmp, 1) := by decide +kernel
theorem dX10_tellFault_3 : decode cX10_tellFault 3 = .ok (.ifCond .lt 30, 3) := by decide +kernel
theorem dX10_tellFault_6 : decode cX10_tellFault 6 = .ok (.lload_n 1, 1) := by decide +kernel
theorem dX10_tellFault_7 : decode cX10_tellFault 7 = .ok (.ldc2_w 218, 3) := by decide +kernel
theorem dX10_tellFault_10 : decode cX10_tellFault 10 = .ok (.aload_n 0, 1) := by decide +kernel
theorem dX10_tellFault_11 : decode cX10_tellFault 11 = .ok (.getfield 65, 3) := by decide +kernel
theorem dX10_tellFault_14 : decode cX10_tellFault 14 = .ok (.getfield 220, 3) := by decide +kernel
theorem dX10_tellFault_17 : decode cX10_tellFault 17 = .ok (.i2l, 1) := by decide +kernel
theorem dX10_tellFault_18 : decode cX10_tellFault 18 = .ok (.lmul, 1) := by decide +kernel
theorem dX10_tellFault_19 : decode cX10_tellFault 19 = .ok (.lcmp, 1) := by decide +kernel
theorem dX10_tellFault_20 : decode cX10_tellFault 20 = .ok (.ifCond .ge 13, 3) := by decide +kernel
theorem dX10_tellFault_23 : decode cX10_tellFault 23 = .ok (.lload_n 1, 1) := by decide +kernel
theorem dX10_tellFault_24 : decode cX10_tellFault 24 = .ok (.invokestatic 215, 3) := by decide +kernel
theorem dX10_tellFault_27 : decode cX10_tellFault 27 = .ok (.invokestatic 151, 3) := by decide +kernel
theorem dX10_tellFault_30 : decode cX10_tellFault 30 = .ok (.ifCond .ne 5, 3) := by decide +kernel
theorem dX10_tellFault_33 : decode cX10_tellFault 33 = .ok (.iconst 1, 1) := by decide +kernel
theorem dX10_tellFault_34 : decode cX10_tellFault 34 = .ok (.ireturn, 1) := by decide +kernel
theorem dX10_tellFault_35 : decode cX10_tellFault 35 = .ok (.iload_n 3, 1) := by decide +kernel
theorem dX10_tellFault_36 : decode cX10_tellFault 36 = .ok (.bipush 40, 2) := by decide +kernel
theorem dX10_tellFault_38 : decode cX10_tellFault 38 = .ok (.if_icmp .lt 7, 3) := by decide +kernel
theorem dX10_tellFault_41 : decode cX10_tellFault 41 = .ok (.iconst 2, 1) := by decide +kernel
theorem dX10_tellFault_42 : decode cX10_tellFault 42 = .ok (.goto 4, 3) := by decide +kernel
theorem dX10_tellFault_45 : decode cX10_tellFault 45 = .ok (.iconst 0, 1) := by decide +kernel
theorem dX10_tellFault_46 : decode cX10_tellFault 46 = .ok (.ireturn, 1) := by decide +kernel
theorem dX10_toldGuesser_0 : decode cX10_toldGuesser 0 = .ok (.lload_n 0, 1) := by decide +kernel
theorem dX10_toldGuesser_1 : decode cX10_toldGuesser 1 = .ok (.ldc2_w 218, 3) := by decide +kernel
theorem dX10_toldGuesser_4 : decode cX10_toldGuesser 4 = .ok (.ldiv, 1) := by decide +kernel
theorem dX10_toldGuesser_5 : decode cX10_toldGuesser 5 = .ok (.l2i, 1) := by decide +kernel
theorem dX10_toldGuesser_6 : decode cX10_toldGuesser 6 = .ok (.ireturn, 1) := by decide +kernel
theorem dX10_toldNumber_0 : decode cX10_toldNumber 0 = .ok (.lload_n 0, 1) := by decide +kernel
theorem dX10_toldNumber_1 : decode cX10_toldNumber 1 = .ok (.ldc2_w 218, 3) := by decide +kernel
theorem dX10_toldNumber_4 : decode cX10_toldNumber 4 = .ok (.lrem, 1) := by decide +kernel
theorem dX10_toldNumber_5 : decode cX10_toldNumber 5 = .ok (.l2i, 1) := by decide +kernel
theorem dX10_toldNumber_6 : decode cX10_toldNumber 6 = .ok (.ireturn, 1) := by decide +kernel
theorem dX10_meanWith_0 : decode cX10_meanWith 0 = .ok (.aload_n 0, 1) := by decide +kernel
theorem dX10_meanWith_1 : decode cX10_meanWith 1 = .ok (.getfield 68, 3) := by decide +kernel
theorem dX10_meanWith_4 : decode cX10_meanWith 4 = .ok (.getfield 154, 3) := by decide +kernel
theorem dX10_meanWith_7 : decode cX10_meanWith 7 = .ok (.iload_n 2, 1) := by decide +kernel
theorem dX10_meanWith_8 : decode cX10_meanWith 8 = .ok (.iadd, 1) := by decide +kernel
theorem dX10_meanWith_9 : decode cX10_meanWith 9 = .ok (.istore_n 3, 1) := by decide +kernel
theorem dX10_meanWith_10 : decode cX10_meanWith 10 = .ok (.iload_n 3, 1) := by decide +kernel
theorem dX10_meanWith_11 : decode cX10_meanWith 11 = .ok (.ifCond .ne 5, 3) := by decide +kernel
theorem dX10_meanWith_14 : decode cX10_meanWith 14 = .ok (.iconst (-1), 1) := by decide +kernel
theorem dX10_meanWith_15 : decode cX10_meanWith 15 = .ok (.ireturn, 1) := by decide +kernel
theorem dX10_meanWith_16 : decode cX10_meanWith 16 = .ok (.aload_n 0, 1) := by decide +kernel
theorem dX10_meanWith_17 : decode cX10_meanWith 17 = .ok (.getfield 68, 3) := by decide +kernel
theorem dX10_meanWith_20 : decode cX10_meanWith 20 = .ok (.aload_n 0, 1) := by decide +kernel
theorem dX10_meanWith_21 : decode cX10_meanWith 21 = .ok (.getfield 68, 3) := by decide +kernel
theorem dX10_meanWith_24 : decode cX10_meanWith 24 = .ok (.getfield 154, 3) := by decide +kernel
theorem dX10_meanWith_27 : decode cX10_meanWith 27 = .ok (.invokevirtual 223, 3) := by decide +kernel
theorem dX10_meanWith_30 : decode cX10_meanWith 30 = .ok (.istore 4, 2) := by decide +kernel
theorem dX10_meanWith_32 : decode cX10_meanWith 32 = .ok (.iconst 0, 1) := by decide +kernel
theorem dX10_meanWith_33 : decode cX10_meanWith 33 = .ok (.istore 5, 2) := by decide +kernel
theorem dX10_meanWith_35 : decode cX10_meanWith 35 = .ok (.iload 5, 2) := by decide +kernel
theorem dX10_meanWith_37 : decode cX10_meanWith 37 = .ok (.iload_n 2, 1) := by decide +kernel
theorem dX10_meanWith_38 : decode cX10_meanWith 38 = .ok (.if_icmp .ge 24, 3) := by decide +kernel
theorem dX10_meanWith_41 : decode cX10_meanWith 41 = .ok (.iload 4, 2) := by decide +kernel
theorem dX10_meanWith_43 : decode cX10_meanWith 43 = .ok (.aload_n 1, 1) := by decide +kernel
theorem dX10_meanWith_44 : decode cX10_meanWith 44 = .ok (.getfield 199, 3) := by decide +kernel
theorem dX10_meanWith_47 : decode cX10_meanWith 47 = .ok (.iload 5, 2) := by decide +kernel
theorem dX10_meanWith_49 : decode cX10_meanWith 49 = .ok (.laload, 1) := by decide +kernel
theorem dX10_meanWith_50 : decode cX10_meanWith 50 = .ok (.invokestatic 215, 3) := by decide +kernel
theorem dX10_meanWith_53 : decode cX10_meanWith 53 = .ok (.iadd, 1) := by decide +kernel
theorem dX10_meanWith_54 : decode cX10_meanWith 54 = .ok (.istore 4, 2) := by decide +kernel
theorem dX10_meanWith_56 : decode cX10_meanWith 56 = .ok (.iinc 5 1, 3) := by decide +kernel
theorem dX10_meanWith_59 : decode cX10_meanWith 59 = .ok (.goto (-24), 3) := by decide +kernel
theorem dX10_meanWith_62 : decode cX10_meanWith 62 = .ok (.iload 4, 2) := by decide +kernel
theorem dX10_meanWith_64 : decode cX10_meanWith 64 = .ok (.iload_n 3, 1) := by decide +kernel
theorem dX10_meanWith_65 : decode cX10_meanWith 65 = .ok (.idiv, 1) := by decide +kernel
theorem dX10_meanWith_66 : decode cX10_meanWith 66 = .ok (.ireturn, 1) := by decide +kernel
theorem dX10_come_0 : decode cX10_come 0 = .ok (.iload_n 2, 1) := by decide +kernel
theorem dX10_come_1 : decode cX10_come 1 = .ok (.iconst 1, 1) := by decide +kernel
theorem dX10_come_2 : decode cX10_come 2 = .ok (.if_icmp .lt 9, 3) := by decide +kernel
theorem dX10_come_5 : decode cX10_come 5 = .ok (.iload_n 2, 1) := by decide +kernel
theorem dX10_come_6 : decode cX10_come 6 = .ok (.bipush 40, 2) := by decide +kernel
theorem dX10_come_8 : decode cX10_come 8 = .ok (.if_icmp .le 6, 3) := by decide +kernel
theorem dX10_come_11 : decode cX10_come 11 = .ok (.bipush (-3), 2) := by decide +kernel
theorem dX10_come_13 : decode cX10_come 13 = .ok (.ireturn, 1) := by decide +kernel
theorem dX10_come_14 : decode cX10_come 14 = .ok (.aload_n 0, 1) := by decide +kernel
theorem dX10_come_15 : decode cX10_come 15 = .ok (.invokevirtual 226, 3) := by decide +kernel
theorem dX10_come_18 : decode cX10_come 18 = .ok (.ifCond .ne 6, 3) := by decide +kernel
theorem dX10_come_21 : decode cX10_come 21 = .ok (.bipush (-5), 2) := by decide +kernel
theorem dX10_come_23 : decode cX10_come 23 = .ok (.ireturn, 1) := by decide +kernel
theorem dX10_come_24 : decode cX10_come 24 = .ok (.aload_n 0, 1) := by decide +kernel
theorem dX10_come_25 : decode cX10_come 25 = .ok (.getfield 68, 3) := by decide +kernel
theorem dX10_come_28 : decode cX10_come 28 = .ok (.getfield 154, 3) := by decide +kernel
theorem dX10_come_31 : decode cX10_come 31 = .ok (.iload_n 2, 1) := by decide +kernel
theorem dX10_come_32 : decode cX10_come 32 = .ok (.iadd, 1) := by decide +kernel
theorem dX10_come_33 : decode cX10_come 33 = .ok (.bipush 40, 2) := by decide +kernel
theorem dX10_come_35 : decode cX10_come 35 = .ok (.if_icmp .le 6, 3) := by decide +kernel
theorem dX10_come_38 : decode cX10_come 38 = .ok (.bipush (-4), 2) := by decide +kernel
theorem dX10_come_40 : decode cX10_come 40 = .ok (.ireturn, 1) := by decide +kernel
theorem dX10_come_41 : decode cX10_come 41 = .ok (.aload_n 0, 1) := by decide +kernel
theorem dX10_come_42 : decode cX10_come 42 = .ok (.getfield 37, 3) := by decide +kernel
theorem dX10_come_45 : decode cX10_come 45 = .ok (.iload_n 1, 1) := by decide +kernel
theorem dX10_come_46 : decode cX10_come 46 = .ok (.invokevirtual 229, 3) := by decide +kernel
theorem dX10_come_49 : decode cX10_come 49 = .ok (.aload_n 0, 1) := by decide +kernel
theorem dX10_come_50 : decode cX10_come 50 = .ok (.getfield 37, 3) := by decide +kernel
theorem dX10_come_53 : decode cX10_come 53 = .ok (.aload_n 0, 1) := by decide +kernel
theorem dX10_come_54 : decode cX10_come 54 = .ok (.getfield 65, 3) := by decide +kernel
theorem dX10_come_57 : decode cX10_come 57 = .ok (.aload_n 0, 1) := by decide +kernel
theorem dX10_come_58 : decode cX10_come 58 = .ok (.getfield 68, 3) := by decide +kernel
theorem dX10_come_61 : decode cX10_come 61 = .ok (.iload_n 2, 1) := by decide +kernel
theorem dX10_come_62 : decode cX10_come 62 = .ok (.aload_n 0, 1) := by decide +kernel
theorem dX10_come_63 : decode cX10_come 63 = .ok (.getfield 65, 3) := by decide +kernel
theorem dX10_come_66 : decode cX10_come 66 = .ok (.getfield 168, 3) := by decide +kernel
theorem dX10_come_69 : decode cX10_come 69 = .ok (.invokevirtual 232, 3) := by decide +kernel
theorem dX10_come_72 : decode cX10_come 72 = .ok (.aload_n 0, 1) := by decide +kernel
theorem dX10_come_73 : decode cX10_come 73 = .ok (.getfield 68, 3) := by decide +kernel
theorem dX10_come_76 : decode cX10_come 76 = .ok (.getfield 154, 3) := by decide +kernel
theorem dX10_come_79 : decode cX10_come 79 = .ok (.ireturn, 1) := by decide +kernel
theorem dX10_canDraw_0 : decode cX10_canDraw 0 = .ok (.aload_n 0, 1) := by decide +kernel
theorem dX10_canDraw_1 : decode cX10_canDraw 1 = .ok (.getfield 65, 3) := by decide +kernel
theorem dX10_canDraw_4 : decode cX10_canDraw 4 = .ok (.getfield 220, 3) := by decide +kernel
theorem dX10_canDraw_7 : decode cX10_canDraw 7 = .ok (.ifCond .le 17, 3) := by decide +kernel
theorem dX10_canDraw_10 : decode cX10_canDraw 10 = .ok (.aload_n 0, 1) := by decide +kernel
theorem dX10_canDraw_11 : decode cX10_canDraw 11 = .ok (.getfield 65, 3) := by decide +kernel
theorem dX10_canDraw_14 : decode cX10_canDraw 14 = .ok (.getfield 148, 3) := by decide +kernel
theorem dX10_canDraw_17 : decode cX10_canDraw 17 = .ok (.ifCond .eq 7, 3) := by decide +kernel
theorem dX10_canDraw_20 : decode cX10_canDraw 20 = .ok (.iconst 1, 1) := by decide +kernel
theorem dX10_canDraw_21 : decode cX10_canDraw 21 = .ok (.goto 4, 3) := by decide +kernel
theorem dX10_canDraw_24 : decode cX10_canDraw 24 = .ok (.iconst 0, 1) := by decide +kernel
theorem dX10_canDraw_25 : decode cX10_canDraw 25 = .ok (.ireturn, 1) := by decide +kernel
theorem dX10_leader_0 : decode cX10_leader 0 = .ok (.iload_n 1, 1) := by decide +kernel
theorem dX10_leader_1 : decode cX10_leader 1 = .ok (.invokestatic 135, 3) := by decide +kernel
theorem dX10_leader_4 : decode cX10_leader 4 = .ok (.ifCond .eq 14, 3) := by decide +kernel
theorem dX10_leader_7 : decode cX10_leader 7 = .ok (.aload_n 0, 1) := by decide +kernel
theorem dX10_leader_8 : decode cX10_leader 8 = .ok (.getfield 68, 3) := by decide +kernel
theorem dX10_leader_11 : decode cX10_leader 11 = .ok (.iload_n 1, 1) := by decide +kernel
theorem dX10_leader_12 : decode cX10_leader 12 = .ok (.invokevirtual 236, 3) := by decide +kernel
theorem dX10_leader_15 : decode cX10_leader 15 = .ok (.goto 5, 3) := by decide +kernel
theorem dX10_leader_18 : decode cX10_leader 18 = .ok (.bipush (-3), 2) := by decide +kernel
theorem dX10_leader_20 : decode cX10_leader 20 = .ok (.ireturn, 1) := by decide +kernel
theorem dX10_winner_0 : decode cX10_winner 0 = .ok (.aload_n 0, 1) := by decide +kernel
theorem dX10_winner_1 : decode cX10_winner 1 = .ok (.getfield 65, 3) := by decide +kernel
theorem dX10_winner_4 : decode cX10_winner 4 = .ok (.getfield 148, 3) := by decide +kernel
theorem dX10_winner_7 : decode cX10_winner 7 = .ok (.ifCond .ne 8, 3) := by decide +kernel
theorem dX10_winner_10 : decode cX10_winner 10 = .ok (.bipush (-5), 2) := by decide +kernel
theorem dX10_winner_12 : decode cX10_winner 12 = .ok (.goto 17, 3) := by decide +kernel
theorem dX10_winner_15 : decode cX10_winner 15 = .ok (.aload_n 0, 1) := by decide +kernel
theorem dX10_winner_16 : decode cX10_winner 16 = .ok (.getfield 68, 3) := by decide +kernel
theorem dX10_winner_19 : decode cX10_winner 19 = .ok (.aload_n 0, 1) := by decide +kernel
theorem dX10_winner_20 : decode cX10_winner 20 = .ok (.getfield 65, 3) := by decide +kernel
theorem dX10_winner_23 : decode cX10_winner 23 = .ok (.getfield 148, 3) := by decide +kernel
theorem dX10_winner_26 : decode cX10_winner 26 = .ok (.invokevirtual 236, 3) := by decide +kernel
theorem dX10_winner_29 : decode cX10_winner 29 = .ok (.ireturn, 1) := by decide +kernel
theorem dX10_wins_0 : decode cX10_wins 0 = .ok (.aload_n 0, 1) := by decide +kernel
theorem dX10_wins_1 : decode cX10_wins 1 = .ok (.getfield 68, 3) := by decide +kernel
theorem dX10_wins_4 : decode cX10_wins 4 = .ok (.iload_n 1, 1) := by decide +kernel
theorem dX10_wins_5 : decode cX10_wins 5 = .ok (.invokevirtual 161, 3) := by decide +kernel
theorem dX10_wins_8 : decode cX10_wins 8 = .ok (.ifCond .eq 12, 3) := by decide +kernel
theorem dX10_wins_11 : decode cX10_wins 11 = .ok (.iload_n 2, 1) := by decide +kernel
theorem dX10_wins_12 : decode cX10_wins 12 = .ok (.ifCond .lt 8, 3) := by decide +kernel
theorem dX10_wins_15 : decode cX10_wins 15 = .ok (.iload_n 2, 1) := by decide +kernel
theorem dX10_wins_16 : decode cX10_wins 16 = .ok (.iconst 3, 1) := by decide +kernel
theorem dX10_wins_17 : decode cX10_wins 17 = .ok (.if_icmp .le 6, 3) := by decide +kernel
theorem dX10_wins_20 : decode cX10_wins 20 = .ok (.bipush (-2), 2) := by decide +kernel
theorem dX10_wins_22 : decode cX10_wins 22 = .ok (.ireturn, 1) := by decide +kernel
theorem dX10_wins_23 : decode cX10_wins 23 = .ok (.aload_n 0, 1) := by decide +kernel
theorem dX10_wins_24 : decode cX10_wins 24 = .ok (.getfield 71, 3) := by decide +kernel
theorem dX10_wins_27 : decode cX10_wins 27 = .ok (.iload_n 1, 1) := by decide +kernel
theorem dX10_wins_28 : decode cX10_wins 28 = .ok (.invokevirtual 239, 3) := by decide +kernel
theorem dX10_wins_31 : decode cX10_wins 31 = .ok (.astore_n 3, 1) := by decide +kernel
theorem dX10_wins_32 : decode cX10_wins 32 = .ok (.iload_n 2, 1) := by decide +kernel
theorem dX10_wins_33 : decode cX10_wins 33 = .ok (.ifCond .ne 8, 3) := by decide +kernel
theorem dX10_wins_36 : decode cX10_wins 36 = .ok (.aload_n 3, 1) := by decide +kernel
theorem dX10_wins_37 : decode cX10_wins 37 = .ok (.invokevirtual 243, 3) := by decide +kernel
theorem dX10_wins_40 : decode cX10_wins 40 = .ok (.ireturn, 1) := by decide +kernel
theorem dX10_wins_41 : decode cX10_wins 41 = .ok (.iload_n 2, 1) := by decide +kernel
theorem dX10_wins_42 : decode cX10_wins 42 = .ok (.iconst 3, 1) := by decide +kernel
theorem dX10_wins_43 : decode cX10_wins 43 = .ok (.if_icmp .ne 28, 3) := by decide +kernel
theorem dX10_wins_46 : decode cX10_wins 46 = .ok (.aload_n 0, 1) := by decide +kernel
theorem dX10_wins_47 : decode cX10_wins 47 = .ok (.getfield 71, 3) := by decide +kernel
theorem dX10_wins_50 : decode cX10_wins 50 = .ok (.iconst 0, 1) := by decide +kernel
theorem dX10_wins_51 : decode cX10_wins 51 = .ok (.invokevirtual 249, 3) := by decide +kernel
theorem dX10_wins_54 : decode cX10_wins 54 = .ok (.aload_n 0, 1) := by decide +kernel
theorem dX10_wins_55 : decode cX10_wins 55 = .ok (.getfield 71, 3) := by decide +kernel
theorem dX10_wins_58 : decode cX10_wins 58 = .ok (.aload_n 3, 1) := by decide +kernel
theorem dX10_wins_59 : decode cX10_wins 59 = .ok (.getfield 252, 3) := by decide +kernel
theorem dX10_wins_62 : decode cX10_wins 62 = .ok (.aload_n 3, 1) := by decide +kernel
theorem dX10_wins_63 : decode cX10_wins 63 = .ok (.getfield 255, 3) := by decide +kernel
theorem dX10_wins_66 : decode cX10_wins 66 = .ok (.invokevirtual 258, 3) := by decide +kernel
theorem dX10_wins_69 : decode cX10_wins 69 = .ok (.l2i, 1) := by decide +kernel
theorem dX10_wins_70 : decode cX10_wins 70 = .ok (.ireturn, 1) := by decide +kernel
theorem dX10_wins_71 : decode cX10_wins 71 = .ok (.aload_n 3, 1) := by decide +kernel
theorem dX10_wins_72 : decode cX10_wins 72 = .ok (.invokevirtual 243, 3) := by decide +kernel
theorem dX10_wins_75 : decode cX10_wins 75 = .ok (.ifCond .ne 5, 3) := by decide +kernel
theorem dX10_wins_78 : decode cX10_wins 78 = .ok (.iconst (-1), 1) := by decide +kernel
theorem dX10_wins_79 : decode cX10_wins 79 = .ok (.ireturn, 1) := by decide +kernel
theorem dX10_wins_80 : decode cX10_wins 80 = .ok (.iload_n 2, 1) := by decide +kernel
theorem dX10_wins_81 : decode cX10_wins 81 = .ok (.iconst 1, 1) := by decide +kernel
theorem dX10_wins_82 : decode cX10_wins 82 = .ok (.if_icmp .ne 10, 3) := by decide +kernel
theorem dX10_wins_85 : decode cX10_wins 85 = .ok (.aload_n 3, 1) := by decide +kernel
theorem dX10_wins_86 : decode cX10_wins 86 = .ok (.getfield 252, 3) := by decide +kernel
theorem dX10_wins_89 : decode cX10_wins 89 = .ok (.goto 7, 3) := by decide +kernel
theorem dX10_wins_92 : decode cX10_wins 92 = .ok (.aload_n 3, 1) := by decide +kernel
theorem dX10_wins_93 : decode cX10_wins 93 = .ok (.getfield 255, 3) := by decide +kernel
theorem dX10_wins_96 : decode cX10_wins 96 = .ok (.ireturn, 1) := by decide +kernel
theorem dX10_mean_0 : decode cX10_mean 0 = .ok (.iload_n 1, 1) := by decide +kernel
theorem dX10_mean_1 : decode cX10_mean 1 = .ok (.tableswitch 94 0 4 #[35, 50, 58, 78, 86], 35) := by decide +kernel
theorem dX10_mean_36 : decode cX10_mean 36 = .ok (.aload_n 0, 1) := by decide +kernel
theorem dX10_mean_37 : decode cX10_mean 37 = .ok (.getfield 68, 3) := by decide +kernel
theorem dX10_mean_40 : decode cX10_mean 40 = .ok (.aload_n 0, 1) := by decide +kernel
theorem dX10_mean_41 : decode cX10_mean 41 = .ok (.getfield 68, 3) := by decide +kernel
theorem dX10_mean_44 : decode cX10_mean 44 = .ok (.getfield 154, 3) := by decide +kernel
theorem dX10_mean_47 : decode cX10_mean 47 = .ok (.invokevirtual 262, 3) := by decide +kernel
theorem dX10_mean_50 : decode cX10_mean 50 = .ok (.ireturn, 1) := by decide +kernel
theorem dX10_mean_51 : decode cX10_mean 51 = .ok (.aload_n 0, 1) := by decide +kernel
theorem dX10_mean_52 : decode cX10_mean 52 = .ok (.getfield 68, 3) := by decide +kernel
theorem dX10_mean_55 : decode cX10_mean 55 = .ok (.invokevirtual 265, 3) := by decide +kernel
theorem dX10_mean_58 : decode cX10_mean 58 = .ok (.ireturn, 1) := by decide +kernel
theorem dX10_mean_59 : decode cX10_mean 59 = .ok (.aload_n 0, 1) := by decide +kernel
theorem dX10_mean_60 : decode cX10_mean 60 = .ok (.getfield 68, 3) := by decide +kernel
theorem dX10_mean_63 : decode cX10_mean 63 = .ok (.aload_n 0, 1) := by decide +kernel
theorem dX10_mean_64 : decode cX10_mean 64 = .ok (.getfield 68, 3) := by decide +kernel
theorem dX10_mean_67 : decode cX10_mean 67 = .ok (.getfield 154, 3) := by decide +kernel
theorem dX10_mean_70 : decode cX10_mean 70 = .ok (.bipush 9, 2) := by decide +kernel
theorem dX10_mean_72 : decode cX10_mean 72 = .ok (.invokestatic 268, 3) := by decide +kernel
theorem dX10_mean_75 : decode cX10_mean 75 = .ok (.invokevirtual 262, 3) := by decide +kernel
theorem dX10_mean_78 : decode cX10_mean 78 = .ok (.ireturn, 1) := by decide +kernel
theorem dX10_mean_79 : decode cX10_mean 79 = .ok (.aload_n 0, 1) := by decide +kernel
theorem dX10_mean_80 : decode cX10_mean 80 = .ok (.getfield 68, 3) := by decide +kernel
theorem dX10_mean_83 : decode cX10_mean 83 = .ok (.invokevirtual 271, 3) := by decide +kernel
theorem dX10_mean_86 : decode cX10_mean 86 = .ok (.ireturn, 1) := by decide +kernel
theorem dX10_mean_87 : decode cX10_mean 87 = .ok (.aload_n 0, 1) := by decide +kernel
theorem dX10_mean_88 : decode cX10_mean 88 = .ok (.getfield 68, 3) := by decide +kernel
theorem dX10_mean_91 : decode cX10_mean 91 = .ok (.invokevirtual 274, 3) := by decide +kernel
theorem dX10_mean_94 : decode cX10_mean 94 = .ok (.ireturn, 1) := by decide +kernel
theorem dX10_mean_95 : decode cX10_mean 95 = .ok (.bipush (-2), 2) := by decide +kernel
theorem dX10_mean_97 : decode cX10_mean 97 = .ok (.ireturn, 1) := by decide +kernel
theorem dX10_nearest_0 : decode cX10_nearest 0 = .ok (.aload_n 0, 1) := by decide +kernel
theorem dX10_nearest_1 : decode cX10_nearest 1 = .ok (.getfield 65, 3) := by decide +kernel
theorem dX10_nearest_4 : decode cX10_nearest 4 = .ok (.getfield 148, 3) := by decide +kernel
theorem dX10_nearest_7 : decode cX10_nearest 7 = .ok (.ifCond .ne 6, 3) := by decide +kernel
theorem dX10_nearest_10 : decode cX10_nearest 10 = .ok (.bipush (-5), 2) := by decide +kernel
theorem dX10_nearest_12 : decode cX10_nearest 12 = .ok (.ireturn, 1) := by decide +kernel
theorem dX10_nearest_13 : decode cX10_nearest 13 = .ok (.aload_n 0, 1) := by decide +kernel
theorem dX10_nearest_14 : decode cX10_nearest 14 = .ok (.getfield 68, 3) := by decide +kernel
theorem dX10_nearest_17 : decode cX10_nearest 17 = .ok (.getfield 154, 3) := by decide +kernel
theorem dX10_nearest_20 : decode cX10_nearest 20 = .ok (.ifCond .ne 5, 3) := by decide +kernel
theorem dX10_nearest_23 : decode cX10_nearest 23 = .ok (.iconst (-1), 1) := by decide +kernel
theorem dX10_nearest_24 : decode cX10_nearest 24 = .ok (.ireturn, 1) := by decide +kernel
theorem dX10_nearest_25 : decode cX10_nearest 25 = .ok (.iconst 0, 1) := by decide +kernel
theorem dX10_nearest_26 : decode cX10_nearest 26 = .ok (.istore_n 1, 1) := by decide +kernel
theorem dX10_nearest_27 : decode cX10_nearest 27 = .ok (.iconst 1, 1) := by decide +kernel
theorem dX10_nearest_28 : decode cX10_nearest 28 = .ok (.istore_n 2, 1) := by decide +kernel
theorem dX10_nearest_29 : decode cX10_nearest 29 = .ok (.iload_n 2, 1) := by decide +kernel
theorem dX10_nearest_30 : decode cX10_nearest 30 = .ok (.iconst 3, 1) := by decide +kernel
theorem dX10_nearest_31 : decode cX10_nearest 31 = .ok (.if_icmp .gt 32, 3) := by decide +kernel
theorem dX10_nearest_34 : decode cX10_nearest 34 = .ok (.aload_n 0, 1) := by decide +kernel
theorem dX10_nearest_35 : decode cX10_nearest 35 = .ok (.aload_n 0, 1) := by decide +kernel
theorem dX10_nearest_36 : decode cX10_nearest 36 = .ok (.iload_n 2, 1) := by decide +kernel
theorem dX10_nearest_37 : decode cX10_nearest 37 = .ok (.invokevirtual 277, 3) := by decide +kernel
theorem dX10_nearest_40 : decode cX10_nearest 40 = .ok (.invokevirtual 176, 3) := by decide +kernel
theorem dX10_nearest_43 : decode cX10_nearest 43 = .ok (.aload_n 0, 1) := by decide +kernel
theorem dX10_nearest_44 : decode cX10_nearest 44 = .ok (.aload_n 0, 1) := by decide +kernel
theorem dX10_nearest_45 : decode cX10_nearest 45 = .ok (.iload_n 1, 1) := by decide +kernel
theorem dX10_nearest_46 : decode cX10_nearest 46 = .ok (.invokevirtual 277, 3) := by decide +kernel
theorem dX10_nearest_49 : decode cX10_nearest 49 = .ok (.invokevirtual 176, 3) := by decide +kernel
theorem dX10_nearest_52 : decode cX10_nearest 52 = .ok (.if_icmp .ge 5, 3) := by decide +kernel
theorem dX10_nearest_55 : decode cX10_nearest 55 = .ok (.iload_n 2, 1) := by decide +kernel
theorem dX10_nearest_56 : decode cX10_nearest 56 = .ok (.istore_n 1, 1) := by decide +kernel
theorem dX10_nearest_57 : decode cX10_nearest 57 = .ok (.iinc 2 1, 3) := by decide +kernel
theorem dX10_nearest_60 : decode cX10_nearest 60 = .ok (.goto (-31), 3) := by decide +kernel
theorem dX10_nearest_63 : decode cX10_nearest 63 = .ok (.iload_n 1, 1) := by decide +kernel
theorem dX10_nearest_64 : decode cX10_nearest 64 = .ok (.ireturn, 1) := by decide +kernel
theorem dX10_pointer_0 : decode cX10_pointer 0 = .ok (.iload_n 1, 1) := by decide +kernel
theorem dX10_pointer_1 : decode cX10_pointer 1 = .ok (.iconst 3, 1) := by decide +kernel
theorem dX10_pointer_2 : decode cX10_pointer 2 = .ok (.if_icmp .ge 9, 3) := by decide +kernel
theorem dX10_pointer_5 : decode cX10_pointer 5 = .ok (.aload_n 0, 1) := by decide +kernel
theorem dX10_pointer_6 : decode cX10_pointer 6 = .ok (.iload_n 1, 1) := by decide +kernel
theorem dX10_pointer_7 : decode cX10_pointer 7 = .ok (.invokevirtual 280, 3) := by decide +kernel
theorem dX10_pointer_10 : decode cX10_pointer 10 = .ok (.ireturn, 1) := by decide +kernel
theorem dX10_pointer_11 : decode cX10_pointer 11 = .ok (.aload_n 0, 1) := by decide +kernel
theorem dX10_pointer_12 : decode cX10_pointer 12 = .ok (.getfield 68, 3) := by decide +kernel
theorem dX10_pointer_15 : decode cX10_pointer 15 = .ok (.aload_n 0, 1) := by decide +kernel
theorem dX10_pointer_16 : decode cX10_pointer 16 = .ok (.getfield 65, 3) := by decide +kernel
theorem dX10_pointer_19 : decode cX10_pointer 19 = .ok (.getfield 148, 3) := by decide +kernel
theorem dX10_pointer_22 : decode cX10_pointer 22 = .ok (.invokevirtual 236, 3) := by decide +kernel
theorem dX10_pointer_25 : decode cX10_pointer 25 = .ok (.istore_n 2, 1) := by decide +kernel
theorem dX10_pointer_26 : decode cX10_pointer 26 = .ok (.aload_n 0, 1) := by decide +kernel
theorem dX10_pointer_27 : decode cX10_pointer 27 = .ok (.getfield 68, 3) := by decide +kernel
theorem dX10_pointer_30 : decode cX10_pointer 30 = .ok (.iload_n 2, 1) := by decide +kernel
theorem dX10_pointer_31 : decode cX10_pointer 31 = .ok (.invokevirtual 161, 3) := by decide +kernel
theorem dX10_pointer_34 : decode cX10_pointer 34 = .ok (.ifCond .eq 15, 3) := by decide +kernel
theorem dX10_pointer_37 : decode cX10_pointer 37 = .ok (.aload_n 0, 1) := by decide +kernel
theorem dX10_pointer_38 : decode cX10_pointer 38 = .ok (.getfield 68, 3) := by decide +kernel
theorem dX10_pointer_41 : decode cX10_pointer 41 = .ok (.getfield 162, 3) := by decide +kernel
theorem dX10_pointer_44 : decode cX10_pointer 44 = .ok (.iload_n 2, 1) := by decide +kernel
theorem dX10_pointer_45 : decode cX10_pointer 45 = .ok (.iaload, 1) := by decide +kernel
theorem dX10_pointer_46 : decode cX10_pointer 46 = .ok (.goto 4, 3) := by decide +kernel
theorem dX10_pointer_49 : decode cX10_pointer 49 = .ok (.iconst (-1), 1) := by decide +kernel
theorem dX10_pointer_50 : decode cX10_pointer 50 = .ok (.ireturn, 1) := by decide +kernel
theorem dX10_canCount_0 : decode cX10_canCount 0 = .ok (.iload_n 1, 1) := by decide +kernel
theorem dX10_canCount_1 : decode cX10_canCount 1 = .ok (.ifCond .lt 23, 3) := by decide +kernel
theorem dX10_canCount_4 : decode cX10_canCount 4 = .ok (.iload_n 1, 1) := by decide +kernel
theorem dX10_canCount_5 : decode cX10_canCount 5 = .ok (.iconst 4, 1) := by decide +kernel
theorem dX10_canCount_6 : decode cX10_canCount 6 = .ok (.if_icmp .gt 18, 3) := by decide +kernel
theorem dX10_canCount_9 : decode cX10_canCount 9 = .ok (.iload_n 1, 1) := by decide +kernel
theorem dX10_canCount_10 : decode cX10_canCount 10 = .ok (.aload_n 0, 1) := by decide +kernel
theorem dX10_canCount_11 : decode cX10_canCount 11 = .ok (.getfield 68, 3) := by decide +kernel
theorem dX10_canCount_14 : decode cX10_canCount 14 = .ok (.getfield 154, 3) := by decide +kernel
theorem dX10_canCount_17 : decode cX10_canCount 17 = .ok (.if_icmp .gt 7, 3) := by decide +kernel
theorem dX10_canCount_20 : decode cX10_canCount 20 = .ok (.iconst 1, 1) := by decide +kernel
theorem dX10_canCount_21 : decode cX10_canCount 21 = .ok (.goto 4, 3) := by decide +kernel
theorem dX10_canCount_24 : decode cX10_canCount 24 = .ok (.iconst 0, 1) := by decide +kernel
theorem dX10_canCount_25 : decode cX10_canCount 25 = .ok (.ireturn, 1) := by decide +kernel
theorem dX10_odds_0 : decode cX10_odds 0 = .ok (.aload_n 0, 1) := by decide +kernel
theorem dX10_odds_1 : decode cX10_odds 1 = .ok (.getfield 65, 3) := by decide +kernel
theorem dX10_odds_4 : decode cX10_odds 4 = .ok (.iload_n 1, 1) := by decide +kernel
theorem dX10_odds_5 : decode cX10_odds 5 = .ok (.invokevirtual 142, 3) := by decide +kernel
theorem dX10_odds_8 : decode cX10_odds 8 = .ok (.ifCond .eq 24, 3) := by decide +kernel
theorem dX10_odds_11 : decode cX10_odds 11 = .ok (.aload_n 0, 1) := by decide +kernel
theorem dX10_odds_12 : decode cX10_odds 12 = .ok (.iload_n 2, 1) := by decide +kernel
theorem dX10_odds_13 : decode cX10_odds 13 = .ok (.invokevirtual 283, 3) := by decide +kernel
theorem dX10_odds_16 : decode cX10_odds 16 = .ok (.ifCond .eq 16, 3) := by decide +kernel
theorem dX10_odds_19 : decode cX10_odds 19 = .ok (.aload_n 0, 1) := by decide +kernel
theorem dX10_odds_20 : decode cX10_odds 20 = .ok (.getfield 71, 3) := by decide +kernel
theorem dX10_odds_23 : decode cX10_odds 23 = .ok (.iload_n 1, 1) := by decide +kernel
theorem dX10_odds_24 : decode cX10_odds 24 = .ok (.iload_n 2, 1) := by decide +kernel
theorem dX10_odds_25 : decode cX10_odds 25 = .ok (.iconst (-1), 1) := by decide +kernel
theorem dX10_odds_26 : decode cX10_odds 26 = .ok (.invokevirtual 286, 3) := by decide +kernel
theorem dX10_odds_29 : decode cX10_odds 29 = .ok (.goto 6, 3) := by decide +kernel
theorem dX10_odds_32 : decode cX10_odds 32 = .ok (.ldc2_w 290, 3) := by decide +kernel
theorem dX10_odds_35 : decode cX10_odds 35 = .ok (.lreturn, 1) := by decide +kernel
theorem dX10_out_0 : decode cX10_out 0 = .ok (.aload_n 0, 1) := by decide +kernel
theorem dX10_out_1 : decode cX10_out 1 = .ok (.iload_n 1, 1) := by decide +kernel
theorem dX10_out_2 : decode cX10_out 2 = .ok (.invokevirtual 283, 3) := by decide +kernel
theorem dX10_out_5 : decode cX10_out 5 = .ok (.ifCond .ne 7, 3) := by decide +kernel
theorem dX10_out_8 : decode cX10_out 8 = .ok (.ldc2_w 290, 3) := by decide +kernel
theorem dX10_out_11 : decode cX10_out 11 = .ok (.lreturn, 1) := by decide +kernel
theorem dX10_out_12 : decode cX10_out 12 = .ok (.aload_n 0, 1) := by decide +kernel
theorem dX10_out_13 : decode cX10_out 13 = .ok (.getfield 71, 3) := by decide +kernel
theorem dX10_out_16 : decode cX10_out 16 = .ok (.iload_n 1, 1) := by decide +kernel
theorem dX10_out_17 : decode cX10_out 17 = .ok (.invokevirtual 249, 3) := by decide +kernel
theorem dX10_out_20 : decode cX10_out 20 = .ok (.aload_n 0, 1) := by decide +kernel
theorem dX10_out_21 : decode cX10_out 21 = .ok (.getfield 71, 3) := by decide +kernel
theorem dX10_out_24 : decode cX10_out 24 = .ok (.invokevirtual 292, 3) := by decide +kernel
theorem dX10_out_27 : decode cX10_out 27 = .ok (.lreturn, 1) := by decide +kernel
theorem dX10_likeliest_0 : decode cX10_likeliest 0 = .ok (.aload_n 0, 1) := by decide +kernel
theorem dX10_likeliest_1 : decode cX10_likeliest 1 = .ok (.iload_n 1, 1) := by decide +kernel
theorem dX10_likeliest_2 : decode cX10_likeliest 2 = .ok (.invokevirtual 283, 3) := by decide +kernel
theorem dX10_likeliest_5 : decode cX10_likeliest 5 = .ok (.ifCond .ne 6, 3) := by decide +kernel
theorem dX10_likeliest_8 : decode cX10_likeliest 8 = .ok (.bipush (-3), 2) := by decide +kernel
theorem dX10_likeliest_10 : decode cX10_likeliest 10 = .ok (.ireturn, 1) := by decide +kernel
theorem dX10_likeliest_11 : decode cX10_likeliest 11 = .ok (.iconst (-1), 1) := by decide +kernel
theorem dX10_likeliest_12 : decode cX10_likeliest 12 = .ok (.istore_n 2, 1) := by decide +kernel
theorem dX10_likeliest_13 : decode cX10_likeliest 13 = .ok (.lconst 0, 1) := by decide +kernel
theorem dX10_likeliest_14 : decode cX10_likeliest 14 = .ok (.lstore_n 3, 1) := by decide +kernel
theorem dX10_likeliest_15 : decode cX10_likeliest 15 = .ok (.aload_n 0, 1) := by decide +kernel
theorem dX10_likeliest_16 : decode cX10_likeliest 16 = .ok (.getfield 65, 3) := by decide +kernel
theorem dX10_likeliest_19 : decode cX10_likeliest 19 = .ok (.getfield 296, 3) := by decide +kernel
theorem dX10_likeliest_22 : decode cX10_likeliest 22 = .ok (.istore 5, 2) := by decide +kernel
theorem dX10_likeliest_24 : decode cX10_likeliest 24 = .ok (.iload 5, 2) := by decide +kernel
theorem dX10_likeliest_26 : decode cX10_likeliest 26 = .ok (.aload_n 0, 1) := by decide +kernel
theorem dX10_likeliest_27 : decode cX10_likeliest 27 = .ok (.getfield 65, 3) := by decide +kernel
theorem dX10_likeliest_30 : decode cX10_likeliest 30 = .ok (.getfield 299, 3) := by decide +kernel
theorem dX10_likeliest_33 : decode cX10_likeliest 33 = .ok (.if_icmp .gt 35, 3) := by decide +kernel
theorem dX10_likeliest_36 : decode cX10_likeliest 36 = .ok (.aload_n 0, 1) := by decide +kernel
theorem dX10_likeliest_37 : decode cX10_likeliest 37 = .ok (.getfield 71, 3) := by decide +kernel
theorem dX10_likeliest_40 : decode cX10_likeliest 40 = .ok (.iload 5, 2) := by decide +kernel
theorem dX10_likeliest_42 : decode cX10_likeliest 42 = .ok (.iload_n 1, 1) := by decide +kernel
theorem dX10_likeliest_43 : decode cX10_likeliest 43 = .ok (.iconst (-1), 1) := by decide +kernel
theorem dX10_likeliest_44 : decode cX10_likeliest 44 = .ok (.invokevirtual 286, 3) := by decide +kernel
theorem dX10_likeliest_47 : decode cX10_likeliest 47 = .ok (.lstore 6, 2) := by decide +kernel
theorem dX10_likeliest_49 : decode cX10_likeliest 49 = .ok (.lload 6, 2) := by decide +kernel
theorem dX10_likeliest_51 : decode cX10_likeliest 51 = .ok (.lload_n 3, 1) := by decide +kernel
theorem dX10_likeliest_52 : decode cX10_likeliest 52 = .ok (.lcmp, 1) := by decide +kernel
theorem dX10_likeliest_53 : decode cX10_likeliest 53 = .ok (.ifCond .le 9, 3) := by decide +kernel
theorem dX10_likeliest_56 : decode cX10_likeliest 56 = .ok (.lload 6, 2) := by decide +kernel
theorem dX10_likeliest_58 : decode cX10_likeliest 58 = .ok (.lstore_n 3, 1) := by decide +kernel
theorem dX10_likeliest_59 : decode cX10_likeliest 59 = .ok (.iload 5, 2) := by decide +kernel
theorem dX10_likeliest_61 : decode cX10_likeliest 61 = .ok (.istore_n 2, 1) := by decide +kernel
theorem dX10_likeliest_62 : decode cX10_likeliest 62 = .ok (.iinc 5 1, 3) := by decide +kernel
theorem dX10_likeliest_65 : decode cX10_likeliest 65 = .ok (.goto (-41), 3) := by decide +kernel
theorem dX10_likeliest_68 : decode cX10_likeliest 68 = .ok (.iload_n 2, 1) := by decide +kernel
theorem dX10_likeliest_69 : decode cX10_likeliest 69 = .ok (.ireturn, 1) := by decide +kernel
theorem dX10_span_0 : decode cX10_span 0 = .ok (.iload_n 2, 1) := by decide +kernel
theorem dX10_span_1 : decode cX10_span 1 = .ok (.ifCond .lt 8, 3) := by decide +kernel
theorem dX10_span_4 : decode cX10_span 4 = .ok (.iload_n 2, 1) := by decide +kernel
theorem dX10_span_5 : decode cX10_span 5 = .ok (.iconst 2, 1) := by decide +kernel
theorem dX10_span_6 : decode cX10_span 6 = .ok (.if_icmp .le 6, 3) := by decide +kernel
theorem dX10_span_9 : decode cX10_span 9 = .ok (.bipush (-2), 2) := by decide +kernel
theorem dX10_span_11 : decode cX10_span 11 = .ok (.ireturn, 1) := by decide +kernel
theorem dX10_span_12 : decode cX10_span 12 = .ok (.aload_n 0, 1) := by decide +kernel
theorem dX10_span_13 : decode cX10_span 13 = .ok (.iload_n 1, 1) := by decide +kernel
theorem dX10_span_14 : decode cX10_span 14 = .ok (.invokevirtual 283, 3) := by decide +kernel
theorem dX10_span_17 : decode cX10_span 17 = .ok (.ifCond .ne 6, 3) := by decide +kernel
theorem dX10_span_20 : decode cX10_span 20 = .ok (.bipush (-3), 2) := by decide +kernel
theorem dX10_span_22 : decode cX10_span 22 = .ok (.ireturn, 1) := by decide +kernel
theorem dX10_span_23 : decode cX10_span 23 = .ok (.iconst (-1), 1) := by decide +kernel
theorem dX10_span_24 : decode cX10_span 24 = .ok (.istore_n 3, 1) := by decide +kernel
theorem dX10_span_25 : decode cX10_span 25 = .ok (.iconst (-1), 1) := by decide +kernel
theorem dX10_span_26 : decode cX10_span 26 = .ok (.istore 4, 2) := by decide +kernel
theorem dX10_span_28 : decode cX10_span 28 = .ok (.iconst 0, 1) := by decide +kernel
theorem dX10_span_29 : decode cX10_span 29 = .ok (.istore 5, 2) := by decide +kernel
theorem dX10_span_31 : decode cX10_span 31 = .ok (.aload_n 0, 1) := by decide +kernel
theorem dX10_span_32 : decode cX10_span 32 = .ok (.getfield 65, 3) := by decide +kernel
theorem dX10_span_35 : decode cX10_span 35 = .ok (.getfield 296, 3) := by decide +kernel
theorem dX10_span_38 : decode cX10_span 38 = .ok (.istore 6, 2) := by decide +kernel
theorem dX10_span_40 : decode cX10_span 40 = .ok (.iload 6, 2) := by decide +kernel
theorem dX10_span_42 : decode cX10_span 42 = .ok (.aload_n 0, 1) := by decide +kernel
theorem dX10_span_43 : decode cX10_span 43 = .ok (.getfield 65, 3) := by decide +kernel
theorem dX10_span_46 : decode cX10_span 46 = .ok (.getfield 299, 3) := by decide +kernel
theorem dX10_span_49 : decode cX10_span 49 = .ok (.if_icmp .gt 44, 3) := by decide +kernel
theorem dX10_span_52 : decode cX10_span 52 = .ok (.aload_n 0, 1) := by decide +kernel
theorem dX10_span_53 : decode cX10_span 53 = .ok (.getfield 71, 3) := by decide +kernel
theorem dX10_span_56 : decode cX10_span 56 = .ok (.iload 6, 2) := by decide +kernel
theorem dX10_span_58 : decode cX10_span 58 = .ok (.iload_n 1, 1) := by decide +kernel
theorem dX10_span_59 : decode cX10_span 59 = .ok (.iconst (-1), 1) := by decide +kernel
theorem dX10_span_60 : decode cX10_span 60 = .ok (.invokevirtual 286, 3) := by decide +kernel
theorem dX10_span_63 : decode cX10_span 63 = .ok (.lconst 0, 1) := by decide +kernel
theorem dX10_span_64 : decode cX10_span 64 = .ok (.lcmp, 1) := by decide +kernel
theorem dX10_span_65 : decode cX10_span 65 = .ok (.ifCond .le 22, 3) := by decide +kernel
theorem dX10_span_68 : decode cX10_span 68 = .ok (.iload 5, 2) := by decide +kernel
theorem dX10_span_70 : decode cX10_span 70 = .ok (.ifCond .ne 8, 3) := by decide +kernel
theorem dX10_span_73 : decode cX10_span 73 = .ok (.iload 6, 2) := by decide +kernel
theorem dX10_span_75 : decode cX10_span 75 = .ok (.goto 4, 3) := by decide +kernel
theorem dX10_span_78 : decode cX10_span 78 = .ok (.iload_n 3, 1) := by decide +kernel
theorem dX10_span_79 : decode cX10_span 79 = .ok (.istore_n 3, 1) := by decide +kernel
theorem dX10_span_80 : decode cX10_span 80 = .ok (.iload 6, 2) := by decide +kernel
theorem dX10_span_82 : decode cX10_span 82 = .ok (.istore 4, 2) := by decide +kernel
theorem dX10_span_84 : decode cX10_span 84 = .ok (.iinc 5 1, 3) := by decide +kernel
theorem dX10_span_87 : decode cX10_span 87 = .ok (.iinc 6 1, 3) := by decide +kernel
theorem dX10_span_90 : decode cX10_span 90 = .ok (.goto (-50), 3) := by decide +kernel
theorem dX10_span_93 : decode cX10_span 93 = .ok (.iload_n 2, 1) := by decide +kernel
theorem dX10_span_94 : decode cX10_span 94 = .ok (.iconst 2, 1) := by decide +kernel
theorem dX10_span_95 : decode cX10_span 95 = .ok (.if_icmp .ne 6, 3) := by decide +kernel
theorem dX10_span_98 : decode cX10_span 98 = .ok (.iload 5, 2) := by decide +kernel
theorem dX10_span_100 : decode cX10_span 100 = .ok (.ireturn, 1) := by decide +kernel
theorem dX10_span_101 : decode cX10_span 101 = .ok (.iload_n 2, 1) := by decide +kernel
theorem dX10_span_102 : decode cX10_span 102 = .ok (.ifCond .ne 7, 3) := by decide +kernel
theorem dX10_span_105 : decode cX10_span 105 = .ok (.iload_n 3, 1) := by decide +kernel
theorem dX10_span_106 : decode cX10_span 106 = .ok (.goto 5, 3) := by decide +kernel
theorem dX10_span_109 : decode cX10_span 109 = .ok (.iload 4, 2) := by decide +kernel
theorem dX10_span_111 : decode cX10_span 111 = .ok (.ireturn, 1) := by decide +kernel
theorem dX10_expect_0 : decode cX10_expect 0 = .ok (.iload_n 2, 1) := by decide +kernel
theorem dX10_expect_1 : decode cX10_expect 1 = .ok (.ifCond .lt 8, 3) := by decide +kernel
theorem dX10_expect_4 : decode cX10_expect 4 = .ok (.iload_n 2, 1) := by decide +kernel
theorem dX10_expect_5 : decode cX10_expect 5 = .ok (.iconst 2, 1) := by decide +kernel
theorem dX10_expect_6 : decode cX10_expect 6 = .ok (.if_icmp .le 7, 3) := by decide +kernel
theorem dX10_expect_9 : decode cX10_expect 9 = .ok (.ldc2_w 302, 3) := by decide +kernel
theorem dX10_expect_12 : decode cX10_expect 12 = .ok (.lreturn, 1) := by decide +kernel
theorem dX10_expect_13 : decode cX10_expect 13 = .ok (.aload_n 0, 1) := by decide +kernel
theorem dX10_expect_14 : decode cX10_expect 14 = .ok (.iload_n 1, 1) := by decide +kernel
theorem dX10_expect_15 : decode cX10_expect 15 = .ok (.invokevirtual 283, 3) := by decide +kernel
theorem dX10_expect_18 : decode cX10_expect 18 = .ok (.ifCond .ne 7, 3) := by decide +kernel
theorem dX10_expect_21 : decode cX10_expect 21 = .ok (.ldc2_w 290, 3) := by decide +kernel
theorem dX10_expect_24 : decode cX10_expect 24 = .ok (.lreturn, 1) := by decide +kernel
theorem dX10_expect_25 : decode cX10_expect 25 = .ok (.aload_n 0, 1) := by decide +kernel
theorem dX10_expect_26 : decode cX10_expect 26 = .ok (.getfield 71, 3) := by decide +kernel
theorem dX10_expect_29 : decode cX10_expect 29 = .ok (.iload_n 1, 1) := by decide +kernel
theorem dX10_expect_30 : decode cX10_expect 30 = .ok (.invokevirtual 249, 3) := by decide +kernel
theorem dX10_expect_33 : decode cX10_expect 33 = .ok (.aload_n 0, 1) := by decide +kernel
theorem dX10_expect_34 : decode cX10_expect 34 = .ok (.getfield 71, 3) := by decide +kernel
theorem dX10_expect_37 : decode cX10_expect 37 = .ok (.invokevirtual 292, 3) := by decide +kernel
theorem dX10_expect_40 : decode cX10_expect 40 = .ok (.lstore_n 3, 1) := by decide +kernel
theorem dX10_expect_41 : decode cX10_expect 41 = .ok (.lload_n 3, 1) := by decide +kernel
theorem dX10_expect_42 : decode cX10_expect 42 = .ok (.lconst 0, 1) := by decide +kernel
theorem dX10_expect_43 : decode cX10_expect 43 = .ok (.lcmp, 1) := by decide +kernel
theorem dX10_expect_44 : decode cX10_expect 44 = .ok (.ifCond .gt 7, 3) := by decide +kernel
theorem dX10_expect_47 : decode cX10_expect 47 = .ok (.ldc2_w 304, 3) := by decide +kernel
theorem dX10_expect_50 : decode cX10_expect 50 = .ok (.lreturn, 1) := by decide +kernel
theorem dX10_expect_51 : decode cX10_expect 51 = .ok (.iload_n 2, 1) := by decide +kernel
theorem dX10_expect_52 : decode cX10_expect 52 = .ok (.iconst 2, 1) := by decide +kernel
theorem dX10_expect_53 : decode cX10_expect 53 = .ok (.if_icmp .ne 12, 3) := by decide +kernel
theorem dX10_expect_56 : decode cX10_expect 56 = .ok (.aload_n 0, 1) := by decide +kernel
theorem dX10_expect_57 : decode cX10_expect 57 = .ok (.getfield 71, 3) := by decide +kernel
theorem dX10_expect_60 : decode cX10_expect 60 = .ok (.invokevirtual 306, 3) := by decide +kernel
theorem dX10_expect_63 : decode cX10_expect 63 = .ok (.i2l, 1) := by decide +kernel
theorem dX10_expect_64 : decode cX10_expect 64 = .ok (.lreturn, 1) := by decide +kernel
theorem dX10_expect_65 : decode cX10_expect 65 = .ok (.aload_n 0, 1) := by decide +kernel
theorem dX10_expect_66 : decode cX10_expect 66 = .ok (.getfield 71, 3) := by decide +kernel
theorem dX10_expect_69 : decode cX10_expect 69 = .ok (.invokevirtual 309, 3) := by decide +kernel
theorem dX10_expect_72 : decode cX10_expect 72 = .ok (.lstore 5, 2) := by decide +kernel
theorem dX10_expect_74 : decode cX10_expect 74 = .ok (.iload_n 2, 1) := by decide +kernel
theorem dX10_expect_75 : decode cX10_expect 75 = .ok (.ifCond .ne 10, 3) := by decide +kernel
theorem dX10_expect_78 : decode cX10_expect 78 = .ok (.lload 5, 2) := by decide +kernel
theorem dX10_expect_80 : decode cX10_expect 80 = .ok (.lload_n 3, 1) := by decide +kernel
theorem dX10_expect_81 : decode cX10_expect 81 = .ok (.ldiv, 1) := by decide +kernel
theorem dX10_expect_82 : decode cX10_expect 82 = .ok (.goto 7, 3) := by decide +kernel
theorem dX10_expect_85 : decode cX10_expect 85 = .ok (.lload 5, 2) := by decide +kernel
theorem dX10_expect_87 : decode cX10_expect 87 = .ok (.lload_n 3, 1) := by decide +kernel
theorem dX10_expect_88 : decode cX10_expect 88 = .ok (.lrem, 1) := by decide +kernel
theorem dX10_expect_89 : decode cX10_expect 89 = .ok (.lreturn, 1) := by decide +kernel
theorem dX10_copied_0 : decode cX10_copied 0 = .ok (.aload_n 0, 1) := by decide +kernel
theorem dX10_copied_1 : decode cX10_copied 1 = .ok (.iload_n 2, 1) := by decide +kernel
theorem dX10_copied_2 : decode cX10_copied 2 = .ok (.invokevirtual 283, 3) := by decide +kernel
theorem dX10_copied_5 : decode cX10_copied 5 = .ok (.ifCond .ne 7, 3) := by decide +kernel
theorem dX10_copied_8 : decode cX10_copied 8 = .ok (.ldc2_w 290, 3) := by decide +kernel
theorem dX10_copied_11 : decode cX10_copied 11 = .ok (.lreturn, 1) := by decide +kernel
theorem dX10_copied_12 : decode cX10_copied 12 = .ok (.iload_n 1, 1) := by decide +kernel
theorem dX10_copied_13 : decode cX10_copied 13 = .ok (.ifCond .lt 20, 3) := by decide +kernel
theorem dX10_copied_16 : decode cX10_copied 16 = .ok (.iload_n 1, 1) := by decide +kernel
theorem dX10_copied_17 : decode cX10_copied 17 = .ok (.iload_n 2, 1) := by decide +kernel
theorem dX10_copied_18 : decode cX10_copied 18 = .ok (.if_icmp .ge 15, 3) := by decide +kernel
theorem dX10_copied_21 : decode cX10_copied 21 = .ok (.aload_n 0, 1) := by decide +kernel
theorem dX10_copied_22 : decode cX10_copied 22 = .ok (.getfield 71, 3) := by decide +kernel
theorem dX10_copied_25 : decode cX10_copied 25 = .ok (.iload_n 1, 1) := by decide +kernel
theorem dX10_copied_26 : decode cX10_copied 26 = .ok (.iload_n 2, 1) := by decide +kernel
theorem dX10_copied_27 : decode cX10_copied 27 = .ok (.invokevirtual 312, 3) := by decide +kernel
theorem dX10_copied_30 : decode cX10_copied 30 = .ok (.goto 6, 3) := by decide +kernel
theorem dX10_copied_33 : decode cX10_copied 33 = .ok (.ldc2_w 302, 3) := by decide +kernel
theorem dX10_copied_36 : decode cX10_copied 36 = .ok (.lreturn, 1) := by decide +kernel
theorem dX10_copier_0 : decode cX10_copier 0 = .ok (.aload_n 0, 1) := by decide +kernel
theorem dX10_copier_1 : decode cX10_copier 1 = .ok (.iload_n 1, 1) := by decide +kernel
theorem dX10_copier_2 : decode cX10_copier 2 = .ok (.invokevirtual 283, 3) := by decide +kernel
theorem dX10_copier_5 : decode cX10_copier 5 = .ok (.ifCond .ne 6, 3) := by decide +kernel
theorem dX10_copier_8 : decode cX10_copier 8 = .ok (.bipush (-3), 2) := by decide +kernel
theorem dX10_copier_10 : decode cX10_copier 10 = .ok (.ireturn, 1) := by decide +kernel
theorem dX10_copier_11 : decode cX10_copier 11 = .ok (.iconst (-1), 1) := by decide +kernel
theorem dX10_copier_12 : decode cX10_copier 12 = .ok (.istore_n 2, 1) := by decide +kernel
theorem dX10_copier_13 : decode cX10_copier 13 = .ok (.lconst 0, 1) := by decide +kernel
theorem dX10_copier_14 : decode cX10_copier 14 = .ok (.lstore_n 3, 1) := by decide +kernel
theorem dX10_copier_15 : decode cX10_copier 15 = .ok (.iconst 0, 1) := by decide +kernel
theorem dX10_copier_16 : decode cX10_copier 16 = .ok (.istore 5, 2) := by decide +kernel
theorem dX10_copier_18 : decode cX10_copier 18 = .ok (.iload 5, 2) := by decide +kernel
theorem dX10_copier_20 : decode cX10_copier 20 = .ok (.iload_n 1, 1) := by decide +kernel
theorem dX10_copier_21 : decode cX10_copier 21 = .ok (.if_icmp .ge 34, 3) := by decide +kernel
theorem dX10_copier_24 : decode cX10_copier 24 = .ok (.aload_n 0, 1) := by decide +kernel
theorem dX10_copier_25 : decode cX10_copier 25 = .ok (.getfield 71, 3) := by decide +kernel
theorem dX10_copier_28 : decode cX10_copier 28 = .ok (.iload 5, 2) := by decide +kernel
theorem dX10_copier_30 : decode cX10_copier 30 = .ok (.iload_n 1, 1) := by decide +kernel
theorem dX10_copier_31 : decode cX10_copier 31 = .ok (.invokevirtual 312, 3) := by decide +kernel
theorem dX10_copier_34 : decode cX10_copier 34 = .ok (.lstore 6, 2) := by decide +kernel
theorem dX10_copier_36 : decode cX10_copier 36 = .ok (.lload 6, 2) := by decide +kernel
theorem dX10_copier_38 : decode cX10_copier 38 = .ok (.lload_n 3, 1) := by decide +kernel
theorem dX10_copier_39 : decode cX10_copier 39 = .ok (.lcmp, 1) := by decide +kernel
theorem dX10_copier_40 : decode cX10_copier 40 = .ok (.ifCond .le 9, 3) := by decide +kernel
theorem dX10_copier_43 : decode cX10_copier 43 = .ok (.lload 6, 2) := by decide +kernel
theorem dX10_copier_45 : decode cX10_copier 45 = .ok (.lstore_n 3, 1) := by decide +kernel
theorem dX10_copier_46 : decode cX10_copier 46 = .ok (.iload 5, 2) := by decide +kernel
theorem dX10_copier_48 : decode cX10_copier 48 = .ok (.istore_n 2, 1) := by decide +kernel
theorem dX10_copier_49 : decode cX10_copier 49 = .ok (.iinc 5 1, 3) := by decide +kernel
theorem dX10_copier_52 : decode cX10_copier 52 = .ok (.goto (-34), 3) := by decide +kernel
theorem dX10_copier_55 : decode cX10_copier 55 = .ok (.iload_n 2, 1) := by decide +kernel
theorem dX10_copier_56 : decode cX10_copier 56 = .ok (.ireturn, 1) := by decide +kernel
theorem dX10_chance_0 : decode cX10_chance 0 = .ok (.iload_n 1, 1) := by decide +kernel
theorem dX10_chance_1 : decode cX10_chance 1 = .ok (.invokestatic 151, 3) := by decide +kernel
theorem dX10_chance_4 : decode cX10_chance 4 = .ok (.ifCond .eq 11, 3) := by decide +kernel
theorem dX10_chance_7 : decode cX10_chance 7 = .ok (.aload_n 0, 1) := by decide +kernel
theorem dX10_chance_8 : decode cX10_chance 8 = .ok (.iload_n 2, 1) := by decide +kernel
theorem dX10_chance_9 : decode cX10_chance 9 = .ok (.invokevirtual 283, 3) := by decide +kernel
theorem dX10_chance_12 : decode cX10_chance 12 = .ok (.ifCond .ne 7, 3) := by decide +kernel
theorem dX10_chance_15 : decode cX10_chance 15 = .ok (.ldc2_w 290, 3) := by decide +kernel
theorem dX10_chance_18 : decode cX10_chance 18 = .ok (.lreturn, 1) := by decide +kernel
theorem dX10_chance_19 : decode cX10_chance 19 = .ok (.aload_n 0, 1) := by decide +kernel
theorem dX10_chance_20 : decode cX10_chance 20 = .ok (.getfield 71, 3) := by decide +kernel
theorem dX10_chance_23 : decode cX10_chance 23 = .ok (.iload_n 2, 1) := by decide +kernel
theorem dX10_chance_24 : decode cX10_chance 24 = .ok (.invokevirtual 249, 3) := by decide +kernel
theorem dX10_chance_27 : decode cX10_chance 27 = .ok (.aload_n 0, 1) := by decide +kernel
theorem dX10_chance_28 : decode cX10_chance 28 = .ok (.getfield 71, 3) := by decide +kernel
theorem dX10_chance_31 : decode cX10_chance 31 = .ok (.iload_n 1, 1) := by decide +kernel
theorem dX10_chance_32 : decode cX10_chance 32 = .ok (.aload_n 0, 1) := by decide +kernel
theorem dX10_chance_33 : decode cX10_chance 33 = .ok (.getfield 68, 3) := by decide +kernel
theorem dX10_chance_36 : decode cX10_chance 36 = .ok (.getfield 154, 3) := by decide +kernel
theorem dX10_chance_39 : decode cX10_chance 39 = .ok (.invokevirtual 315, 3) := by decide +kernel
theorem dX10_chance_42 : decode cX10_chance 42 = .ok (.astore_n 3, 1) := by decide +kernel
theorem dX10_chance_43 : decode cX10_chance 43 = .ok (.aload_n 0, 1) := by decide +kernel
theorem dX10_chance_44 : decode cX10_chance 44 = .ok (.getfield 71, 3) := by decide +kernel
theorem dX10_chance_47 : decode cX10_chance 47 = .ok (.aload_n 3, 1) := by decide +kernel
theorem dX10_chance_48 : decode cX10_chance 48 = .ok (.getfield 252, 3) := by decide +kernel
theorem dX10_chance_51 : decode cX10_chance 51 = .ok (.aload_n 3, 1) := by decide +kernel
theorem dX10_chance_52 : decode cX10_chance 52 = .ok (.getfield 255, 3) := by decide +kernel
theorem dX10_chance_55 : decode cX10_chance 55 = .ok (.invokevirtual 258, 3) := by decide +kernel
theorem dX10_chance_58 : decode cX10_chance 58 = .ok (.lreturn, 1) := by decide +kernel
theorem dX10_best_0 : decode cX10_best 0 = .ok (.iload_n 2, 1) := by decide +kernel
theorem dX10_best_1 : decode cX10_best 1 = .ok (.ifCond .lt 8, 3) := by decide +kernel
theorem dX10_best_4 : decode cX10_best 4 = .ok (.iload_n 2, 1) := by decide +kernel
theorem dX10_best_5 : decode cX10_best 5 = .ok (.iconst 1, 1) := by decide +kernel
theorem dX10_best_6 : decode cX10_best 6 = .ok (.if_icmp .le 7, 3) := by decide +kernel
theorem dX10_best_9 : decode cX10_best 9 = .ok (.ldc2_w 302, 3) := by decide +kernel
theorem dX10_best_12 : decode cX10_best 12 = .ok (.lreturn, 1) := by decide +kernel
theorem dX10_best_13 : decode cX10_best 13 = .ok (.aload_n 0, 1) := by decide +kernel
theorem dX10_best_14 : decode cX10_best 14 = .ok (.iload_n 1, 1) := by decide +kernel
theorem dX10_best_15 : decode cX10_best 15 = .ok (.invokevirtual 283, 3) := by decide +kernel
theorem dX10_best_18 : decode cX10_best 18 = .ok (.ifCond .ne 7, 3) := by decide +kernel
theorem dX10_best_21 : decode cX10_best 21 = .ok (.ldc2_w 290, 3) := by decide +kernel
theorem dX10_best_24 : decode cX10_best 24 = .ok (.lreturn, 1) := by decide +kernel
theorem dX10_best_25 : decode cX10_best 25 = .ok (.aload_n 0, 1) := by decide +kernel
theorem dX10_best_26 : decode cX10_best 26 = .ok (.getfield 71, 3) := by decide +kernel
theorem dX10_best_29 : decode cX10_best 29 = .ok (.iload_n 1, 1) := by decide +kernel
theorem dX10_best_30 : decode cX10_best 30 = .ok (.aload_n 0, 1) := by decide +kernel
theorem dX10_best_31 : decode cX10_best 31 = .ok (.getfield 68, 3) := by decide +kernel
theorem dX10_best_34 : decode cX10_best 34 = .ok (.getfield 154, 3) := by decide +kernel
theorem dX10_best_37 : decode cX10_best 37 = .ok (.invokevirtual 319, 3) := by decide +kernel
theorem dX10_best_40 : decode cX10_best 40 = .ok (.aload_n 0, 1) := by decide +kernel
theorem dX10_best_41 : decode cX10_best 41 = .ok (.getfield 80, 3) := by decide +kernel
theorem dX10_best_44 : decode cX10_best 44 = .ok (.iconst 0, 1) := by decide +kernel
theorem dX10_best_45 : decode cX10_best 45 = .ok (.iconst 1, 1) := by decide +kernel
theorem dX10_best_46 : decode cX10_best 46 = .ok (.invokevirtual 322, 3) := by decide +kernel
theorem dX10_best_49 : decode cX10_best 49 = .ok (.iload_n 2, 1) := by decide +kernel
theorem dX10_best_50 : decode cX10_best 50 = .ok (.ifCond .ne 16, 3) := by decide +kernel
theorem dX10_best_53 : decode cX10_best 53 = .ok (.aload_n 0, 1) := by decide +kernel
theorem dX10_best_54 : decode cX10_best 54 = .ok (.getfield 80, 3) := by decide +kernel
theorem dX10_best_57 : decode cX10_best 57 = .ok (.getfield 325, 3) := by decide +kernel
theorem dX10_best_60 : decode cX10_best 60 = .ok (.iconst 0, 1) := by decide +kernel
theorem dX10_best_61 : decode cX10_best 61 = .ok (.iaload, 1) := by decide +kernel
theorem dX10_best_62 : decode cX10_best 62 = .ok (.i2l, 1) := by decide +kernel
theorem dX10_best_63 : decode cX10_best 63 = .ok (.goto 12, 3) := by decide +kernel
theorem dX10_best_66 : decode cX10_best 66 = .ok (.aload_n 0, 1) := by decide +kernel
theorem dX10_best_67 : decode cX10_best 67 = .ok (.getfield 80, 3) := by decide +kernel
theorem dX10_best_70 : decode cX10_best 70 = .ok (.iconst 0, 1) := by decide +kernel
theorem dX10_best_71 : decode cX10_best 71 = .ok (.iconst 1, 1) := by decide +kernel
theorem dX10_best_72 : decode cX10_best 72 = .ok (.invokevirtual 328, 3) := by decide +kernel
theorem dX10_best_75 : decode cX10_best 75 = .ok (.lreturn, 1) := by decide +kernel
theorem dX10_bestTwo_0 : decode cX10_bestTwo 0 = .ok (.iload_n 2, 1) := by decide +kernel
theorem dX10_bestTwo_1 : decode cX10_bestTwo 1 = .ok (.ifCond .lt 8, 3) := by decide +kernel
theorem dX10_bestTwo_4 : decode cX10_bestTwo 4 = .ok (.iload_n 2, 1) := by decide +kernel
theorem dX10_bestTwo_5 : decode cX10_bestTwo 5 = .ok (.iconst 2, 1) := by decide +kernel
theorem dX10_bestTwo_6 : decode cX10_bestTwo 6 = .ok (.if_icmp .le 7, 3) := by decide +kernel
theorem dX10_bestTwo_9 : decode cX10_bestTwo 9 = .ok (.ldc2_w 302, 3) := by decide +kernel
theorem dX10_bestTwo_12 : decode cX10_bestTwo 12 = .ok (.lreturn, 1) := by decide +kernel
theorem dX10_bestTwo_13 : decode cX10_bestTwo 13 = .ok (.aload_n 0, 1) := by decide +kernel
theorem dX10_bestTwo_14 : decode cX10_bestTwo 14 = .ok (.iload_n 1, 1) := by decide +kernel
theorem dX10_bestTwo_15 : decode cX10_bestTwo 15 = .ok (.invokevirtual 283, 3) := by decide +kernel
theorem dX10_bestTwo_18 : decode cX10_bestTwo 18 = .ok (.ifCond .ne 7, 3) := by decide +kernel
theorem dX10_bestTwo_21 : decode cX10_bestTwo 21 = .ok (.ldc2_w 290, 3) := by decide +kernel
theorem dX10_bestTwo_24 : decode cX10_bestTwo 24 = .ok (.lreturn, 1) := by decide +kernel
theorem dX10_bestTwo_25 : decode cX10_bestTwo 25 = .ok (.aload_n 0, 1) := by decide +kernel
theorem dX10_bestTwo_26 : decode cX10_bestTwo 26 = .ok (.getfield 65, 3) := by decide +kernel
theorem dX10_bestTwo_29 : decode cX10_bestTwo 29 = .ok (.getfield 296, 3) := by decide +kernel
theorem dX10_bestTwo_32 : decode cX10_bestTwo 32 = .ok (.aload_n 0, 1) := by decide +kernel
theorem dX10_bestTwo_33 : decode cX10_bestTwo 33 = .ok (.getfield 65, 3) := by decide +kernel
theorem dX10_bestTwo_36 : decode cX10_bestTwo 36 = .ok (.getfield 299, 3) := by decide +kernel
theorem dX10_bestTwo_39 : decode cX10_bestTwo 39 = .ok (.if_icmp .ne 7, 3) := by decide +kernel
theorem dX10_bestTwo_42 : decode cX10_bestTwo 42 = .ok (.ldc2_w 331, 3) := by decide +kernel
theorem dX10_bestTwo_45 : decode cX10_bestTwo 45 = .ok (.lreturn, 1) := by decide +kernel
theorem dX10_bestTwo_46 : decode cX10_bestTwo 46 = .ok (.aload_n 0, 1) := by decide +kernel
theorem dX10_bestTwo_47 : decode cX10_bestTwo 47 = .ok (.getfield 71, 3) := by decide +kernel
theorem dX10_bestTwo_50 : decode cX10_bestTwo 50 = .ok (.iload_n 1, 1) := by decide +kernel
theorem dX10_bestTwo_51 : decode cX10_bestTwo 51 = .ok (.aload_n 0, 1) := by decide +kernel
theorem dX10_bestTwo_52 : decode cX10_bestTwo 52 = .ok (.getfield 68, 3) := by decide +kernel
theorem dX10_bestTwo_55 : decode cX10_bestTwo 55 = .ok (.getfield 154, 3) := by decide +kernel
theorem dX10_bestTwo_58 : decode cX10_bestTwo 58 = .ok (.invokevirtual 319, 3) := by decide +kernel
theorem dX10_bestTwo_61 : decode cX10_bestTwo 61 = .ok (.aload_n 0, 1) := by decide +kernel
theorem dX10_bestTwo_62 : decode cX10_bestTwo 62 = .ok (.getfield 71, 3) := by decide +kernel
theorem dX10_bestTwo_65 : decode cX10_bestTwo 65 = .ok (.invokevirtual 333, 3) := by decide +kernel
theorem dX10_bestTwo_68 : decode cX10_bestTwo 68 = .ok (.iload_n 2, 1) := by decide +kernel
theorem dX10_bestTwo_69 : decode cX10_bestTwo 69 = .ok (.iconst 2, 1) := by decide +kernel
theorem dX10_bestTwo_70 : decode cX10_bestTwo 70 = .ok (.if_icmp .ne 11, 3) := by decide +kernel
theorem dX10_bestTwo_73 : decode cX10_bestTwo 73 = .ok (.aload_n 0, 1) := by decide +kernel
theorem dX10_bestTwo_74 : decode cX10_bestTwo 74 = .ok (.getfield 71, 3) := by decide +kernel
theorem dX10_bestTwo_77 : decode cX10_bestTwo 77 = .ok (.getfield 336, 3) := by decide +kernel
theorem dX10_bestTwo_80 : decode cX10_bestTwo 80 = .ok (.lreturn, 1) := by decide +kernel
theorem dX10_bestTwo_81 : decode cX10_bestTwo 81 = .ok (.iload_n 2, 1) := by decide +kernel
theorem dX10_bestTwo_82 : decode cX10_bestTwo 82 = .ok (.ifCond .ne 14, 3) := by decide +kernel
theorem dX10_bestTwo_85 : decode cX10_bestTwo 85 = .ok (.aload_n 0, 1) := by decide +kernel
theorem dX10_bestTwo_86 : decode cX10_bestTwo 86 = .ok (.getfield 71, 3) := by decide +kernel
theorem dX10_bestTwo_89 : decode cX10_bestTwo 89 = .ok (.getfield 340, 3) := by decide +kernel
theorem dX10_bestTwo_92 : decode cX10_bestTwo 92 = .ok (.i2l, 1) := by decide +kernel
theorem dX10_bestTwo_93 : decode cX10_bestTwo 93 = .ok (.goto 11, 3) := by decide +kernel
theorem dX10_bestTwo_96 : decode cX10_bestTwo 96 = .ok (.aload_n 0, 1) := by decide +kernel
theorem dX10_bestTwo_97 : decode cX10_bestTwo 97 = .ok (.getfield 71, 3) := by decide +kernel
theorem dX10_bestTwo_100 : decode cX10_bestTwo 100 = .ok (.getfield 343, 3) := by decide +kernel
theorem dX10_bestTwo_103 : decode cX10_bestTwo 103 = .ok (.i2l, 1) := by decide +kernel
theorem dX10_bestTwo_104 : decode cX10_bestTwo 104 = .ok (.lreturn, 1) := by decide +kernel
theorem dX10_behind_0 : decode cX10_behind 0 = .ok (.iload_n 2, 1) := by decide +kernel
theorem dX10_behind_1 : decode cX10_behind 1 = .ok (.ifCond .lt 8, 3) := by decide +kernel
theorem dX10_behind_4 : decode cX10_behind 4 = .ok (.iload_n 2, 1) := by decide +kernel
theorem dX10_behind_5 : decode cX10_behind 5 = .ok (.iconst 3, 1) := by decide +kernel
theorem dX10_behind_6 : decode cX10_behind 6 = .ok (.if_icmp .le 7, 3) := by decide +kernel
theorem dX10_behind_9 : decode cX10_behind 9 = .ok (.ldc2_w 302, 3) := by decide +kernel
theorem dX10_behind_12 : decode cX10_behind 12 = .ok (.lreturn, 1) := by decide +kernel
theorem dX10_behind_13 : decode cX10_behind 13 = .ok (.aload_n 0, 1) := by decide +kernel
theorem dX10_behind_14 : decode cX10_behind 14 = .ok (.iload_n 1, 1) := by decide +kernel
theorem dX10_behind_15 : decode cX10_behind 15 = .ok (.invokevirtual 283, 3) := by decide +kernel
theorem dX10_behind_18 : decode cX10_behind 18 = .ok (.ifCond .ne 7, 3) := by decide +kernel
theorem dX10_behind_21 : decode cX10_behind 21 = .ok (.ldc2_w 290, 3) := by decide +kernel
theorem dX10_behind_24 : decode cX10_behind 24 = .ok (.lreturn, 1) := by decide +kernel
theorem dX10_behind_25 : decode cX10_behind 25 = .ok (.aload_n 0, 1) := by decide +kernel
theorem dX10_behind_26 : decode cX10_behind 26 = .ok (.getfield 71, 3) := by decide +kernel
theorem dX10_behind_29 : decode cX10_behind 29 = .ok (.iload_n 1, 1) := by decide +kernel
theorem dX10_behind_30 : decode cX10_behind 30 = .ok (.aload_n 0, 1) := by decide +kernel
theorem dX10_behind_31 : decode cX10_behind 31 = .ok (.getfield 68, 3) := by decide +kernel
theorem dX10_behind_34 : decode cX10_behind 34 = .ok (.getfield 154, 3) := by decide +kernel
theorem dX10_behind_37 : decode cX10_behind 37 = .ok (.invokevirtual 319, 3) := by decide +kernel
theorem dX10_behind_40 : decode cX10_behind 40 = .ok (.aload_n 0, 1) := by decide +kernel
theorem dX10_behind_41 : decode cX10_behind 41 = .ok (.getfield 80, 3) := by decide +kernel
theorem dX10_behind_44 : decode cX10_behind 44 = .ok (.iconst 0, 1) := by decide +kernel
theorem dX10_behind_45 : decode cX10_behind 45 = .ok (.iconst 2, 1) := by decide +kernel
theorem dX10_behind_46 : decode cX10_behind 46 = .ok (.invokevirtual 322, 3) := by decide +kernel
theorem dX10_behind_49 : decode cX10_behind 49 = .ok (.iload_n 2, 1) := by decide +kernel
theorem dX10_behind_50 : decode cX10_behind 50 = .ok (.iconst 2, 1) := by decide +kernel
theorem dX10_behind_51 : decode cX10_behind 51 = .ok (.idiv, 1) := by decide +kernel
theorem dX10_behind_52 : decode cX10_behind 52 = .ok (.istore_n 3, 1) := by decide +kernel
theorem dX10_behind_53 : decode cX10_behind 53 = .ok (.iload_n 2, 1) := by decide +kernel
theorem dX10_behind_54 : decode cX10_behind 54 = .ok (.iconst 2, 1) := by decide +kernel
theorem dX10_behind_55 : decode cX10_behind 55 = .ok (.irem, 1) := by decide +kernel
theorem dX10_behind_56 : decode cX10_behind 56 = .ok (.ifCond .ne 16, 3) := by decide +kernel
theorem dX10_behind_59 : decode cX10_behind 59 = .ok (.aload_n 0, 1) := by decide +kernel
theorem dX10_behind_60 : decode cX10_behind 60 = .ok (.getfield 80, 3) := by decide +kernel
theorem dX10_behind_63 : decode cX10_behind 63 = .ok (.getfield 325, 3) := by decide +kernel
theorem dX10_behind_66 : decode cX10_behind 66 = .ok (.iload_n 3, 1) := by decide +kernel
theorem dX10_behind_67 : decode cX10_behind 67 = .ok (.iaload, 1) := by decide +kernel
theorem dX10_behind_68 : decode cX10_behind 68 = .ok (.i2l, 1) := by decide +kernel
theorem dX10_behind_69 : decode cX10_behind 69 = .ok (.goto 12, 3) := by decide +kernel
theorem dX10_behind_72 : decode cX10_behind 72 = .ok (.aload_n 0, 1) := by decide +kernel
theorem dX10_behind_73 : decode cX10_behind 73 = .ok (.getfield 80, 3) := by decide +kernel
theorem dX10_behind_76 : decode cX10_behind 76 = .ok (.iload_n 3, 1) := by decide +kernel
theorem dX10_behind_77 : decode cX10_behind 77 = .ok (.iconst 2, 1) := by decide +kernel
theorem dX10_behind_78 : decode cX10_behind 78 = .ok (.invokevirtual 328, 3) := by decide +kernel
theorem dX10_behind_81 : decode cX10_behind 81 = .ok (.lreturn, 1) := by decide +kernel
theorem dX10_waits_0 : decode cX10_waits 0 = .ok (.iload_n 2, 1) := by decide +kernel
theorem dX10_waits_1 : decode cX10_waits 1 = .ok (.ifCond .lt 8, 3) := by decide +kernel
theorem dX10_waits_4 : decode cX10_waits 4 = .ok (.iload_n 2, 1) := by decide +kernel
theorem dX10_waits_5 : decode cX10_waits 5 = .ok (.iconst 1, 1) := by decide +kernel
theorem dX10_waits_6 : decode cX10_waits 6 = .ok (.if_icmp .le 7, 3) := by decide +kernel
theorem dX10_waits_9 : decode cX10_waits 9 = .ok (.ldc2_w 302, 3) := by decide +kernel
theorem dX10_waits_12 : decode cX10_waits 12 = .ok (.lreturn, 1) := by decide +kernel
theorem dX10_waits_13 : decode cX10_waits 13 = .ok (.aload_n 0, 1) := by decide +kernel
theorem dX10_waits_14 : decode cX10_waits 14 = .ok (.iload_n 1, 1) := by decide +kernel
theorem dX10_waits_15 : decode cX10_waits 15 = .ok (.invokevirtual 283, 3) := by decide +kernel
theorem dX10_waits_18 : decode cX10_waits 18 = .ok (.ifCond .ne 7, 3) := by decide +kernel
theorem dX10_waits_21 : decode cX10_waits 21 = .ok (.ldc2_w 290, 3) := by decide +kernel
theorem dX10_waits_24 : decode cX10_waits 24 = .ok (.lreturn, 1) := by decide +kernel
theorem dX10_waits_25 : decode cX10_waits 25 = .ok (.aload_n 0, 1) := by decide +kernel
theorem dX10_waits_26 : decode cX10_waits 26 = .ok (.getfield 71, 3) := by decide +kernel
theorem dX10_waits_29 : decode cX10_waits 29 = .ok (.iload_n 1, 1) := by decide +kernel
theorem dX10_waits_30 : decode cX10_waits 30 = .ok (.aload_n 0, 1) := by decide +kernel
theorem dX10_waits_31 : decode cX10_waits 31 = .ok (.getfield 68, 3) := by decide +kernel
theorem dX10_waits_34 : decode cX10_waits 34 = .ok (.getfield 154, 3) := by decide +kernel
theorem dX10_waits_37 : decode cX10_waits 37 = .ok (.invokevirtual 319, 3) := by decide +kernel
theorem dX10_waits_40 : decode cX10_waits 40 = .ok (.aload_n 0, 1) := by decide +kernel
theorem dX10_waits_41 : decode cX10_waits 41 = .ok (.getfield 80, 3) := by decide +kernel
theorem dX10_waits_44 : decode cX10_waits 44 = .ok (.iconst 0, 1) := by decide +kernel
theorem dX10_waits_45 : decode cX10_waits 45 = .ok (.iconst 1, 1) := by decide +kernel
theorem dX10_waits_46 : decode cX10_waits 46 = .ok (.invokevirtual 322, 3) := by decide +kernel
theorem dX10_waits_49 : decode cX10_waits 49 = .ok (.aload_n 0, 1) := by decide +kernel
theorem dX10_waits_50 : decode cX10_waits 50 = .ok (.getfield 80, 3) := by decide +kernel
theorem dX10_waits_53 : decode cX10_waits 53 = .ok (.iconst 1, 1) := by decide +kernel
theorem dX10_waits_54 : decode cX10_waits 54 = .ok (.iconst 2, 1) := by decide +kernel
theorem dX10_waits_55 : decode cX10_waits 55 = .ok (.invokevirtual 322, 3) := by decide +kernel
theorem dX10_waits_58 : decode cX10_waits 58 = .ok (.aload_n 0, 1) := by decide +kernel
theorem dX10_waits_59 : decode cX10_waits 59 = .ok (.getfield 80, 3) := by decide +kernel
theorem dX10_waits_62 : decode cX10_waits 62 = .ok (.iconst 1, 1) := by decide +kernel
theorem dX10_waits_63 : decode cX10_waits 63 = .ok (.iconst 2, 1) := by decide +kernel
theorem dX10_waits_64 : decode cX10_waits 64 = .ok (.invokevirtual 328, 3) := by decide +kernel
theorem dX10_waits_67 : decode cX10_waits 67 = .ok (.lstore_n 3, 1) := by decide +kernel
theorem dX10_waits_68 : decode cX10_waits 68 = .ok (.iload_n 2, 1) := by decide +kernel
theorem dX10_waits_69 : decode cX10_waits 69 = .ok (.iconst 1, 1) := by decide +kernel
theorem dX10_waits_70 : decode cX10_waits 70 = .ok (.if_icmp .ne 5, 3) := by decide +kernel
theorem dX10_waits_73 : decode cX10_waits 73 = .ok (.lload_n 3, 1) := by decide +kernel
theorem dX10_waits_74 : decode cX10_waits 74 = .ok (.lreturn, 1) := by decide +kernel
theorem dX10_waits_75 : decode cX10_waits 75 = .ok (.aload_n 0, 1) := by decide +kernel
theorem dX10_waits_76 : decode cX10_waits 76 = .ok (.getfield 80, 3) := by decide +kernel
theorem dX10_waits_79 : decode cX10_waits 79 = .ok (.iconst 0, 1) := by decide +kernel
theorem dX10_waits_80 : decode cX10_waits 80 = .ok (.iconst 2, 1) := by decide +kernel
theorem dX10_waits_81 : decode cX10_waits 81 = .ok (.invokevirtual 322, 3) := by decide +kernel
theorem dX10_waits_84 : decode cX10_waits 84 = .ok (.lload_n 3, 1) := by decide +kernel
theorem dX10_waits_85 : decode cX10_waits 85 = .ok (.aload_n 0, 1) := by decide +kernel
theorem dX10_waits_86 : decode cX10_waits 86 = .ok (.getfield 80, 3) := by decide +kernel
theorem dX10_waits_89 : decode cX10_waits 89 = .ok (.iconst 0, 1) := by decide +kernel
theorem dX10_waits_90 : decode cX10_waits 90 = .ok (.iconst 2, 1) := by decide +kernel
theorem dX10_waits_91 : decode cX10_waits 91 = .ok (.invokevirtual 328, 3) := by decide +kernel
theorem dX10_waits_94 : decode cX10_waits 94 = .ok (.lcmp, 1) := by decide +kernel
theorem dX10_waits_95 : decode cX10_waits 95 = .ok (.ifCond .le 7, 3) := by decide +kernel
theorem dX10_waits_98 : decode cX10_waits 98 = .ok (.lconst 1, 1) := by decide +kernel
theorem dX10_waits_99 : decode cX10_waits 99 = .ok (.goto 4, 3) := by decide +kernel
theorem dX10_waits_102 : decode cX10_waits 102 = .ok (.lconst 0, 1) := by decide +kernel
theorem dX10_waits_103 : decode cX10_waits 103 = .ok (.lreturn, 1) := by decide +kernel
theorem dX10_waysOf_0 : decode cX10_waysOf 0 = .ok (.aload_n 0, 1) := by decide +kernel
theorem dX10_waysOf_1 : decode cX10_waysOf 1 = .ok (.getfield 68, 3) := by decide +kernel
theorem dX10_waysOf_4 : decode cX10_waysOf 4 = .ok (.iload_n 1, 1) := by decide +kernel
theorem dX10_waysOf_5 : decode cX10_waysOf 5 = .ok (.invokevirtual 161, 3) := by decide +kernel
theorem dX10_waysOf_8 : decode cX10_waysOf 8 = .ok (.ifCond .ne 7, 3) := by decide +kernel
theorem dX10_waysOf_11 : decode cX10_waysOf 11 = .ok (.ldc2_w 302, 3) := by decide +kernel
theorem dX10_waysOf_14 : decode cX10_waysOf 14 = .ok (.lreturn, 1) := by decide +kernel
theorem dX10_waysOf_15 : decode cX10_waysOf 15 = .ok (.aload_n 0, 1) := by decide +kernel
theorem dX10_waysOf_16 : decode cX10_waysOf 16 = .ok (.iload_n 2, 1) := by decide +kernel
theorem dX10_waysOf_17 : decode cX10_waysOf 17 = .ok (.invokevirtual 283, 3) := by decide +kernel
theorem dX10_waysOf_20 : decode cX10_waysOf 20 = .ok (.ifCond .ne 7, 3) := by decide +kernel
theorem dX10_waysOf_23 : decode cX10_waysOf 23 = .ok (.ldc2_w 290, 3) := by decide +kernel
theorem dX10_waysOf_26 : decode cX10_waysOf 26 = .ok (.lreturn, 1) := by decide +kernel
theorem dX10_waysOf_27 : decode cX10_waysOf 27 = .ok (.aload_n 0, 1) := by decide +kernel
theorem dX10_waysOf_28 : decode cX10_waysOf 28 = .ok (.getfield 71, 3) := by decide +kernel
theorem dX10_waysOf_31 : decode cX10_waysOf 31 = .ok (.iload_n 2, 1) := by decide +kernel
theorem dX10_waysOf_32 : decode cX10_waysOf 32 = .ok (.invokevirtual 249, 3) := by decide +kernel
theorem dX10_waysOf_35 : decode cX10_waysOf 35 = .ok (.aload_n 0, 1) := by decide +kernel
theorem dX10_waysOf_36 : decode cX10_waysOf 36 = .ok (.getfield 71, 3) := by decide +kernel
theorem dX10_waysOf_39 : decode cX10_waysOf 39 = .ok (.iload_n 1, 1) := by decide +kernel
theorem dX10_waysOf_40 : decode cX10_waysOf 40 = .ok (.invokevirtual 239, 3) := by decide +kernel
theorem dX10_waysOf_43 : decode cX10_waysOf 43 = .ok (.astore_n 3, 1) := by decide +kernel
theorem dX10_waysOf_44 : decode cX10_waysOf 44 = .ok (.aload_n 0, 1) := by decide +kernel
theorem dX10_waysOf_45 : decode cX10_waysOf 45 = .ok (.getfield 71, 3) := by decide +kernel
theorem dX10_waysOf_48 : decode cX10_waysOf 48 = .ok (.aload_n 3, 1) := by decide +kernel
theorem dX10_waysOf_49 : decode cX10_waysOf 49 = .ok (.getfield 252, 3) := by decide +kernel
theorem dX10_waysOf_52 : decode cX10_waysOf 52 = .ok (.aload_n 3, 1) := by decide +kernel
theorem dX10_waysOf_53 : decode cX10_waysOf 53 = .ok (.getfield 255, 3) := by decide +kernel
theorem dX10_waysOf_56 : decode cX10_waysOf 56 = .ok (.invokevirtual 258, 3) := by decide +kernel
theorem dX10_waysOf_59 : decode cX10_waysOf 59 = .ok (.lreturn, 1) := by decide +kernel
theorem dX10_shutIn_0 : decode cX10_shutIn 0 = .ok (.aload_n 0, 1) := by decide +kernel
theorem dX10_shutIn_1 : decode cX10_shutIn 1 = .ok (.getfield 68, 3) := by decide +kernel
theorem dX10_shutIn_4 : decode cX10_shutIn 4 = .ok (.iload_n 1, 1) := by decide +kernel
theorem dX10_shutIn_5 : decode cX10_shutIn 5 = .ok (.invokevirtual 161, 3) := by decide +kernel
theorem dX10_shutIn_8 : decode cX10_shutIn 8 = .ok (.ifCond .ne 7, 3) := by decide +kernel
theorem dX10_shutIn_11 : decode cX10_shutIn 11 = .ok (.ldc2_w 302, 3) := by decide +kernel
theorem dX10_shutIn_14 : decode cX10_shutIn 14 = .ok (.lreturn, 1) := by decide +kernel
theorem dX10_shutIn_15 : decode cX10_shutIn 15 = .ok (.aload_n 0, 1) := by decide +kernel
theorem dX10_shutIn_16 : decode cX10_shutIn 16 = .ok (.iload_n 2, 1) := by decide +kernel
theorem dX10_shutIn_17 : decode cX10_shutIn 17 = .ok (.invokevirtual 283, 3) := by decide +kernel
theorem dX10_shutIn_20 : decode cX10_shutIn 20 = .ok (.ifCond .ne 7, 3) := by decide +kernel
theorem dX10_shutIn_23 : decode cX10_shutIn 23 = .ok (.ldc2_w 290, 3) := by decide +kernel
theorem dX10_shutIn_26 : decode cX10_shutIn 26 = .ok (.lreturn, 1) := by decide +kernel
theorem dX10_shutIn_27 : decode cX10_shutIn 27 = .ok (.aload_n 0, 1) := by decide +kernel
theorem dX10_shutIn_28 : decode cX10_shutIn 28 = .ok (.getfield 68, 3) := by decide +kernel
theorem dX10_shutIn_31 : decode cX10_shutIn 31 = .ok (.getfield 162, 3) := by decide +kernel
theorem dX10_shutIn_34 : decode cX10_shutIn 34 = .ok (.iload_n 1, 1) := by decide +kernel
theorem dX10_shutIn_35 : decode cX10_shutIn 35 = .ok (.iaload, 1) := by decide +kernel
theorem dX10_shutIn_36 : decode cX10_shutIn 36 = .ok (.istore_n 3, 1) := by decide +kernel
theorem dX10_shutIn_37 : decode cX10_shutIn 37 = .ok (.aload_n 0, 1) := by decide +kernel
theorem dX10_shutIn_38 : decode cX10_shutIn 38 = .ok (.getfield 65, 3) := by decide +kernel
theorem dX10_shutIn_41 : decode cX10_shutIn 41 = .ok (.iload_n 3, 1) := by decide +kernel
theorem dX10_shutIn_42 : decode cX10_shutIn 42 = .ok (.invokevirtual 142, 3) := by decide +kernel
theorem dX10_shutIn_45 : decode cX10_shutIn 45 = .ok (.ifCond .eq 19, 3) := by decide +kernel
theorem dX10_shutIn_48 : decode cX10_shutIn 48 = .ok (.aload_n 0, 1) := by decide +kernel
theorem dX10_shutIn_49 : decode cX10_shutIn 49 = .ok (.getfield 68, 3) := by decide +kernel
theorem dX10_shutIn_52 : decode cX10_shutIn 52 = .ok (.iload_n 3, 1) := by decide +kernel
theorem dX10_shutIn_53 : decode cX10_shutIn 53 = .ok (.invokevirtual 236, 3) := by decide +kernel
theorem dX10_shutIn_56 : decode cX10_shutIn 56 = .ok (.iload_n 1, 1) := by decide +kernel
theorem dX10_shutIn_57 : decode cX10_shutIn 57 = .ok (.if_icmp .ne 7, 3) := by decide +kernel
theorem dX10_shutIn_60 : decode cX10_shutIn 60 = .ok (.iconst 1, 1) := by decide +kernel
theorem dX10_shutIn_61 : decode cX10_shutIn 61 = .ok (.goto 4, 3) := by decide +kernel
theorem dX10_shutIn_64 : decode cX10_shutIn 64 = .ok (.iconst 0, 1) := by decide +kernel
theorem dX10_shutIn_65 : decode cX10_shutIn 65 = .ok (.istore 4, 2) := by decide +kernel
theorem dX10_shutIn_67 : decode cX10_shutIn 67 = .ok (.iload 4, 2) := by decide +kernel
theorem dX10_shutIn_69 : decode cX10_shutIn 69 = .ok (.ifCond .eq 16, 3) := by decide +kernel
theorem dX10_shutIn_72 : decode cX10_shutIn 72 = .ok (.aload_n 0, 1) := by decide +kernel
theorem dX10_shutIn_73 : decode cX10_shutIn 73 = .ok (.getfield 71, 3) := by decide +kernel
theorem dX10_shutIn_76 : decode cX10_shutIn 76 = .ok (.iload_n 3, 1) := by decide +kernel
theorem dX10_shutIn_77 : decode cX10_shutIn 77 = .ok (.iload_n 2, 1) := by decide +kernel
theorem dX10_shutIn_78 : decode cX10_shutIn 78 = .ok (.iconst (-1), 1) := by decide +kernel
theorem dX10_shutIn_79 : decode cX10_shutIn 79 = .ok (.invokevirtual 286, 3) := by decide +kernel
theorem dX10_shutIn_82 : decode cX10_shutIn 82 = .ok (.goto 4, 3) := by decide +kernel
theorem dX10_shutIn_85 : decode cX10_shutIn 85 = .ok (.lconst 0, 1) := by decide +kernel
theorem dX10_shutIn_86 : decode cX10_shutIn 86 = .ok (.lreturn, 1) := by decide +kernel
theorem dX10_gain_0 : decode cX10_gain 0 = .ok (.iload_n 1, 1) := by decide +kernel
theorem dX10_gain_1 : decode cX10_gain 1 = .ok (.ifCond .lt 16, 3) := by decide +kernel
theorem dX10_gain_4 : decode cX10_gain 4 = .ok (.iload_n 1, 1) := by decide +kernel
theorem dX10_gain_5 : decode cX10_gain 5 = .ok (.iconst 2, 1) := by decide +kernel
theorem dX10_gain_6 : decode cX10_gain 6 = .ok (.if_icmp .gt 11, 3) := by decide +kernel
theorem dX10_gain_9 : decode cX10_gain 9 = .ok (.aload_n 0, 1) := by decide +kernel
theorem dX10_gain_10 : decode cX10_gain 10 = .ok (.iload_n 2, 1) := by decide +kernel
theorem dX10_gain_11 : decode cX10_gain 11 = .ok (.invokevirtual 283, 3) := by decide +kernel
theorem dX10_gain_14 : decode cX10_gain 14 = .ok (.ifCond .ne 7, 3) := by decide +kernel
theorem dX10_gain_17 : decode cX10_gain 17 = .ok (.ldc2_w 290, 3) := by decide +kernel
theorem dX10_gain_20 : decode cX10_gain 20 = .ok (.lreturn, 1) := by decide +kernel
theorem dX10_gain_21 : decode cX10_gain 21 = .ok (.iload_n 1, 1) := by decide +kernel
theorem dX10_gain_22 : decode cX10_gain 22 = .ok (.iconst 2, 1) := by decide +kernel
theorem dX10_gain_23 : decode cX10_gain 23 = .ok (.if_icmp .ne 24, 3) := by decide +kernel
theorem dX10_gain_26 : decode cX10_gain 26 = .ok (.aload_n 0, 1) := by decide +kernel
theorem dX10_gain_27 : decode cX10_gain 27 = .ok (.getfield 65, 3) := by decide +kernel
theorem dX10_gain_30 : decode cX10_gain 30 = .ok (.getfield 296, 3) := by decide +kernel
theorem dX10_gain_33 : decode cX10_gain 33 = .ok (.aload_n 0, 1) := by decide +kernel
theorem dX10_gain_34 : decode cX10_gain 34 = .ok (.getfield 65, 3) := by decide +kernel
theorem dX10_gain_37 : decode cX10_gain 37 = .ok (.getfield 299, 3) := by decide +kernel
theorem dX10_gain_40 : decode cX10_gain 40 = .ok (.if_icmp .ne 7, 3) := by decide +kernel
theorem dX10_gain_43 : decode cX10_gain 43 = .ok (.ldc2_w 331, 3) := by decide +kernel
theorem dX10_gain_46 : decode cX10_gain 46 = .ok (.lreturn, 1) := by decide +kernel
theorem dX10_gain_47 : decode cX10_gain 47 = .ok (.aload_n 0, 1) := by decide +kernel
theorem dX10_gain_48 : decode cX10_gain 48 = .ok (.getfield 71, 3) := by decide +kernel
theorem dX10_gain_51 : decode cX10_gain 51 = .ok (.iload_n 2, 1) := by decide +kernel
theorem dX10_gain_52 : decode cX10_gain 52 = .ok (.aload_n 0, 1) := by decide +kernel
theorem dX10_gain_53 : decode cX10_gain 53 = .ok (.getfield 68, 3) := by decide +kernel
theorem dX10_gain_56 : decode cX10_gain 56 = .ok (.getfield 154, 3) := by decide +kernel
theorem dX10_gain_59 : decode cX10_gain 59 = .ok (.invokevirtual 319, 3) := by decide +kernel
theorem dX10_gain_62 : decode cX10_gain 62 = .ok (.aload_n 0, 1) := by decide +kernel
theorem dX10_gain_63 : decode cX10_gain 63 = .ok (.iload_n 1, 1) := by decide +kernel
theorem dX10_gain_64 : decode cX10_gain 64 = .ok (.invokevirtual 346, 3) := by decide +kernel
theorem dX10_gain_67 : decode cX10_gain 67 = .ok (.lreturn, 1) := by decide +kernel
theorem dX10_gainOf_0 : decode cX10_gainOf 0 = .ok (.lconst 0, 1) := by decide +kernel
theorem dX10_gainOf_1 : decode cX10_gainOf 1 = .ok (.lstore_n 2, 1) := by decide +kernel
theorem dX10_gainOf_2 : decode cX10_gainOf 2 = .ok (.iload_n 1, 1) := by decide +kernel
theorem dX10_gainOf_3 : decode cX10_gainOf 3 = .ok (.iconst 1, 1) := by decide +kernel
theorem dX10_gainOf_4 : decode cX10_gainOf 4 = .ok (.if_icmp .ne 25, 3) := by decide +kernel
theorem dX10_gainOf_7 : decode cX10_gainOf 7 = .ok (.aload_n 0, 1) := by decide +kernel
theorem dX10_gainOf_8 : decode cX10_gainOf 8 = .ok (.getfield 80, 3) := by decide +kernel
theorem dX10_gainOf_11 : decode cX10_gainOf 11 = .ok (.iconst 0, 1) := by decide +kernel
theorem dX10_gainOf_12 : decode cX10_gainOf 12 = .ok (.iconst 1, 1) := by decide +kernel
theorem dX10_gainOf_13 : decode cX10_gainOf 13 = .ok (.invokevirtual 322, 3) := by decide +kernel
theorem dX10_gainOf_16 : decode cX10_gainOf 16 = .ok (.aload_n 0, 1) := by decide +kernel
theorem dX10_gainOf_17 : decode cX10_gainOf 17 = .ok (.getfield 80, 3) := by decide +kernel
theorem dX10_gainOf_20 : decode cX10_gainOf 20 = .ok (.iconst 0, 1) := by decide +kernel
theorem dX10_gainOf_21 : decode cX10_gainOf 21 = .ok (.iconst 1, 1) := by decide +kernel
theorem dX10_gainOf_22 : decode cX10_gainOf 22 = .ok (.invokevirtual 328, 3) := by decide +kernel
theorem dX10_gainOf_25 : decode cX10_gainOf 25 = .ok (.lstore_n 2, 1) := by decide +kernel
theorem dX10_gainOf_26 : decode cX10_gainOf 26 = .ok (.goto 23, 3) := by decide +kernel
theorem dX10_gainOf_29 : decode cX10_gainOf 29 = .ok (.iload_n 1, 1) := by decide +kernel
theorem dX10_gainOf_30 : decode cX10_gainOf 30 = .ok (.iconst 2, 1) := by decide +kernel
theorem dX10_gainOf_31 : decode cX10_gainOf 31 = .ok (.if_icmp .ne 18, 3) := by decide +kernel
theorem dX10_gainOf_34 : decode cX10_gainOf 34 = .ok (.aload_n 0, 1) := by decide +kernel
theorem dX10_gainOf_35 : decode cX10_gainOf 35 = .ok (.getfield 71, 3) := by decide +kernel
theorem dX10_gainOf_38 : decode cX10_gainOf 38 = .ok (.invokevirtual 333, 3) := by decide +kernel
theorem dX10_gainOf_41 : decode cX10_gainOf 41 = .ok (.aload_n 0, 1) := by decide +kernel
theorem dX10_gainOf_42 : decode cX10_gainOf 42 = .ok (.getfield 71, 3) := by decide +kernel
theorem dX10_gainOf_45 : decode cX10_gainOf 45 = .ok (.getfield 336, 3) := by decide +kernel
theorem dX10_gainOf_48 : decode cX10_gainOf 48 = .ok (.lstore_n 2, 1) := by decide +kernel
theorem dX10_gainOf_49 : decode cX10_gainOf 49 = .ok (.aload_n 0, 1) := by decide +kernel
theorem dX10_gainOf_50 : decode cX10_gainOf 50 = .ok (.getfield 65, 3) := by decide +kernel
theorem dX10_gainOf_53 : decode cX10_gainOf 53 = .ok (.getfield 350, 3) := by decide +kernel
theorem dX10_gainOf_56 : decode cX10_gainOf 56 = .ok (.i2l, 1) := by decide +kernel
theorem dX10_gainOf_57 : decode cX10_gainOf 57 = .ok (.lload_n 2, 1) := by decide +kernel
theorem dX10_gainOf_58 : decode cX10_gainOf 58 = .ok (.lmul, 1) := by decide +kernel
theorem dX10_gainOf_59 : decode cX10_gainOf 59 = .ok (.aload_n 0, 1) := by decide +kernel
theorem dX10_gainOf_60 : decode cX10_gainOf 60 = .ok (.getfield 65, 3) := by decide +kernel
theorem dX10_gainOf_63 : decode cX10_gainOf 63 = .ok (.getfield 353, 3) := by decide +kernel
theorem dX10_gainOf_66 : decode cX10_gainOf 66 = .ok (.i2l, 1) := by decide +kernel
theorem dX10_gainOf_67 : decode cX10_gainOf 67 = .ok (.iload_n 1, 1) := by decide +kernel
theorem dX10_gainOf_68 : decode cX10_gainOf 68 = .ok (.i2l, 1) := by decide +kernel
theorem dX10_gainOf_69 : decode cX10_gainOf 69 = .ok (.lmul, 1) := by decide +kernel
theorem dX10_gainOf_70 : decode cX10_gainOf 70 = .ok (.aload_n 0, 1) := by decide +kernel
theorem dX10_gainOf_71 : decode cX10_gainOf 71 = .ok (.getfield 71, 3) := by decide +kernel
theorem dX10_gainOf_74 : decode cX10_gainOf 74 = .ok (.invokevirtual 292, 3) := by decide +kernel
theorem dX10_gainOf_77 : decode cX10_gainOf 77 = .ok (.lmul, 1) := by decide +kernel
theorem dX10_gainOf_78 : decode cX10_gainOf 78 = .ok (.lsub, 1) := by decide +kernel
theorem dX10_gainOf_79 : decode cX10_gainOf 79 = .ok (.lreturn, 1) := by decide +kernel
theorem dX10_buys_0 : decode cX10_buys 0 = .ok (.aload_n 0, 1) := by decide +kernel
theorem dX10_buys_1 : decode cX10_buys 1 = .ok (.iload_n 1, 1) := by decide +kernel
theorem dX10_buys_2 : decode cX10_buys 2 = .ok (.invokevirtual 283, 3) := by decide +kernel
theorem dX10_buys_5 : decode cX10_buys 5 = .ok (.ifCond .ne 6, 3) := by decide +kernel
theorem dX10_buys_8 : decode cX10_buys 8 = .ok (.bipush (-3), 2) := by decide +kernel
theorem dX10_buys_10 : decode cX10_buys 10 = .ok (.ireturn, 1) := by decide +kernel
theorem dX10_buys_11 : decode cX10_buys 11 = .ok (.aload_n 0, 1) := by decide +kernel
theorem dX10_buys_12 : decode cX10_buys 12 = .ok (.getfield 71, 3) := by decide +kernel
theorem dX10_buys_15 : decode cX10_buys 15 = .ok (.iload_n 1, 1) := by decide +kernel
theorem dX10_buys_16 : decode cX10_buys 16 = .ok (.aload_n 0, 1) := by decide +kernel
theorem dX10_buys_17 : decode cX10_buys 17 = .ok (.getfield 68, 3) := by decide +kernel
theorem dX10_buys_20 : decode cX10_buys 20 = .ok (.getfield 154, 3) := by decide +kernel
theorem dX10_buys_23 : decode cX10_buys 23 = .ok (.invokevirtual 319, 3) := by decide +kernel
theorem dX10_buys_26 : decode cX10_buys 26 = .ok (.aload_n 0, 1) := by decide +kernel
theorem dX10_buys_27 : decode cX10_buys 27 = .ok (.getfield 65, 3) := by decide +kernel
theorem dX10_buys_30 : decode cX10_buys 30 = .ok (.getfield 296, 3) := by decide +kernel
theorem dX10_buys_33 : decode cX10_buys 33 = .ok (.aload_n 0, 1) := by decide +kernel
theorem dX10_buys_34 : decode cX10_buys 34 = .ok (.getfield 65, 3) := by decide +kernel
theorem dX10_buys_37 : decode cX10_buys 37 = .ok (.getfield 299, 3) := by decide +kernel
theorem dX10_buys_40 : decode cX10_buys 40 = .ok (.if_icmp .ne 7, 3) := by decide +kernel
theorem dX10_buys_43 : decode cX10_buys 43 = .ok (.iconst 1, 1) := by decide +kernel
theorem dX10_buys_44 : decode cX10_buys 44 = .ok (.goto 4, 3) := by decide +kernel
theorem dX10_buys_47 : decode cX10_buys 47 = .ok (.iconst 2, 1) := by decide +kernel
theorem dX10_buys_48 : decode cX10_buys 48 = .ok (.istore_n 2, 1) := by decide +kernel
theorem dX10_buys_49 : decode cX10_buys 49 = .ok (.iconst 0, 1) := by decide +kernel
theorem dX10_buys_50 : decode cX10_buys 50 = .ok (.istore_n 3, 1) := by decide +kernel
theorem dX10_buys_51 : decode cX10_buys 51 = .ok (.lconst 0, 1) := by decide +kernel
theorem dX10_buys_52 : decode cX10_buys 52 = .ok (.lstore 4, 2) := by decide +kernel
theorem dX10_buys_54 : decode cX10_buys 54 = .ok (.iconst 1, 1) := by decide +kernel
theorem dX10_buys_55 : decode cX10_buys 55 = .ok (.istore 6, 2) := by decide +kernel
theorem dX10_buys_57 : decode cX10_buys 57 = .ok (.iload 6, 2) := by decide +kernel
theorem dX10_buys_59 : decode cX10_buys 59 = .ok (.iload_n 2, 1) := by decide +kernel
theorem dX10_buys_60 : decode cX10_buys 60 = .ok (.if_icmp .gt 32, 3) := by decide +kernel
theorem dX10_buys_63 : decode cX10_buys 63 = .ok (.aload_n 0, 1) := by decide +kernel
theorem dX10_buys_64 : decode cX10_buys 64 = .ok (.iload 6, 2) := by decide +kernel
theorem dX10_buys_66 : decode cX10_buys 66 = .ok (.invokevirtual 346, 3) := by decide +kernel
theorem dX10_buys_69 : decode cX10_buys 69 = .ok (.lstore 7, 2) := by decide +kernel
theorem dX10_buys_71 : decode cX10_buys 71 = .ok (.lload 7, 2) := by decide +kernel
theorem dX10_buys_73 : decode cX10_buys 73 = .ok (.lload 4, 2) := by decide +kernel
theorem dX10_buys_75 : decode cX10_buys 75 = .ok (.lcmp, 1) := by decide +kernel
theorem dX10_buys_76 : decode cX10_buys 76 = .ok (.ifCond .le 10, 3) := by decide +kernel
theorem dX10_buys_79 : decode cX10_buys 79 = .ok (.lload 7, 2) := by decide +kernel
theorem dX10_buys_81 : decode cX10_buys 81 = .ok (.lstore 4, 2) := by decide +kernel
theorem dX10_buys_83 : decode cX10_buys 83 = .ok (.iload 6, 2) := by decide +kernel
theorem dX10_buys_85 : decode cX10_buys 85 = .ok (.istore_n 3, 1) := by decide +kernel
theorem dX10_buys_86 : decode cX10_buys 86 = .ok (.iinc 6 1, 3) := by decide +kernel
theorem dX10_buys_89 : decode cX10_buys 89 = .ok (.goto (-32), 3) := by decide +kernel
theorem dX10_buys_92 : decode cX10_buys 92 = .ok (.iload_n 3, 1) := by decide +kernel
theorem dX10_buys_93 : decode cX10_buys 93 = .ok (.ireturn, 1) := by decide +kernel
theorem dX10_game_0 : decode cX10_game 0 = .ok (.iload_n 1, 1) := by decide +kernel
theorem dX10_game_1 : decode cX10_game 1 = .ok (.iconst 1, 1) := by decide +kernel
theorem dX10_game_2 : decode cX10_game 2 = .ok (.if_icmp .lt 8, 3) := by decide +kernel
theorem dX10_game_5 : decode cX10_game 5 = .ok (.iload_n 1, 1) := by decide +kernel
theorem dX10_game_6 : decode cX10_game 6 = .ok (.iconst 3, 1) := by decide +kernel
theorem dX10_game_7 : decode cX10_game 7 = .ok (.if_icmp .le 6, 3) := by decide +kernel
theorem dX10_game_10 : decode cX10_game 10 = .ok (.bipush (-3), 2) := by decide +kernel
theorem dX10_game_12 : decode cX10_game 12 = .ok (.ireturn, 1) := by decide +kernel
theorem dX10_game_13 : decode cX10_game 13 = .ok (.iload_n 2, 1) := by decide +kernel
theorem dX10_game_14 : decode cX10_game 14 = .ok (.ifCond .lt 12, 3) := by decide +kernel
theorem dX10_game_17 : decode cX10_game 17 = .ok (.iload_n 2, 1) := by decide +kernel
theorem dX10_game_18 : decode cX10_game 18 = .ok (.iload_n 1, 1) := by decide +kernel
theorem dX10_game_19 : decode cX10_game 19 = .ok (.if_icmp .ge 7, 3) := by decide +kernel
theorem dX10_game_22 : decode cX10_game 22 = .ok (.iconst 1, 1) := by decide +kernel
theorem dX10_game_23 : decode cX10_game 23 = .ok (.goto 4, 3) := by decide +kernel
theorem dX10_game_26 : decode cX10_game 26 = .ok (.iconst 0, 1) := by decide +kernel
theorem dX10_game_27 : decode cX10_game 27 = .ok (.istore_n 3, 1) := by decide +kernel
theorem dX10_game_28 : decode cX10_game 28 = .ok (.iload_n 2, 1) := by decide +kernel
theorem dX10_game_29 : decode cX10_game 29 = .ok (.bipush 10, 2) := by decide +kernel
theorem dX10_game_31 : decode cX10_game 31 = .ok (.if_icmp .lt 15, 3) := by decide +kernel
theorem dX10_game_34 : decode cX10_game 34 = .ok (.iload_n 2, 1) := by decide +kernel
theorem dX10_game_35 : decode cX10_game 35 = .ok (.bipush 10, 2) := by decide +kernel
theorem dX10_game_37 : decode cX10_game 37 = .ok (.iload_n 1, 1) := by decide +kernel
theorem dX10_game_38 : decode cX10_game 38 = .ok (.iadd, 1) := by decide +kernel
theorem dX10_game_39 : decode cX10_game 39 = .ok (.if_icmp .ge 7, 3) := by decide +kernel
theorem dX10_game_42 : decode cX10_game 42 = .ok (.iconst 1, 1) := by decide +kernel
theorem dX10_game_43 : decode cX10_game 43 = .ok (.goto 4, 3) := by decide +kernel
theorem dX10_game_46 : decode cX10_game 46 = .ok (.iconst 0, 1) := by decide +kernel
theorem dX10_game_47 : decode cX10_game 47 = .ok (.istore 4, 2) := by decide +kernel
theorem dX10_game_49 : decode cX10_game 49 = .ok (.iload_n 3, 1) := by decide +kernel
theorem dX10_game_50 : decode cX10_game 50 = .ok (.ifCond .ne 11, 3) := by decide +kernel
theorem dX10_game_53 : decode cX10_game 53 = .ok (.iload 4, 2) := by decide +kernel
theorem dX10_game_55 : decode cX10_game 55 = .ok (.ifCond .ne 6, 3) := by decide +kernel
theorem dX10_game_58 : decode cX10_game 58 = .ok (.bipush (-2), 2) := by decide +kernel
theorem dX10_game_60 : decode cX10_game 60 = .ok (.ireturn, 1) := by decide +kernel
theorem dX10_game_61 : decode cX10_game 61 = .ok (.aload_n 0, 1) := by decide +kernel
theorem dX10_game_62 : decode cX10_game 62 = .ok (.getfield 65, 3) := by decide +kernel
theorem dX10_game_65 : decode cX10_game 65 = .ok (.getfield 299, 3) := by decide +kernel
theorem dX10_game_68 : decode cX10_game 68 = .ok (.aload_n 0, 1) := by decide +kernel
theorem dX10_game_69 : decode cX10_game 69 = .ok (.getfield 65, 3) := by decide +kernel
theorem dX10_game_72 : decode cX10_game 72 = .ok (.getfield 296, 3) := by decide +kernel
theorem dX10_game_75 : decode cX10_game 75 = .ok (.isub, 1) := by decide +kernel
theorem dX10_game_76 : decode cX10_game 76 = .ok (.bipush 24, 2) := by decide +kernel
theorem dX10_game_78 : decode cX10_game 78 = .ok (.if_icmp .lt 6, 3) := by decide +kernel
theorem dX10_game_81 : decode cX10_game 81 = .ok (.bipush (-4), 2) := by decide +kernel
theorem dX10_game_83 : decode cX10_game 83 = .ok (.ireturn, 1) := by decide +kernel
theorem dX10_game_84 : decode cX10_game 84 = .ok (.aload_n 0, 1) := by decide +kernel
theorem dX10_game_85 : decode cX10_game 85 = .ok (.getfield 71, 3) := by decide +kernel
theorem dX10_game_88 : decode cX10_game 88 = .ok (.iconst 0, 1) := by decide +kernel
theorem dX10_game_89 : decode cX10_game 89 = .ok (.iconst 0, 1) := by decide +kernel
theorem dX10_game_90 : decode cX10_game 90 = .ok (.invokevirtual 319, 3) := by decide +kernel
theorem dX10_game_93 : decode cX10_game 93 = .ok (.aload_n 0, 1) := by decide +kernel
theorem dX10_game_94 : decode cX10_game 94 = .ok (.getfield 80, 3) := by decide +kernel
theorem dX10_game_97 : decode cX10_game 97 = .ok (.iconst 0, 1) := by decide +kernel
theorem dX10_game_98 : decode cX10_game 98 = .ok (.iload_n 1, 1) := by decide +kernel
theorem dX10_game_99 : decode cX10_game 99 = .ok (.invokevirtual 322, 3) := by decide +kernel
theorem dX10_game_102 : decode cX10_game 102 = .ok (.iload_n 3, 1) := by decide +kernel
theorem dX10_game_103 : decode cX10_game 103 = .ok (.ifCond .eq 15, 3) := by decide +kernel
theorem dX10_game_106 : decode cX10_game 106 = .ok (.aload_n 0, 1) := by decide +kernel
theorem dX10_game_107 : decode cX10_game 107 = .ok (.getfield 80, 3) := by decide +kernel
theorem dX10_game_110 : decode cX10_game 110 = .ok (.getfield 325, 3) := by decide +kernel
theorem dX10_game_113 : decode cX10_game 113 = .ok (.iload_n 2, 1) := by decide +kernel
theorem dX10_game_114 : decode cX10_game 114 = .ok (.iaload, 1) := by decide +kernel
theorem dX10_game_115 : decode cX10_game 115 = .ok (.goto 16, 3) := by decide +kernel
theorem dX10_game_118 : decode cX10_game 118 = .ok (.aload_n 0, 1) := by decide +kernel
theorem dX10_game_119 : decode cX10_game 119 = .ok (.getfield 80, 3) := by decide +kernel
theorem dX10_game_122 : decode cX10_game 122 = .ok (.iload_n 2, 1) := by decide +kernel
theorem dX10_game_123 : decode cX10_game 123 = .ok (.bipush 10, 2) := by decide +kernel
theorem dX10_game_125 : decode cX10_game 125 = .ok (.isub, 1) := by decide +kernel
theorem dX10_game_126 : decode cX10_game 126 = .ok (.iload_n 1, 1) := by decide +kernel
theorem dX10_game_127 : decode cX10_game 127 = .ok (.invokevirtual 328, 3) := by decide +kernel
theorem dX10_game_130 : decode cX10_game 130 = .ok (.l2i, 1) := by decide +kernel
theorem dX10_game_131 : decode cX10_game 131 = .ok (.ireturn, 1) := by decide +kernel
theorem dX10_alone_0 : decode cX10_alone 0 = .ok (.aload_n 0, 1) := by decide +kernel
theorem dX10_alone_1 : decode cX10_alone 1 = .ok (.getfield 65, 3) := by decide +kernel
theorem dX10_alone_4 : decode cX10_alone 4 = .ok (.iload_n 1, 1) := by decide +kernel
theorem dX10_alone_5 : decode cX10_alone 5 = .ok (.invokevirtual 114, 3) := by decide +kernel
theorem dX10_alone_8 : decode cX10_alone 8 = .ok (.ifCond .ne 7, 3) := by decide +kernel
theorem dX10_alone_11 : decode cX10_alone 11 = .ok (.ldc2_w 302, 3) := by decide +kernel
theorem dX10_alone_14 : decode cX10_alone 14 = .ok (.lreturn, 1) := by decide +kernel
theorem dX10_alone_15 : decode cX10_alone 15 = .ok (.iload_n 2, 1) := by decide +kernel
theorem dX10_alone_16 : decode cX10_alone 16 = .ok (.iconst 1, 1) := by decide +kernel
theorem dX10_alone_17 : decode cX10_alone 17 = .ok (.if_icmp .lt 19, 3) := by decide +kernel
theorem dX10_alone_20 : decode cX10_alone 20 = .ok (.iload_n 2, 1) := by decide +kernel
theorem dX10_alone_21 : decode cX10_alone 21 = .ok (.bipush 8, 2) := by decide +kernel
theorem dX10_alone_23 : decode cX10_alone 23 = .ok (.if_icmp .gt 13, 3) := by decide +kernel
theorem dX10_alone_26 : decode cX10_alone 26 = .ok (.iload_n 3, 1) := by decide +kernel
theorem dX10_alone_27 : decode cX10_alone 27 = .ok (.ifCond .lt 9, 3) := by decide +kernel
theorem dX10_alone_30 : decode cX10_alone 30 = .ok (.iload_n 3, 1) := by decide +kernel
theorem dX10_alone_31 : decode cX10_alone 31 = .ok (.bipush 20, 2) := by decide +kernel
theorem dX10_alone_33 : decode cX10_alone 33 = .ok (.if_icmp .le 7, 3) := by decide +kernel
theorem dX10_alone_36 : decode cX10_alone 36 = .ok (.ldc2_w 290, 3) := by decide +kernel
theorem dX10_alone_39 : decode cX10_alone 39 = .ok (.lreturn, 1) := by decide +kernel
theorem dX10_alone_40 : decode cX10_alone 40 = .ok (.aload_n 0, 1) := by decide +kernel
theorem dX10_alone_41 : decode cX10_alone 41 = .ok (.getfield 44, 3) := by decide +kernel
theorem dX10_alone_44 : decode cX10_alone 44 = .ok (.aload_n 0, 1) := by decide +kernel
theorem dX10_alone_45 : decode cX10_alone 45 = .ok (.getfield 65, 3) := by decide +kernel
theorem dX10_alone_48 : decode cX10_alone 48 = .ok (.getfield 122, 3) := by decide +kernel
theorem dX10_alone_51 : decode cX10_alone 51 = .ok (.iload_n 1, 1) := by decide +kernel
theorem dX10_alone_52 : decode cX10_alone 52 = .ok (.iaload, 1) := by decide +kernel
theorem dX10_alone_53 : decode cX10_alone 53 = .ok (.invokevirtual 356, 3) := by decide +kernel
theorem dX10_alone_56 : decode cX10_alone 56 = .ok (.iconst 0, 1) := by decide +kernel
theorem dX10_alone_57 : decode cX10_alone 57 = .ok (.istore 4, 2) := by decide +kernel
theorem dX10_alone_59 : decode cX10_alone 59 = .ok (.iload 4, 2) := by decide +kernel
theorem dX10_alone_61 : decode cX10_alone 61 = .ok (.iload_n 2, 1) := by decide +kernel
theorem dX10_alone_62 : decode cX10_alone 62 = .ok (.if_icmp .ge 16, 3) := by decide +kernel
theorem dX10_alone_65 : decode cX10_alone 65 = .ok (.aload_n 0, 1) := by decide +kernel
theorem dX10_alone_66 : decode cX10_alone 66 = .ok (.getfield 44, 3) := by decide +kernel
theorem dX10_alone_69 : decode cX10_alone 69 = .ok (.invokevirtual 357, 3) := by decide +kernel
theorem dX10_alone_72 : decode cX10_alone 72 = .ok (.iinc 4 1, 3) := by decide +kernel
theorem dX10_alone_75 : decode cX10_alone 75 = .ok (.goto (-16), 3) := by decide +kernel
theorem dX10_alone_78 : decode cX10_alone 78 = .ok (.aload_n 0, 1) := by decide +kernel
theorem dX10_alone_79 : decode cX10_alone 79 = .ok (.getfield 44, 3) := by decide +kernel
theorem dX10_alone_82 : decode cX10_alone 82 = .ok (.iload_n 2, 1) := by decide +kernel
theorem dX10_alone_83 : decode cX10_alone 83 = .ok (.iload_n 3, 1) := by decide +kernel
theorem dX10_alone_84 : decode cX10_alone 84 = .ok (.imul, 1) := by decide +kernel
theorem dX10_alone_85 : decode cX10_alone 85 = .ok (.invokevirtual 360, 3) := by decide +kernel
theorem dX10_alone_88 : decode cX10_alone 88 = .ok (.lreturn, 1) := by decide +kernel
theorem dX10_fewest_0 : decode cX10_fewest 0 = .ok (.aload_n 0, 1) := by decide +kernel
theorem dX10_fewest_1 : decode cX10_fewest 1 = .ok (.getfield 65, 3) := by decide +kernel
theorem dX10_fewest_4 : decode cX10_fewest 4 = .ok (.iload_n 1, 1) := by decide +kernel
theorem dX10_fewest_5 : decode cX10_fewest 5 = .ok (.invokevirtual 114, 3) := by decide +kernel
theorem dX10_fewest_8 : decode cX10_fewest 8 = .ok (.ifCond .ne 6, 3) := by decide +kernel
theorem dX10_fewest_11 : decode cX10_fewest 11 = .ok (.bipush (-2), 2) := by decide +kernel
theorem dX10_fewest_13 : decode cX10_fewest 13 = .ok (.ireturn, 1) := by decide +kernel
theorem dX10_fewest_14 : decode cX10_fewest 14 = .ok (.iload_n 2, 1) := by decide +kernel
theorem dX10_fewest_15 : decode cX10_fewest 15 = .ok (.ifCond .lt 19, 3) := by decide +kernel
theorem dX10_fewest_18 : decode cX10_fewest 18 = .ok (.iload_n 2, 1) := by decide +kernel
theorem dX10_fewest_19 : decode cX10_fewest 19 = .ok (.bipush 20, 2) := by decide +kernel
theorem dX10_fewest_21 : decode cX10_fewest 21 = .ok (.if_icmp .gt 13, 3) := by decide +kernel
theorem dX10_fewest_24 : decode cX10_fewest 24 = .ok (.iload_n 3, 1) := by decide +kernel
theorem dX10_fewest_25 : decode cX10_fewest 25 = .ok (.ifCond .lt 9, 3) := by decide +kernel
theorem dX10_fewest_28 : decode cX10_fewest 28 = .ok (.iload_n 3, 1) := by decide +kernel
theorem dX10_fewest_29 : decode cX10_fewest 29 = .ok (.bipush 100, 2) := by decide +kernel
theorem dX10_fewest_31 : decode cX10_fewest 31 = .ok (.if_icmp .le 6, 3) := by decide +kernel
theorem dX10_fewest_34 : decode cX10_fewest 34 = .ok (.bipush (-3), 2) := by decide +kernel
theorem dX10_fewest_36 : decode cX10_fewest 36 = .ok (.ireturn, 1) := by decide +kernel
theorem dX10_fewest_37 : decode cX10_fewest 37 = .ok (.aload_n 0, 1) := by decide +kernel
theorem dX10_fewest_38 : decode cX10_fewest 38 = .ok (.getfield 44, 3) := by decide +kernel
theorem dX10_fewest_41 : decode cX10_fewest 41 = .ok (.aload_n 0, 1) := by decide +kernel
theorem dX10_fewest_42 : decode cX10_fewest 42 = .ok (.getfield 65, 3) := by decide +kernel
theorem dX10_fewest_45 : decode cX10_fewest 45 = .ok (.getfield 122, 3) := by decide +kernel
theorem dX10_fewest_48 : decode cX10_fewest 48 = .ok (.iload_n 1, 1) := by decide +kernel
theorem dX10_fewest_49 : decode cX10_fewest 49 = .ok (.iaload, 1) := by decide +kernel
theorem dX10_fewest_50 : decode cX10_fewest 50 = .ok (.invokevirtual 356, 3) := by decide +kernel
theorem dX10_fewest_53 : decode cX10_fewest 53 = .ok (.iconst 1, 1) := by decide +kernel
theorem dX10_fewest_54 : decode cX10_fewest 54 = .ok (.istore 4, 2) := by decide +kernel
theorem dX10_fewest_56 : decode cX10_fewest 56 = .ok (.iload 4, 2) := by decide +kernel
theorem dX10_fewest_58 : decode cX10_fewest 58 = .ok (.bipush 8, 2) := by decide +kernel
theorem dX10_fewest_60 : decode cX10_fewest 60 = .ok (.if_icmp .gt 48, 3) := by decide +kernel
theorem dX10_fewest_63 : decode cX10_fewest 63 = .ok (.aload_n 0, 1) := by decide +kernel
theorem dX10_fewest_64 : decode cX10_fewest 64 = .ok (.getfield 44, 3) := by decide +kernel
theorem dX10_fewest_67 : decode cX10_fewest 67 = .ok (.invokevirtual 357, 3) := by decide +kernel
theorem dX10_fewest_70 : decode cX10_fewest 70 = .ok (.aload_n 0, 1) := by decide +kernel
theorem dX10_fewest_71 : decode cX10_fewest 71 = .ok (.getfield 44, 3) := by decide +kernel
theorem dX10_fewest_74 : decode cX10_fewest 74 = .ok (.iload 4, 2) := by decide +kernel
theorem dX10_fewest_76 : decode cX10_fewest 76 = .ok (.iload_n 2, 1) := by decide +kernel
theorem dX10_fewest_77 : decode cX10_fewest 77 = .ok (.imul, 1) := by decide +kernel
theorem dX10_fewest_78 : decode cX10_fewest 78 = .ok (.invokevirtual 360, 3) := by decide +kernel
theorem dX10_fewest_81 : decode cX10_fewest 81 = .ok (.ldc2_w 363, 3) := by decide +kernel
theorem dX10_fewest_84 : decode cX10_fewest 84 = .ok (.lmul, 1) := by decide +kernel
theorem dX10_fewest_85 : decode cX10_fewest 85 = .ok (.iload_n 3, 1) := by decide +kernel
theorem dX10_fewest_86 : decode cX10_fewest 86 = .ok (.i2l, 1) := by decide +kernel
theorem dX10_fewest_87 : decode cX10_fewest 87 = .ok (.aload_n 0, 1) := by decide +kernel
theorem dX10_fewest_88 : decode cX10_fewest 88 = .ok (.getfield 44, 3) := by decide +kernel
theorem dX10_fewest_91 : decode cX10_fewest 91 = .ok (.getfield 365, 3) := by decide +kernel
theorem dX10_fewest_94 : decode cX10_fewest 94 = .ok (.lmul, 1) := by decide +kernel
theorem dX10_fewest_95 : decode cX10_fewest 95 = .ok (.lcmp, 1) := by decide +kernel
theorem dX10_fewest_96 : decode cX10_fewest 96 = .ok (.ifCond .lt 6, 3) := by decide +kernel
theorem dX10_fewest_99 : decode cX10_fewest 99 = .ok (.iload 4, 2) := by decide +kernel
theorem dX10_fewest_101 : decode cX10_fewest 101 = .ok (.ireturn, 1) := by decide +kernel
theorem dX10_fewest_102 : decode cX10_fewest 102 = .ok (.iinc 4 1, 3) := by decide +kernel
theorem dX10_fewest_105 : decode cX10_fewest 105 = .ok (.goto (-49), 3) := by decide +kernel
theorem dX10_fewest_108 : decode cX10_fewest 108 = .ok (.iconst (-1), 1) := by decide +kernel
theorem dX10_fewest_109 : decode cX10_fewest 109 = .ok (.ireturn, 1) := by decide +kernel
theorem dX10_fetes_0 : decode cX10_fetes 0 = .ok (.iload 5, 2) := by decide +kernel
theorem dX10_fetes_2 : decode cX10_fetes 2 = .ok (.ifCond .lt 9, 3) := by decide +kernel
theorem dX10_fetes_5 : decode cX10_fetes 5 = .ok (.iload 5, 2) := by decide +kernel
theorem dX10_fetes_7 : decode cX10_fetes 7 = .ok (.iconst 2, 1) := by decide +kernel
theorem dX10_fetes_8 : decode cX10_fetes 8 = .ok (.if_icmp .le 6, 3) := by decide +kernel
theorem dX10_fetes_11 : decode cX10_fetes 11 = .ok (.bipush (-2), 2) := by decide +kernel
theorem dX10_fetes_13 : decode cX10_fetes 13 = .ok (.ireturn, 1) := by decide +kernel
theorem dX10_fetes_14 : decode cX10_fetes 14 = .ok (.iload_n 2, 1) := by decide +kernel
theorem dX10_fetes_15 : decode cX10_fetes 15 = .ok (.iconst 1, 1) := by decide +kernel
theorem dX10_fetes_16 : decode cX10_fetes 16 = .ok (.if_icmp .lt 20, 3) := by decide +kernel
theorem dX10_fetes_19 : decode cX10_fetes 19 = .ok (.iload_n 2, 1) := by decide +kernel
theorem dX10_fetes_20 : decode cX10_fetes 20 = .ok (.bipush 40, 2) := by decide +kernel
theorem dX10_fetes_22 : decode cX10_fetes 22 = .ok (.if_icmp .gt 14, 3) := by decide +kernel
theorem dX10_fetes_25 : decode cX10_fetes 25 = .ok (.iload_n 3, 1) := by decide +kernel
theorem dX10_fetes_26 : decode cX10_fetes 26 = .ok (.iconst 1, 1) := by decide +kernel
theorem dX10_fetes_27 : decode cX10_fetes 27 = .ok (.if_icmp .lt 9, 3) := by decide +kernel
theorem dX10_fetes_30 : decode cX10_fetes 30 = .ok (.iload_n 3, 1) := by decide +kernel
theorem dX10_fetes_31 : decode cX10_fetes 31 = .ok (.bipush 30, 2) := by decide +kernel
theorem dX10_fetes_33 : decode cX10_fetes 33 = .ok (.if_icmp .le 6, 3) := by decide +kernel
theorem dX10_fetes_36 : decode cX10_fetes 36 = .ok (.bipush (-3), 2) := by decide +kernel
theorem dX10_fetes_38 : decode cX10_fetes 38 = .ok (.ireturn, 1) := by decide +kernel
theorem dX10_fetes_39 : decode cX10_fetes 39 = .ok (.aload_n 0, 1) := by decide +kernel
theorem dX10_fetes_40 : decode cX10_fetes 40 = .ok (.invokevirtual 226, 3) := by decide +kernel
theorem dX10_fetes_43 : decode cX10_fetes 43 = .ok (.ifCond .ne 6, 3) := by decide +kernel
theorem dX10_fetes_46 : decode cX10_fetes 46 = .ok (.bipush (-5), 2) := by decide +kernel
theorem dX10_fetes_48 : decode cX10_fetes 48 = .ok (.ireturn, 1) := by decide +kernel
theorem dX10_fetes_49 : decode cX10_fetes 49 = .ok (.aload_n 0, 1) := by decide +kernel
theorem dX10_fetes_50 : decode cX10_fetes 50 = .ok (.getfield 37, 3) := by decide +kernel
theorem dX10_fetes_53 : decode cX10_fetes 53 = .ok (.iload_n 1, 1) := by decide +kernel
theorem dX10_fetes_54 : decode cX10_fetes 54 = .ok (.invokevirtual 229, 3) := by decide +kernel
theorem dX10_fetes_57 : decode cX10_fetes 57 = .ok (.iconst 0, 1) := by decide +kernel
theorem dX10_fetes_58 : decode cX10_fetes 58 = .ok (.istore 6, 2) := by decide +kernel
theorem dX10_fetes_60 : decode cX10_fetes 60 = .ok (.iconst 0, 1) := by decide +kernel
theorem dX10_fetes_61 : decode cX10_fetes 61 = .ok (.istore 7, 2) := by decide +kernel
theorem dX10_fetes_63 : decode cX10_fetes 63 = .ok (.iload 7, 2) := by decide +kernel
theorem dX10_fetes_65 : decode cX10_fetes 65 = .ok (.iload_n 2, 1) := by decide +kernel
theorem dX10_fetes_66 : decode cX10_fetes 66 = .ok (.if_icmp .ge 54, 3) := by decide +kernel
theorem dX10_fetes_69 : decode cX10_fetes 69 = .ok (.aload_n 0, 1) := by decide +kernel
theorem dX10_fetes_70 : decode cX10_fetes 70 = .ok (.getfield 30, 3) := by decide +kernel
theorem dX10_fetes_73 : decode cX10_fetes 73 = .ok (.iconst 0, 1) := by decide +kernel
theorem dX10_fetes_74 : decode cX10_fetes 74 = .ok (.invokevirtual 105, 3) := by decide +kernel
theorem dX10_fetes_77 : decode cX10_fetes 77 = .ok (.aload_n 0, 1) := by decide +kernel
theorem dX10_fetes_78 : decode cX10_fetes 78 = .ok (.getfield 37, 3) := by decide +kernel
theorem dX10_fetes_81 : decode cX10_fetes 81 = .ok (.aload_n 0, 1) := by decide +kernel
theorem dX10_fetes_82 : decode cX10_fetes 82 = .ok (.getfield 65, 3) := by decide +kernel
theorem dX10_fetes_85 : decode cX10_fetes 85 = .ok (.aload_n 0, 1) := by decide +kernel
theorem dX10_fetes_86 : decode cX10_fetes 86 = .ok (.getfield 30, 3) := by decide +kernel
theorem dX10_fetes_89 : decode cX10_fetes 89 = .ok (.iload_n 3, 1) := by decide +kernel
theorem dX10_fetes_90 : decode cX10_fetes 90 = .ok (.iload 4, 2) := by decide +kernel
theorem dX10_fetes_92 : decode cX10_fetes 92 = .ok (.ifCond .ne 7, 3) := by decide +kernel
theorem dX10_fetes_95 : decode cX10_fetes 95 = .ok (.iconst 1, 1) := by decide +kernel
theorem dX10_fetes_96 : decode cX10_fetes 96 = .ok (.goto 4, 3) := by decide +kernel
theorem dX10_fetes_99 : decode cX10_fetes 99 = .ok (.iconst 0, 1) := by decide +kernel
theorem dX10_fetes_100 : decode cX10_fetes 100 = .ok (.invokevirtual 232, 3) := by decide +kernel
theorem dX10_fetes_103 : decode cX10_fetes 103 = .ok (.iload 6, 2) := by decide +kernel
theorem dX10_fetes_105 : decode cX10_fetes 105 = .ok (.aload_n 0, 1) := by decide +kernel
theorem dX10_fetes_106 : decode cX10_fetes 106 = .ok (.iload 5, 2) := by decide +kernel
theorem dX10_fetes_108 : decode cX10_fetes 108 = .ok (.invokevirtual 368, 3) := by decide +kernel
theorem dX10_fetes_111 : decode cX10_fetes 111 = .ok (.iadd, 1) := by decide +kernel
theorem dX10_fetes_112 : decode cX10_fetes 112 = .ok (.istore 6, 2) := by decide +kernel
theorem dX10_fetes_114 : decode cX10_fetes 114 = .ok (.iinc 7 1, 3) := by decide +kernel
theorem dX10_fetes_117 : decode cX10_fetes 117 = .ok (.goto (-54), 3) := by decide +kernel
theorem dX10_fetes_120 : decode cX10_fetes 120 = .ok (.iload 6, 2) := by decide +kernel
theorem dX10_fetes_122 : decode cX10_fetes 122 = .ok (.ireturn, 1) := by decide +kernel
theorem dX10_toldOfTrial_0 : decode cX10_toldOfTrial 0 = .ok (.aload_n 0, 1) := by decide +kernel
theorem dX10_toldOfTrial_1 : decode cX10_toldOfTrial 1 = .ok (.getfield 30, 3) := by decide +kernel
theorem dX10_toldOfTrial_4 : decode cX10_toldOfTrial 4 = .ok (.aload_n 0, 1) := by decide +kernel
theorem dX10_toldOfTrial_5 : decode cX10_toldOfTrial 5 = .ok (.getfield 65, 3) := by decide +kernel
theorem dX10_toldOfTrial_8 : decode cX10_toldOfTrial 8 = .ok (.getfield 148, 3) := by decide +kernel
theorem dX10_toldOfTrial_11 : decode cX10_toldOfTrial 11 = .ok (.invokevirtual 236, 3) := by decide +kernel
theorem dX10_toldOfTrial_14 : decode cX10_toldOfTrial 14 = .ok (.istore_n 2, 1) := by decide +kernel
theorem dX10_toldOfTrial_15 : decode cX10_toldOfTrial 15 = .ok (.aload_n 0, 1) := by decide +kernel
theorem dX10_toldOfTrial_16 : decode cX10_toldOfTrial 16 = .ok (.aload_n 0, 1) := by decide +kernel
theorem dX10_toldOfTrial_17 : decode cX10_toldOfTrial 17 = .ok (.getfield 30, 3) := by decide +kernel
theorem dX10_toldOfTrial_20 : decode cX10_toldOfTrial 20 = .ok (.aload_n 0, 1) := by decide +kernel
theorem dX10_toldOfTrial_21 : decode cX10_toldOfTrial 21 = .ok (.getfield 30, 3) := by decide +kernel
theorem dX10_toldOfTrial_24 : decode cX10_toldOfTrial 24 = .ok (.getfield 154, 3) := by decide +kernel
theorem dX10_toldOfTrial_27 : decode cX10_toldOfTrial 27 = .ok (.invokevirtual 262, 3) := by decide +kernel
theorem dX10_toldOfTrial_30 : decode cX10_toldOfTrial 30 = .ok (.invokevirtual 176, 3) := by decide +kernel
theorem dX10_toldOfTrial_33 : decode cX10_toldOfTrial 33 = .ok (.istore_n 3, 1) := by decide +kernel
theorem dX10_toldOfTrial_34 : decode cX10_toldOfTrial 34 = .ok (.aload_n 0, 1) := by decide +kernel
theorem dX10_toldOfTrial_35 : decode cX10_toldOfTrial 35 = .ok (.getfield 30, 3) := by decide +kernel
theorem dX10_toldOfTrial_38 : decode cX10_toldOfTrial 38 = .ok (.iload_n 2, 1) := by decide +kernel
theorem dX10_toldOfTrial_39 : decode cX10_toldOfTrial 39 = .ok (.invokevirtual 161, 3) := by decide +kernel
theorem dX10_toldOfTrial_42 : decode cX10_toldOfTrial 42 = .ok (.ifCond .eq 19, 3) := by decide +kernel
theorem dX10_toldOfTrial_45 : decode cX10_toldOfTrial 45 = .ok (.aload_n 0, 1) := by decide +kernel
theorem dX10_toldOfTrial_46 : decode cX10_toldOfTrial 46 = .ok (.aload_n 0, 1) := by decide +kernel
theorem dX10_toldOfTrial_47 : decode cX10_toldOfTrial 47 = .ok (.getfield 30, 3) := by decide +kernel
theorem dX10_toldOfTrial_50 : decode cX10_toldOfTrial 50 = .ok (.getfield 162, 3) := by decide +kernel
theorem dX10_toldOfTrial_53 : decode cX10_toldOfTrial 53 = .ok (.iload_n 2, 1) := by decide +kernel
theorem dX10_toldOfTrial_54 : decode cX10_toldOfTrial 54 = .ok (.iaload, 1) := by decide +kernel
theorem dX10_toldOfTrial_55 : decode cX10_toldOfTrial 55 = .ok (.invokevirtual 176, 3) := by decide +kernel
theorem dX10_toldOfTrial_58 : decode cX10_toldOfTrial 58 = .ok (.goto 4, 3) := by decide +kernel
theorem dX10_toldOfTrial_61 : decode cX10_toldOfTrial 61 = .ok (.iconst 0, 1) := by decide +kernel
theorem dX10_toldOfTrial_62 : decode cX10_toldOfTrial 62 = .ok (.istore 4, 2) := by decide +kernel
theorem dX10_toldOfTrial_64 : decode cX10_toldOfTrial 64 = .ok (.iload_n 1, 1) := by decide +kernel
theorem dX10_toldOfTrial_65 : decode cX10_toldOfTrial 65 = .ok (.lookupswitch 32 #[(0, 27), (1, 29)], 27) := by decide +kernel
theorem dX10_toldOfTrial_92 : decode cX10_toldOfTrial 92 = .ok (.iload_n 3, 1) := by decide +kernel
theorem dX10_toldOfTrial_93 : decode cX10_toldOfTrial 93 = .ok (.ireturn, 1) := by decide +kernel
theorem dX10_toldOfTrial_94 : decode cX10_toldOfTrial 94 = .ok (.iload 4, 2) := by decide +kernel
theorem dX10_toldOfTrial_96 : decode cX10_toldOfTrial 96 = .ok (.ireturn, 1) := by decide +kernel
theorem dX10_toldOfTrial_97 : decode cX10_toldOfTrial 97 = .ok (.iload_n 3, 1) := by decide +kernel
theorem dX10_toldOfTrial_98 : decode cX10_toldOfTrial 98 = .ok (.iload 4, 2) := by decide +kernel
theorem dX10_toldOfTrial_100 : decode cX10_toldOfTrial 100 = .ok (.if_icmp .ge 7, 3) := by decide +kernel
theorem dX10_toldOfTrial_103 : decode cX10_toldOfTrial 103 = .ok (.iconst 1, 1) := by decide +kernel
theorem dX10_toldOfTrial_104 : decode cX10_toldOfTrial 104 = .ok (.goto 4, 3) := by decide +kernel
theorem dX10_toldOfTrial_107 : decode cX10_toldOfTrial 107 = .ok (.iconst 0, 1) := by decide +kernel
theorem dX10_toldOfTrial_108 : decode cX10_toldOfTrial 108 = .ok (.ireturn, 1) := by decide +kernel
theorem dX10_holds_0 : decode cX10_holds 0 = .ok (.iload_n 1, 1) := by decide +kernel
theorem dX10_holds_1 : decode cX10_holds 1 = .ok (.iconst 1, 1) := by decide +kernel
theorem dX10_holds_2 : decode cX10_holds 2 = .ok (.if_icmp .lt 17, 3) := by decide +kernel
theorem dX10_holds_5 : decode cX10_holds 5 = .ok (.iload_n 1, 1) := by decide +kernel
theorem dX10_holds_6 : decode cX10_holds 6 = .ok (.bipush 99, 2) := by decide +kernel
theorem dX10_holds_8 : decode cX10_holds 8 = .ok (.if_icmp .gt 11, 3) := by decide +kernel
theorem dX10_holds_11 : decode cX10_holds 11 = .ok (.iload_n 2, 1) := by decide +kernel
theorem dX10_holds_12 : decode cX10_holds 12 = .ok (.iload_n 3, 1) := by decide +kernel
theorem dX10_holds_13 : decode cX10_holds 13 = .ok (.invokestatic 371, 3) := by decide +kernel
theorem dX10_holds_16 : decode cX10_holds 16 = .ok (.ifCond .ne 6, 3) := by decide +kernel
theorem dX10_holds_19 : decode cX10_holds 19 = .ok (.bipush (-3), 2) := by decide +kernel
theorem dX10_holds_21 : decode cX10_holds 21 = .ok (.ireturn, 1) := by decide +kernel
theorem dX10_holds_22 : decode cX10_holds 22 = .ok (.iload_n 1, 1) := by decide +kernel
theorem dX10_holds_23 : decode cX10_holds 23 = .ok (.iload_n 2, 1) := by decide +kernel
theorem dX10_holds_24 : decode cX10_holds 24 = .ok (.iload_n 3, 1) := by decide +kernel
theorem dX10_holds_25 : decode cX10_holds 25 = .ok (.invokestatic 375, 3) := by decide +kernel
theorem dX10_holds_28 : decode cX10_holds 28 = .ok (.ireturn, 1) := by decide +kernel
theorem dX10_layersFor_0 : decode cX10_layersFor 0 = .ok (.iload_n 1, 1) := by decide +kernel
theorem dX10_layersFor_1 : decode cX10_layersFor 1 = .ok (.iconst 1, 1) := by decide +kernel
theorem dX10_layersFor_2 : decode cX10_layersFor 2 = .ok (.if_icmp .lt 18, 3) := by decide +kernel
theorem dX10_layersFor_5 : decode cX10_layersFor 5 = .ok (.iload_n 1, 1) := by decide +kernel
theorem dX10_layersFor_6 : decode cX10_layersFor 6 = .ok (.sipush 9999, 3) := by decide +kernel
theorem dX10_layersFor_9 : decode cX10_layersFor 9 = .ok (.if_icmp .gt 11, 3) := by decide +kernel
theorem dX10_layersFor_12 : decode cX10_layersFor 12 = .ok (.iload_n 2, 1) := by decide +kernel
theorem dX10_layersFor_13 : decode cX10_layersFor 13 = .ok (.iload_n 3, 1) := by decide +kernel
theorem dX10_layersFor_14 : decode cX10_layersFor 14 = .ok (.invokestatic 371, 3) := by decide +kernel
theorem dX10_layersFor_17 : decode cX10_layersFor 17 = .ok (.ifCond .ne 6, 3) := by decide +kernel
theorem dX10_layersFor_20 : decode cX10_layersFor 20 = .ok (.bipush (-3), 2) := by decide +kernel
theorem dX10_layersFor_22 : decode cX10_layersFor 22 = .ok (.ireturn, 1) := by decide +kernel
theorem dX10_layersFor_23 : decode cX10_layersFor 23 = .ok (.iconst 1, 1) := by decide +kernel
theorem dX10_layersFor_24 : decode cX10_layersFor 24 = .ok (.istore 4, 2) := by decide +kernel
theorem dX10_layersFor_26 : decode cX10_layersFor 26 = .ok (.iload 4, 2) := by decide +kernel
theorem dX10_layersFor_28 : decode cX10_layersFor 28 = .ok (.bipush 99, 2) := by decide +kernel
theorem dX10_layersFor_30 : decode cX10_layersFor 30 = .ok (.if_icmp .gt 23, 3) := by decide +kernel
theorem dX10_layersFor_33 : decode cX10_layersFor 33 = .ok (.iload 4, 2) := by decide +kernel
theorem dX10_layersFor_35 : decode cX10_layersFor 35 = .ok (.iload_n 2, 1) := by decide +kernel
theorem dX10_layersFor_36 : decode cX10_layersFor 36 = .ok (.iload_n 3, 1) := by decide +kernel
theorem dX10_layersFor_37 : decode cX10_layersFor 37 = .ok (.invokestatic 375, 3) := by decide +kernel
theorem dX10_layersFor_40 : decode cX10_layersFor 40 = .ok (.iload_n 1, 1) := by decide +kernel
theorem dX10_layersFor_41 : decode cX10_layersFor 41 = .ok (.if_icmp .lt 6, 3) := by decide +kernel
theorem dX10_layersFor_44 : decode cX10_layersFor 44 = .ok (.iload 4, 2) := by decide +kernel
theorem dX10_layersFor_46 : decode cX10_layersFor 46 = .ok (.ireturn, 1) := by decide +kernel
theorem dX10_layersFor_47 : decode cX10_layersFor 47 = .ok (.iinc 4 1, 3) := by decide +kernel
theorem dX10_layersFor_50 : decode cX10_layersFor 50 = .ok (.goto (-24), 3) := by decide +kernel
theorem dX10_layersFor_53 : decode cX10_layersFor 53 = .ok (.iconst (-1), 1) := by decide +kernel
theorem dX10_layersFor_54 : decode cX10_layersFor 54 = .ok (.ireturn, 1) := by decide +kernel
theorem dX10_isGlass_0 : decode cX10_isGlass 0 = .ok (.iload_n 0, 1) := by decide +kernel
theorem dX10_isGlass_1 : decode cX10_isGlass 1 = .ok (.iconst 1, 1) := by decide +kernel
theorem dX10_isGlass_2 : decode cX10_isGlass 2 = .ok (.if_icmp .lt 23, 3) := by decide +kernel
theorem dX10_isGlass_5 : decode cX10_isGlass 5 = .ok (.iload_n 0, 1) := by decide +kernel
theorem dX10_isGlass_6 : decode cX10_isGlass 6 = .ok (.bipush 30, 2) := by decide +kernel
theorem dX10_isGlass_8 : decode cX10_isGlass 8 = .ok (.if_icmp .gt 17, 3) := by decide +kernel
theorem dX10_isGlass_11 : decode cX10_isGlass 11 = .ok (.iload_n 1, 1) := by decide +kernel
theorem dX10_isGlass_12 : decode cX10_isGlass 12 = .ok (.ifCond .lt 13, 3) := by decide +kernel
theorem dX10_isGlass_15 : decode cX10_isGlass 15 = .ok (.iload_n 1, 1) := by decide +kernel
theorem dX10_isGlass_16 : decode cX10_isGlass 16 = .ok (.bipush 99, 2) := by decide +kernel
theorem dX10_isGlass_18 : decode cX10_isGlass 18 = .ok (.if_icmp .gt 7, 3) := by decide +kernel
theorem dX10_isGlass_21 : decode cX10_isGlass 21 = .ok (.iconst 1, 1) := by decide +kernel
theorem dX10_isGlass_22 : decode cX10_isGlass 22 = .ok (.goto 4, 3) := by decide +kernel
theorem dX10_isGlass_25 : decode cX10_isGlass 25 = .ok (.iconst 0, 1) := by decide +kernel
theorem dX10_isGlass_26 : decode cX10_isGlass 26 = .ok (.ireturn, 1) := by decide +kernel
theorem dX10_filled_0 : decode cX10_filled 0 = .ok (.iconst 1, 1) := by decide +kernel
theorem dX10_filled_1 : decode cX10_filled 1 = .ok (.iconst 3, 1) := by decide +kernel
theorem dX10_filled_2 : decode cX10_filled 2 = .ok (.iload_n 1, 1) := by decide +kernel
theorem dX10_filled_3 : decode cX10_filled 3 = .ok (.imul, 1) := by decide +kernel
theorem dX10_filled_4 : decode cX10_filled 4 = .ok (.iload_n 1, 1) := by decide +kernel
theorem dX10_filled_5 : decode cX10_filled 5 = .ok (.iconst 1, 1) := by decide +kernel
theorem dX10_filled_6 : decode cX10_filled 6 = .ok (.iadd, 1) := by decide +kernel
theorem dX10_filled_7 : decode cX10_filled 7 = .ok (.imul, 1) := by decide +kernel
theorem dX10_filled_8 : decode cX10_filled 8 = .ok (.iadd, 1) := by decide +kernel
theorem dX10_filled_9 : decode cX10_filled 9 = .ok (.istore_n 3, 1) := by decide +kernel
theorem dX10_filled_10 : decode cX10_filled 10 = .ok (.iload_n 0, 1) := by decide +kernel
theorem dX10_filled_11 : decode cX10_filled 11 = .ok (.iload_n 3, 1) := by decide +kernel
theorem dX10_filled_12 : decode cX10_filled 12 = .ok (.imul, 1) := by decide +kernel
theorem dX10_filled_13 : decode cX10_filled 13 = .ok (.iload_n 0, 1) := by decide +kernel
theorem dX10_filled_14 : decode cX10_filled 14 = .ok (.iconst 2, 1) := by decide +kernel
theorem dX10_filled_15 : decode cX10_filled 15 = .ok (.idiv, 1) := by decide +kernel
theorem dX10_filled_16 : decode cX10_filled 16 = .ok (.bipush 6, 2) := by decide +kernel
theorem dX10_filled_18 : decode cX10_filled 18 = .ok (.imul, 1) := by decide +kernel
theorem dX10_filled_19 : decode cX10_filled 19 = .ok (.iload_n 1, 1) := by decide +kernel
theorem dX10_filled_20 : decode cX10_filled 20 = .ok (.imul, 1) := by decide +kernel
theorem dX10_filled_21 : decode cX10_filled 21 = .ok (.isub, 1) := by decide +kernel
theorem dX10_filled_22 : decode cX10_filled 22 = .ok (.istore 4, 2) := by decide +kernel
theorem dX10_filled_24 : decode cX10_filled 24 = .ok (.iload 4, 2) := by decide +kernel
theorem dX10_filled_26 : decode cX10_filled 26 = .ok (.iload 4, 2) := by decide +kernel
theorem dX10_filled_28 : decode cX10_filled 28 = .ok (.iload_n 2, 1) := by decide +kernel
theorem dX10_filled_29 : decode cX10_filled 29 = .ok (.imul, 1) := by decide +kernel
theorem dX10_filled_30 : decode cX10_filled 30 = .ok (.bipush 100, 2) := by decide +kernel
theorem dX10_filled_32 : decode cX10_filled 32 = .ok (.idiv, 1) := by decide +kernel
theorem dX10_filled_33 : decode cX10_filled 33 = .ok (.isub, 1) := by decide +kernel
theorem dX10_filled_34 : decode cX10_filled 34 = .ok (.ireturn, 1) := by decide +kernel
theorem dX10_isRow_0 : decode cX10_isRow 0 = .ok (.iload_n 0, 1) := by decide +kernel
theorem dX10_isRow_1 : decode cX10_isRow 1 = .ok (.ifCond .lt 12, 3) := by decide +kernel
theorem dX10_isRow_4 : decode cX10_isRow 4 = .ok (.iload_n 0, 1) := by decide +kernel
theorem dX10_isRow_5 : decode cX10_isRow 5 = .ok (.iconst 4, 1) := by decide +kernel
theorem dX10_isRow_6 : decode cX10_isRow 6 = .ok (.if_icmp .ge 7, 3) := by decide +kernel
theorem dX10_isRow_9 : decode cX10_isRow 9 = .ok (.iconst 1, 1) := by decide +kernel
theorem dX10_isRow_10 : decode cX10_isRow 10 = .ok (.goto 4, 3) := by decide +kernel
theorem dX10_isRow_13 : decode cX10_isRow 13 = .ok (.iconst 0, 1) := by decide +kernel
theorem dX10_isRow_14 : decode cX10_isRow 14 = .ok (.ireturn, 1) := by decide +kernel
theorem dX10_isImage_0 : decode cX10_isImage 0 = .ok (.iload_n 0, 1) := by decide +kernel
theorem dX10_isImage_1 : decode cX10_isImage 1 = .ok (.ifCond .lt 12, 3) := by decide +kernel
theorem dX10_isImage_4 : decode cX10_isImage 4 = .ok (.iload_n 0, 1) := by decide +kernel
theorem dX10_isImage_5 : decode cX10_isImage 5 = .ok (.iconst 2, 1) := by decide +kernel
theorem dX10_isImage_6 : decode cX10_isImage 6 = .ok (.if_icmp .ge 7, 3) := by decide +kernel
