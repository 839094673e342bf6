theorem dX11_bestBy_56 : decode cX11_bestBy 56 = .ok (.iload 5, 2) := by decide +kernel
theorem dX11_bestBy_58 : decode cX11_bestBy 58 = .ok (.istore_n 2, 1) := by decide +kernel
theorem dX11_bestBy_59 : decode cX11_bestBy 59 = .ok (.lload 6, 2) := by decide +kernel
theorem dX11_bestBy_61 : decode cX11_bestBy 61 = .ok (.lstore_n 3, 1) := by decide +kernel
theorem dX11_bestBy_62 : decode cX11_bestBy 62 = .ok (.iinc 5 1, 3) := by decide +kernel
theorem dX11_bestBy_65 : decode cX11_bestBy 65 = .ok (.goto (-40), 3) := by decide +kernel
theorem dX11_bestBy_68 : decode cX11_bestBy 68 = .ok (.iload_n 2, 1) := by decide +kernel
theorem dX11_bestBy_69 : decode cX11_bestBy 69 = .ok (.ireturn, 1) := by decide +kernel
theorem dX11_laysAll_0 : decode cX11_laysAll 0 = .ok (.aload_n 0, 1) := by decide +kernel
theorem dX11_laysAll_1 : decode cX11_laysAll 1 = .ok (.iload_n 1, 1) := by decide +kernel
theorem dX11_laysAll_2 : decode cX11_laysAll 2 = .ok (.invokevirtual 247, 3) := by decide +kernel
theorem dX11_laysAll_5 : decode cX11_laysAll 5 = .ok (.ifCond .ne 5, 3) := by decide +kernel
theorem dX11_laysAll_8 : decode cX11_laysAll 8 = .ok (.iconst 0, 1) := by decide +kernel
theorem dX11_laysAll_9 : decode cX11_laysAll 9 = .ok (.ireturn, 1) := by decide +kernel
theorem dX11_laysAll_10 : decode cX11_laysAll 10 = .ok (.aload_n 0, 1) := by decide +kernel
theorem dX11_laysAll_11 : decode cX11_laysAll 11 = .ok (.iload_n 1, 1) := by decide +kernel
theorem dX11_laysAll_12 : decode cX11_laysAll 12 = .ok (.iconst (-1), 1) := by decide +kernel
theorem dX11_laysAll_13 : decode cX11_laysAll 13 = .ok (.invokevirtual 252, 3) := by decide +kernel
theorem dX11_laysAll_16 : decode cX11_laysAll 16 = .ok (.aload_n 0, 1) := by decide +kernel
theorem dX11_laysAll_17 : decode cX11_laysAll 17 = .ok (.invokevirtual 266, 3) := by decide +kernel
theorem dX11_laysAll_20 : decode cX11_laysAll 20 = .ok (.iconst 1, 1) := by decide +kernel
theorem dX11_laysAll_21 : decode cX11_laysAll 21 = .ok (.ireturn, 1) := by decide +kernel
theorem dX11_chance_0 : decode cX11_chance 0 = .ok (.aload_n 0, 1) := by decide +kernel
theorem dX11_chance_1 : decode cX11_chance 1 = .ok (.iconst 0, 1) := by decide +kernel
theorem dX11_chance_2 : decode cX11_chance 2 = .ok (.putfield 1, 3) := by decide +kernel
theorem dX11_chance_5 : decode cX11_chance 5 = .ok (.iload_n 1, 1) := by decide +kernel
theorem dX11_chance_6 : decode cX11_chance 6 = .ok (.i2l, 1) := by decide +kernel
theorem dX11_chance_7 : decode cX11_chance 7 = .ok (.lconst 0, 1) := by decide +kernel
theorem dX11_chance_8 : decode cX11_chance 8 = .ok (.ldc2_w 177, 3) := by decide +kernel
theorem dX11_chance_11 : decode cX11_chance 11 = .ok (.invokestatic 125, 3) := by decide +kernel
theorem dX11_chance_14 : decode cX11_chance 14 = .ok (.ifCond .eq 21, 3) := by decide +kernel
theorem dX11_chance_17 : decode cX11_chance 17 = .ok (.aload_n 0, 1) := by decide +kernel
theorem dX11_chance_18 : decode cX11_chance 18 = .ok (.iload_n 2, 1) := by decide +kernel
theorem dX11_chance_19 : decode cX11_chance 19 = .ok (.invokevirtual 269, 3) := by decide +kernel
theorem dX11_chance_22 : decode cX11_chance 22 = .ok (.ifCond .eq 13, 3) := by decide +kernel
theorem dX11_chance_25 : decode cX11_chance 25 = .ok (.aload_n 0, 1) := by decide +kernel
theorem dX11_chance_26 : decode cX11_chance 26 = .ok (.iload_n 1, 1) := by decide +kernel
theorem dX11_chance_27 : decode cX11_chance 27 = .ok (.iconst (-1), 1) := by decide +kernel
theorem dX11_chance_28 : decode cX11_chance 28 = .ok (.iconst (-1), 1) := by decide +kernel
theorem dX11_chance_29 : decode cX11_chance 29 = .ok (.invokevirtual 262, 3) := by decide +kernel
theorem dX11_chance_32 : decode cX11_chance 32 = .ok (.goto 6, 3) := by decide +kernel
theorem dX11_chance_35 : decode cX11_chance 35 = .ok (.ldc2_w 250, 3) := by decide +kernel
theorem dX11_chance_38 : decode cX11_chance 38 = .ok (.lreturn, 1) := by decide +kernel
theorem dX11_best_0 : decode cX11_best 0 = .ok (.aload_n 0, 1) := by decide +kernel
theorem dX11_best_1 : decode cX11_best 1 = .ok (.iconst 0, 1) := by decide +kernel
theorem dX11_best_2 : decode cX11_best 2 = .ok (.putfield 1, 3) := by decide +kernel
theorem dX11_best_5 : decode cX11_best 5 = .ok (.iload_n 2, 1) := by decide +kernel
theorem dX11_best_6 : decode cX11_best 6 = .ok (.i2l, 1) := by decide +kernel
theorem dX11_best_7 : decode cX11_best 7 = .ok (.lconst 0, 1) := by decide +kernel
theorem dX11_best_8 : decode cX11_best 8 = .ok (.lconst 1, 1) := by decide +kernel
theorem dX11_best_9 : decode cX11_best 9 = .ok (.invokestatic 125, 3) := by decide +kernel
theorem dX11_best_12 : decode cX11_best 12 = .ok (.ifCond .ne 7, 3) := by decide +kernel
theorem dX11_best_15 : decode cX11_best 15 = .ok (.ldc2_w 255, 3) := by decide +kernel
theorem dX11_best_18 : decode cX11_best 18 = .ok (.lreturn, 1) := by decide +kernel
theorem dX11_best_19 : decode cX11_best 19 = .ok (.aload_n 0, 1) := by decide +kernel
theorem dX11_best_20 : decode cX11_best 20 = .ok (.iload_n 1, 1) := by decide +kernel
theorem dX11_best_21 : decode cX11_best 21 = .ok (.invokevirtual 269, 3) := by decide +kernel
theorem dX11_best_24 : decode cX11_best 24 = .ok (.ifCond .ne 7, 3) := by decide +kernel
theorem dX11_best_27 : decode cX11_best 27 = .ok (.ldc2_w 250, 3) := by decide +kernel
theorem dX11_best_30 : decode cX11_best 30 = .ok (.lreturn, 1) := by decide +kernel
theorem dX11_best_31 : decode cX11_best 31 = .ok (.aload_n 0, 1) := by decide +kernel
theorem dX11_best_32 : decode cX11_best 32 = .ok (.iconst (-1), 1) := by decide +kernel
theorem dX11_best_33 : decode cX11_best 33 = .ok (.invokevirtual 272, 3) := by decide +kernel
theorem dX11_best_36 : decode cX11_best 36 = .ok (.istore_n 3, 1) := by decide +kernel
theorem dX11_best_37 : decode cX11_best 37 = .ok (.iload_n 2, 1) := by decide +kernel
theorem dX11_best_38 : decode cX11_best 38 = .ok (.ifCond .ne 8, 3) := by decide +kernel
theorem dX11_best_41 : decode cX11_best 41 = .ok (.iload_n 3, 1) := by decide +kernel
theorem dX11_best_42 : decode cX11_best 42 = .ok (.i2l, 1) := by decide +kernel
theorem dX11_best_43 : decode cX11_best 43 = .ok (.goto 10, 3) := by decide +kernel
theorem dX11_best_46 : decode cX11_best 46 = .ok (.aload_n 0, 1) := by decide +kernel
theorem dX11_best_47 : decode cX11_best 47 = .ok (.iload_n 3, 1) := by decide +kernel
theorem dX11_best_48 : decode cX11_best 48 = .ok (.iconst (-1), 1) := by decide +kernel
theorem dX11_best_49 : decode cX11_best 49 = .ok (.iconst (-1), 1) := by decide +kernel
theorem dX11_best_50 : decode cX11_best 50 = .ok (.invokevirtual 262, 3) := by decide +kernel
theorem dX11_best_53 : decode cX11_best 53 = .ok (.lreturn, 1) := by decide +kernel
theorem dX11_waysByTwo_0 : decode cX11_waysByTwo 0 = .ok (.lconst 0, 1) := by decide +kernel
theorem dX11_waysByTwo_1 : decode cX11_waysByTwo 1 = .ok (.lstore_n 3, 1) := by decide +kernel
theorem dX11_waysByTwo_2 : decode cX11_waysByTwo 2 = .ok (.iconst 0, 1) := by decide +kernel
theorem dX11_waysByTwo_3 : decode cX11_waysByTwo 3 = .ok (.istore 5, 2) := by decide +kernel
theorem dX11_waysByTwo_5 : decode cX11_waysByTwo 5 = .ok (.iload 5, 2) := by decide +kernel
theorem dX11_waysByTwo_7 : decode cX11_waysByTwo 7 = .ok (.aload_n 0, 1) := by decide +kernel
theorem dX11_waysByTwo_8 : decode cX11_waysByTwo 8 = .ok (.invokevirtual 240, 3) := by decide +kernel
theorem dX11_waysByTwo_11 : decode cX11_waysByTwo 11 = .ok (.if_icmp .ge 62, 3) := by decide +kernel
theorem dX11_waysByTwo_14 : decode cX11_waysByTwo 14 = .ok (.aload_n 0, 1) := by decide +kernel
theorem dX11_waysByTwo_15 : decode cX11_waysByTwo 15 = .ok (.getfield 13, 3) := by decide +kernel
theorem dX11_waysByTwo_18 : decode cX11_waysByTwo 18 = .ok (.iconst 2, 1) := by decide +kernel
theorem dX11_waysByTwo_19 : decode cX11_waysByTwo 19 = .ok (.iaload, 1) := by decide +kernel
theorem dX11_waysByTwo_20 : decode cX11_waysByTwo 20 = .ok (.iload 5, 2) := by decide +kernel
theorem dX11_waysByTwo_22 : decode cX11_waysByTwo 22 = .ok (.iadd, 1) := by decide +kernel
theorem dX11_waysByTwo_23 : decode cX11_waysByTwo 23 = .ok (.istore 6, 2) := by decide +kernel
theorem dX11_waysByTwo_25 : decode cX11_waysByTwo 25 = .ok (.iload_n 1, 1) := by decide +kernel
theorem dX11_waysByTwo_26 : decode cX11_waysByTwo 26 = .ok (.iload 6, 2) := by decide +kernel
theorem dX11_waysByTwo_28 : decode cX11_waysByTwo 28 = .ok (.invokestatic 162, 3) := by decide +kernel
theorem dX11_waysByTwo_31 : decode cX11_waysByTwo 31 = .ok (.aload_n 0, 1) := by decide +kernel
theorem dX11_waysByTwo_32 : decode cX11_waysByTwo 32 = .ok (.getfield 37, 3) := by decide +kernel
theorem dX11_waysByTwo_35 : decode cX11_waysByTwo 35 = .ok (.iload 5, 2) := by decide +kernel
theorem dX11_waysByTwo_37 : decode cX11_waysByTwo 37 = .ok (.iaload, 1) := by decide +kernel
theorem dX11_waysByTwo_38 : decode cX11_waysByTwo 38 = .ok (.if_icmp .lt 19, 3) := by decide +kernel
theorem dX11_waysByTwo_41 : decode cX11_waysByTwo 41 = .ok (.iload_n 2, 1) := by decide +kernel
theorem dX11_waysByTwo_42 : decode cX11_waysByTwo 42 = .ok (.iload 6, 2) := by decide +kernel
theorem dX11_waysByTwo_44 : decode cX11_waysByTwo 44 = .ok (.invokestatic 162, 3) := by decide +kernel
theorem dX11_waysByTwo_47 : decode cX11_waysByTwo 47 = .ok (.aload_n 0, 1) := by decide +kernel
theorem dX11_waysByTwo_48 : decode cX11_waysByTwo 48 = .ok (.getfield 37, 3) := by decide +kernel
theorem dX11_waysByTwo_51 : decode cX11_waysByTwo 51 = .ok (.iload 5, 2) := by decide +kernel
theorem dX11_waysByTwo_53 : decode cX11_waysByTwo 53 = .ok (.iaload, 1) := by decide +kernel
theorem dX11_waysByTwo_54 : decode cX11_waysByTwo 54 = .ok (.if_icmp .ge 13, 3) := by decide +kernel
theorem dX11_waysByTwo_57 : decode cX11_waysByTwo 57 = .ok (.lload_n 3, 1) := by decide +kernel
theorem dX11_waysByTwo_58 : decode cX11_waysByTwo 58 = .ok (.aload_n 0, 1) := by decide +kernel
theorem dX11_waysByTwo_59 : decode cX11_waysByTwo 59 = .ok (.getfield 33, 3) := by decide +kernel
theorem dX11_waysByTwo_62 : decode cX11_waysByTwo 62 = .ok (.iload 5, 2) := by decide +kernel
theorem dX11_waysByTwo_64 : decode cX11_waysByTwo 64 = .ok (.laload, 1) := by decide +kernel
theorem dX11_waysByTwo_65 : decode cX11_waysByTwo 65 = .ok (.ladd, 1) := by decide +kernel
theorem dX11_waysByTwo_66 : decode cX11_waysByTwo 66 = .ok (.lstore_n 3, 1) := by decide +kernel
theorem dX11_waysByTwo_67 : decode cX11_waysByTwo 67 = .ok (.iinc 5 1, 3) := by decide +kernel
theorem dX11_waysByTwo_70 : decode cX11_waysByTwo 70 = .ok (.goto (-65), 3) := by decide +kernel
theorem dX11_waysByTwo_73 : decode cX11_waysByTwo 73 = .ok (.lload_n 3, 1) := by decide +kernel
theorem dX11_waysByTwo_74 : decode cX11_waysByTwo 74 = .ok (.lreturn, 1) := by decide +kernel
theorem dX11_laysTwo_0 : decode cX11_laysTwo 0 = .ok (.ldc2_w 257, 3) := by decide +kernel
theorem dX11_laysTwo_3 : decode cX11_laysTwo 3 = .ok (.lstore_n 1, 1) := by decide +kernel
theorem dX11_laysTwo_4 : decode cX11_laysTwo 4 = .ok (.aload_n 0, 1) := by decide +kernel
theorem dX11_laysTwo_5 : decode cX11_laysTwo 5 = .ok (.getfield 13, 3) := by decide +kernel
theorem dX11_laysTwo_8 : decode cX11_laysTwo 8 = .ok (.iconst 2, 1) := by decide +kernel
theorem dX11_laysTwo_9 : decode cX11_laysTwo 9 = .ok (.iaload, 1) := by decide +kernel
theorem dX11_laysTwo_10 : decode cX11_laysTwo 10 = .ok (.istore_n 3, 1) := by decide +kernel
theorem dX11_laysTwo_11 : decode cX11_laysTwo 11 = .ok (.iload_n 3, 1) := by decide +kernel
theorem dX11_laysTwo_12 : decode cX11_laysTwo 12 = .ok (.aload_n 0, 1) := by decide +kernel
theorem dX11_laysTwo_13 : decode cX11_laysTwo 13 = .ok (.getfield 13, 3) := by decide +kernel
theorem dX11_laysTwo_16 : decode cX11_laysTwo 16 = .ok (.iconst 3, 1) := by decide +kernel
theorem dX11_laysTwo_17 : decode cX11_laysTwo 17 = .ok (.iaload, 1) := by decide +kernel
theorem dX11_laysTwo_18 : decode cX11_laysTwo 18 = .ok (.if_icmp .ge 64, 3) := by decide +kernel
theorem dX11_laysTwo_21 : decode cX11_laysTwo 21 = .ok (.iload_n 3, 1) := by decide +kernel
theorem dX11_laysTwo_22 : decode cX11_laysTwo 22 = .ok (.iconst 1, 1) := by decide +kernel
theorem dX11_laysTwo_23 : decode cX11_laysTwo 23 = .ok (.iadd, 1) := by decide +kernel
theorem dX11_laysTwo_24 : decode cX11_laysTwo 24 = .ok (.istore 4, 2) := by decide +kernel
theorem dX11_laysTwo_26 : decode cX11_laysTwo 26 = .ok (.iload 4, 2) := by decide +kernel
theorem dX11_laysTwo_28 : decode cX11_laysTwo 28 = .ok (.aload_n 0, 1) := by decide +kernel
theorem dX11_laysTwo_29 : decode cX11_laysTwo 29 = .ok (.getfield 13, 3) := by decide +kernel
theorem dX11_laysTwo_32 : decode cX11_laysTwo 32 = .ok (.iconst 3, 1) := by decide +kernel
theorem dX11_laysTwo_33 : decode cX11_laysTwo 33 = .ok (.iaload, 1) := by decide +kernel
theorem dX11_laysTwo_34 : decode cX11_laysTwo 34 = .ok (.if_icmp .gt 42, 3) := by decide +kernel
theorem dX11_laysTwo_37 : decode cX11_laysTwo 37 = .ok (.aload_n 0, 1) := by decide +kernel
theorem dX11_laysTwo_38 : decode cX11_laysTwo 38 = .ok (.iload_n 3, 1) := by decide +kernel
theorem dX11_laysTwo_39 : decode cX11_laysTwo 39 = .ok (.iload 4, 2) := by decide +kernel
theorem dX11_laysTwo_41 : decode cX11_laysTwo 41 = .ok (.invokevirtual 275, 3) := by decide +kernel
theorem dX11_laysTwo_44 : decode cX11_laysTwo 44 = .ok (.lstore 5, 2) := by decide +kernel
theorem dX11_laysTwo_46 : decode cX11_laysTwo 46 = .ok (.lload 5, 2) := by decide +kernel
theorem dX11_laysTwo_48 : decode cX11_laysTwo 48 = .ok (.lload_n 1, 1) := by decide +kernel
theorem dX11_laysTwo_49 : decode cX11_laysTwo 49 = .ok (.lcmp, 1) := by decide +kernel
theorem dX11_laysTwo_50 : decode cX11_laysTwo 50 = .ok (.ifCond .gt 6, 3) := by decide +kernel
theorem dX11_laysTwo_53 : decode cX11_laysTwo 53 = .ok (.goto 17, 3) := by decide +kernel
theorem dX11_laysTwo_56 : decode cX11_laysTwo 56 = .ok (.lload 5, 2) := by decide +kernel
theorem dX11_laysTwo_58 : decode cX11_laysTwo 58 = .ok (.lstore_n 1, 1) := by decide +kernel
theorem dX11_laysTwo_59 : decode cX11_laysTwo 59 = .ok (.aload_n 0, 1) := by decide +kernel
theorem dX11_laysTwo_60 : decode cX11_laysTwo 60 = .ok (.iload_n 3, 1) := by decide +kernel
theorem dX11_laysTwo_61 : decode cX11_laysTwo 61 = .ok (.putfield 278, 3) := by decide +kernel
theorem dX11_laysTwo_64 : decode cX11_laysTwo 64 = .ok (.aload_n 0, 1) := by decide +kernel
theorem dX11_laysTwo_65 : decode cX11_laysTwo 65 = .ok (.iload 4, 2) := by decide +kernel
theorem dX11_laysTwo_67 : decode cX11_laysTwo 67 = .ok (.putfield 281, 3) := by decide +kernel
theorem dX11_laysTwo_70 : decode cX11_laysTwo 70 = .ok (.iinc 4 1, 3) := by decide +kernel
theorem dX11_laysTwo_73 : decode cX11_laysTwo 73 = .ok (.goto (-47), 3) := by decide +kernel
theorem dX11_laysTwo_76 : decode cX11_laysTwo 76 = .ok (.iinc 3 1, 3) := by decide +kernel
theorem dX11_laysTwo_79 : decode cX11_laysTwo 79 = .ok (.goto (-68), 3) := by decide +kernel
theorem dX11_laysTwo_82 : decode cX11_laysTwo 82 = .ok (.lload_n 1, 1) := by decide +kernel
theorem dX11_laysTwo_83 : decode cX11_laysTwo 83 = .ok (.lreturn, 1) := by decide +kernel
theorem dX11_bestTwo_0 : decode cX11_bestTwo 0 = .ok (.aload_n 0, 1) := by decide +kernel
theorem dX11_bestTwo_1 : decode cX11_bestTwo 1 = .ok (.iconst 0, 1) := by decide +kernel
theorem dX11_bestTwo_2 : decode cX11_bestTwo 2 = .ok (.putfield 1, 3) := by decide +kernel
theorem dX11_bestTwo_5 : decode cX11_bestTwo 5 = .ok (.iload_n 2, 1) := by decide +kernel
theorem dX11_bestTwo_6 : decode cX11_bestTwo 6 = .ok (.i2l, 1) := by decide +kernel
theorem dX11_bestTwo_7 : decode cX11_bestTwo 7 = .ok (.lconst 0, 1) := by decide +kernel
theorem dX11_bestTwo_8 : decode cX11_bestTwo 8 = .ok (.ldc2_w 196, 3) := by decide +kernel
theorem dX11_bestTwo_11 : decode cX11_bestTwo 11 = .ok (.invokestatic 125, 3) := by decide +kernel
theorem dX11_bestTwo_14 : decode cX11_bestTwo 14 = .ok (.ifCond .ne 7, 3) := by decide +kernel
theorem dX11_bestTwo_17 : decode cX11_bestTwo 17 = .ok (.ldc2_w 255, 3) := by decide +kernel
theorem dX11_bestTwo_20 : decode cX11_bestTwo 20 = .ok (.lreturn, 1) := by decide +kernel
theorem dX11_bestTwo_21 : decode cX11_bestTwo 21 = .ok (.aload_n 0, 1) := by decide +kernel
theorem dX11_bestTwo_22 : decode cX11_bestTwo 22 = .ok (.iload_n 1, 1) := by decide +kernel
theorem dX11_bestTwo_23 : decode cX11_bestTwo 23 = .ok (.invokevirtual 269, 3) := by decide +kernel
theorem dX11_bestTwo_26 : decode cX11_bestTwo 26 = .ok (.ifCond .ne 7, 3) := by decide +kernel
theorem dX11_bestTwo_29 : decode cX11_bestTwo 29 = .ok (.ldc2_w 250, 3) := by decide +kernel
theorem dX11_bestTwo_32 : decode cX11_bestTwo 32 = .ok (.lreturn, 1) := by decide +kernel
theorem dX11_bestTwo_33 : decode cX11_bestTwo 33 = .ok (.aload_n 0, 1) := by decide +kernel
theorem dX11_bestTwo_34 : decode cX11_bestTwo 34 = .ok (.invokevirtual 240, 3) := by decide +kernel
theorem dX11_bestTwo_37 : decode cX11_bestTwo 37 = .ok (.iconst 1, 1) := by decide +kernel
theorem dX11_bestTwo_38 : decode cX11_bestTwo 38 = .ok (.if_icmp .ne 7, 3) := by decide +kernel
theorem dX11_bestTwo_41 : decode cX11_bestTwo 41 = .ok (.ldc2_w 284, 3) := by decide +kernel
theorem dX11_bestTwo_44 : decode cX11_bestTwo 44 = .ok (.lreturn, 1) := by decide +kernel
theorem dX11_bestTwo_45 : decode cX11_bestTwo 45 = .ok (.aload_n 0, 1) := by decide +kernel
theorem dX11_bestTwo_46 : decode cX11_bestTwo 46 = .ok (.invokevirtual 286, 3) := by decide +kernel
theorem dX11_bestTwo_49 : decode cX11_bestTwo 49 = .ok (.lstore_n 3, 1) := by decide +kernel
theorem dX11_bestTwo_50 : decode cX11_bestTwo 50 = .ok (.iload_n 2, 1) := by decide +kernel
theorem dX11_bestTwo_51 : decode cX11_bestTwo 51 = .ok (.ifCond .ne 11, 3) := by decide +kernel
theorem dX11_bestTwo_54 : decode cX11_bestTwo 54 = .ok (.aload_n 0, 1) := by decide +kernel
theorem dX11_bestTwo_55 : decode cX11_bestTwo 55 = .ok (.getfield 278, 3) := by decide +kernel
theorem dX11_bestTwo_58 : decode cX11_bestTwo 58 = .ok (.i2l, 1) := by decide +kernel
theorem dX11_bestTwo_59 : decode cX11_bestTwo 59 = .ok (.goto 17, 3) := by decide +kernel
theorem dX11_bestTwo_62 : decode cX11_bestTwo 62 = .ok (.iload_n 2, 1) := by decide +kernel
theorem dX11_bestTwo_63 : decode cX11_bestTwo 63 = .ok (.iconst 1, 1) := by decide +kernel
theorem dX11_bestTwo_64 : decode cX11_bestTwo 64 = .ok (.if_icmp .ne 11, 3) := by decide +kernel
theorem dX11_bestTwo_67 : decode cX11_bestTwo 67 = .ok (.aload_n 0, 1) := by decide +kernel
theorem dX11_bestTwo_68 : decode cX11_bestTwo 68 = .ok (.getfield 281, 3) := by decide +kernel
theorem dX11_bestTwo_71 : decode cX11_bestTwo 71 = .ok (.i2l, 1) := by decide +kernel
theorem dX11_bestTwo_72 : decode cX11_bestTwo 72 = .ok (.goto 4, 3) := by decide +kernel
theorem dX11_bestTwo_75 : decode cX11_bestTwo 75 = .ok (.lload_n 3, 1) := by decide +kernel
theorem dX11_bestTwo_76 : decode cX11_bestTwo 76 = .ok (.lreturn, 1) := by decide +kernel
theorem dX11_laysBehind_0 : decode cX11_laysBehind 0 = .ok (.ldc2_w 257, 3) := by decide +kernel
theorem dX11_laysBehind_3 : decode cX11_laysBehind 3 = .ok (.lstore_n 1, 1) := by decide +kernel
theorem dX11_laysBehind_4 : decode cX11_laysBehind 4 = .ok (.aload_n 0, 1) := by decide +kernel
theorem dX11_laysBehind_5 : decode cX11_laysBehind 5 = .ok (.getfield 13, 3) := by decide +kernel
theorem dX11_laysBehind_8 : decode cX11_laysBehind 8 = .ok (.iconst 2, 1) := by decide +kernel
theorem dX11_laysBehind_9 : decode cX11_laysBehind 9 = .ok (.iaload, 1) := by decide +kernel
theorem dX11_laysBehind_10 : decode cX11_laysBehind 10 = .ok (.istore_n 3, 1) := by decide +kernel
theorem dX11_laysBehind_11 : decode cX11_laysBehind 11 = .ok (.iload_n 3, 1) := by decide +kernel
theorem dX11_laysBehind_12 : decode cX11_laysBehind 12 = .ok (.aload_n 0, 1) := by decide +kernel
theorem dX11_laysBehind_13 : decode cX11_laysBehind 13 = .ok (.getfield 13, 3) := by decide +kernel
theorem dX11_laysBehind_16 : decode cX11_laysBehind 16 = .ok (.iconst 3, 1) := by decide +kernel
theorem dX11_laysBehind_17 : decode cX11_laysBehind 17 = .ok (.iaload, 1) := by decide +kernel
theorem dX11_laysBehind_18 : decode cX11_laysBehind 18 = .ok (.if_icmp .gt 50, 3) := by decide +kernel
theorem dX11_laysBehind_21 : decode cX11_laysBehind 21 = .ok (.aload_n 0, 1) := by decide +kernel
theorem dX11_laysBehind_22 : decode cX11_laysBehind 22 = .ok (.iload_n 3, 1) := by decide +kernel
theorem dX11_laysBehind_23 : decode cX11_laysBehind 23 = .ok (.invokevirtual 272, 3) := by decide +kernel
theorem dX11_laysBehind_26 : decode cX11_laysBehind 26 = .ok (.istore 4, 2) := by decide +kernel
theorem dX11_laysBehind_28 : decode cX11_laysBehind 28 = .ok (.aload_n 0, 1) := by decide +kernel
theorem dX11_laysBehind_29 : decode cX11_laysBehind 29 = .ok (.iload_n 3, 1) := by decide +kernel
theorem dX11_laysBehind_30 : decode cX11_laysBehind 30 = .ok (.iconst (-1), 1) := by decide +kernel
theorem dX11_laysBehind_31 : decode cX11_laysBehind 31 = .ok (.iload 4, 2) := by decide +kernel
theorem dX11_laysBehind_33 : decode cX11_laysBehind 33 = .ok (.invokevirtual 262, 3) := by decide +kernel
theorem dX11_laysBehind_36 : decode cX11_laysBehind 36 = .ok (.lstore 5, 2) := by decide +kernel
theorem dX11_laysBehind_38 : decode cX11_laysBehind 38 = .ok (.lload 5, 2) := by decide +kernel
theorem dX11_laysBehind_40 : decode cX11_laysBehind 40 = .ok (.lload_n 1, 1) := by decide +kernel
theorem dX11_laysBehind_41 : decode cX11_laysBehind 41 = .ok (.lcmp, 1) := by decide +kernel
theorem dX11_laysBehind_42 : decode cX11_laysBehind 42 = .ok (.ifCond .gt 6, 3) := by decide +kernel
theorem dX11_laysBehind_45 : decode cX11_laysBehind 45 = .ok (.goto 17, 3) := by decide +kernel
theorem dX11_laysBehind_48 : decode cX11_laysBehind 48 = .ok (.lload 5, 2) := by decide +kernel
theorem dX11_laysBehind_50 : decode cX11_laysBehind 50 = .ok (.lstore_n 1, 1) := by decide +kernel
theorem dX11_laysBehind_51 : decode cX11_laysBehind 51 = .ok (.aload_n 0, 1) := by decide +kernel
theorem dX11_laysBehind_52 : decode cX11_laysBehind 52 = .ok (.iload_n 3, 1) := by decide +kernel
theorem dX11_laysBehind_53 : decode cX11_laysBehind 53 = .ok (.putfield 290, 3) := by decide +kernel
theorem dX11_laysBehind_56 : decode cX11_laysBehind 56 = .ok (.aload_n 0, 1) := by decide +kernel
theorem dX11_laysBehind_57 : decode cX11_laysBehind 57 = .ok (.iload 4, 2) := by decide +kernel
theorem dX11_laysBehind_59 : decode cX11_laysBehind 59 = .ok (.putfield 293, 3) := by decide +kernel
theorem dX11_laysBehind_62 : decode cX11_laysBehind 62 = .ok (.iinc 3 1, 3) := by decide +kernel
theorem dX11_laysBehind_65 : decode cX11_laysBehind 65 = .ok (.goto (-54), 3) := by decide +kernel
theorem dX11_laysBehind_68 : decode cX11_laysBehind 68 = .ok (.lload_n 1, 1) := by decide +kernel
theorem dX11_laysBehind_69 : decode cX11_laysBehind 69 = .ok (.lreturn, 1) := by decide +kernel
theorem dX11_behind_0 : decode cX11_behind 0 = .ok (.aload_n 0, 1) := by decide +kernel
theorem dX11_behind_1 : decode cX11_behind 1 = .ok (.iconst 0, 1) := by decide +kernel
theorem dX11_behind_2 : decode cX11_behind 2 = .ok (.putfield 1, 3) := by decide +kernel
theorem dX11_behind_5 : decode cX11_behind 5 = .ok (.iload_n 2, 1) := by decide +kernel
theorem dX11_behind_6 : decode cX11_behind 6 = .ok (.i2l, 1) := by decide +kernel
theorem dX11_behind_7 : decode cX11_behind 7 = .ok (.lconst 0, 1) := by decide +kernel
theorem dX11_behind_8 : decode cX11_behind 8 = .ok (.ldc2_w 194, 3) := by decide +kernel
theorem dX11_behind_11 : decode cX11_behind 11 = .ok (.invokestatic 125, 3) := by decide +kernel
theorem dX11_behind_14 : decode cX11_behind 14 = .ok (.ifCond .ne 7, 3) := by decide +kernel
theorem dX11_behind_17 : decode cX11_behind 17 = .ok (.ldc2_w 255, 3) := by decide +kernel
theorem dX11_behind_20 : decode cX11_behind 20 = .ok (.lreturn, 1) := by decide +kernel
theorem dX11_behind_21 : decode cX11_behind 21 = .ok (.aload_n 0, 1) := by decide +kernel
theorem dX11_behind_22 : decode cX11_behind 22 = .ok (.iload_n 1, 1) := by decide +kernel
theorem dX11_behind_23 : decode cX11_behind 23 = .ok (.invokevirtual 269, 3) := by decide +kernel
theorem dX11_behind_26 : decode cX11_behind 26 = .ok (.ifCond .ne 7, 3) := by decide +kernel
theorem dX11_behind_29 : decode cX11_behind 29 = .ok (.ldc2_w 250, 3) := by decide +kernel
theorem dX11_behind_32 : decode cX11_behind 32 = .ok (.lreturn, 1) := by decide +kernel
theorem dX11_behind_33 : decode cX11_behind 33 = .ok (.aload_n 0, 1) := by decide +kernel
theorem dX11_behind_34 : decode cX11_behind 34 = .ok (.invokevirtual 296, 3) := by decide +kernel
theorem dX11_behind_37 : decode cX11_behind 37 = .ok (.lstore_n 3, 1) := by decide +kernel
theorem dX11_behind_38 : decode cX11_behind 38 = .ok (.iload_n 2, 1) := by decide +kernel
theorem dX11_behind_39 : decode cX11_behind 39 = .ok (.ifCond .ne 11, 3) := by decide +kernel
theorem dX11_behind_42 : decode cX11_behind 42 = .ok (.aload_n 0, 1) := by decide +kernel
theorem dX11_behind_43 : decode cX11_behind 43 = .ok (.getfield 290, 3) := by decide +kernel
theorem dX11_behind_46 : decode cX11_behind 46 = .ok (.i2l, 1) := by decide +kernel
theorem dX11_behind_47 : decode cX11_behind 47 = .ok (.goto 38, 3) := by decide +kernel
theorem dX11_behind_50 : decode cX11_behind 50 = .ok (.iload_n 2, 1) := by decide +kernel
theorem dX11_behind_51 : decode cX11_behind 51 = .ok (.iconst 1, 1) := by decide +kernel
theorem dX11_behind_52 : decode cX11_behind 52 = .ok (.if_icmp .ne 7, 3) := by decide +kernel
theorem dX11_behind_55 : decode cX11_behind 55 = .ok (.lload_n 3, 1) := by decide +kernel
theorem dX11_behind_56 : decode cX11_behind 56 = .ok (.goto 29, 3) := by decide +kernel
theorem dX11_behind_59 : decode cX11_behind 59 = .ok (.iload_n 2, 1) := by decide +kernel
theorem dX11_behind_60 : decode cX11_behind 60 = .ok (.iconst 2, 1) := by decide +kernel
theorem dX11_behind_61 : decode cX11_behind 61 = .ok (.if_icmp .ne 11, 3) := by decide +kernel
theorem dX11_behind_64 : decode cX11_behind 64 = .ok (.aload_n 0, 1) := by decide +kernel
theorem dX11_behind_65 : decode cX11_behind 65 = .ok (.getfield 293, 3) := by decide +kernel
theorem dX11_behind_68 : decode cX11_behind 68 = .ok (.i2l, 1) := by decide +kernel
theorem dX11_behind_69 : decode cX11_behind 69 = .ok (.goto 16, 3) := by decide +kernel
theorem dX11_behind_72 : decode cX11_behind 72 = .ok (.aload_n 0, 1) := by decide +kernel
theorem dX11_behind_73 : decode cX11_behind 73 = .ok (.aload_n 0, 1) := by decide +kernel
theorem dX11_behind_74 : decode cX11_behind 74 = .ok (.getfield 293, 3) := by decide +kernel
theorem dX11_behind_77 : decode cX11_behind 77 = .ok (.aload_n 0, 1) := by decide +kernel
theorem dX11_behind_78 : decode cX11_behind 78 = .ok (.getfield 290, 3) := by decide +kernel
theorem dX11_behind_81 : decode cX11_behind 81 = .ok (.iconst (-1), 1) := by decide +kernel
theorem dX11_behind_82 : decode cX11_behind 82 = .ok (.invokevirtual 262, 3) := by decide +kernel
theorem dX11_behind_85 : decode cX11_behind 85 = .ok (.lreturn, 1) := by decide +kernel
theorem dX11_waits_0 : decode cX11_waits 0 = .ok (.aload_n 0, 1) := by decide +kernel
theorem dX11_waits_1 : decode cX11_waits 1 = .ok (.iconst 0, 1) := by decide +kernel
theorem dX11_waits_2 : decode cX11_waits 2 = .ok (.putfield 1, 3) := by decide +kernel
theorem dX11_waits_5 : decode cX11_waits 5 = .ok (.iload_n 2, 1) := by decide +kernel
theorem dX11_waits_6 : decode cX11_waits 6 = .ok (.i2l, 1) := by decide +kernel
theorem dX11_waits_7 : decode cX11_waits 7 = .ok (.lconst 0, 1) := by decide +kernel
theorem dX11_waits_8 : decode cX11_waits 8 = .ok (.lconst 1, 1) := by decide +kernel
theorem dX11_waits_9 : decode cX11_waits 9 = .ok (.invokestatic 125, 3) := by decide +kernel
theorem dX11_waits_12 : decode cX11_waits 12 = .ok (.ifCond .ne 7, 3) := by decide +kernel
theorem dX11_waits_15 : decode cX11_waits 15 = .ok (.ldc2_w 255, 3) := by decide +kernel
theorem dX11_waits_18 : decode cX11_waits 18 = .ok (.lreturn, 1) := by decide +kernel
theorem dX11_waits_19 : decode cX11_waits 19 = .ok (.aload_n 0, 1) := by decide +kernel
theorem dX11_waits_20 : decode cX11_waits 20 = .ok (.iload_n 1, 1) := by decide +kernel
theorem dX11_waits_21 : decode cX11_waits 21 = .ok (.invokevirtual 269, 3) := by decide +kernel
theorem dX11_waits_24 : decode cX11_waits 24 = .ok (.ifCond .ne 7, 3) := by decide +kernel
theorem dX11_waits_27 : decode cX11_waits 27 = .ok (.ldc2_w 250, 3) := by decide +kernel
theorem dX11_waits_30 : decode cX11_waits 30 = .ok (.lreturn, 1) := by decide +kernel
theorem dX11_waits_31 : decode cX11_waits 31 = .ok (.aload_n 0, 1) := by decide +kernel
theorem dX11_waits_32 : decode cX11_waits 32 = .ok (.iconst (-1), 1) := by decide +kernel
theorem dX11_waits_33 : decode cX11_waits 33 = .ok (.invokevirtual 272, 3) := by decide +kernel
theorem dX11_waits_36 : decode cX11_waits 36 = .ok (.istore_n 3, 1) := by decide +kernel
theorem dX11_waits_37 : decode cX11_waits 37 = .ok (.aload_n 0, 1) := by decide +kernel
theorem dX11_waits_38 : decode cX11_waits 38 = .ok (.aload_n 0, 1) := by decide +kernel
theorem dX11_waits_39 : decode cX11_waits 39 = .ok (.iload_n 3, 1) := by decide +kernel
theorem dX11_waits_40 : decode cX11_waits 40 = .ok (.invokevirtual 272, 3) := by decide +kernel
theorem dX11_waits_43 : decode cX11_waits 43 = .ok (.iload_n 3, 1) := by decide +kernel
theorem dX11_waits_44 : decode cX11_waits 44 = .ok (.iconst (-1), 1) := by decide +kernel
theorem dX11_waits_45 : decode cX11_waits 45 = .ok (.invokevirtual 262, 3) := by decide +kernel
theorem dX11_waits_48 : decode cX11_waits 48 = .ok (.lstore 4, 2) := by decide +kernel
theorem dX11_waits_50 : decode cX11_waits 50 = .ok (.iload_n 2, 1) := by decide +kernel
theorem dX11_waits_51 : decode cX11_waits 51 = .ok (.iconst 1, 1) := by decide +kernel
theorem dX11_waits_52 : decode cX11_waits 52 = .ok (.if_icmp .ne 8, 3) := by decide +kernel
theorem dX11_waits_55 : decode cX11_waits 55 = .ok (.lload 4, 2) := by decide +kernel
theorem dX11_waits_57 : decode cX11_waits 57 = .ok (.goto 18, 3) := by decide +kernel
theorem dX11_waits_60 : decode cX11_waits 60 = .ok (.lload 4, 2) := by decide +kernel
theorem dX11_waits_62 : decode cX11_waits 62 = .ok (.aload_n 0, 1) := by decide +kernel
theorem dX11_waits_63 : decode cX11_waits 63 = .ok (.invokevirtual 296, 3) := by decide +kernel
theorem dX11_waits_66 : decode cX11_waits 66 = .ok (.lcmp, 1) := by decide +kernel
theorem dX11_waits_67 : decode cX11_waits 67 = .ok (.ifCond .le 7, 3) := by decide +kernel
theorem dX11_waits_70 : decode cX11_waits 70 = .ok (.lconst 1, 1) := by decide +kernel
theorem dX11_waits_71 : decode cX11_waits 71 = .ok (.goto 4, 3) := by decide +kernel
theorem dX11_waits_74 : decode cX11_waits 74 = .ok (.lconst 0, 1) := by decide +kernel
theorem dX11_waits_75 : decode cX11_waits 75 = .ok (.lreturn, 1) := by decide +kernel
theorem dX11_waysOf_0 : decode cX11_waysOf 0 = .ok (.aload_n 0, 1) := by decide +kernel
theorem dX11_waysOf_1 : decode cX11_waysOf 1 = .ok (.iconst 0, 1) := by decide +kernel
theorem dX11_waysOf_2 : decode cX11_waysOf 2 = .ok (.putfield 1, 3) := by decide +kernel
theorem dX11_waysOf_5 : decode cX11_waysOf 5 = .ok (.aload_n 0, 1) := by decide +kernel
theorem dX11_waysOf_6 : decode cX11_waysOf 6 = .ok (.iload_n 1, 1) := by decide +kernel
theorem dX11_waysOf_7 : decode cX11_waysOf 7 = .ok (.invokevirtual 183, 3) := by decide +kernel
theorem dX11_waysOf_10 : decode cX11_waysOf 10 = .ok (.ifCond .ne 7, 3) := by decide +kernel
theorem dX11_waysOf_13 : decode cX11_waysOf 13 = .ok (.ldc2_w 255, 3) := by decide +kernel
theorem dX11_waysOf_16 : decode cX11_waysOf 16 = .ok (.lreturn, 1) := by decide +kernel
theorem dX11_waysOf_17 : decode cX11_waysOf 17 = .ok (.aload_n 0, 1) := by decide +kernel
theorem dX11_waysOf_18 : decode cX11_waysOf 18 = .ok (.iload_n 2, 1) := by decide +kernel
theorem dX11_waysOf_19 : decode cX11_waysOf 19 = .ok (.invokevirtual 247, 3) := by decide +kernel
theorem dX11_waysOf_22 : decode cX11_waysOf 22 = .ok (.ifCond .ne 7, 3) := by decide +kernel
theorem dX11_waysOf_25 : decode cX11_waysOf 25 = .ok (.ldc2_w 250, 3) := by decide +kernel
theorem dX11_waysOf_28 : decode cX11_waysOf 28 = .ok (.lreturn, 1) := by decide +kernel
theorem dX11_waysOf_29 : decode cX11_waysOf 29 = .ok (.aload_n 0, 1) := by decide +kernel
theorem dX11_waysOf_30 : decode cX11_waysOf 30 = .ok (.iload_n 2, 1) := by decide +kernel
theorem dX11_waysOf_31 : decode cX11_waysOf 31 = .ok (.iconst (-1), 1) := by decide +kernel
theorem dX11_waysOf_32 : decode cX11_waysOf 32 = .ok (.invokevirtual 252, 3) := by decide +kernel
theorem dX11_waysOf_35 : decode cX11_waysOf 35 = .ok (.lconst 0, 1) := by decide +kernel
theorem dX11_waysOf_36 : decode cX11_waysOf 36 = .ok (.lstore_n 3, 1) := by decide +kernel
theorem dX11_waysOf_37 : decode cX11_waysOf 37 = .ok (.iconst 0, 1) := by decide +kernel
theorem dX11_waysOf_38 : decode cX11_waysOf 38 = .ok (.istore 5, 2) := by decide +kernel
theorem dX11_waysOf_40 : decode cX11_waysOf 40 = .ok (.iload 5, 2) := by decide +kernel
theorem dX11_waysOf_42 : decode cX11_waysOf 42 = .ok (.aload_n 0, 1) := by decide +kernel
theorem dX11_waysOf_43 : decode cX11_waysOf 43 = .ok (.invokevirtual 240, 3) := by decide +kernel
theorem dX11_waysOf_46 : decode cX11_waysOf 46 = .ok (.if_icmp .ge 40, 3) := by decide +kernel
theorem dX11_waysOf_49 : decode cX11_waysOf 49 = .ok (.lload_n 3, 1) := by decide +kernel
theorem dX11_waysOf_50 : decode cX11_waysOf 50 = .ok (.aload_n 0, 1) := by decide +kernel
theorem dX11_waysOf_51 : decode cX11_waysOf 51 = .ok (.aload_n 0, 1) := by decide +kernel
theorem dX11_waysOf_52 : decode cX11_waysOf 52 = .ok (.getfield 13, 3) := by decide +kernel
theorem dX11_waysOf_55 : decode cX11_waysOf 55 = .ok (.iconst 2, 1) := by decide +kernel
theorem dX11_waysOf_56 : decode cX11_waysOf 56 = .ok (.iaload, 1) := by decide +kernel
theorem dX11_waysOf_57 : decode cX11_waysOf 57 = .ok (.iload 5, 2) := by decide +kernel
theorem dX11_waysOf_59 : decode cX11_waysOf 59 = .ok (.iadd, 1) := by decide +kernel
theorem dX11_waysOf_60 : decode cX11_waysOf 60 = .ok (.invokevirtual 219, 3) := by decide +kernel
theorem dX11_waysOf_63 : decode cX11_waysOf 63 = .ok (.iload_n 1, 1) := by decide +kernel
theorem dX11_waysOf_64 : decode cX11_waysOf 64 = .ok (.if_icmp .ne 13, 3) := by decide +kernel
theorem dX11_waysOf_67 : decode cX11_waysOf 67 = .ok (.aload_n 0, 1) := by decide +kernel
theorem dX11_waysOf_68 : decode cX11_waysOf 68 = .ok (.getfield 33, 3) := by decide +kernel
theorem dX11_waysOf_71 : decode cX11_waysOf 71 = .ok (.iload 5, 2) := by decide +kernel
theorem dX11_waysOf_73 : decode cX11_waysOf 73 = .ok (.laload, 1) := by decide +kernel
theorem dX11_waysOf_74 : decode cX11_waysOf 74 = .ok (.goto 4, 3) := by decide +kernel
theorem dX11_waysOf_77 : decode cX11_waysOf 77 = .ok (.lconst 0, 1) := by decide +kernel
theorem dX11_waysOf_78 : decode cX11_waysOf 78 = .ok (.ladd, 1) := by decide +kernel
theorem dX11_waysOf_79 : decode cX11_waysOf 79 = .ok (.lstore_n 3, 1) := by decide +kernel
theorem dX11_waysOf_80 : decode cX11_waysOf 80 = .ok (.iinc 5 1, 3) := by decide +kernel
theorem dX11_waysOf_83 : decode cX11_waysOf 83 = .ok (.goto (-43), 3) := by decide +kernel
theorem dX11_waysOf_86 : decode cX11_waysOf 86 = .ok (.lload_n 3, 1) := by decide +kernel
theorem dX11_waysOf_87 : decode cX11_waysOf 87 = .ok (.lreturn, 1) := by decide +kernel
theorem dX11_shutIn_0 : decode cX11_shutIn 0 = .ok (.aload_n 0, 1) := by decide +kernel
theorem dX11_shutIn_1 : decode cX11_shutIn 1 = .ok (.iconst 0, 1) := by decide +kernel
theorem dX11_shutIn_2 : decode cX11_shutIn 2 = .ok (.putfield 1, 3) := by decide +kernel
theorem dX11_shutIn_5 : decode cX11_shutIn 5 = .ok (.aload_n 0, 1) := by decide +kernel
theorem dX11_shutIn_6 : decode cX11_shutIn 6 = .ok (.iload_n 1, 1) := by decide +kernel
theorem dX11_shutIn_7 : decode cX11_shutIn 7 = .ok (.invokevirtual 183, 3) := by decide +kernel
theorem dX11_shutIn_10 : decode cX11_shutIn 10 = .ok (.ifCond .ne 7, 3) := by decide +kernel
theorem dX11_shutIn_13 : decode cX11_shutIn 13 = .ok (.ldc2_w 255, 3) := by decide +kernel
theorem dX11_shutIn_16 : decode cX11_shutIn 16 = .ok (.lreturn, 1) := by decide +kernel
theorem dX11_shutIn_17 : decode cX11_shutIn 17 = .ok (.aload_n 0, 1) := by decide +kernel
theorem dX11_shutIn_18 : decode cX11_shutIn 18 = .ok (.iload_n 2, 1) := by decide +kernel
theorem dX11_shutIn_19 : decode cX11_shutIn 19 = .ok (.invokevirtual 247, 3) := by decide +kernel
theorem dX11_shutIn_22 : decode cX11_shutIn 22 = .ok (.ifCond .ne 7, 3) := by decide +kernel
theorem dX11_shutIn_25 : decode cX11_shutIn 25 = .ok (.ldc2_w 250, 3) := by decide +kernel
theorem dX11_shutIn_28 : decode cX11_shutIn 28 = .ok (.lreturn, 1) := by decide +kernel
theorem dX11_shutIn_29 : decode cX11_shutIn 29 = .ok (.aload_n 0, 1) := by decide +kernel
theorem dX11_shutIn_30 : decode cX11_shutIn 30 = .ok (.iload_n 2, 1) := by decide +kernel
theorem dX11_shutIn_31 : decode cX11_shutIn 31 = .ok (.iconst (-1), 1) := by decide +kernel
theorem dX11_shutIn_32 : decode cX11_shutIn 32 = .ok (.invokevirtual 252, 3) := by decide +kernel
theorem dX11_shutIn_35 : decode cX11_shutIn 35 = .ok (.aload_n 0, 1) := by decide +kernel
theorem dX11_shutIn_36 : decode cX11_shutIn 36 = .ok (.iload_n 1, 1) := by decide +kernel
theorem dX11_shutIn_37 : decode cX11_shutIn 37 = .ok (.invokevirtual 171, 3) := by decide +kernel
theorem dX11_shutIn_40 : decode cX11_shutIn 40 = .ok (.istore_n 3, 1) := by decide +kernel
theorem dX11_shutIn_41 : decode cX11_shutIn 41 = .ok (.aload_n 0, 1) := by decide +kernel
theorem dX11_shutIn_42 : decode cX11_shutIn 42 = .ok (.iload_n 3, 1) := by decide +kernel
theorem dX11_shutIn_43 : decode cX11_shutIn 43 = .ok (.invokevirtual 165, 3) := by decide +kernel
theorem dX11_shutIn_46 : decode cX11_shutIn 46 = .ok (.ifCond .eq 28, 3) := by decide +kernel
theorem dX11_shutIn_49 : decode cX11_shutIn 49 = .ok (.aload_n 0, 1) := by decide +kernel
theorem dX11_shutIn_50 : decode cX11_shutIn 50 = .ok (.iload_n 3, 1) := by decide +kernel
theorem dX11_shutIn_51 : decode cX11_shutIn 51 = .ok (.invokevirtual 219, 3) := by decide +kernel
theorem dX11_shutIn_54 : decode cX11_shutIn 54 = .ok (.iload_n 1, 1) := by decide +kernel
theorem dX11_shutIn_55 : decode cX11_shutIn 55 = .ok (.if_icmp .ne 19, 3) := by decide +kernel
theorem dX11_shutIn_58 : decode cX11_shutIn 58 = .ok (.aload_n 0, 1) := by decide +kernel
theorem dX11_shutIn_59 : decode cX11_shutIn 59 = .ok (.getfield 33, 3) := by decide +kernel
theorem dX11_shutIn_62 : decode cX11_shutIn 62 = .ok (.iload_n 3, 1) := by decide +kernel
theorem dX11_shutIn_63 : decode cX11_shutIn 63 = .ok (.aload_n 0, 1) := by decide +kernel
theorem dX11_shutIn_64 : decode cX11_shutIn 64 = .ok (.getfield 13, 3) := by decide +kernel
theorem dX11_shutIn_67 : decode cX11_shutIn 67 = .ok (.iconst 2, 1) := by decide +kernel
theorem dX11_shutIn_68 : decode cX11_shutIn 68 = .ok (.iaload, 1) := by decide +kernel
theorem dX11_shutIn_69 : decode cX11_shutIn 69 = .ok (.isub, 1) := by decide +kernel
theorem dX11_shutIn_70 : decode cX11_shutIn 70 = .ok (.laload, 1) := by decide +kernel
theorem dX11_shutIn_71 : decode cX11_shutIn 71 = .ok (.goto 4, 3) := by decide +kernel
theorem dX11_shutIn_74 : decode cX11_shutIn 74 = .ok (.lconst 0, 1) := by decide +kernel
theorem dX11_shutIn_75 : decode cX11_shutIn 75 = .ok (.lreturn, 1) := by decide +kernel
theorem dX11_gainOf_0 : decode cX11_gainOf 0 = .ok (.iload_n 1, 1) := by decide +kernel
theorem dX11_gainOf_1 : decode cX11_gainOf 1 = .ok (.ifCond .ne 7, 3) := by decide +kernel
theorem dX11_gainOf_4 : decode cX11_gainOf 4 = .ok (.lconst 0, 1) := by decide +kernel
theorem dX11_gainOf_5 : decode cX11_gainOf 5 = .ok (.goto 26, 3) := by decide +kernel
theorem dX11_gainOf_8 : decode cX11_gainOf 8 = .ok (.iload_n 1, 1) := by decide +kernel
theorem dX11_gainOf_9 : decode cX11_gainOf 9 = .ok (.iconst 1, 1) := by decide +kernel
theorem dX11_gainOf_10 : decode cX11_gainOf 10 = .ok (.if_icmp .ne 17, 3) := by decide +kernel
theorem dX11_gainOf_13 : decode cX11_gainOf 13 = .ok (.aload_n 0, 1) := by decide +kernel
theorem dX11_gainOf_14 : decode cX11_gainOf 14 = .ok (.aload_n 0, 1) := by decide +kernel
theorem dX11_gainOf_15 : decode cX11_gainOf 15 = .ok (.iconst (-1), 1) := by decide +kernel
theorem dX11_gainOf_16 : decode cX11_gainOf 16 = .ok (.invokevirtual 272, 3) := by decide +kernel
theorem dX11_gainOf_19 : decode cX11_gainOf 19 = .ok (.iconst (-1), 1) := by decide +kernel
theorem dX11_gainOf_20 : decode cX11_gainOf 20 = .ok (.iconst (-1), 1) := by decide +kernel
theorem dX11_gainOf_21 : decode cX11_gainOf 21 = .ok (.invokevirtual 262, 3) := by decide +kernel
theorem dX11_gainOf_24 : decode cX11_gainOf 24 = .ok (.goto 7, 3) := by decide +kernel
theorem dX11_gainOf_27 : decode cX11_gainOf 27 = .ok (.aload_n 0, 1) := by decide +kernel
theorem dX11_gainOf_28 : decode cX11_gainOf 28 = .ok (.invokevirtual 286, 3) := by decide +kernel
theorem dX11_gainOf_31 : decode cX11_gainOf 31 = .ok (.lstore_n 2, 1) := by decide +kernel
theorem dX11_gainOf_32 : decode cX11_gainOf 32 = .ok (.aload_n 0, 1) := by decide +kernel
theorem dX11_gainOf_33 : decode cX11_gainOf 33 = .ok (.getfield 13, 3) := by decide +kernel
theorem dX11_gainOf_36 : decode cX11_gainOf 36 = .ok (.iconst 5, 1) := by decide +kernel
theorem dX11_gainOf_37 : decode cX11_gainOf 37 = .ok (.iaload, 1) := by decide +kernel
theorem dX11_gainOf_38 : decode cX11_gainOf 38 = .ok (.i2l, 1) := by decide +kernel
theorem dX11_gainOf_39 : decode cX11_gainOf 39 = .ok (.lload_n 2, 1) := by decide +kernel
theorem dX11_gainOf_40 : decode cX11_gainOf 40 = .ok (.lmul, 1) := by decide +kernel
theorem dX11_gainOf_41 : decode cX11_gainOf 41 = .ok (.aload_n 0, 1) := by decide +kernel
theorem dX11_gainOf_42 : decode cX11_gainOf 42 = .ok (.getfield 13, 3) := by decide +kernel
theorem dX11_gainOf_45 : decode cX11_gainOf 45 = .ok (.iconst 4, 1) := by decide +kernel
theorem dX11_gainOf_46 : decode cX11_gainOf 46 = .ok (.iaload, 1) := by decide +kernel
theorem dX11_gainOf_47 : decode cX11_gainOf 47 = .ok (.iload_n 1, 1) := by decide +kernel
theorem dX11_gainOf_48 : decode cX11_gainOf 48 = .ok (.imul, 1) := by decide +kernel
theorem dX11_gainOf_49 : decode cX11_gainOf 49 = .ok (.i2l, 1) := by decide +kernel
theorem dX11_gainOf_50 : decode cX11_gainOf 50 = .ok (.aload_n 0, 1) := by decide +kernel
theorem dX11_gainOf_51 : decode cX11_gainOf 51 = .ok (.getfield 236, 3) := by decide +kernel
theorem dX11_gainOf_54 : decode cX11_gainOf 54 = .ok (.lmul, 1) := by decide +kernel
theorem dX11_gainOf_55 : decode cX11_gainOf 55 = .ok (.lsub, 1) := by decide +kernel
theorem dX11_gainOf_56 : decode cX11_gainOf 56 = .ok (.lreturn, 1) := by decide +kernel
theorem dX11_gain_0 : decode cX11_gain 0 = .ok (.aload_n 0, 1) := by decide +kernel
theorem dX11_gain_1 : decode cX11_gain 1 = .ok (.iconst 0, 1) := by decide +kernel
theorem dX11_gain_2 : decode cX11_gain 2 = .ok (.putfield 1, 3) := by decide +kernel
theorem dX11_gain_5 : decode cX11_gain 5 = .ok (.iload_n 1, 1) := by decide +kernel
theorem dX11_gain_6 : decode cX11_gain 6 = .ok (.i2l, 1) := by decide +kernel
theorem dX11_gain_7 : decode cX11_gain 7 = .ok (.lconst 0, 1) := by decide +kernel
theorem dX11_gain_8 : decode cX11_gain 8 = .ok (.ldc2_w 196, 3) := by decide +kernel
theorem dX11_gain_11 : decode cX11_gain 11 = .ok (.invokestatic 125, 3) := by decide +kernel
theorem dX11_gain_14 : decode cX11_gain 14 = .ok (.ifCond .eq 11, 3) := by decide +kernel
theorem dX11_gain_17 : decode cX11_gain 17 = .ok (.aload_n 0, 1) := by decide +kernel
theorem dX11_gain_18 : decode cX11_gain 18 = .ok (.iload_n 2, 1) := by decide +kernel
theorem dX11_gain_19 : decode cX11_gain 19 = .ok (.invokevirtual 269, 3) := by decide +kernel
theorem dX11_gain_22 : decode cX11_gain 22 = .ok (.ifCond .ne 7, 3) := by decide +kernel
theorem dX11_gain_25 : decode cX11_gain 25 = .ok (.ldc2_w 250, 3) := by decide +kernel
theorem dX11_gain_28 : decode cX11_gain 28 = .ok (.lreturn, 1) := by decide +kernel
theorem dX11_gain_29 : decode cX11_gain 29 = .ok (.iload_n 1, 1) := by decide +kernel
theorem dX11_gain_30 : decode cX11_gain 30 = .ok (.iconst 2, 1) := by decide +kernel
theorem dX11_gain_31 : decode cX11_gain 31 = .ok (.if_icmp .ne 17, 3) := by decide +kernel
theorem dX11_gain_34 : decode cX11_gain 34 = .ok (.aload_n 0, 1) := by decide +kernel
theorem dX11_gain_35 : decode cX11_gain 35 = .ok (.invokevirtual 240, 3) := by decide +kernel
theorem dX11_gain_38 : decode cX11_gain 38 = .ok (.iconst 1, 1) := by decide +kernel
theorem dX11_gain_39 : decode cX11_gain 39 = .ok (.if_icmp .ne 9, 3) := by decide +kernel
theorem dX11_gain_42 : decode cX11_gain 42 = .ok (.ldc2_w 284, 3) := by decide +kernel
theorem dX11_gain_45 : decode cX11_gain 45 = .ok (.goto 8, 3) := by decide +kernel
theorem dX11_gain_48 : decode cX11_gain 48 = .ok (.aload_n 0, 1) := by decide +kernel
theorem dX11_gain_49 : decode cX11_gain 49 = .ok (.iload_n 1, 1) := by decide +kernel
theorem dX11_gain_50 : decode cX11_gain 50 = .ok (.invokevirtual 299, 3) := by decide +kernel
theorem dX11_gain_53 : decode cX11_gain 53 = .ok (.lreturn, 1) := by decide +kernel
theorem dX11_buys_0 : decode cX11_buys 0 = .ok (.aload_n 0, 1) := by decide +kernel
theorem dX11_buys_1 : decode cX11_buys 1 = .ok (.iconst 0, 1) := by decide +kernel
theorem dX11_buys_2 : decode cX11_buys 2 = .ok (.putfield 1, 3) := by decide +kernel
theorem dX11_buys_5 : decode cX11_buys 5 = .ok (.aload_n 0, 1) := by decide +kernel
theorem dX11_buys_6 : decode cX11_buys 6 = .ok (.iload_n 1, 1) := by decide +kernel
theorem dX11_buys_7 : decode cX11_buys 7 = .ok (.invokevirtual 269, 3) := by decide +kernel
theorem dX11_buys_10 : decode cX11_buys 10 = .ok (.ifCond .ne 6, 3) := by decide +kernel
theorem dX11_buys_13 : decode cX11_buys 13 = .ok (.bipush (-3), 2) := by decide +kernel
theorem dX11_buys_15 : decode cX11_buys 15 = .ok (.ireturn, 1) := by decide +kernel
theorem dX11_buys_16 : decode cX11_buys 16 = .ok (.iconst 0, 1) := by decide +kernel
theorem dX11_buys_17 : decode cX11_buys 17 = .ok (.istore_n 2, 1) := by decide +kernel
theorem dX11_buys_18 : decode cX11_buys 18 = .ok (.iconst 1, 1) := by decide +kernel
theorem dX11_buys_19 : decode cX11_buys 19 = .ok (.istore_n 3, 1) := by decide +kernel
theorem dX11_buys_20 : decode cX11_buys 20 = .ok (.iload_n 3, 1) := by decide +kernel
theorem dX11_buys_21 : decode cX11_buys 21 = .ok (.aload_n 0, 1) := by decide +kernel
theorem dX11_buys_22 : decode cX11_buys 22 = .ok (.invokevirtual 240, 3) := by decide +kernel
theorem dX11_buys_25 : decode cX11_buys 25 = .ok (.iconst 1, 1) := by decide +kernel
theorem dX11_buys_26 : decode cX11_buys 26 = .ok (.if_icmp .ne 7, 3) := by decide +kernel
theorem dX11_buys_29 : decode cX11_buys 29 = .ok (.iconst 2, 1) := by decide +kernel
theorem dX11_buys_30 : decode cX11_buys 30 = .ok (.goto 4, 3) := by decide +kernel
theorem dX11_buys_33 : decode cX11_buys 33 = .ok (.iconst 3, 1) := by decide +kernel
theorem dX11_buys_34 : decode cX11_buys 34 = .ok (.if_icmp .ge 25, 3) := by decide +kernel
theorem dX11_buys_37 : decode cX11_buys 37 = .ok (.aload_n 0, 1) := by decide +kernel
theorem dX11_buys_38 : decode cX11_buys 38 = .ok (.iload_n 3, 1) := by decide +kernel
theorem dX11_buys_39 : decode cX11_buys 39 = .ok (.invokevirtual 299, 3) := by decide +kernel
theorem dX11_buys_42 : decode cX11_buys 42 = .ok (.aload_n 0, 1) := by decide +kernel
theorem dX11_buys_43 : decode cX11_buys 43 = .ok (.iload_n 2, 1) := by decide +kernel
theorem dX11_buys_44 : decode cX11_buys 44 = .ok (.invokevirtual 299, 3) := by decide +kernel
theorem dX11_buys_47 : decode cX11_buys 47 = .ok (.lcmp, 1) := by decide +kernel
theorem dX11_buys_48 : decode cX11_buys 48 = .ok (.ifCond .le 5, 3) := by decide +kernel
theorem dX11_buys_51 : decode cX11_buys 51 = .ok (.iload_n 3, 1) := by decide +kernel
theorem dX11_buys_52 : decode cX11_buys 52 = .ok (.istore_n 2, 1) := by decide +kernel
theorem dX11_buys_53 : decode cX11_buys 53 = .ok (.iinc 3 1, 3) := by decide +kernel
theorem dX11_buys_56 : decode cX11_buys 56 = .ok (.goto (-36), 3) := by decide +kernel
theorem dX11_buys_59 : decode cX11_buys 59 = .ok (.iload_n 2, 1) := by decide +kernel
theorem dX11_buys_60 : decode cX11_buys 60 = .ok (.ireturn, 1) := by decide +kernel
theorem dX11_weightFor_0 : decode cX11_weightFor 0 = .ok (.iconst 0, 1) := by decide +kernel
theorem dX11_weightFor_1 : decode cX11_weightFor 1 = .ok (.istore_n 3, 1) := by decide +kernel
theorem dX11_weightFor_2 : decode cX11_weightFor 2 = .ok (.aload_n 0, 1) := by decide +kernel
theorem dX11_weightFor_3 : decode cX11_weightFor 3 = .ok (.getfield 13, 3) := by decide +kernel
theorem dX11_weightFor_6 : decode cX11_weightFor 6 = .ok (.iconst 2, 1) := by decide +kernel
theorem dX11_weightFor_7 : decode cX11_weightFor 7 = .ok (.iaload, 1) := by decide +kernel
theorem dX11_weightFor_8 : decode cX11_weightFor 8 = .ok (.istore 4, 2) := by decide +kernel
theorem dX11_weightFor_10 : decode cX11_weightFor 10 = .ok (.iload 4, 2) := by decide +kernel
theorem dX11_weightFor_12 : decode cX11_weightFor 12 = .ok (.aload_n 0, 1) := by decide +kernel
theorem dX11_weightFor_13 : decode cX11_weightFor 13 = .ok (.getfield 13, 3) := by decide +kernel
theorem dX11_weightFor_16 : decode cX11_weightFor 16 = .ok (.iconst 3, 1) := by decide +kernel
theorem dX11_weightFor_17 : decode cX11_weightFor 17 = .ok (.iaload, 1) := by decide +kernel
theorem dX11_weightFor_18 : decode cX11_weightFor 18 = .ok (.if_icmp .gt 124, 3) := by decide +kernel
theorem dX11_weightFor_21 : decode cX11_weightFor 21 = .ok (.iconst 1, 1) := by decide +kernel
theorem dX11_weightFor_22 : decode cX11_weightFor 22 = .ok (.istore 5, 2) := by decide +kernel
theorem dX11_weightFor_24 : decode cX11_weightFor 24 = .ok (.iconst 0, 1) := by decide +kernel
theorem dX11_weightFor_25 : decode cX11_weightFor 25 = .ok (.istore 6, 2) := by decide +kernel
theorem dX11_weightFor_27 : decode cX11_weightFor 27 = .ok (.iload 6, 2) := by decide +kernel
theorem dX11_weightFor_29 : decode cX11_weightFor 29 = .ok (.iload_n 2, 1) := by decide +kernel
theorem dX11_weightFor_30 : decode cX11_weightFor 30 = .ok (.if_icmp .ge 88, 3) := by decide +kernel
theorem dX11_weightFor_33 : decode cX11_weightFor 33 = .ok (.iload 5, 2) := by decide +kernel
theorem dX11_weightFor_35 : decode cX11_weightFor 35 = .ok (.ifCond .eq 83, 3) := by decide +kernel
theorem dX11_weightFor_38 : decode cX11_weightFor 38 = .ok (.iload 6, 2) := by decide +kernel
theorem dX11_weightFor_40 : decode cX11_weightFor 40 = .ok (.iload_n 1, 1) := by decide +kernel
theorem dX11_weightFor_41 : decode cX11_weightFor 41 = .ok (.if_icmp .eq 64, 3) := by decide +kernel
theorem dX11_weightFor_44 : decode cX11_weightFor 44 = .ok (.iload 6, 2) := by decide +kernel
theorem dX11_weightFor_46 : decode cX11_weightFor 46 = .ok (.iload_n 1, 1) := by decide +kernel
theorem dX11_weightFor_47 : decode cX11_weightFor 47 = .ok (.if_icmp .ge 32, 3) := by decide +kernel
theorem dX11_weightFor_50 : decode cX11_weightFor 50 = .ok (.aload_n 0, 1) := by decide +kernel
theorem dX11_weightFor_51 : decode cX11_weightFor 51 = .ok (.getfield 40, 3) := by decide +kernel
theorem dX11_weightFor_54 : decode cX11_weightFor 54 = .ok (.iload 6, 2) := by decide +kernel
theorem dX11_weightFor_56 : decode cX11_weightFor 56 = .ok (.iaload, 1) := by decide +kernel
theorem dX11_weightFor_57 : decode cX11_weightFor 57 = .ok (.iload 4, 2) := by decide +kernel
theorem dX11_weightFor_59 : decode cX11_weightFor 59 = .ok (.invokestatic 162, 3) := by decide +kernel
theorem dX11_weightFor_62 : decode cX11_weightFor 62 = .ok (.aload_n 0, 1) := by decide +kernel
theorem dX11_weightFor_63 : decode cX11_weightFor 63 = .ok (.getfield 40, 3) := by decide +kernel
theorem dX11_weightFor_66 : decode cX11_weightFor 66 = .ok (.iload_n 1, 1) := by decide +kernel
theorem dX11_weightFor_67 : decode cX11_weightFor 67 = .ok (.iaload, 1) := by decide +kernel
theorem dX11_weightFor_68 : decode cX11_weightFor 68 = .ok (.iload 4, 2) := by decide +kernel
theorem dX11_weightFor_70 : decode cX11_weightFor 70 = .ok (.invokestatic 162, 3) := by decide +kernel
theorem dX11_weightFor_73 : decode cX11_weightFor 73 = .ok (.if_icmp .le 36, 3) := by decide +kernel
theorem dX11_weightFor_76 : decode cX11_weightFor 76 = .ok (.goto 29, 3) := by decide +kernel
theorem dX11_weightFor_79 : decode cX11_weightFor 79 = .ok (.aload_n 0, 1) := by decide +kernel
theorem dX11_weightFor_80 : decode cX11_weightFor 80 = .ok (.getfield 40, 3) := by decide +kernel
theorem dX11_weightFor_83 : decode cX11_weightFor 83 = .ok (.iload 6, 2) := by decide +kernel
theorem dX11_weightFor_85 : decode cX11_weightFor 85 = .ok (.iaload, 1) := by decide +kernel
theorem dX11_weightFor_86 : decode cX11_weightFor 86 = .ok (.iload 4, 2) := by decide +kernel
theorem dX11_weightFor_88 : decode cX11_weightFor 88 = .ok (.invokestatic 162, 3) := by decide +kernel
theorem dX11_weightFor_91 : decode cX11_weightFor 91 = .ok (.aload_n 0, 1) := by decide +kernel
theorem dX11_weightFor_92 : decode cX11_weightFor 92 = .ok (.getfield 40, 3) := by decide +kernel
theorem dX11_weightFor_95 : decode cX11_weightFor 95 = .ok (.iload_n 1, 1) := by decide +kernel
theorem dX11_weightFor_96 : decode cX11_weightFor 96 = .ok (.iaload, 1) := by decide +kernel
theorem dX11_weightFor_97 : decode cX11_weightFor 97 = .ok (.iload 4, 2) := by decide +kernel
theorem dX11_weightFor_99 : decode cX11_weightFor 99 = .ok (.invokestatic 162, 3) := by decide +kernel
theorem dX11_weightFor_102 : decode cX11_weightFor 102 = .ok (.if_icmp .lt 7, 3) := by decide +kernel
theorem dX11_weightFor_105 : decode cX11_weightFor 105 = .ok (.iconst 1, 1) := by decide +kernel
theorem dX11_weightFor_106 : decode cX11_weightFor 106 = .ok (.goto 4, 3) := by decide +kernel
theorem dX11_weightFor_109 : decode cX11_weightFor 109 = .ok (.iconst 0, 1) := by decide +kernel
theorem dX11_weightFor_110 : decode cX11_weightFor 110 = .ok (.istore 5, 2) := by decide +kernel
theorem dX11_weightFor_112 : decode cX11_weightFor 112 = .ok (.iinc 6 1, 3) := by decide +kernel
theorem dX11_weightFor_115 : decode cX11_weightFor 115 = .ok (.goto (-88), 3) := by decide +kernel
theorem dX11_weightFor_118 : decode cX11_weightFor 118 = .ok (.iload_n 3, 1) := by decide +kernel
theorem dX11_weightFor_119 : decode cX11_weightFor 119 = .ok (.iload 5, 2) := by decide +kernel
theorem dX11_weightFor_121 : decode cX11_weightFor 121 = .ok (.ifCond .eq 12, 3) := by decide +kernel
theorem dX11_weightFor_124 : decode cX11_weightFor 124 = .ok (.aload_n 0, 1) := by decide +kernel
theorem dX11_weightFor_125 : decode cX11_weightFor 125 = .ok (.iload 4, 2) := by decide +kernel
theorem dX11_weightFor_127 : decode cX11_weightFor 127 = .ok (.invokevirtual 168, 3) := by decide +kernel
theorem dX11_weightFor_130 : decode cX11_weightFor 130 = .ok (.goto 4, 3) := by decide +kernel
theorem dX11_weightFor_133 : decode cX11_weightFor 133 = .ok (.iconst 0, 1) := by decide +kernel
theorem dX11_weightFor_134 : decode cX11_weightFor 134 = .ok (.iadd, 1) := by decide +kernel
theorem dX11_weightFor_135 : decode cX11_weightFor 135 = .ok (.istore_n 3, 1) := by decide +kernel
theorem dX11_weightFor_136 : decode cX11_weightFor 136 = .ok (.iinc 4 1, 3) := by decide +kernel
theorem dX11_weightFor_139 : decode cX11_weightFor 139 = .ok (.goto (-129), 3) := by decide +kernel
theorem dX11_weightFor_142 : decode cX11_weightFor 142 = .ok (.iload_n 3, 1) := by decide +kernel
theorem dX11_weightFor_143 : decode cX11_weightFor 143 = .ok (.ireturn, 1) := by decide +kernel
theorem dX11_writesOn_0 : decode cX11_writesOn 0 = .ok (.iload_n 1, 1) := by decide +kernel
theorem dX11_writesOn_1 : decode cX11_writesOn 1 = .ok (.iload_n 2, 1) := by decide +kernel
theorem dX11_writesOn_2 : decode cX11_writesOn 2 = .ok (.if_icmp .ne 4, 3) := by decide +kernel
theorem dX11_writesOn_5 : decode cX11_writesOn 5 = .ok (.return_, 1) := by decide +kernel
theorem dX11_writesOn_6 : decode cX11_writesOn 6 = .ok (.iconst (-1), 1) := by decide +kernel
theorem dX11_writesOn_7 : decode cX11_writesOn 7 = .ok (.istore_n 3, 1) := by decide +kernel
theorem dX11_writesOn_8 : decode cX11_writesOn 8 = .ok (.aload_n 0, 1) := by decide +kernel
theorem dX11_writesOn_9 : decode cX11_writesOn 9 = .ok (.getfield 13, 3) := by decide +kernel
theorem dX11_writesOn_12 : decode cX11_writesOn 12 = .ok (.iconst 2, 1) := by decide +kernel
theorem dX11_writesOn_13 : decode cX11_writesOn 13 = .ok (.iaload, 1) := by decide +kernel
theorem dX11_writesOn_14 : decode cX11_writesOn 14 = .ok (.istore 4, 2) := by decide +kernel
theorem dX11_writesOn_16 : decode cX11_writesOn 16 = .ok (.iload 4, 2) := by decide +kernel
theorem dX11_writesOn_18 : decode cX11_writesOn 18 = .ok (.aload_n 0, 1) := by decide +kernel
theorem dX11_writesOn_19 : decode cX11_writesOn 19 = .ok (.getfield 13, 3) := by decide +kernel
theorem dX11_writesOn_22 : decode cX11_writesOn 22 = .ok (.iconst 3, 1) := by decide +kernel
theorem dX11_writesOn_23 : decode cX11_writesOn 23 = .ok (.iaload, 1) := by decide +kernel
theorem dX11_writesOn_24 : decode cX11_writesOn 24 = .ok (.if_icmp .gt 78, 3) := by decide +kernel
theorem dX11_writesOn_27 : decode cX11_writesOn 27 = .ok (.aload_n 0, 1) := by decide +kernel
theorem dX11_writesOn_28 : decode cX11_writesOn 28 = .ok (.getfield 40, 3) := by decide +kernel
theorem dX11_writesOn_31 : decode cX11_writesOn 31 = .ok (.iload_n 1, 1) := by decide +kernel
theorem dX11_writesOn_32 : decode cX11_writesOn 32 = .ok (.iload 4, 2) := by decide +kernel
theorem dX11_writesOn_34 : decode cX11_writesOn 34 = .ok (.iastore, 1) := by decide +kernel
theorem dX11_writesOn_35 : decode cX11_writesOn 35 = .ok (.aload_n 0, 1) := by decide +kernel
theorem dX11_writesOn_36 : decode cX11_writesOn 36 = .ok (.iload_n 1, 1) := by decide +kernel
theorem dX11_writesOn_37 : decode cX11_writesOn 37 = .ok (.iconst 1, 1) := by decide +kernel
theorem dX11_writesOn_38 : decode cX11_writesOn 38 = .ok (.iadd, 1) := by decide +kernel
theorem dX11_writesOn_39 : decode cX11_writesOn 39 = .ok (.iload_n 2, 1) := by decide +kernel
theorem dX11_writesOn_40 : decode cX11_writesOn 40 = .ok (.invokevirtual 302, 3) := by decide +kernel
theorem dX11_writesOn_43 : decode cX11_writesOn 43 = .ok (.aload_n 0, 1) := by decide +kernel
theorem dX11_writesOn_44 : decode cX11_writesOn 44 = .ok (.iload_n 1, 1) := by decide +kernel
theorem dX11_writesOn_45 : decode cX11_writesOn 45 = .ok (.iload_n 2, 1) := by decide +kernel
theorem dX11_writesOn_46 : decode cX11_writesOn 46 = .ok (.invokevirtual 305, 3) := by decide +kernel
theorem dX11_writesOn_49 : decode cX11_writesOn 49 = .ok (.istore 5, 2) := by decide +kernel
theorem dX11_writesOn_51 : decode cX11_writesOn 51 = .ok (.iload 5, 2) := by decide +kernel
theorem dX11_writesOn_53 : decode cX11_writesOn 53 = .ok (.iload_n 3, 1) := by decide +kernel
theorem dX11_writesOn_54 : decode cX11_writesOn 54 = .ok (.if_icmp .gt 6, 3) := by decide +kernel
theorem dX11_writesOn_57 : decode cX11_writesOn 57 = .ok (.goto 39, 3) := by decide +kernel
theorem dX11_writesOn_60 : decode cX11_writesOn 60 = .ok (.iload 5, 2) := by decide +kernel
theorem dX11_writesOn_62 : decode cX11_writesOn 62 = .ok (.istore_n 3, 1) := by decide +kernel
theorem dX11_writesOn_63 : decode cX11_writesOn 63 = .ok (.iconst 0, 1) := by decide +kernel
theorem dX11_writesOn_64 : decode cX11_writesOn 64 = .ok (.istore 6, 2) := by decide +kernel
theorem dX11_writesOn_66 : decode cX11_writesOn 66 = .ok (.iload 6, 2) := by decide +kernel
theorem dX11_writesOn_68 : decode cX11_writesOn 68 = .ok (.iload_n 2, 1) := by decide +kernel
theorem dX11_writesOn_69 : decode cX11_writesOn 69 = .ok (.if_icmp .ge 27, 3) := by decide +kernel
theorem dX11_writesOn_72 : decode cX11_writesOn 72 = .ok (.aload_n 0, 1) := by decide +kernel
theorem dX11_writesOn_73 : decode cX11_writesOn 73 = .ok (.getfield 43, 3) := by decide +kernel
theorem dX11_writesOn_76 : decode cX11_writesOn 76 = .ok (.iconst 3, 1) := by decide +kernel
theorem dX11_writesOn_77 : decode cX11_writesOn 77 = .ok (.iload_n 1, 1) := by decide +kernel
theorem dX11_writesOn_78 : decode cX11_writesOn 78 = .ok (.imul, 1) := by decide +kernel
theorem dX11_writesOn_79 : decode cX11_writesOn 79 = .ok (.iload 6, 2) := by decide +kernel
theorem dX11_writesOn_81 : decode cX11_writesOn 81 = .ok (.iadd, 1) := by decide +kernel
theorem dX11_writesOn_82 : decode cX11_writesOn 82 = .ok (.aload_n 0, 1) := by decide +kernel
theorem dX11_writesOn_83 : decode cX11_writesOn 83 = .ok (.getfield 40, 3) := by decide +kernel
theorem dX11_writesOn_86 : decode cX11_writesOn 86 = .ok (.iload 6, 2) := by decide +kernel
theorem dX11_writesOn_88 : decode cX11_writesOn 88 = .ok (.iaload, 1) := by decide +kernel
theorem dX11_writesOn_89 : decode cX11_writesOn 89 = .ok (.iastore, 1) := by decide +kernel
theorem dX11_writesOn_90 : decode cX11_writesOn 90 = .ok (.iinc 6 1, 3) := by decide +kernel
theorem dX11_writesOn_93 : decode cX11_writesOn 93 = .ok (.goto (-27), 3) := by decide +kernel
theorem dX11_writesOn_96 : decode cX11_writesOn 96 = .ok (.iinc 4 1, 3) := by decide +kernel
theorem dX11_writesOn_99 : decode cX11_writesOn 99 = .ok (.goto (-83), 3) := by decide +kernel
theorem dX11_writesOn_102 : decode cX11_writesOn 102 = .ok (.iload_n 1, 1) := by decide +kernel
theorem dX11_writesOn_103 : decode cX11_writesOn 103 = .ok (.istore 4, 2) := by decide +kernel
theorem dX11_writesOn_105 : decode cX11_writesOn 105 = .ok (.iload 4, 2) := by decide +kernel
theorem dX11_writesOn_107 : decode cX11_writesOn 107 = .ok (.iload_n 2, 1) := by decide +kernel
theorem dX11_writesOn_108 : decode cX11_writesOn 108 = .ok (.if_icmp .ge 27, 3) := by decide +kernel
theorem dX11_writesOn_111 : decode cX11_writesOn 111 = .ok (.aload_n 0, 1) := by decide +kernel
theorem dX11_writesOn_112 : decode cX11_writesOn 112 = .ok (.getfield 40, 3) := by decide +kernel
theorem dX11_writesOn_115 : decode cX11_writesOn 115 = .ok (.iload 4, 2) := by decide +kernel
theorem dX11_writesOn_117 : decode cX11_writesOn 117 = .ok (.aload_n 0, 1) := by decide +kernel
theorem dX11_writesOn_118 : decode cX11_writesOn 118 = .ok (.getfield 43, 3) := by decide +kernel
theorem dX11_writesOn_121 : decode cX11_writesOn 121 = .ok (.iconst 3, 1) := by decide +kernel
theorem dX11_writesOn_122 : decode cX11_writesOn 122 = .ok (.iload_n 1, 1) := by decide +kernel
theorem dX11_writesOn_123 : decode cX11_writesOn 123 = .ok (.imul, 1) := by decide +kernel
theorem dX11_writesOn_124 : decode cX11_writesOn 124 = .ok (.iload 4, 2) := by decide +kernel
theorem dX11_writesOn_126 : decode cX11_writesOn 126 = .ok (.iadd, 1) := by decide +kernel
theorem dX11_writesOn_127 : decode cX11_writesOn 127 = .ok (.iaload, 1) := by decide +kernel
theorem dX11_writesOn_128 : decode cX11_writesOn 128 = .ok (.iastore, 1) := by decide +kernel
theorem dX11_writesOn_129 : decode cX11_writesOn 129 = .ok (.iinc 4 1, 3) := by decide +kernel
theorem dX11_writesOn_132 : decode cX11_writesOn 132 = .ok (.goto (-27), 3) := by decide +kernel
theorem dX11_writesOn_135 : decode cX11_writesOn 135 = .ok (.return_, 1) := by decide +kernel
theorem dX11_game_0 : decode cX11_game 0 = .ok (.aload_n 0, 1) := by decide +kernel
theorem dX11_game_1 : decode cX11_game 1 = .ok (.iconst 0, 1) := by decide +kernel
theorem dX11_game_2 : decode cX11_game 2 = .ok (.putfield 1, 3) := by decide +kernel
theorem dX11_game_5 : decode cX11_game 5 = .ok (.iload_n 1, 1) := by decide +kernel
theorem dX11_game_6 : decode cX11_game 6 = .ok (.i2l, 1) := by decide +kernel
theorem dX11_game_7 : decode cX11_game 7 = .ok (.lconst 1, 1) := by decide +kernel
theorem dX11_game_8 : decode cX11_game 8 = .ok (.ldc2_w 194, 3) := by decide +kernel
theorem dX11_game_11 : decode cX11_game 11 = .ok (.invokestatic 125, 3) := by decide +kernel
theorem dX11_game_14 : decode cX11_game 14 = .ok (.ifCond .ne 6, 3) := by decide +kernel
theorem dX11_game_17 : decode cX11_game 17 = .ok (.bipush (-3), 2) := by decide +kernel
theorem dX11_game_19 : decode cX11_game 19 = .ok (.ireturn, 1) := by decide +kernel
theorem dX11_game_20 : decode cX11_game 20 = .ok (.iload_n 2, 1) := by decide +kernel
theorem dX11_game_21 : decode cX11_game 21 = .ok (.i2l, 1) := by decide +kernel
theorem dX11_game_22 : decode cX11_game 22 = .ok (.lconst 0, 1) := by decide +kernel
theorem dX11_game_23 : decode cX11_game 23 = .ok (.iload_n 1, 1) := by decide +kernel
theorem dX11_game_24 : decode cX11_game 24 = .ok (.iconst 1, 1) := by decide +kernel
theorem dX11_game_25 : decode cX11_game 25 = .ok (.isub, 1) := by decide +kernel
theorem dX11_game_26 : decode cX11_game 26 = .ok (.i2l, 1) := by decide +kernel
theorem dX11_game_27 : decode cX11_game 27 = .ok (.invokestatic 125, 3) := by decide +kernel
theorem dX11_game_30 : decode cX11_game 30 = .ok (.ifCond .ne 22, 3) := by decide +kernel
theorem dX11_game_33 : decode cX11_game 33 = .ok (.iload_n 2, 1) := by decide +kernel
theorem dX11_game_34 : decode cX11_game 34 = .ok (.i2l, 1) := by decide +kernel
theorem dX11_game_35 : decode cX11_game 35 = .ok (.ldc2_w 308, 3) := by decide +kernel
theorem dX11_game_38 : decode cX11_game 38 = .ok (.bipush 9, 2) := by decide +kernel
theorem dX11_game_40 : decode cX11_game 40 = .ok (.iload_n 1, 1) := by decide +kernel
theorem dX11_game_41 : decode cX11_game 41 = .ok (.iadd, 1) := by decide +kernel
theorem dX11_game_42 : decode cX11_game 42 = .ok (.i2l, 1) := by decide +kernel
theorem dX11_game_43 : decode cX11_game 43 = .ok (.invokestatic 125, 3) := by decide +kernel
theorem dX11_game_46 : decode cX11_game 46 = .ok (.ifCond .ne 6, 3) := by decide +kernel
theorem dX11_game_49 : decode cX11_game 49 = .ok (.bipush (-2), 2) := by decide +kernel
theorem dX11_game_51 : decode cX11_game 51 = .ok (.ireturn, 1) := by decide +kernel
theorem dX11_game_52 : decode cX11_game 52 = .ok (.aload_n 0, 1) := by decide +kernel
theorem dX11_game_53 : decode cX11_game 53 = .ok (.invokevirtual 240, 3) := by decide +kernel
theorem dX11_game_56 : decode cX11_game 56 = .ok (.bipush 24, 2) := by decide +kernel
theorem dX11_game_58 : decode cX11_game 58 = .ok (.if_icmp .le 6, 3) := by decide +kernel
theorem dX11_game_61 : decode cX11_game 61 = .ok (.bipush (-4), 2) := by decide +kernel
theorem dX11_game_63 : decode cX11_game 63 = .ok (.ireturn, 1) := by decide +kernel
theorem dX11_game_64 : decode cX11_game 64 = .ok (.aload_n 0, 1) := by decide +kernel
theorem dX11_game_65 : decode cX11_game 65 = .ok (.iconst 0, 1) := by decide +kernel
theorem dX11_game_66 : decode cX11_game 66 = .ok (.iload_n 1, 1) := by decide +kernel
theorem dX11_game_67 : decode cX11_game 67 = .ok (.invokevirtual 302, 3) := by decide +kernel
theorem dX11_game_70 : decode cX11_game 70 = .ok (.iload_n 2, 1) := by decide +kernel
theorem dX11_game_71 : decode cX11_game 71 = .ok (.bipush 10, 2) := by decide +kernel
theorem dX11_game_73 : decode cX11_game 73 = .ok (.if_icmp .ge 12, 3) := by decide +kernel
theorem dX11_game_76 : decode cX11_game 76 = .ok (.aload_n 0, 1) := by decide +kernel
theorem dX11_game_77 : decode cX11_game 77 = .ok (.getfield 40, 3) := by decide +kernel
theorem dX11_game_80 : decode cX11_game 80 = .ok (.iload_n 2, 1) := by decide +kernel
theorem dX11_game_81 : decode cX11_game 81 = .ok (.iaload, 1) := by decide +kernel
theorem dX11_game_82 : decode cX11_game 82 = .ok (.goto 12, 3) := by decide +kernel
theorem dX11_game_85 : decode cX11_game 85 = .ok (.aload_n 0, 1) := by decide +kernel
theorem dX11_game_86 : decode cX11_game 86 = .ok (.iload_n 2, 1) := by decide +kernel
theorem dX11_game_87 : decode cX11_game 87 = .ok (.bipush 10, 2) := by decide +kernel
theorem dX11_game_89 : decode cX11_game 89 = .ok (.isub, 1) := by decide +kernel
theorem dX11_game_90 : decode cX11_game 90 = .ok (.iload_n 1, 1) := by decide +kernel
theorem dX11_game_91 : decode cX11_game 91 = .ok (.invokevirtual 305, 3) := by decide +kernel
theorem dX11_game_94 : decode cX11_game 94 = .ok (.ireturn, 1) := by decide +kernel
theorem dX11_aloneOf_0 : decode cX11_aloneOf 0 = .ok (.iconst 2, 1) := by decide +kernel
theorem dX11_aloneOf_1 : decode cX11_aloneOf 1 = .ok (.iload_n 1, 1) := by decide +kernel
theorem dX11_aloneOf_2 : decode cX11_aloneOf 2 = .ok (.imul, 1) := by decide +kernel
theorem dX11_aloneOf_3 : decode cX11_aloneOf 3 = .ok (.iconst 1, 1) := by decide +kernel
theorem dX11_aloneOf_4 : decode cX11_aloneOf 4 = .ok (.iadd, 1) := by decide +kernel
theorem dX11_aloneOf_5 : decode cX11_aloneOf 5 = .ok (.istore 4, 2) := by decide +kernel
theorem dX11_aloneOf_7 : decode cX11_aloneOf 7 = .ok (.iconst 0, 1) := by decide +kernel
theorem dX11_aloneOf_8 : decode cX11_aloneOf 8 = .ok (.istore 5, 2) := by decide +kernel
theorem dX11_aloneOf_10 : decode cX11_aloneOf 10 = .ok (.iload 5, 2) := by decide +kernel
theorem dX11_aloneOf_12 : decode cX11_aloneOf 12 = .ok (.sipush 321, 3) := by decide +kernel
theorem dX11_aloneOf_15 : decode cX11_aloneOf 15 = .ok (.if_icmp .ge 26, 3) := by decide +kernel
theorem dX11_aloneOf_18 : decode cX11_aloneOf 18 = .ok (.aload_n 0, 1) := by decide +kernel
theorem dX11_aloneOf_19 : decode cX11_aloneOf 19 = .ok (.getfield 46, 3) := by decide +kernel
theorem dX11_aloneOf_22 : decode cX11_aloneOf 22 = .ok (.iload 5, 2) := by decide +kernel
theorem dX11_aloneOf_24 : decode cX11_aloneOf 24 = .ok (.iload 5, 2) := by decide +kernel
theorem dX11_aloneOf_26 : decode cX11_aloneOf 26 = .ok (.ifCond .ne 7, 3) := by decide +kernel
theorem dX11_aloneOf_29 : decode cX11_aloneOf 29 = .ok (.lconst 1, 1) := by decide +kernel
theorem dX11_aloneOf_30 : decode cX11_aloneOf 30 = .ok (.goto 4, 3) := by decide +kernel
theorem dX11_aloneOf_33 : decode cX11_aloneOf 33 = .ok (.lconst 0, 1) := by decide +kernel
theorem dX11_aloneOf_34 : decode cX11_aloneOf 34 = .ok (.lastore, 1) := by decide +kernel
theorem dX11_aloneOf_35 : decode cX11_aloneOf 35 = .ok (.iinc 5 1, 3) := by decide +kernel
theorem dX11_aloneOf_38 : decode cX11_aloneOf 38 = .ok (.goto (-28), 3) := by decide +kernel
theorem dX11_aloneOf_41 : decode cX11_aloneOf 41 = .ok (.iconst 0, 1) := by decide +kernel
theorem dX11_aloneOf_42 : decode cX11_aloneOf 42 = .ok (.istore 5, 2) := by decide +kernel
theorem dX11_aloneOf_44 : decode cX11_aloneOf 44 = .ok (.iload 5, 2) := by decide +kernel
theorem dX11_aloneOf_46 : decode cX11_aloneOf 46 = .ok (.iload_n 2, 1) := by decide +kernel
theorem dX11_aloneOf_47 : decode cX11_aloneOf 47 = .ok (.if_icmp .ge 108, 3) := by decide +kernel
theorem dX11_aloneOf_50 : decode cX11_aloneOf 50 = .ok (.iconst 0, 1) := by decide +kernel
theorem dX11_aloneOf_51 : decode cX11_aloneOf 51 = .ok (.istore 6, 2) := by decide +kernel
theorem dX11_aloneOf_53 : decode cX11_aloneOf 53 = .ok (.iload 6, 2) := by decide +kernel
theorem dX11_aloneOf_55 : decode cX11_aloneOf 55 = .ok (.sipush 321, 3) := by decide +kernel
theorem dX11_aloneOf_58 : decode cX11_aloneOf 58 = .ok (.if_icmp .ge 60, 3) := by decide +kernel
theorem dX11_aloneOf_61 : decode cX11_aloneOf 61 = .ok (.aload_n 0, 1) := by decide +kernel
theorem dX11_aloneOf_62 : decode cX11_aloneOf 62 = .ok (.getfield 49, 3) := by decide +kernel
theorem dX11_aloneOf_65 : decode cX11_aloneOf 65 = .ok (.iload 6, 2) := by decide +kernel
theorem dX11_aloneOf_67 : decode cX11_aloneOf 67 = .ok (.lconst 0, 1) := by decide +kernel
theorem dX11_aloneOf_68 : decode cX11_aloneOf 68 = .ok (.lastore, 1) := by decide +kernel
theorem dX11_aloneOf_69 : decode cX11_aloneOf 69 = .ok (.iconst 0, 1) := by decide +kernel
theorem dX11_aloneOf_70 : decode cX11_aloneOf 70 = .ok (.istore 7, 2) := by decide +kernel
theorem dX11_aloneOf_72 : decode cX11_aloneOf 72 = .ok (.iload 7, 2) := by decide +kernel
theorem dX11_aloneOf_74 : decode cX11_aloneOf 74 = .ok (.iload 4, 2) := by decide +kernel
theorem dX11_aloneOf_76 : decode cX11_aloneOf 76 = .ok (.if_icmp .ge 36, 3) := by decide +kernel
theorem dX11_aloneOf_79 : decode cX11_aloneOf 79 = .ok (.iload 7, 2) := by decide +kernel
theorem dX11_aloneOf_81 : decode cX11_aloneOf 81 = .ok (.iload 6, 2) := by decide +kernel
theorem dX11_aloneOf_83 : decode cX11_aloneOf 83 = .ok (.if_icmp .gt 29, 3) := by decide +kernel
theorem dX11_aloneOf_86 : decode cX11_aloneOf 86 = .ok (.aload_n 0, 1) := by decide +kernel
theorem dX11_aloneOf_87 : decode cX11_aloneOf 87 = .ok (.getfield 49, 3) := by decide +kernel
theorem dX11_aloneOf_90 : decode cX11_aloneOf 90 = .ok (.iload 6, 2) := by decide +kernel
theorem dX11_aloneOf_92 : decode cX11_aloneOf 92 = .ok (.dup2, 1) := by decide +kernel
theorem dX11_aloneOf_93 : decode cX11_aloneOf 93 = .ok (.laload, 1) := by decide +kernel
theorem dX11_aloneOf_94 : decode cX11_aloneOf 94 = .ok (.aload_n 0, 1) := by decide +kernel
theorem dX11_aloneOf_95 : decode cX11_aloneOf 95 = .ok (.getfield 46, 3) := by decide +kernel
theorem dX11_aloneOf_98 : decode cX11_aloneOf 98 = .ok (.iload 6, 2) := by decide +kernel
theorem dX11_aloneOf_100 : decode cX11_aloneOf 100 = .ok (.iload 7, 2) := by decide +kernel
theorem dX11_aloneOf_102 : decode cX11_aloneOf 102 = .ok (.isub, 1) := by decide +kernel
theorem dX11_aloneOf_103 : decode cX11_aloneOf 103 = .ok (.laload, 1) := by decide +kernel
theorem dX11_aloneOf_104 : decode cX11_aloneOf 104 = .ok (.ladd, 1) := by decide +kernel
theorem dX11_aloneOf_105 : decode cX11_aloneOf 105 = .ok (.lastore, 1) := by decide +kernel
theorem dX11_aloneOf_106 : decode cX11_aloneOf 106 = .ok (.iinc 7 1, 3) := by decide +kernel
theorem dX11_aloneOf_109 : decode cX11_aloneOf 109 = .ok (.goto (-37), 3) := by decide +kernel
theorem dX11_aloneOf_112 : decode cX11_aloneOf 112 = .ok (.iinc 6 1, 3) := by decide +kernel
theorem dX11_aloneOf_115 : decode cX11_aloneOf 115 = .ok (.goto (-62), 3) := by decide +kernel
theorem dX11_aloneOf_118 : decode cX11_aloneOf 118 = .ok (.iconst 0, 1) := by decide +kernel
theorem dX11_aloneOf_119 : decode cX11_aloneOf 119 = .ok (.istore 6, 2) := by decide +kernel
theorem dX11_aloneOf_121 : decode cX11_aloneOf 121 = .ok (.iload 6, 2) := by decide +kernel
theorem dX11_aloneOf_123 : decode cX11_aloneOf 123 = .ok (.sipush 321, 3) := by decide +kernel
theorem dX11_aloneOf_126 : decode cX11_aloneOf 126 = .ok (.if_icmp .ge 23, 3) := by decide +kernel
theorem dX11_aloneOf_129 : decode cX11_aloneOf 129 = .ok (.aload_n 0, 1) := by decide +kernel
theorem dX11_aloneOf_130 : decode cX11_aloneOf 130 = .ok (.getfield 46, 3) := by decide +kernel
theorem dX11_aloneOf_133 : decode cX11_aloneOf 133 = .ok (.iload 6, 2) := by decide +kernel
theorem dX11_aloneOf_135 : decode cX11_aloneOf 135 = .ok (.aload_n 0, 1) := by decide +kernel
theorem dX11_aloneOf_136 : decode cX11_aloneOf 136 = .ok (.getfield 49, 3) := by decide +kernel
theorem dX11_aloneOf_139 : decode cX11_aloneOf 139 = .ok (.iload 6, 2) := by decide +kernel
theorem dX11_aloneOf_141 : decode cX11_aloneOf 141 = .ok (.laload, 1) := by decide +kernel
theorem dX11_aloneOf_142 : decode cX11_aloneOf 142 = .ok (.lastore, 1) := by decide +kernel
theorem dX11_aloneOf_143 : decode cX11_aloneOf 143 = .ok (.iinc 6 1, 3) := by decide +kernel
theorem dX11_aloneOf_146 : decode cX11_aloneOf 146 = .ok (.goto (-25), 3) := by decide +kernel
theorem dX11_aloneOf_149 : decode cX11_aloneOf 149 = .ok (.iinc 5 1, 3) := by decide +kernel
theorem dX11_aloneOf_152 : decode cX11_aloneOf 152 = .ok (.goto (-108), 3) := by decide +kernel
theorem dX11_aloneOf_155 : decode cX11_aloneOf 155 = .ok (.lconst 0, 1) := by decide +kernel
theorem dX11_aloneOf_156 : decode cX11_aloneOf 156 = .ok (.lstore 5, 2) := by decide +kernel
theorem dX11_aloneOf_158 : decode cX11_aloneOf 158 = .ok (.iconst 0, 1) := by decide +kernel
theorem dX11_aloneOf_159 : decode cX11_aloneOf 159 = .ok (.istore 7, 2) := by decide +kernel
theorem dX11_aloneOf_161 : decode cX11_aloneOf 161 = .ok (.iload 7, 2) := by decide +kernel
theorem dX11_aloneOf_163 : decode cX11_aloneOf 163 = .ok (.sipush 321, 3) := by decide +kernel
theorem dX11_aloneOf_166 : decode cX11_aloneOf 166 = .ok (.if_icmp .ge 39, 3) := by decide +kernel
theorem dX11_aloneOf_169 : decode cX11_aloneOf 169 = .ok (.lload 5, 2) := by decide +kernel
theorem dX11_aloneOf_171 : decode cX11_aloneOf 171 = .ok (.iload 7, 2) := by decide +kernel
theorem dX11_aloneOf_173 : decode cX11_aloneOf 173 = .ok (.iload_n 2, 1) := by decide +kernel
theorem dX11_aloneOf_174 : decode cX11_aloneOf 174 = .ok (.iload_n 1, 1) := by decide +kernel
theorem dX11_aloneOf_175 : decode cX11_aloneOf 175 = .ok (.imul, 1) := by decide +kernel
theorem dX11_aloneOf_176 : decode cX11_aloneOf 176 = .ok (.invokestatic 162, 3) := by decide +kernel
theorem dX11_aloneOf_179 : decode cX11_aloneOf 179 = .ok (.iload_n 2, 1) := by decide +kernel
theorem dX11_aloneOf_180 : decode cX11_aloneOf 180 = .ok (.iload_n 3, 1) := by decide +kernel
theorem dX11_aloneOf_181 : decode cX11_aloneOf 181 = .ok (.imul, 1) := by decide +kernel
theorem dX11_aloneOf_182 : decode cX11_aloneOf 182 = .ok (.if_icmp .gt 13, 3) := by decide +kernel
theorem dX11_aloneOf_185 : decode cX11_aloneOf 185 = .ok (.aload_n 0, 1) := by decide +kernel
theorem dX11_aloneOf_186 : decode cX11_aloneOf 186 = .ok (.getfield 46, 3) := by decide +kernel
theorem dX11_aloneOf_189 : decode cX11_aloneOf 189 = .ok (.iload 7, 2) := by decide +kernel
theorem dX11_aloneOf_191 : decode cX11_aloneOf 191 = .ok (.laload, 1) := by decide +kernel
theorem dX11_aloneOf_192 : decode cX11_aloneOf 192 = .ok (.goto 4, 3) := by decide +kernel
theorem dX11_aloneOf_195 : decode cX11_aloneOf 195 = .ok (.lconst 0, 1) := by decide +kernel
theorem dX11_aloneOf_196 : decode cX11_aloneOf 196 = .ok (.ladd, 1) := by decide +kernel
theorem dX11_aloneOf_197 : decode cX11_aloneOf 197 = .ok (.lstore 5, 2) := by decide +kernel
theorem dX11_aloneOf_199 : decode cX11_aloneOf 199 = .ok (.iinc 7 1, 3) := by decide +kernel
theorem dX11_aloneOf_202 : decode cX11_aloneOf 202 = .ok (.goto (-41), 3) := by decide +kernel
theorem dX11_aloneOf_205 : decode cX11_aloneOf 205 = .ok (.lload 5, 2) := by decide +kernel
theorem dX11_aloneOf_207 : decode cX11_aloneOf 207 = .ok (.lreturn, 1) := by decide +kernel
theorem dX11_alone_0 : decode cX11_alone 0 = .ok (.aload_n 0, 1) := by decide +kernel
theorem dX11_alone_1 : decode cX11_alone 1 = .ok (.iconst 0, 1) := by decide +kernel
theorem dX11_alone_2 : decode cX11_alone 2 = .ok (.putfield 1, 3) := by decide +kernel
theorem dX11_alone_5 : decode cX11_alone 5 = .ok (.aload_n 0, 1) := by decide +kernel
theorem dX11_alone_6 : decode cX11_alone 6 = .ok (.iload_n 1, 1) := by decide +kernel
theorem dX11_alone_7 : decode cX11_alone 7 = .ok (.i2l, 1) := by decide +kernel
theorem dX11_alone_8 : decode cX11_alone 8 = .ok (.invokevirtual 145, 3) := by decide +kernel
theorem dX11_alone_11 : decode cX11_alone 11 = .ok (.ifCond .ne 7, 3) := by decide +kernel
theorem dX11_alone_14 : decode cX11_alone 14 = .ok (.ldc2_w 255, 3) := by decide +kernel
theorem dX11_alone_17 : decode cX11_alone 17 = .ok (.lreturn, 1) := by decide +kernel
theorem dX11_alone_18 : decode cX11_alone 18 = .ok (.iload_n 2, 1) := by decide +kernel
theorem dX11_alone_19 : decode cX11_alone 19 = .ok (.i2l, 1) := by decide +kernel
theorem dX11_alone_20 : decode cX11_alone 20 = .ok (.lconst 1, 1) := by decide +kernel
theorem dX11_alone_21 : decode cX11_alone 21 = .ok (.ldc2_w 310, 3) := by decide +kernel
theorem dX11_alone_24 : decode cX11_alone 24 = .ok (.invokestatic 125, 3) := by decide +kernel
theorem dX11_alone_27 : decode cX11_alone 27 = .ok (.ifCond .eq 33, 3) := by decide +kernel
theorem dX11_alone_30 : decode cX11_alone 30 = .ok (.iload_n 3, 1) := by decide +kernel
theorem dX11_alone_31 : decode cX11_alone 31 = .ok (.i2l, 1) := by decide +kernel
theorem dX11_alone_32 : decode cX11_alone 32 = .ok (.lconst 0, 1) := by decide +kernel
theorem dX11_alone_33 : decode cX11_alone 33 = .ok (.ldc2_w 312, 3) := by decide +kernel
theorem dX11_alone_36 : decode cX11_alone 36 = .ok (.invokestatic 125, 3) := by decide +kernel
theorem dX11_alone_39 : decode cX11_alone 39 = .ok (.ifCond .eq 21, 3) := by decide +kernel
theorem dX11_alone_42 : decode cX11_alone 42 = .ok (.aload_n 0, 1) := by decide +kernel
theorem dX11_alone_43 : decode cX11_alone 43 = .ok (.aload_n 0, 1) := by decide +kernel
theorem dX11_alone_44 : decode cX11_alone 44 = .ok (.getfield 13, 3) := by decide +kernel
theorem dX11_alone_47 : decode cX11_alone 47 = .ok (.bipush 17, 2) := by decide +kernel
theorem dX11_alone_49 : decode cX11_alone 49 = .ok (.iload_n 1, 1) := by decide +kernel
theorem dX11_alone_50 : decode cX11_alone 50 = .ok (.iadd, 1) := by decide +kernel
theorem dX11_alone_51 : decode cX11_alone 51 = .ok (.iaload, 1) := by decide +kernel
theorem dX11_alone_52 : decode cX11_alone 52 = .ok (.iload_n 2, 1) := by decide +kernel
theorem dX11_alone_53 : decode cX11_alone 53 = .ok (.iload_n 3, 1) := by decide +kernel
theorem dX11_alone_54 : decode cX11_alone 54 = .ok (.invokevirtual 314, 3) := by decide +kernel
theorem dX11_alone_57 : decode cX11_alone 57 = .ok (.goto 6, 3) := by decide +kernel
theorem dX11_alone_60 : decode cX11_alone 60 = .ok (.ldc2_w 250, 3) := by decide +kernel
theorem dX11_alone_63 : decode cX11_alone 63 = .ok (.lreturn, 1) := by decide +kernel
theorem dX11_fewest_0 : decode cX11_fewest 0 = .ok (.aload_n 0, 1) := by decide +kernel
theorem dX11_fewest_1 : decode cX11_fewest 1 = .ok (.iconst 0, 1) := by decide +kernel
theorem dX11_fewest_2 : decode cX11_fewest 2 = .ok (.putfield 1, 3) := by decide +kernel
theorem dX11_fewest_5 : decode cX11_fewest 5 = .ok (.aload_n 0, 1) := by decide +kernel
theorem dX11_fewest_6 : decode cX11_fewest 6 = .ok (.iload_n 1, 1) := by decide +kernel
theorem dX11_fewest_7 : decode cX11_fewest 7 = .ok (.i2l, 1) := by decide +kernel
theorem dX11_fewest_8 : decode cX11_fewest 8 = .ok (.invokevirtual 145, 3) := by decide +kernel
theorem dX11_fewest_11 : decode cX11_fewest 11 = .ok (.ifCond .ne 6, 3) := by decide +kernel
theorem dX11_fewest_14 : decode cX11_fewest 14 = .ok (.bipush (-2), 2) := by decide +kernel
theorem dX11_fewest_16 : decode cX11_fewest 16 = .ok (.ireturn, 1) := by decide +kernel
theorem dX11_fewest_17 : decode cX11_fewest 17 = .ok (.iload_n 2, 1) := by decide +kernel
theorem dX11_fewest_18 : decode cX11_fewest 18 = .ok (.i2l, 1) := by decide +kernel
theorem dX11_fewest_19 : decode cX11_fewest 19 = .ok (.lconst 0, 1) := by decide +kernel
theorem dX11_fewest_20 : decode cX11_fewest 20 = .ok (.ldc2_w 312, 3) := by decide +kernel
theorem dX11_fewest_23 : decode cX11_fewest 23 = .ok (.invokestatic 125, 3) := by decide +kernel
theorem dX11_fewest_26 : decode cX11_fewest 26 = .ok (.ifCond .eq 15, 3) := by decide +kernel
theorem dX11_fewest_29 : decode cX11_fewest 29 = .ok (.iload_n 3, 1) := by decide +kernel
theorem dX11_fewest_30 : decode cX11_fewest 30 = .ok (.i2l, 1) := by decide +kernel
theorem dX11_fewest_31 : decode cX11_fewest 31 = .ok (.lconst 0, 1) := by decide +kernel
theorem dX11_fewest_32 : decode cX11_fewest 32 = .ok (.ldc2_w 317, 3) := by decide +kernel
theorem dX11_fewest_35 : decode cX11_fewest 35 = .ok (.invokestatic 125, 3) := by decide +kernel
theorem dX11_fewest_38 : decode cX11_fewest 38 = .ok (.ifCond .ne 6, 3) := by decide +kernel
theorem dX11_fewest_41 : decode cX11_fewest 41 = .ok (.bipush (-3), 2) := by decide +kernel
theorem dX11_fewest_43 : decode cX11_fewest 43 = .ok (.ireturn, 1) := by decide +kernel
theorem dX11_fewest_44 : decode cX11_fewest 44 = .ok (.lconst 1, 1) := by decide +kernel
theorem dX11_fewest_45 : decode cX11_fewest 45 = .ok (.lstore 4, 2) := by decide +kernel
theorem dX11_fewest_47 : decode cX11_fewest 47 = .ok (.iconst 1, 1) := by decide +kernel
theorem dX11_fewest_48 : decode cX11_fewest 48 = .ok (.istore 6, 2) := by decide +kernel
theorem dX11_fewest_50 : decode cX11_fewest 50 = .ok (.iload 6, 2) := by decide +kernel
theorem dX11_fewest_52 : decode cX11_fewest 52 = .ok (.bipush 9, 2) := by decide +kernel
theorem dX11_fewest_54 : decode cX11_fewest 54 = .ok (.if_icmp .ge 60, 3) := by decide +kernel
theorem dX11_fewest_57 : decode cX11_fewest 57 = .ok (.lload 4, 2) := by decide +kernel
theorem dX11_fewest_59 : decode cX11_fewest 59 = .ok (.iconst 2, 1) := by decide +kernel
theorem dX11_fewest_60 : decode cX11_fewest 60 = .ok (.aload_n 0, 1) := by decide +kernel
theorem dX11_fewest_61 : decode cX11_fewest 61 = .ok (.getfield 13, 3) := by decide +kernel
theorem dX11_fewest_64 : decode cX11_fewest 64 = .ok (.bipush 17, 2) := by decide +kernel
theorem dX11_fewest_66 : decode cX11_fewest 66 = .ok (.iload_n 1, 1) := by decide +kernel
theorem dX11_fewest_67 : decode cX11_fewest 67 = .ok (.iadd, 1) := by decide +kernel
theorem dX11_fewest_68 : decode cX11_fewest 68 = .ok (.iaload, 1) := by decide +kernel
theorem dX11_fewest_69 : decode cX11_fewest 69 = .ok (.imul, 1) := by decide +kernel
theorem dX11_fewest_70 : decode cX11_fewest 70 = .ok (.iconst 1, 1) := by decide +kernel
theorem dX11_fewest_71 : decode cX11_fewest 71 = .ok (.iadd, 1) := by decide +kernel
theorem dX11_fewest_72 : decode cX11_fewest 72 = .ok (.i2l, 1) := by decide +kernel
theorem dX11_fewest_73 : decode cX11_fewest 73 = .ok (.lmul, 1) := by decide +kernel
theorem dX11_fewest_74 : decode cX11_fewest 74 = .ok (.lstore 4, 2) := by decide +kernel
theorem dX11_fewest_76 : decode cX11_fewest 76 = .ok (.ldc2_w 317, 3) := by decide +kernel
theorem dX11_fewest_79 : decode cX11_fewest 79 = .ok (.aload_n 0, 1) := by decide +kernel
theorem dX11_fewest_80 : decode cX11_fewest 80 = .ok (.aload_n 0, 1) := by decide +kernel
theorem dX11_fewest_81 : decode cX11_fewest 81 = .ok (.getfield 13, 3) := by decide +kernel
theorem dX11_fewest_84 : decode cX11_fewest 84 = .ok (.bipush 17, 2) := by decide +kernel
theorem dX11_fewest_86 : decode cX11_fewest 86 = .ok (.iload_n 1, 1) := by decide +kernel
theorem dX11_fewest_87 : decode cX11_fewest 87 = .ok (.iadd, 1) := by decide +kernel
theorem dX11_fewest_88 : decode cX11_fewest 88 = .ok (.iaload, 1) := by decide +kernel
theorem dX11_fewest_89 : decode cX11_fewest 89 = .ok (.iload 6, 2) := by decide +kernel
theorem dX11_fewest_91 : decode cX11_fewest 91 = .ok (.iload_n 2, 1) := by decide +kernel
theorem dX11_fewest_92 : decode cX11_fewest 92 = .ok (.invokevirtual 314, 3) := by decide +kernel
theorem dX11_fewest_95 : decode cX11_fewest 95 = .ok (.lmul, 1) := by decide +kernel
theorem dX11_fewest_96 : decode cX11_fewest 96 = .ok (.iload_n 3, 1) := by decide +kernel
theorem dX11_fewest_97 : decode cX11_fewest 97 = .ok (.i2l, 1) := by decide +kernel
theorem dX11_fewest_98 : decode cX11_fewest 98 = .ok (.lload 4, 2) := by decide +kernel
theorem dX11_fewest_100 : decode cX11_fewest 100 = .ok (.lmul, 1) := by decide +kernel
theorem dX11_fewest_101 : decode cX11_fewest 101 = .ok (.lcmp, 1) := by decide +kernel
theorem dX11_fewest_102 : decode cX11_fewest 102 = .ok (.ifCond .lt 6, 3) := by decide +kernel
theorem dX11_fewest_105 : decode cX11_fewest 105 = .ok (.iload 6, 2) := by decide +kernel
theorem dX11_fewest_107 : decode cX11_fewest 107 = .ok (.ireturn, 1) := by decide +kernel
theorem dX11_fewest_108 : decode cX11_fewest 108 = .ok (.iinc 6 1, 3) := by decide +kernel
theorem dX11_fewest_111 : decode cX11_fewest 111 = .ok (.goto (-61), 3) := by decide +kernel
theorem dX11_fewest_114 : decode cX11_fewest 114 = .ok (.iconst (-1), 1) := by decide +kernel
theorem dX11_fewest_115 : decode cX11_fewest 115 = .ok (.ireturn, 1) := by decide +kernel
theorem dX11_fetes_0 : decode cX11_fetes 0 = .ok (.aload_n 0, 1) := by decide +kernel
theorem dX11_fetes_1 : decode cX11_fetes 1 = .ok (.iconst 0, 1) := by decide +kernel
theorem dX11_fetes_2 : decode cX11_fetes 2 = .ok (.putfield 1, 3) := by decide +kernel
theorem dX11_fetes_5 : decode cX11_fetes 5 = .ok (.iload 5, 2) := by decide +kernel
theorem dX11_fetes_7 : decode cX11_fetes 7 = .ok (.i2l, 1) := by decide +kernel
theorem dX11_fetes_8 : decode cX11_fetes 8 = .ok (.lconst 0, 1) := by decide +kernel
theorem dX11_fetes_9 : decode cX11_fetes 9 = .ok (.ldc2_w 196, 3) := by decide +kernel
theorem dX11_fetes_12 : decode cX11_fetes 12 = .ok (.invokestatic 125, 3) := by decide +kernel
theorem dX11_fetes_15 : decode cX11_fetes 15 = .ok (.ifCond .ne 6, 3) := by decide +kernel
theorem dX11_fetes_18 : decode cX11_fetes 18 = .ok (.bipush (-2), 2) := by decide +kernel
theorem dX11_fetes_20 : decode cX11_fetes 20 = .ok (.ireturn, 1) := by decide +kernel
theorem dX11_fetes_21 : decode cX11_fetes 21 = .ok (.iload_n 2, 1) := by decide +kernel
theorem dX11_fetes_22 : decode cX11_fetes 22 = .ok (.i2l, 1) := by decide +kernel
theorem dX11_fetes_23 : decode cX11_fetes 23 = .ok (.lconst 1, 1) := by decide +kernel
theorem dX11_fetes_24 : decode cX11_fetes 24 = .ok (.ldc2_w 214, 3) := by decide +kernel
theorem dX11_fetes_27 : decode cX11_fetes 27 = .ok (.invokestatic 125, 3) := by decide +kernel
theorem dX11_fetes_30 : decode cX11_fetes 30 = .ok (.ifCond .eq 15, 3) := by decide +kernel
theorem dX11_fetes_33 : decode cX11_fetes 33 = .ok (.iload_n 3, 1) := by decide +kernel
theorem dX11_fetes_34 : decode cX11_fetes 34 = .ok (.i2l, 1) := by decide +kernel
theorem dX11_fetes_35 : decode cX11_fetes 35 = .ok (.lconst 1, 1) := by decide +kernel
theorem dX11_fetes_36 : decode cX11_fetes 36 = .ok (.ldc2_w 319, 3) := by decide +kernel
theorem dX11_fetes_39 : decode cX11_fetes 39 = .ok (.invokestatic 125, 3) := by decide +kernel
theorem dX11_fetes_42 : decode cX11_fetes 42 = .ok (.ifCond .ne 6, 3) := by decide +kernel
theorem dX11_fetes_45 : decode cX11_fetes 45 = .ok (.bipush (-3), 2) := by decide +kernel
theorem dX11_fetes_47 : decode cX11_fetes 47 = .ok (.ireturn, 1) := by decide +kernel
theorem dX11_fetes_48 : decode cX11_fetes 48 = .ok (.aload_n 0, 1) := by decide +kernel
theorem dX11_fetes_49 : decode cX11_fetes 49 = .ok (.getfield 13, 3) := by decide +kernel
theorem dX11_fetes_52 : decode cX11_fetes 52 = .ok (.iconst 0, 1) := by decide +kernel
theorem dX11_fetes_53 : decode cX11_fetes 53 = .ok (.iaload, 1) := by decide +kernel
theorem dX11_fetes_54 : decode cX11_fetes 54 = .ok (.ifCond .eq 13, 3) := by decide +kernel
theorem dX11_fetes_57 : decode cX11_fetes 57 = .ok (.aload_n 0, 1) := by decide +kernel
theorem dX11_fetes_58 : decode cX11_fetes 58 = .ok (.getfield 13, 3) := by decide +kernel
theorem dX11_fetes_61 : decode cX11_fetes 61 = .ok (.bipush 6, 2) := by decide +kernel
theorem dX11_fetes_63 : decode cX11_fetes 63 = .ok (.iaload, 1) := by decide +kernel
theorem dX11_fetes_64 : decode cX11_fetes 64 = .ok (.ifCond .ne 6, 3) := by decide +kernel
theorem dX11_fetes_67 : decode cX11_fetes 67 = .ok (.bipush (-5), 2) := by decide +kernel
theorem dX11_fetes_69 : decode cX11_fetes 69 = .ok (.ireturn, 1) := by decide +kernel
theorem dX11_fetes_70 : decode cX11_fetes 70 = .ok (.aload_n 0, 1) := by decide +kernel
theorem dX11_fetes_71 : decode cX11_fetes 71 = .ok (.invokevirtual 198, 3) := by decide +kernel
theorem dX11_fetes_74 : decode cX11_fetes 74 = .ok (.aload_n 0, 1) := by decide +kernel
theorem dX11_fetes_75 : decode cX11_fetes 75 = .ok (.getfield 13, 3) := by decide +kernel
theorem dX11_fetes_78 : decode cX11_fetes 78 = .ok (.bipush 7, 2) := by decide +kernel
theorem dX11_fetes_80 : decode cX11_fetes 80 = .ok (.iload 4, 2) := by decide +kernel
theorem dX11_fetes_82 : decode cX11_fetes 82 = .ok (.ifCond .eq 7, 3) := by decide +kernel
theorem dX11_fetes_85 : decode cX11_fetes 85 = .ok (.iconst 0, 1) := by decide +kernel
theorem dX11_fetes_86 : decode cX11_fetes 86 = .ok (.goto 4, 3) := by decide +kernel
theorem dX11_fetes_89 : decode cX11_fetes 89 = .ok (.iconst 1, 1) := by decide +kernel
theorem dX11_fetes_90 : decode cX11_fetes 90 = .ok (.iastore, 1) := by decide +kernel
theorem dX11_fetes_91 : decode cX11_fetes 91 = .ok (.aload_n 0, 1) := by decide +kernel
theorem dX11_fetes_92 : decode cX11_fetes 92 = .ok (.iload_n 1, 1) := by decide +kernel
theorem dX11_fetes_93 : decode cX11_fetes 93 = .ok (.putfield 208, 3) := by decide +kernel
theorem dX11_fetes_96 : decode cX11_fetes 96 = .ok (.iconst 0, 1) := by decide +kernel
theorem dX11_fetes_97 : decode cX11_fetes 97 = .ok (.istore 6, 2) := by decide +kernel
theorem dX11_fetes_99 : decode cX11_fetes 99 = .ok (.iconst 0, 1) := by decide +kernel
theorem dX11_fetes_100 : decode cX11_fetes 100 = .ok (.istore 7, 2) := by decide +kernel
theorem dX11_fetes_102 : decode cX11_fetes 102 = .ok (.iconst 0, 1) := by decide +kernel
theorem dX11_fetes_103 : decode cX11_fetes 103 = .ok (.istore 8, 2) := by decide +kernel
theorem dX11_fetes_105 : decode cX11_fetes 105 = .ok (.iconst 0, 1) := by decide +kernel
theorem dX11_fetes_106 : decode cX11_fetes 106 = .ok (.istore 9, 2) := by decide +kernel
theorem dX11_fetes_108 : decode cX11_fetes 108 = .ok (.iload 9, 2) := by decide +kernel
theorem dX11_fetes_110 : decode cX11_fetes 110 = .ok (.iload_n 2, 1) := by decide +kernel
theorem dX11_fetes_111 : decode cX11_fetes 111 = .ok (.if_icmp .ge 110, 3) := by decide +kernel
theorem dX11_fetes_114 : decode cX11_fetes 114 = .ok (.aload_n 0, 1) := by decide +kernel
theorem dX11_fetes_115 : decode cX11_fetes 115 = .ok (.getfield 13, 3) := by decide +kernel
theorem dX11_fetes_118 : decode cX11_fetes 118 = .ok (.iconst 1, 1) := by decide +kernel
theorem dX11_fetes_119 : decode cX11_fetes 119 = .ok (.iconst 0, 1) := by decide +kernel
theorem dX11_fetes_120 : decode cX11_fetes 120 = .ok (.iastore, 1) := by decide +kernel
theorem dX11_fetes_121 : decode cX11_fetes 121 = .ok (.iconst 0, 1) := by decide +kernel
theorem dX11_fetes_122 : decode cX11_fetes 122 = .ok (.istore 10, 2) := by decide +kernel
theorem dX11_fetes_124 : decode cX11_fetes 124 = .ok (.iload 10, 2) := by decide +kernel
theorem dX11_fetes_126 : decode cX11_fetes 126 = .ok (.iload_n 3, 1) := by decide +kernel
theorem dX11_fetes_127 : decode cX11_fetes 127 = .ok (.if_icmp .ge 13, 3) := by decide +kernel
theorem dX11_fetes_130 : decode cX11_fetes 130 = .ok (.aload_n 0, 1) := by decide +kernel
theorem dX11_fetes_131 : decode cX11_fetes 131 = .ok (.invokevirtual 216, 3) := by decide +kernel
theorem dX11_fetes_134 : decode cX11_fetes 134 = .ok (.iinc 10 1, 3) := by decide +kernel
theorem dX11_fetes_137 : decode cX11_fetes 137 = .ok (.goto (-13), 3) := by decide +kernel
theorem dX11_fetes_140 : decode cX11_fetes 140 = .ok (.aload_n 0, 1) := by decide +kernel
theorem dX11_fetes_141 : decode cX11_fetes 141 = .ok (.iload_n 3, 1) := by decide +kernel
theorem dX11_fetes_142 : decode cX11_fetes 142 = .ok (.invokevirtual 174, 3) := by decide +kernel
theorem dX11_fetes_145 : decode cX11_fetes 145 = .ok (.aload_n 0, 1) := by decide +kernel
theorem dX11_fetes_146 : decode cX11_fetes 146 = .ok (.getfield 13, 3) := by decide +kernel
theorem dX11_fetes_149 : decode cX11_fetes 149 = .ok (.bipush 6, 2) := by decide +kernel
theorem dX11_fetes_151 : decode cX11_fetes 151 = .ok (.iaload, 1) := by decide +kernel
theorem dX11_fetes_152 : decode cX11_fetes 152 = .ok (.invokestatic 162, 3) := by decide +kernel
theorem dX11_fetes_155 : decode cX11_fetes 155 = .ok (.istore 10, 2) := by decide +kernel
theorem dX11_fetes_157 : decode cX11_fetes 157 = .ok (.aload_n 0, 1) := by decide +kernel
theorem dX11_fetes_158 : decode cX11_fetes 158 = .ok (.aload_n 0, 1) := by decide +kernel
theorem dX11_fetes_159 : decode cX11_fetes 159 = .ok (.aload_n 0, 1) := by decide +kernel
theorem dX11_fetes_160 : decode cX11_fetes 160 = .ok (.getfield 13, 3) := by decide +kernel
theorem dX11_fetes_163 : decode cX11_fetes 163 = .ok (.bipush 6, 2) := by decide +kernel
theorem dX11_fetes_165 : decode cX11_fetes 165 = .ok (.iaload, 1) := by decide +kernel
theorem dX11_fetes_166 : decode cX11_fetes 166 = .ok (.invokevirtual 219, 3) := by decide +kernel
theorem dX11_fetes_169 : decode cX11_fetes 169 = .ok (.invokevirtual 171, 3) := by decide +kernel
theorem dX11_fetes_172 : decode cX11_fetes 172 = .ok (.aload_n 0, 1) := by decide +kernel
theorem dX11_fetes_173 : decode cX11_fetes 173 = .ok (.getfield 13, 3) := by decide +kernel
theorem dX11_fetes_176 : decode cX11_fetes 176 = .ok (.bipush 6, 2) := by decide +kernel
theorem dX11_fetes_178 : decode cX11_fetes 178 = .ok (.iaload, 1) := by decide +kernel
theorem dX11_fetes_179 : decode cX11_fetes 179 = .ok (.invokestatic 162, 3) := by decide +kernel
theorem dX11_fetes_182 : decode cX11_fetes 182 = .ok (.istore 11, 2) := by decide +kernel
theorem dX11_fetes_184 : decode cX11_fetes 184 = .ok (.iload 6, 2) := by decide +kernel
theorem dX11_fetes_186 : decode cX11_fetes 186 = .ok (.iload 10, 2) := by decide +kernel
theorem dX11_fetes_188 : decode cX11_fetes 188 = .ok (.iadd, 1) := by decide +kernel
theorem dX11_fetes_189 : decode cX11_fetes 189 = .ok (.istore 6, 2) := by decide +kernel
theorem dX11_fetes_191 : decode cX11_fetes 191 = .ok (.iload 7, 2) := by decide +kernel
theorem dX11_fetes_193 : decode cX11_fetes 193 = .ok (.iload 11, 2) := by decide +kernel
theorem dX11_fetes_195 : decode cX11_fetes 195 = .ok (.iadd, 1) := by decide +kernel
theorem dX11_fetes_196 : decode cX11_fetes 196 = .ok (.istore 7, 2) := by decide +kernel
theorem dX11_fetes_198 : decode cX11_fetes 198 = .ok (.iload 8, 2) := by decide +kernel
theorem dX11_fetes_200 : decode cX11_fetes 200 = .ok (.iload 10, 2) := by decide +kernel
theorem dX11_fetes_202 : decode cX11_fetes 202 = .ok (.iload 11, 2) := by decide +kernel
theorem dX11_fetes_204 : decode cX11_fetes 204 = .ok (.if_icmp .ge 7, 3) := by decide +kernel
theorem dX11_fetes_207 : decode cX11_fetes 207 = .ok (.iconst 1, 1) := by decide +kernel
theorem dX11_fetes_208 : decode cX11_fetes 208 = .ok (.goto 4, 3) := by decide +kernel
theorem dX11_fetes_211 : decode cX11_fetes 211 = .ok (.iconst 0, 1) := by decide +kernel
theorem dX11_fetes_212 : decode cX11_fetes 212 = .ok (.iadd, 1) := by decide +kernel
theorem dX11_fetes_213 : decode cX11_fetes 213 = .ok (.istore 8, 2) := by decide +kernel
theorem dX11_fetes_215 : decode cX11_fetes 215 = .ok (.iinc 9 1, 3) := by decide +kernel
theorem dX11_fetes_218 : decode cX11_fetes 218 = .ok (.goto (-110), 3) := by decide +kernel
theorem dX11_fetes_221 : decode cX11_fetes 221 = .ok (.aload_n 0, 1) := by decide +kernel
theorem dX11_fetes_222 : decode cX11_fetes 222 = .ok (.invokevirtual 204, 3) := by decide +kernel
theorem dX11_fetes_225 : decode cX11_fetes 225 = .ok (.iload 5, 2) := by decide +kernel
theorem dX11_fetes_227 : decode cX11_fetes 227 = .ok (.ifCond .ne 8, 3) := by decide +kernel
theorem dX11_fetes_230 : decode cX11_fetes 230 = .ok (.iload 6, 2) := by decide +kernel
theorem dX11_fetes_232 : decode cX11_fetes 232 = .ok (.goto 16, 3) := by decide +kernel
theorem dX11_fetes_235 : decode cX11_fetes 235 = .ok (.iload 5, 2) := by decide +kernel
theorem dX11_fetes_237 : decode cX11_fetes 237 = .ok (.iconst 1, 1) := by decide +kernel
theorem dX11_fetes_238 : decode cX11_fetes 238 = .ok (.if_icmp .ne 8, 3) := by decide +kernel
theorem dX11_fetes_241 : decode cX11_fetes 241 = .ok (.iload 7, 2) := by decide +kernel
theorem dX11_fetes_243 : decode cX11_fetes 243 = .ok (.goto 5, 3) := by decide +kernel
theorem dX11_fetes_246 : decode cX11_fetes 246 = .ok (.iload 8, 2) := by decide +kernel
theorem dX11_fetes_248 : decode cX11_fetes 248 = .ok (.ireturn, 1) := by decide +kernel
theorem dX11_holdsOf_0 : decode cX11_holdsOf 0 = .ok (.iload_n 0, 1) := by decide +kernel
theorem dX11_holdsOf_1 : decode cX11_holdsOf 1 = .ok (.iconst 1, 1) := by decide +kernel
theorem dX11_holdsOf_2 : decode cX11_holdsOf 2 = .ok (.iconst 3, 1) := by decide +kernel
theorem dX11_holdsOf_3 : decode cX11_holdsOf 3 = .ok (.iload_n 1, 1) := by decide +kernel
theorem dX11_holdsOf_4 : decode cX11_holdsOf 4 = .ok (.imul, 1) := by decide +kernel
theorem dX11_holdsOf_5 : decode cX11_holdsOf 5 = .ok (.iload_n 1, 1) := by decide +kernel
theorem dX11_holdsOf_6 : decode cX11_holdsOf 6 = .ok (.iconst 1, 1) := by decide +kernel
theorem dX11_holdsOf_7 : decode cX11_holdsOf 7 = .ok (.iadd, 1) := by decide +kernel
theorem dX11_holdsOf_8 : decode cX11_holdsOf 8 = .ok (.imul, 1) := by decide +kernel
theorem dX11_holdsOf_9 : decode cX11_holdsOf 9 = .ok (.iadd, 1) := by decide +kernel
theorem dX11_holdsOf_10 : decode cX11_holdsOf 10 = .ok (.imul, 1) := by decide +kernel
theorem dX11_holdsOf_11 : decode cX11_holdsOf 11 = .ok (.iload_n 0, 1) := by decide +kernel
theorem dX11_holdsOf_12 : decode cX11_holdsOf 12 = .ok (.iconst 2, 1) := by decide +kernel
theorem dX11_holdsOf_13 : decode cX11_holdsOf 13 = .ok (.idiv, 1) := by decide +kernel
theorem dX11_holdsOf_14 : decode cX11_holdsOf 14 = .ok (.bipush 6, 2) := by decide +kernel
theorem dX11_holdsOf_16 : decode cX11_holdsOf 16 = .ok (.imul, 1) := by decide +kernel
theorem dX11_holdsOf_17 : decode cX11_holdsOf 17 = .ok (.iload_n 1, 1) := by decide +kernel
theorem dX11_holdsOf_18 : decode cX11_holdsOf 18 = .ok (.imul, 1) := by decide +kernel
theorem dX11_holdsOf_19 : decode cX11_holdsOf 19 = .ok (.isub, 1) := by decide +kernel
theorem dX11_holdsOf_20 : decode cX11_holdsOf 20 = .ok (.istore_n 3, 1) := by decide +kernel
theorem dX11_holdsOf_21 : decode cX11_holdsOf 21 = .ok (.iload_n 3, 1) := by decide +kernel
theorem dX11_holdsOf_22 : decode cX11_holdsOf 22 = .ok (.iload_n 3, 1) := by decide +kernel
theorem dX11_holdsOf_23 : decode cX11_holdsOf 23 = .ok (.iload_n 2, 1) := by decide +kernel
theorem dX11_holdsOf_24 : decode cX11_holdsOf 24 = .ok (.imul, 1) := by decide +kernel
theorem dX11_holdsOf_25 : decode cX11_holdsOf 25 = .ok (.bipush 100, 2) := by decide +kernel
theorem dX11_holdsOf_27 : decode cX11_holdsOf 27 = .ok (.idiv, 1) := by decide +kernel
theorem dX11_holdsOf_28 : decode cX11_holdsOf 28 = .ok (.isub, 1) := by decide +kernel
theorem dX11_holdsOf_29 : decode cX11_holdsOf 29 = .ok (.ireturn, 1) := by decide +kernel
theorem dX11_holds_0 : decode cX11_holds 0 = .ok (.aload_n 0, 1) := by decide +kernel
theorem dX11_holds_1 : decode cX11_holds 1 = .ok (.iconst 0, 1) := by decide +kernel
theorem dX11_holds_2 : decode cX11_holds 2 = .ok (.putfield 1, 3) := by decide +kernel
theorem dX11_holds_5 : decode cX11_holds 5 = .ok (.iload_n 1, 1) := by decide +kernel
theorem dX11_holds_6 : decode cX11_holds 6 = .ok (.i2l, 1) := by decide +kernel
theorem dX11_holds_7 : decode cX11_holds 7 = .ok (.lconst 1, 1) := by decide +kernel
theorem dX11_holds_8 : decode cX11_holds 8 = .ok (.ldc2_w 321, 3) := by decide +kernel
theorem dX11_holds_11 : decode cX11_holds 11 = .ok (.invokestatic 125, 3) := by decide +kernel
theorem dX11_holds_14 : decode cX11_holds 14 = .ok (.ifCond .eq 36, 3) := by decide +kernel
theorem dX11_holds_17 : decode cX11_holds 17 = .ok (.iload_n 2, 1) := by decide +kernel
theorem dX11_holds_18 : decode cX11_holds 18 = .ok (.i2l, 1) := by decide +kernel
theorem dX11_holds_19 : decode cX11_holds 19 = .ok (.lconst 1, 1) := by decide +kernel
theorem dX11_holds_20 : decode cX11_holds 20 = .ok (.ldc2_w 319, 3) := by decide +kernel
theorem dX11_holds_23 : decode cX11_holds 23 = .ok (.invokestatic 125, 3) := by decide +kernel
theorem dX11_holds_26 : decode cX11_holds 26 = .ok (.ifCond .eq 24, 3) := by decide +kernel
theorem dX11_holds_29 : decode cX11_holds 29 = .ok (.iload_n 3, 1) := by decide +kernel
theorem dX11_holds_30 : decode cX11_holds 30 = .ok (.i2l, 1) := by decide +kernel
theorem dX11_holds_31 : decode cX11_holds 31 = .ok (.lconst 0, 1) := by decide +kernel
theorem dX11_holds_32 : decode cX11_holds 32 = .ok (.ldc2_w 321, 3) := by decide +kernel
theorem dX11_holds_35 : decode cX11_holds 35 = .ok (.invokestatic 125, 3) := by decide +kernel
theorem dX11_holds_38 : decode cX11_holds 38 = .ok (.ifCond .eq 12, 3) := by decide +kernel
theorem dX11_holds_41 : decode cX11_holds 41 = .ok (.iload_n 1, 1) := by decide +kernel
theorem dX11_holds_42 : decode cX11_holds 42 = .ok (.iload_n 2, 1) := by decide +kernel
theorem dX11_holds_43 : decode cX11_holds 43 = .ok (.iload_n 3, 1) := by decide +kernel
theorem dX11_holds_44 : decode cX11_holds 44 = .ok (.invokestatic 323, 3) := by decide +kernel
theorem dX11_holds_47 : decode cX11_holds 47 = .ok (.goto 5, 3) := by decide +kernel
theorem dX11_holds_50 : decode cX11_holds 50 = .ok (.bipush (-3), 2) := by decide +kernel
theorem dX11_holds_52 : decode cX11_holds 52 = .ok (.ireturn, 1) := by decide +kernel
theorem dX11_layersFor_0 : decode cX11_layersFor 0 = .ok (.aload_n 0, 1) := by decide +kernel
theorem dX11_layersFor_1 : decode cX11_layersFor 1 = .ok (.iconst 0, 1) := by decide +kernel
theorem dX11_layersFor_2 : decode cX11_layersFor 2 = .ok (.putfield 1, 3) := by decide +kernel
theorem dX11_layersFor_5 : decode cX11_layersFor 5 = .ok (.iload_n 1, 1) := by decide +kernel
theorem dX11_layersFor_6 : decode cX11_layersFor 6 = .ok (.i2l, 1) := by decide +kernel
theorem dX11_layersFor_7 : decode cX11_layersFor 7 = .ok (.lconst 1, 1) := by decide +kernel
theorem dX11_layersFor_8 : decode cX11_layersFor 8 = .ok (.ldc2_w 327, 3) := by decide +kernel
theorem dX11_layersFor_11 : decode cX11_layersFor 11 = .ok (.invokestatic 125, 3) := by decide +kernel
theorem dX11_layersFor_14 : decode cX11_layersFor 14 = .ok (.ifCond .eq 27, 3) := by decide +kernel
theorem dX11_layersFor_17 : decode cX11_layersFor 17 = .ok (.iload_n 2, 1) := by decide +kernel
theorem dX11_layersFor_18 : decode cX11_layersFor 18 = .ok (.i2l, 1) := by decide +kernel
theorem dX11_layersFor_19 : decode cX11_layersFor 19 = .ok (.lconst 1, 1) := by decide +kernel
theorem dX11_layersFor_20 : decode cX11_layersFor 20 = .ok (.ldc2_w 319, 3) := by decide +kernel
theorem dX11_layersFor_23 : decode cX11_layersFor 23 = .ok (.invokestatic 125, 3) := by decide +kernel
theorem dX11_layersFor_26 : decode cX11_layersFor 26 = .ok (.ifCond .eq 15, 3) := by decide +kernel
theorem dX11_layersFor_29 : decode cX11_layersFor 29 = .ok (.iload_n 3, 1) := by decide +kernel
theorem dX11_layersFor_30 : decode cX11_layersFor 30 = .ok (.i2l, 1) := by decide +kernel
theorem dX11_layersFor_31 : decode cX11_layersFor 31 = .ok (.lconst 0, 1) := by decide +kernel
theorem dX11_layersFor_32 : decode cX11_layersFor 32 = .ok (.ldc2_w 321, 3) := by decide +kernel
theorem dX11_layersFor_35 : decode cX11_layersFor 35 = .ok (.invokestatic 125, 3) := by decide +kernel
theorem dX11_layersFor_38 : decode cX11_layersFor 38 = .ok (.ifCond .ne 6, 3) := by decide +kernel
theorem dX11_layersFor_41 : decode cX11_layersFor 41 = .ok (.bipush (-3), 2) := by decide +kernel
theorem dX11_layersFor_43 : decode cX11_layersFor 43 = .ok (.ireturn, 1) := by decide +kernel
theorem dX11_layersFor_44 : decode cX11_layersFor 44 = .ok (.iconst 1, 1) := by decide +kernel
theorem dX11_layersFor_45 : decode cX11_layersFor 45 = .ok (.istore 4, 2) := by decide +kernel
theorem dX11_layersFor_47 : decode cX11_layersFor 47 = .ok (.iload 4, 2) := by decide +kernel
theorem dX11_layersFor_49 : decode cX11_layersFor 49 = .ok (.bipush 100, 2) := by decide +kernel
theorem dX11_layersFor_51 : decode cX11_layersFor 51 = .ok (.if_icmp .ge 23, 3) := by decide +kernel
theorem dX11_layersFor_54 : decode cX11_layersFor 54 = .ok (.iload 4, 2) := by decide +kernel
theorem dX11_layersFor_56 : decode cX11_layersFor 56 = .ok (.iload_n 2, 1) := by decide +kernel
theorem dX11_layersFor_57 : decode cX11_layersFor 57 = .ok (.iload_n 3, 1) := by decide +kernel
theorem dX11_layersFor_58 : decode cX11_layersFor 58 = .ok (.invokestatic 323, 3) := by decide +kernel
theorem dX11_layersFor_61 : decode cX11_layersFor 61 = .ok (.iload_n 1, 1) := by decide +kernel
theorem dX11_layersFor_62 : decode cX11_layersFor 62 = .ok (.if_icmp .lt 6, 3) := by decide +kernel
theorem dX11_layersFor_65 : decode cX11_layersFor 65 = .ok (.iload 4, 2) := by decide +kernel
theorem dX11_layersFor_67 : decode cX11_layersFor 67 = .ok (.ireturn, 1) := by decide +kernel
theorem dX11_layersFor_68 : decode cX11_layersFor 68 = .ok (.iinc 4 1, 3) := by decide +kernel
theorem dX11_layersFor_71 : decode cX11_layersFor 71 = .ok (.goto (-24), 3) := by decide +kernel
theorem dX11_layersFor_74 : decode cX11_layersFor 74 = .ok (.iconst (-1), 1) := by decide +kernel
theorem dX11_layersFor_75 : decode cX11_layersFor 75 = .ok (.ireturn, 1) := by decide +kernel
theorem dX11_cut_0 : decode cX11_cut 0 = .ok (.iload_n 2, 1) := by decide +kernel
theorem dX11_cut_1 : decode cX11_cut 1 = .ok (.ifCond .ne 10, 3) := by decide +kernel
theorem dX11_cut_4 : decode cX11_cut 4 = .ok (.lload_n 0, 1) := by decide +kernel
theorem dX11_cut_5 : decode cX11_cut 5 = .ok (.l2i, 1) := by decide +kernel
theorem dX11_cut_6 : decode cX11_cut 6 = .ok (.i2b, 1) := by decide +kernel
theorem dX11_cut_7 : decode cX11_cut 7 = .ok (.i2l, 1) := by decide +kernel
theorem dX11_cut_8 : decode cX11_cut 8 = .ok (.goto 27, 3) := by decide +kernel
theorem dX11_cut_11 : decode cX11_cut 11 = .ok (.iload_n 2, 1) := by decide +kernel
theorem dX11_cut_12 : decode cX11_cut 12 = .ok (.iconst 1, 1) := by decide +kernel
theorem dX11_cut_13 : decode cX11_cut 13 = .ok (.if_icmp .ne 10, 3) := by decide +kernel
theorem dX11_cut_16 : decode cX11_cut 16 = .ok (.lload_n 0, 1) := by decide +kernel
theorem dX11_cut_17 : decode cX11_cut 17 = .ok (.l2i, 1) := by decide +kernel
theorem dX11_cut_18 : decode cX11_cut 18 = .ok (.i2s, 1) := by decide +kernel
theorem dX11_cut_19 : decode cX11_cut 19 = .ok (.i2l, 1) := by decide +kernel
theorem dX11_cut_20 : decode cX11_cut 20 = .ok (.goto 15, 3) := by decide +kernel
theorem dX11_cut_23 : decode cX11_cut 23 = .ok (.iload_n 2, 1) := by decide +kernel
theorem dX11_cut_24 : decode cX11_cut 24 = .ok (.iconst 2, 1) := by decide +kernel
theorem dX11_cut_25 : decode cX11_cut 25 = .ok (.if_icmp .ne 9, 3) := by decide +kernel
theorem dX11_cut_28 : decode cX11_cut 28 = .ok (.lload_n 0, 1) := by decide +kernel
theorem dX11_cut_29 : decode cX11_cut 29 = .ok (.l2i, 1) := by decide +kernel
theorem dX11_cut_30 : decode cX11_cut 30 = .ok (.i2l, 1) := by decide +kernel
theorem dX11_cut_31 : decode cX11_cut 31 = .ok (.goto 4, 3) := by decide +kernel
theorem dX11_cut_34 : decode cX11_cut 34 = .ok (.lload_n 0, 1) := by decide +kernel
theorem dX11_cut_35 : decode cX11_cut 35 = .ok (.lreturn, 1) := by decide +kernel
theorem dX11_numbers_0 : decode cX11_numbers 0 = .ok (.aload_n 0, 1) := by decide +kernel
theorem dX11_numbers_1 : decode cX11_numbers 1 = .ok (.iconst 0, 1) := by decide +kernel
theorem dX11_numbers_2 : decode cX11_numbers 2 = .ok (.putfield 1, 3) := by decide +kernel
theorem dX11_numbers_5 : decode cX11_numbers 5 = .ok (.iload_n 1, 1) := by decide +kernel
theorem dX11_numbers_6 : decode cX11_numbers 6 = .ok (.i2l, 1) := by decide +kernel
theorem dX11_numbers_7 : decode cX11_numbers 7 = .ok (.lconst 0, 1) := by decide +kernel
theorem dX11_numbers_8 : decode cX11_numbers 8 = .ok (.ldc2_w 194, 3) := by decide +kernel
theorem dX11_numbers_11 : decode cX11_numbers 11 = .ok (.invokestatic 125, 3) := by decide +kernel
theorem dX11_numbers_14 : decode cX11_numbers 14 = .ok (.ifCond .eq 15, 3) := by decide +kernel
theorem dX11_numbers_17 : decode cX11_numbers 17 = .ok (.iload_n 2, 1) := by decide +kernel
theorem dX11_numbers_18 : decode cX11_numbers 18 = .ok (.i2l, 1) := by decide +kernel
theorem dX11_numbers_19 : decode cX11_numbers 19 = .ok (.lconst 0, 1) := by decide +kernel
theorem dX11_numbers_20 : decode cX11_numbers 20 = .ok (.ldc2_w 194, 3) := by decide +kernel
theorem dX11_numbers_23 : decode cX11_numbers 23 = .ok (.invokestatic 125, 3) := by decide +kernel
theorem dX11_numbers_26 : decode cX11_numbers 26 = .ok (.ifCond .ne 6, 3) := by decide +kernel
theorem dX11_numbers_29 : decode cX11_numbers 29 = .ok (.bipush (-2), 2) := by decide +kernel
theorem dX11_numbers_31 : decode cX11_numbers 31 = .ok (.ireturn, 1) := by decide +kernel
theorem dX11_numbers_32 : decode cX11_numbers 32 = .ok (.iload_n 3, 1) := by decide +kernel
theorem dX11_numbers_33 : decode cX11_numbers 33 = .ok (.i2l, 1) := by decide +kernel
theorem dX11_numbers_34 : decode cX11_numbers 34 = .ok (.lconst 0, 1) := by decide +kernel
theorem dX11_numbers_35 : decode cX11_numbers 35 = .ok (.ldc2_w 214, 3) := by decide +kernel
theorem dX11_numbers_38 : decode cX11_numbers 38 = .ok (.invokestatic 125, 3) := by decide +kernel
theorem dX11_numbers_41 : decode cX11_numbers 41 = .ok (.ifCond .ne 6, 3) := by decide +kernel
theorem dX11_numbers_44 : decode cX11_numbers 44 = .ok (.bipush (-3), 2) := by decide +kernel
theorem dX11_numbers_46 : decode cX11_numbers 46 = .ok (.ireturn, 1) := by decide +kernel
theorem dX11_numbers_47 : decode cX11_numbers 47 = .ok (.aload_n 0, 1) := by decide +kernel
theorem dX11_numbers_48 : decode cX11_numbers 48 = .ok (.getfield 52, 3) := by decide +kernel
theorem dX11_numbers_51 : decode cX11_numbers 51 = .ok (.iload_n 1, 1) := by decide +kernel
theorem dX11_numbers_52 : decode cX11_numbers 52 = .ok (.iload_n 2, 1) := by decide +kernel
theorem dX11_numbers_53 : decode cX11_numbers 53 = .ok (.iastore, 1) := by decide +kernel
theorem dX11_numbers_54 : decode cX11_numbers 54 = .ok (.aload_n 0, 1) := by decide +kernel
theorem dX11_numbers_55 : decode cX11_numbers 55 = .ok (.getfield 55, 3) := by decide +kernel
theorem dX11_numbers_58 : decode cX11_numbers 58 = .ok (.iload_n 1, 1) := by decide +kernel
theorem dX11_numbers_59 : decode cX11_numbers 59 = .ok (.iload_n 3, 1) := by decide +kernel
theorem dX11_numbers_60 : decode cX11_numbers 60 = .ok (.iastore, 1) := by decide +kernel
theorem dX11_numbers_61 : decode cX11_numbers 61 = .ok (.iconst 0, 1) := by decide +kernel
theorem dX11_numbers_62 : decode cX11_numbers 62 = .ok (.istore 4, 2) := by decide +kernel
theorem dX11_numbers_64 : decode cX11_numbers 64 = .ok (.iload 4, 2) := by decide +kernel
theorem dX11_numbers_66 : decode cX11_numbers 66 = .ok (.iload_n 3, 1) := by decide +kernel
theorem dX11_numbers_67 : decode cX11_numbers 67 = .ok (.if_icmp .ge 22, 3) := by decide +kernel
theorem dX11_numbers_70 : decode cX11_numbers 70 = .ok (.aload_n 0, 1) := by decide +kernel
theorem dX11_numbers_71 : decode cX11_numbers 71 = .ok (.getfield 58, 3) := by decide +kernel
theorem dX11_numbers_74 : decode cX11_numbers 74 = .ok (.bipush 40, 2) := by decide +kernel
theorem dX11_numbers_76 : decode cX11_numbers 76 = .ok (.iload_n 1, 1) := by decide +kernel
theorem dX11_numbers_77 : decode cX11_numbers 77 = .ok (.imul, 1) := by decide +kernel
theorem dX11_numbers_78 : decode cX11_numbers 78 = .ok (.iload 4, 2) := by decide +kernel
theorem dX11_numbers_80 : decode cX11_numbers 80 = .ok (.iadd, 1) := by decide +kernel
theorem dX11_numbers_81 : decode cX11_numbers 81 = .ok (.lconst 0, 1) := by decide +kernel
theorem dX11_numbers_82 : decode cX11_numbers 82 = .ok (.lastore, 1) := by decide +kernel
theorem dX11_numbers_83 : decode cX11_numbers 83 = .ok (.iinc 4 1, 3) := by decide +kernel
theorem dX11_numbers_86 : decode cX11_numbers 86 = .ok (.goto (-22), 3) := by decide +kernel
theorem dX11_numbers_89 : decode cX11_numbers 89 = .ok (.iconst 0, 1) := by decide +kernel
theorem dX11_numbers_90 : decode cX11_numbers 90 = .ok (.ireturn, 1) := by decide +kernel
theorem dX11_put_0 : decode cX11_put 0 = .ok (.aload_n 0, 1) := by decide +kernel
theorem dX11_put_1 : decode cX11_put 1 = .ok (.iconst 0, 1) := by decide +kernel
theorem dX11_put_2 : decode cX11_put 2 = .ok (.putfield 1, 3) := by decide +kernel
theorem dX11_put_5 : decode cX11_put 5 = .ok (.iload_n 1, 1) := by decide +kernel
theorem dX11_put_6 : decode cX11_put 6 = .ok (.i2l, 1) := by decide +kernel
theorem dX11_put_7 : decode cX11_put 7 = .ok (.lconst 0, 1) := by decide +kernel
theorem dX11_put_8 : decode cX11_put 8 = .ok (.ldc2_w 194, 3) := by decide +kernel
theorem dX11_put_11 : decode cX11_put 11 = .ok (.invokestatic 125, 3) := by decide +kernel
theorem dX11_put_14 : decode cX11_put 14 = .ok (.ifCond .ne 7, 3) := by decide +kernel
theorem dX11_put_17 : decode cX11_put 17 = .ok (.ldc2_w 255, 3) := by decide +kernel
theorem dX11_put_20 : decode cX11_put 20 = .ok (.lreturn, 1) := by decide +kernel
theorem dX11_put_21 : decode cX11_put 21 = .ok (.aload_n 0, 1) := by decide +kernel
theorem dX11_put_22 : decode cX11_put 22 = .ok (.getfield 52, 3) := by decide +kernel
theorem dX11_put_25 : decode cX11_put 25 = .ok (.iload_n 1, 1) := by decide +kernel
theorem dX11_put_26 : decode cX11_put 26 = .ok (.iaload, 1) := by decide +kernel
theorem dX11_put_27 : decode cX11_put 27 = .ok (.iconst (-1), 1) := by decide +kernel
theorem dX11_put_28 : decode cX11_put 28 = .ok (.if_icmp .ne 7, 3) := by decide +kernel
theorem dX11_put_31 : decode cX11_put 31 = .ok (.ldc2_w 329, 3) := by decide +kernel
theorem dX11_put_34 : decode cX11_put 34 = .ok (.lreturn, 1) := by decide +kernel
theorem dX11_put_35 : decode cX11_put 35 = .ok (.iload_n 2, 1) := by decide +kernel
theorem dX11_put_36 : decode cX11_put 36 = .ok (.i2l, 1) := by decide +kernel
theorem dX11_put_37 : decode cX11_put 37 = .ok (.lconst 0, 1) := by decide +kernel
theorem dX11_put_38 : decode cX11_put 38 = .ok (.aload_n 0, 1) := by decide +kernel
theorem dX11_put_39 : decode cX11_put 39 = .ok (.getfield 55, 3) := by decide +kernel
theorem dX11_put_42 : decode cX11_put 42 = .ok (.iload_n 1, 1) := by decide +kernel
theorem dX11_put_43 : decode cX11_put 43 = .ok (.iaload, 1) := by decide +kernel
theorem dX11_put_44 : decode cX11_put 44 = .ok (.iconst 1, 1) := by decide +kernel
theorem dX11_put_45 : decode cX11_put 45 = .ok (.isub, 1) := by decide +kernel
theorem dX11_put_46 : decode cX11_put 46 = .ok (.i2l, 1) := by decide +kernel
theorem dX11_put_47 : decode cX11_put 47 = .ok (.invokestatic 125, 3) := by decide +kernel
theorem dX11_put_50 : decode cX11_put 50 = .ok (.ifCond .ne 7, 3) := by decide +kernel
theorem dX11_put_53 : decode cX11_put 53 = .ok (.ldc2_w 331, 3) := by decide +kernel
theorem dX11_put_56 : decode cX11_put 56 = .ok (.lreturn, 1) := by decide +kernel
theorem dX11_put_57 : decode cX11_put 57 = .ok (.aload_n 0, 1) := by decide +kernel
theorem dX11_put_58 : decode cX11_put 58 = .ok (.getfield 58, 3) := by decide +kernel
theorem dX11_put_61 : decode cX11_put 61 = .ok (.bipush 40, 2) := by decide +kernel
theorem dX11_put_63 : decode cX11_put 63 = .ok (.iload_n 1, 1) := by decide +kernel
theorem dX11_put_64 : decode cX11_put 64 = .ok (.imul, 1) := by decide +kernel
theorem dX11_put_65 : decode cX11_put 65 = .ok (.iload_n 2, 1) := by decide +kernel
theorem dX11_put_66 : decode cX11_put 66 = .ok (.iadd, 1) := by decide +kernel
theorem dX11_put_67 : decode cX11_put 67 = .ok (.lload_n 3, 1) := by decide +kernel
theorem dX11_put_68 : decode cX11_put 68 = .ok (.aload_n 0, 1) := by decide +kernel
theorem dX11_put_69 : decode cX11_put 69 = .ok (.getfield 52, 3) := by decide +kernel
theorem dX11_put_72 : decode cX11_put 72 = .ok (.iload_n 1, 1) := by decide +kernel
theorem dX11_put_73 : decode cX11_put 73 = .ok (.iaload, 1) := by decide +kernel
theorem dX11_put_74 : decode cX11_put 74 = .ok (.invokestatic 333, 3) := by decide +kernel
theorem dX11_put_77 : decode cX11_put 77 = .ok (.lastore, 1) := by decide +kernel
theorem dX11_put_78 : decode cX11_put 78 = .ok (.aload_n 0, 1) := by decide +kernel
theorem dX11_put_79 : decode cX11_put 79 = .ok (.getfield 58, 3) := by decide +kernel
theorem dX11_put_82 : decode cX11_put 82 = .ok (.bipush 40, 2) := by decide +kernel
theorem dX11_put_84 : decode cX11_put 84 = .ok (.iload_n 1, 1) := by decide +kernel
theorem dX11_put_85 : decode cX11_put 85 = .ok (.imul, 1) := by decide +kernel
theorem dX11_put_86 : decode cX11_put 86 = .ok (.iload_n 2, 1) := by decide +kernel
theorem dX11_put_87 : decode cX11_put 87 = .ok (.iadd, 1) := by decide +kernel
theorem dX11_put_88 : decode cX11_put 88 = .ok (.laload, 1) := by decide +kernel
theorem dX11_put_89 : decode cX11_put 89 = .ok (.lreturn, 1) := by decide +kernel
theorem dX11_copy_0 : decode cX11_copy 0 = .ok (.aload_n 0, 1) := by decide +kernel
theorem dX11_copy_1 : decode cX11_copy 1 = .ok (.iconst 0, 1) := by decide +kernel
theorem dX11_copy_2 : decode cX11_copy 2 = .ok (.putfield 1, 3) := by decide +kernel
theorem dX11_copy_5 : decode cX11_copy 5 = .ok (.iload_n 1, 1) := by decide +kernel
theorem dX11_copy_6 : decode cX11_copy 6 = .ok (.i2l, 1) := by decide +kernel
theorem dX11_copy_7 : decode cX11_copy 7 = .ok (.lconst 0, 1) := by decide +kernel
theorem dX11_copy_8 : decode cX11_copy 8 = .ok (.ldc2_w 194, 3) := by decide +kernel
theorem dX11_copy_11 : decode cX11_copy 11 = .ok (.invokestatic 125, 3) := by decide +kernel
theorem dX11_copy_14 : decode cX11_copy 14 = .ok (.ifCond .ne 6, 3) := by decide +kernel
theorem dX11_copy_17 : decode cX11_copy 17 = .ok (.bipush (-2), 2) := by decide +kernel
theorem dX11_copy_19 : decode cX11_copy 19 = .ok (.ireturn, 1) := by decide +kernel
theorem dX11_copy_20 : decode cX11_copy 20 = .ok (.aload_n 0, 1) := by decide +kernel
theorem dX11_copy_21 : decode cX11_copy 21 = .ok (.getfield 52, 3) := by decide +kernel
theorem dX11_copy_24 : decode cX11_copy 24 = .ok (.iload_n 1, 1) := by decide +kernel
theorem dX11_copy_25 : decode cX11_copy 25 = .ok (.iaload, 1) := by decide +kernel
theorem dX11_copy_26 : decode cX11_copy 26 = .ok (.iconst (-1), 1) := by decide +kernel
theorem dX11_copy_27 : decode cX11_copy 27 = .ok (.if_icmp .ne 6, 3) := by decide +kernel
theorem dX11_copy_30 : decode cX11_copy 30 = .ok (.bipush (-6), 2) := by decide +kernel
theorem dX11_copy_32 : decode cX11_copy 32 = .ok (.ireturn, 1) := by decide +kernel
theorem dX11_copy_33 : decode cX11_copy 33 = .ok (.aload_n 0, 1) := by decide +kernel
theorem dX11_copy_34 : decode cX11_copy 34 = .ok (.getfield 13, 3) := by decide +kernel
theorem dX11_copy_37 : decode cX11_copy 37 = .ok (.iconst 1, 1) := by decide +kernel
theorem dX11_copy_38 : decode cX11_copy 38 = .ok (.iaload, 1) := by decide +kernel
theorem dX11_copy_39 : decode cX11_copy 39 = .ok (.aload_n 0, 1) := by decide +kernel
theorem dX11_copy_40 : decode cX11_copy 40 = .ok (.getfield 55, 3) := by decide +kernel
theorem dX11_copy_43 : decode cX11_copy 43 = .ok (.iload_n 1, 1) := by decide +kernel
theorem dX11_copy_44 : decode cX11_copy 44 = .ok (.iaload, 1) := by decide +kernel
theorem dX11_copy_45 : decode cX11_copy 45 = .ok (.if_icmp .ge 12, 3) := by decide +kernel
theorem dX11_copy_48 : decode cX11_copy 48 = .ok (.aload_n 0, 1) := by decide +kernel
theorem dX11_copy_49 : decode cX11_copy 49 = .ok (.getfield 13, 3) := by decide +kernel
theorem dX11_copy_52 : decode cX11_copy 52 = .ok (.iconst 1, 1) := by decide +kernel
theorem dX11_copy_53 : decode cX11_copy 53 = .ok (.iaload, 1) := by decide +kernel
theorem dX11_copy_54 : decode cX11_copy 54 = .ok (.goto 9, 3) := by decide +kernel
theorem dX11_copy_57 : decode cX11_copy 57 = .ok (.aload_n 0, 1) := by decide +kernel
theorem dX11_copy_58 : decode cX11_copy 58 = .ok (.getfield 55, 3) := by decide +kernel
theorem dX11_copy_61 : decode cX11_copy 61 = .ok (.iload_n 1, 1) := by decide +kernel
theorem dX11_copy_62 : decode cX11_copy 62 = .ok (.iaload, 1) := by decide +kernel
theorem dX11_copy_63 : decode cX11_copy 63 = .ok (.istore_n 2, 1) := by decide +kernel
theorem dX11_copy_64 : decode cX11_copy 64 = .ok (.iconst 0, 1) := by decide +kernel
theorem dX11_copy_65 : decode cX11_copy 65 = .ok (.istore_n 3, 1) := by decide +kernel
theorem dX11_copy_66 : decode cX11_copy 66 = .ok (.iload_n 3, 1) := by decide +kernel
theorem dX11_copy_67 : decode cX11_copy 67 = .ok (.iload_n 2, 1) := by decide +kernel
theorem dX11_copy_68 : decode cX11_copy 68 = .ok (.if_icmp .ge 35, 3) := by decide +kernel
theorem dX11_copy_71 : decode cX11_copy 71 = .ok (.aload_n 0, 1) := by decide +kernel
theorem dX11_copy_72 : decode cX11_copy 72 = .ok (.getfield 58, 3) := by decide +kernel
theorem dX11_copy_75 : decode cX11_copy 75 = .ok (.bipush 40, 2) := by decide +kernel
theorem dX11_copy_77 : decode cX11_copy 77 = .ok (.iload_n 1, 1) := by decide +kernel
theorem dX11_copy_78 : decode cX11_copy 78 = .ok (.imul, 1) := by decide +kernel
theorem dX11_copy_79 : decode cX11_copy 79 = .ok (.iload_n 3, 1) := by decide +kernel
theorem dX11_copy_80 : decode cX11_copy 80 = .ok (.iadd, 1) := by decide +kernel
theorem dX11_copy_81 : decode cX11_copy 81 = .ok (.aload_n 0, 1) := by decide +kernel
theorem dX11_copy_82 : decode cX11_copy 82 = .ok (.iload_n 3, 1) := by decide +kernel
theorem dX11_copy_83 : decode cX11_copy 83 = .ok (.invokevirtual 171, 3) := by decide +kernel
theorem dX11_copy_86 : decode cX11_copy 86 = .ok (.i2l, 1) := by decide +kernel
theorem dX11_copy_87 : decode cX11_copy 87 = .ok (.aload_n 0, 1) := by decide +kernel
theorem dX11_copy_88 : decode cX11_copy 88 = .ok (.getfield 52, 3) := by decide +kernel
theorem dX11_copy_91 : decode cX11_copy 91 = .ok (.iload_n 1, 1) := by decide +kernel
theorem dX11_copy_92 : decode cX11_copy 92 = .ok (.iaload, 1) := by decide +kernel
theorem dX11_copy_93 : decode cX11_copy 93 = .ok (.invokestatic 333, 3) := by decide +kernel
theorem dX11_copy_96 : decode cX11_copy 96 = .ok (.lastore, 1) := by decide +kernel
theorem dX11_copy_97 : decode cX11_copy 97 = .ok (.iinc 3 1, 3) := by decide +kernel
theorem dX11_copy_100 : decode cX11_copy 100 = .ok (.goto (-34), 3) := by decide +kernel
theorem dX11_copy_103 : decode cX11_copy 103 = .ok (.iload_n 2, 1) := by decide +kernel
theorem dX11_copy_104 : decode cX11_copy 104 = .ok (.ireturn, 1) := by decide +kernel
theorem dX11_image_0 : decode cX11_image 0 = .ok (.aload_n 0, 1) := by decide +kernel
theorem dX11_image_1 : decode cX11_image 1 = .ok (.iconst 0, 1) := by decide +kernel
theorem dX11_image_2 : decode cX11_image 2 = .ok (.putfield 1, 3) := by decide +kernel
theorem dX11_image_5 : decode cX11_image 5 = .ok (.iload_n 1, 1) := by decide +kernel
theorem dX11_image_6 : decode cX11_image 6 = .ok (.i2l, 1) := by decide +kernel
theorem dX11_image_7 : decode cX11_image 7 = .ok (.lconst 0, 1) := by decide +kernel
theorem dX11_image_8 : decode cX11_image 8 = .ok (.lconst 1, 1) := by decide +kernel
theorem dX11_image_9 : decode cX11_image 9 = .ok (.invokestatic 125, 3) := by decide +kernel
theorem dX11_image_12 : decode cX11_image 12 = .ok (.ifCond .ne 6, 3) := by decide +kernel
theorem dX11_image_15 : decode cX11_image 15 = .ok (.bipush (-2), 2) := by decide +kernel
theorem dX11_image_17 : decode cX11_image 17 = .ok (.ireturn, 1) := by decide +kernel
theorem dX11_image_18 : decode cX11_image 18 = .ok (.iconst 0, 1) := by decide +kernel
theorem dX11_image_19 : decode cX11_image 19 = .ok (.istore_n 2, 1) := by decide +kernel
theorem dX11_image_20 : decode cX11_image 20 = .ok (.iload_n 2, 1) := by decide +kernel
theorem dX11_image_21 : decode cX11_image 21 = .ok (.bipush 110, 2) := by decide +kernel
theorem dX11_image_23 : decode cX11_image 23 = .ok (.if_icmp .ge 28, 3) := by decide +kernel
theorem dX11_image_26 : decode cX11_image 26 = .ok (.aload_n 0, 1) := by decide +kernel
theorem dX11_image_27 : decode cX11_image 27 = .ok (.getfield 13, 3) := by decide +kernel
theorem dX11_image_30 : decode cX11_image 30 = .ok (.bipush 110, 2) := by decide +kernel
theorem dX11_image_32 : decode cX11_image 32 = .ok (.iload_n 1, 1) := by decide +kernel
theorem dX11_image_33 : decode cX11_image 33 = .ok (.iconst 1, 1) := by decide +kernel
theorem dX11_image_34 : decode cX11_image 34 = .ok (.iadd, 1) := by decide +kernel
theorem dX11_image_35 : decode cX11_image 35 = .ok (.imul, 1) := by decide +kernel
theorem dX11_image_36 : decode cX11_image 36 = .ok (.iload_n 2, 1) := by decide +kernel
