theorem dX11_list_44 : decode cX11_list 44 = .ok (.getfield 13, 3) := by decide +kernel
theorem dX11_list_47 : decode cX11_list 47 = .ok (.bipush 29, 2) := by decide +kernel
theorem dX11_list_49 : decode cX11_list 49 = .ok (.iload_n 1, 1) := by decide +kernel
theorem dX11_list_50 : decode cX11_list 50 = .ok (.iadd, 1) := by decide +kernel
theorem dX11_list_51 : decode cX11_list 51 = .ok (.iaload, 1) := by decide +kernel
theorem dX11_list_52 : decode cX11_list 52 = .ok (.ireturn, 1) := by decide +kernel
theorem dX11_list_53 : decode cX11_list 53 = .ok (.iload_n 2, 1) := by decide +kernel
theorem dX11_list_54 : decode cX11_list 54 = .ok (.iconst 2, 1) := by decide +kernel
theorem dX11_list_55 : decode cX11_list 55 = .ok (.if_icmp .ne 9, 3) := by decide +kernel
theorem dX11_list_58 : decode cX11_list 58 = .ok (.aload_n 0, 1) := by decide +kernel
theorem dX11_list_59 : decode cX11_list 59 = .ok (.iload_n 1, 1) := by decide +kernel
theorem dX11_list_60 : decode cX11_list 60 = .ok (.invokevirtual 186, 3) := by decide +kernel
theorem dX11_list_63 : decode cX11_list 63 = .ok (.ireturn, 1) := by decide +kernel
theorem dX11_list_64 : decode cX11_list 64 = .ok (.iload_n 2, 1) := by decide +kernel
theorem dX11_list_65 : decode cX11_list 65 = .ok (.iconst 3, 1) := by decide +kernel
theorem dX11_list_66 : decode cX11_list 66 = .ok (.if_icmp .ne 33, 3) := by decide +kernel
theorem dX11_list_69 : decode cX11_list 69 = .ok (.aload_n 0, 1) := by decide +kernel
theorem dX11_list_70 : decode cX11_list 70 = .ok (.getfield 13, 3) := by decide +kernel
theorem dX11_list_73 : decode cX11_list 73 = .ok (.bipush 6, 2) := by decide +kernel
theorem dX11_list_75 : decode cX11_list 75 = .ok (.iaload, 1) := by decide +kernel
theorem dX11_list_76 : decode cX11_list 76 = .ok (.ifCond .ne 7, 3) := by decide +kernel
theorem dX11_list_79 : decode cX11_list 79 = .ok (.iconst (-1), 1) := by decide +kernel
theorem dX11_list_80 : decode cX11_list 80 = .ok (.goto 18, 3) := by decide +kernel
theorem dX11_list_83 : decode cX11_list 83 = .ok (.aload_n 0, 1) := by decide +kernel
theorem dX11_list_84 : decode cX11_list 84 = .ok (.iload_n 1, 1) := by decide +kernel
theorem dX11_list_85 : decode cX11_list 85 = .ok (.invokevirtual 171, 3) := by decide +kernel
theorem dX11_list_88 : decode cX11_list 88 = .ok (.aload_n 0, 1) := by decide +kernel
theorem dX11_list_89 : decode cX11_list 89 = .ok (.getfield 13, 3) := by decide +kernel
theorem dX11_list_92 : decode cX11_list 92 = .ok (.bipush 6, 2) := by decide +kernel
theorem dX11_list_94 : decode cX11_list 94 = .ok (.iaload, 1) := by decide +kernel
theorem dX11_list_95 : decode cX11_list 95 = .ok (.invokestatic 162, 3) := by decide +kernel
theorem dX11_list_98 : decode cX11_list 98 = .ok (.ireturn, 1) := by decide +kernel
theorem dX11_list_99 : decode cX11_list 99 = .ok (.iconst 0, 1) := by decide +kernel
theorem dX11_list_100 : decode cX11_list 100 = .ok (.istore_n 3, 1) := by decide +kernel
theorem dX11_list_101 : decode cX11_list 101 = .ok (.aload_n 0, 1) := by decide +kernel
theorem dX11_list_102 : decode cX11_list 102 = .ok (.iload_n 3, 1) := by decide +kernel
theorem dX11_list_103 : decode cX11_list 103 = .ok (.invokevirtual 171, 3) := by decide +kernel
theorem dX11_list_106 : decode cX11_list 106 = .ok (.aload_n 0, 1) := by decide +kernel
theorem dX11_list_107 : decode cX11_list 107 = .ok (.iload_n 1, 1) := by decide +kernel
theorem dX11_list_108 : decode cX11_list 108 = .ok (.invokevirtual 171, 3) := by decide +kernel
theorem dX11_list_111 : decode cX11_list 111 = .ok (.if_icmp .eq 9, 3) := by decide +kernel
theorem dX11_list_114 : decode cX11_list 114 = .ok (.iinc 3 1, 3) := by decide +kernel
theorem dX11_list_117 : decode cX11_list 117 = .ok (.goto (-16), 3) := by decide +kernel
theorem dX11_list_120 : decode cX11_list 120 = .ok (.iload_n 3, 1) := by decide +kernel
theorem dX11_list_121 : decode cX11_list 121 = .ok (.ireturn, 1) := by decide +kernel
theorem dX11_keeps_0 : decode cX11_keeps 0 = .ok (.iconst 0, 1) := by decide +kernel
theorem dX11_keeps_1 : decode cX11_keeps 1 = .ok (.istore_n 1, 1) := by decide +kernel
theorem dX11_keeps_2 : decode cX11_keeps 2 = .ok (.iload_n 1, 1) := by decide +kernel
theorem dX11_keeps_3 : decode cX11_keeps 3 = .ok (.bipush 110, 2) := by decide +kernel
theorem dX11_keeps_5 : decode cX11_keeps 5 = .ok (.if_icmp .ge 21, 3) := by decide +kernel
theorem dX11_keeps_8 : decode cX11_keeps 8 = .ok (.aload_n 0, 1) := by decide +kernel
theorem dX11_keeps_9 : decode cX11_keeps 9 = .ok (.getfield 30, 3) := by decide +kernel
theorem dX11_keeps_12 : decode cX11_keeps 12 = .ok (.iload_n 1, 1) := by decide +kernel
theorem dX11_keeps_13 : decode cX11_keeps 13 = .ok (.aload_n 0, 1) := by decide +kernel
theorem dX11_keeps_14 : decode cX11_keeps 14 = .ok (.getfield 13, 3) := by decide +kernel
theorem dX11_keeps_17 : decode cX11_keeps 17 = .ok (.iload_n 1, 1) := by decide +kernel
theorem dX11_keeps_18 : decode cX11_keeps 18 = .ok (.iaload, 1) := by decide +kernel
theorem dX11_keeps_19 : decode cX11_keeps 19 = .ok (.iastore, 1) := by decide +kernel
theorem dX11_keeps_20 : decode cX11_keeps 20 = .ok (.iinc 1 1, 3) := by decide +kernel
theorem dX11_keeps_23 : decode cX11_keeps 23 = .ok (.goto (-21), 3) := by decide +kernel
theorem dX11_keeps_26 : decode cX11_keeps 26 = .ok (.return_, 1) := by decide +kernel
theorem dX11_isAgain_0 : decode cX11_isAgain 0 = .ok (.iconst 0, 1) := by decide +kernel
theorem dX11_isAgain_1 : decode cX11_isAgain 1 = .ok (.istore_n 1, 1) := by decide +kernel
theorem dX11_isAgain_2 : decode cX11_isAgain 2 = .ok (.iload_n 1, 1) := by decide +kernel
theorem dX11_isAgain_3 : decode cX11_isAgain 3 = .ok (.bipush 110, 2) := by decide +kernel
theorem dX11_isAgain_5 : decode cX11_isAgain 5 = .ok (.if_icmp .ge 21, 3) := by decide +kernel
theorem dX11_isAgain_8 : decode cX11_isAgain 8 = .ok (.aload_n 0, 1) := by decide +kernel
theorem dX11_isAgain_9 : decode cX11_isAgain 9 = .ok (.getfield 13, 3) := by decide +kernel
theorem dX11_isAgain_12 : decode cX11_isAgain 12 = .ok (.iload_n 1, 1) := by decide +kernel
theorem dX11_isAgain_13 : decode cX11_isAgain 13 = .ok (.aload_n 0, 1) := by decide +kernel
theorem dX11_isAgain_14 : decode cX11_isAgain 14 = .ok (.getfield 30, 3) := by decide +kernel
theorem dX11_isAgain_17 : decode cX11_isAgain 17 = .ok (.iload_n 1, 1) := by decide +kernel
theorem dX11_isAgain_18 : decode cX11_isAgain 18 = .ok (.iaload, 1) := by decide +kernel
theorem dX11_isAgain_19 : decode cX11_isAgain 19 = .ok (.iastore, 1) := by decide +kernel
theorem dX11_isAgain_20 : decode cX11_isAgain 20 = .ok (.iinc 1 1, 3) := by decide +kernel
theorem dX11_isAgain_23 : decode cX11_isAgain 23 = .ok (.goto (-21), 3) := by decide +kernel
theorem dX11_isAgain_26 : decode cX11_isAgain 26 = .ok (.return_, 1) := by decide +kernel
theorem dX11_writesAll_0 : decode cX11_writesAll 0 = .ok (.aload_n 0, 1) := by decide +kernel
theorem dX11_writesAll_1 : decode cX11_writesAll 1 = .ok (.iconst 0, 1) := by decide +kernel
theorem dX11_writesAll_2 : decode cX11_writesAll 2 = .ok (.putfield 189, 3) := by decide +kernel
theorem dX11_writesAll_5 : decode cX11_writesAll 5 = .ok (.iconst 0, 1) := by decide +kernel
theorem dX11_writesAll_6 : decode cX11_writesAll 6 = .ok (.istore_n 2, 1) := by decide +kernel
theorem dX11_writesAll_7 : decode cX11_writesAll 7 = .ok (.iload_n 2, 1) := by decide +kernel
theorem dX11_writesAll_8 : decode cX11_writesAll 8 = .ok (.aload_n 0, 1) := by decide +kernel
theorem dX11_writesAll_9 : decode cX11_writesAll 9 = .ok (.getfield 55, 3) := by decide +kernel
theorem dX11_writesAll_12 : decode cX11_writesAll 12 = .ok (.iload_n 1, 1) := by decide +kernel
theorem dX11_writesAll_13 : decode cX11_writesAll 13 = .ok (.iaload, 1) := by decide +kernel
theorem dX11_writesAll_14 : decode cX11_writesAll 14 = .ok (.if_icmp .ge 100, 3) := by decide +kernel
theorem dX11_writesAll_17 : decode cX11_writesAll 17 = .ok (.aload_n 0, 1) := by decide +kernel
theorem dX11_writesAll_18 : decode cX11_writesAll 18 = .ok (.getfield 58, 3) := by decide +kernel
theorem dX11_writesAll_21 : decode cX11_writesAll 21 = .ok (.bipush 40, 2) := by decide +kernel
theorem dX11_writesAll_23 : decode cX11_writesAll 23 = .ok (.iload_n 1, 1) := by decide +kernel
theorem dX11_writesAll_24 : decode cX11_writesAll 24 = .ok (.imul, 1) := by decide +kernel
theorem dX11_writesAll_25 : decode cX11_writesAll 25 = .ok (.iload_n 2, 1) := by decide +kernel
theorem dX11_writesAll_26 : decode cX11_writesAll 26 = .ok (.iadd, 1) := by decide +kernel
theorem dX11_writesAll_27 : decode cX11_writesAll 27 = .ok (.laload, 1) := by decide +kernel
theorem dX11_writesAll_28 : decode cX11_writesAll 28 = .ok (.lstore_n 3, 1) := by decide +kernel
theorem dX11_writesAll_29 : decode cX11_writesAll 29 = .ok (.aload_n 0, 1) := by decide +kernel
theorem dX11_writesAll_30 : decode cX11_writesAll 30 = .ok (.lload_n 3, 1) := by decide +kernel
theorem dX11_writesAll_31 : decode cX11_writesAll 31 = .ok (.lconst 0, 1) := by decide +kernel
theorem dX11_writesAll_32 : decode cX11_writesAll 32 = .ok (.lcmp, 1) := by decide +kernel
theorem dX11_writesAll_33 : decode cX11_writesAll 33 = .ok (.ifCond .lt 27, 3) := by decide +kernel
theorem dX11_writesAll_36 : decode cX11_writesAll 36 = .ok (.aload_n 0, 1) := by decide +kernel
theorem dX11_writesAll_37 : decode cX11_writesAll 37 = .ok (.lload_n 3, 1) := by decide +kernel
theorem dX11_writesAll_38 : decode cX11_writesAll 38 = .ok (.ldc2_w 192, 3) := by decide +kernel
theorem dX11_writesAll_41 : decode cX11_writesAll 41 = .ok (.ldiv, 1) := by decide +kernel
theorem dX11_writesAll_42 : decode cX11_writesAll 42 = .ok (.invokevirtual 145, 3) := by decide +kernel
theorem dX11_writesAll_45 : decode cX11_writesAll 45 = .ok (.ifCond .eq 15, 3) := by decide +kernel
theorem dX11_writesAll_48 : decode cX11_writesAll 48 = .ok (.lload_n 3, 1) := by decide +kernel
theorem dX11_writesAll_49 : decode cX11_writesAll 49 = .ok (.ldc2_w 192, 3) := by decide +kernel
theorem dX11_writesAll_52 : decode cX11_writesAll 52 = .ok (.lrem, 1) := by decide +kernel
theorem dX11_writesAll_53 : decode cX11_writesAll 53 = .ok (.ldc2_w 177, 3) := by decide +kernel
theorem dX11_writesAll_56 : decode cX11_writesAll 56 = .ok (.lcmp, 1) := by decide +kernel
theorem dX11_writesAll_57 : decode cX11_writesAll 57 = .ok (.ifCond .le 7, 3) := by decide +kernel
theorem dX11_writesAll_60 : decode cX11_writesAll 60 = .ok (.iconst 1, 1) := by decide +kernel
theorem dX11_writesAll_61 : decode cX11_writesAll 61 = .ok (.goto 19, 3) := by decide +kernel
theorem dX11_writesAll_64 : decode cX11_writesAll 64 = .ok (.aload_n 0, 1) := by decide +kernel
theorem dX11_writesAll_65 : decode cX11_writesAll 65 = .ok (.getfield 13, 3) := by decide +kernel
theorem dX11_writesAll_68 : decode cX11_writesAll 68 = .ok (.iconst 1, 1) := by decide +kernel
theorem dX11_writesAll_69 : decode cX11_writesAll 69 = .ok (.iaload, 1) := by decide +kernel
theorem dX11_writesAll_70 : decode cX11_writesAll 70 = .ok (.bipush 40, 2) := by decide +kernel
theorem dX11_writesAll_72 : decode cX11_writesAll 72 = .ok (.if_icmp .ne 7, 3) := by decide +kernel
theorem dX11_writesAll_75 : decode cX11_writesAll 75 = .ok (.iconst 2, 1) := by decide +kernel
theorem dX11_writesAll_76 : decode cX11_writesAll 76 = .ok (.goto 4, 3) := by decide +kernel
theorem dX11_writesAll_79 : decode cX11_writesAll 79 = .ok (.iconst 0, 1) := by decide +kernel
theorem dX11_writesAll_80 : decode cX11_writesAll 80 = .ok (.putfield 189, 3) := by decide +kernel
theorem dX11_writesAll_83 : decode cX11_writesAll 83 = .ok (.aload_n 0, 1) := by decide +kernel
theorem dX11_writesAll_84 : decode cX11_writesAll 84 = .ok (.getfield 189, 3) := by decide +kernel
theorem dX11_writesAll_87 : decode cX11_writesAll 87 = .ok (.ifCond .eq 5, 3) := by decide +kernel
theorem dX11_writesAll_90 : decode cX11_writesAll 90 = .ok (.iload_n 2, 1) := by decide +kernel
theorem dX11_writesAll_91 : decode cX11_writesAll 91 = .ok (.ireturn, 1) := by decide +kernel
theorem dX11_writesAll_92 : decode cX11_writesAll 92 = .ok (.aload_n 0, 1) := by decide +kernel
theorem dX11_writesAll_93 : decode cX11_writesAll 93 = .ok (.lload_n 3, 1) := by decide +kernel
theorem dX11_writesAll_94 : decode cX11_writesAll 94 = .ok (.l2i, 1) := by decide +kernel
theorem dX11_writesAll_95 : decode cX11_writesAll 95 = .ok (.sipush 10000, 3) := by decide +kernel
theorem dX11_writesAll_98 : decode cX11_writesAll 98 = .ok (.idiv, 1) := by decide +kernel
theorem dX11_writesAll_99 : decode cX11_writesAll 99 = .ok (.lload_n 3, 1) := by decide +kernel
theorem dX11_writesAll_100 : decode cX11_writesAll 100 = .ok (.l2i, 1) := by decide +kernel
theorem dX11_writesAll_101 : decode cX11_writesAll 101 = .ok (.sipush 10000, 3) := by decide +kernel
theorem dX11_writesAll_104 : decode cX11_writesAll 104 = .ok (.irem, 1) := by decide +kernel
theorem dX11_writesAll_105 : decode cX11_writesAll 105 = .ok (.invokevirtual 179, 3) := by decide +kernel
theorem dX11_writesAll_108 : decode cX11_writesAll 108 = .ok (.iinc 2 1, 3) := by decide +kernel
theorem dX11_writesAll_111 : decode cX11_writesAll 111 = .ok (.goto (-104), 3) := by decide +kernel
theorem dX11_writesAll_114 : decode cX11_writesAll 114 = .ok (.aload_n 0, 1) := by decide +kernel
theorem dX11_writesAll_115 : decode cX11_writesAll 115 = .ok (.getfield 55, 3) := by decide +kernel
theorem dX11_writesAll_118 : decode cX11_writesAll 118 = .ok (.iload_n 1, 1) := by decide +kernel
theorem dX11_writesAll_119 : decode cX11_writesAll 119 = .ok (.iaload, 1) := by decide +kernel
theorem dX11_writesAll_120 : decode cX11_writesAll 120 = .ok (.ireturn, 1) := by decide +kernel
theorem dX11_judge_0 : decode cX11_judge 0 = .ok (.aload_n 0, 1) := by decide +kernel
theorem dX11_judge_1 : decode cX11_judge 1 = .ok (.iconst 0, 1) := by decide +kernel
theorem dX11_judge_2 : decode cX11_judge 2 = .ok (.putfield 1, 3) := by decide +kernel
theorem dX11_judge_5 : decode cX11_judge 5 = .ok (.iload_n 1, 1) := by decide +kernel
theorem dX11_judge_6 : decode cX11_judge 6 = .ok (.i2l, 1) := by decide +kernel
theorem dX11_judge_7 : decode cX11_judge 7 = .ok (.lconst 0, 1) := by decide +kernel
theorem dX11_judge_8 : decode cX11_judge 8 = .ok (.ldc2_w 194, 3) := by decide +kernel
theorem dX11_judge_11 : decode cX11_judge 11 = .ok (.invokestatic 125, 3) := by decide +kernel
theorem dX11_judge_14 : decode cX11_judge 14 = .ok (.ifCond .eq 15, 3) := by decide +kernel
theorem dX11_judge_17 : decode cX11_judge 17 = .ok (.iload_n 2, 1) := by decide +kernel
theorem dX11_judge_18 : decode cX11_judge 18 = .ok (.i2l, 1) := by decide +kernel
theorem dX11_judge_19 : decode cX11_judge 19 = .ok (.lconst 0, 1) := by decide +kernel
theorem dX11_judge_20 : decode cX11_judge 20 = .ok (.ldc2_w 196, 3) := by decide +kernel
theorem dX11_judge_23 : decode cX11_judge 23 = .ok (.invokestatic 125, 3) := by decide +kernel
theorem dX11_judge_26 : decode cX11_judge 26 = .ok (.ifCond .ne 6, 3) := by decide +kernel
theorem dX11_judge_29 : decode cX11_judge 29 = .ok (.bipush (-2), 2) := by decide +kernel
theorem dX11_judge_31 : decode cX11_judge 31 = .ok (.ireturn, 1) := by decide +kernel
theorem dX11_judge_32 : decode cX11_judge 32 = .ok (.aload_n 0, 1) := by decide +kernel
theorem dX11_judge_33 : decode cX11_judge 33 = .ok (.getfield 52, 3) := by decide +kernel
theorem dX11_judge_36 : decode cX11_judge 36 = .ok (.iload_n 1, 1) := by decide +kernel
theorem dX11_judge_37 : decode cX11_judge 37 = .ok (.iaload, 1) := by decide +kernel
theorem dX11_judge_38 : decode cX11_judge 38 = .ok (.iconst (-1), 1) := by decide +kernel
theorem dX11_judge_39 : decode cX11_judge 39 = .ok (.if_icmp .ne 6, 3) := by decide +kernel
theorem dX11_judge_42 : decode cX11_judge 42 = .ok (.bipush (-6), 2) := by decide +kernel
theorem dX11_judge_44 : decode cX11_judge 44 = .ok (.ireturn, 1) := by decide +kernel
theorem dX11_judge_45 : decode cX11_judge 45 = .ok (.aload_n 0, 1) := by decide +kernel
theorem dX11_judge_46 : decode cX11_judge 46 = .ok (.invokevirtual 198, 3) := by decide +kernel
theorem dX11_judge_49 : decode cX11_judge 49 = .ok (.aload_n 0, 1) := by decide +kernel
theorem dX11_judge_50 : decode cX11_judge 50 = .ok (.iload_n 1, 1) := by decide +kernel
theorem dX11_judge_51 : decode cX11_judge 51 = .ok (.invokevirtual 201, 3) := by decide +kernel
theorem dX11_judge_54 : decode cX11_judge 54 = .ok (.istore_n 3, 1) := by decide +kernel
theorem dX11_judge_55 : decode cX11_judge 55 = .ok (.aload_n 0, 1) := by decide +kernel
theorem dX11_judge_56 : decode cX11_judge 56 = .ok (.aload_n 0, 1) := by decide +kernel
theorem dX11_judge_57 : decode cX11_judge 57 = .ok (.getfield 13, 3) := by decide +kernel
theorem dX11_judge_60 : decode cX11_judge 60 = .ok (.iconst 1, 1) := by decide +kernel
theorem dX11_judge_61 : decode cX11_judge 61 = .ok (.iaload, 1) := by decide +kernel
theorem dX11_judge_62 : decode cX11_judge 62 = .ok (.invokevirtual 174, 3) := by decide +kernel
theorem dX11_judge_65 : decode cX11_judge 65 = .ok (.istore 4, 2) := by decide +kernel
theorem dX11_judge_67 : decode cX11_judge 67 = .ok (.aload_n 0, 1) := by decide +kernel
theorem dX11_judge_68 : decode cX11_judge 68 = .ok (.invokevirtual 204, 3) := by decide +kernel
theorem dX11_judge_71 : decode cX11_judge 71 = .ok (.iload_n 2, 1) := by decide +kernel
theorem dX11_judge_72 : decode cX11_judge 72 = .ok (.ifCond .ne 18, 3) := by decide +kernel
theorem dX11_judge_75 : decode cX11_judge 75 = .ok (.aload_n 0, 1) := by decide +kernel
theorem dX11_judge_76 : decode cX11_judge 76 = .ok (.getfield 189, 3) := by decide +kernel
theorem dX11_judge_79 : decode cX11_judge 79 = .ok (.ifCond .ne 7, 3) := by decide +kernel
theorem dX11_judge_82 : decode cX11_judge 82 = .ok (.iconst (-1), 1) := by decide +kernel
theorem dX11_judge_83 : decode cX11_judge 83 = .ok (.goto 21, 3) := by decide +kernel
theorem dX11_judge_86 : decode cX11_judge 86 = .ok (.iload_n 3, 1) := by decide +kernel
theorem dX11_judge_87 : decode cX11_judge 87 = .ok (.goto 17, 3) := by decide +kernel
theorem dX11_judge_90 : decode cX11_judge 90 = .ok (.iload_n 2, 1) := by decide +kernel
theorem dX11_judge_91 : decode cX11_judge 91 = .ok (.iconst 1, 1) := by decide +kernel
theorem dX11_judge_92 : decode cX11_judge 92 = .ok (.if_icmp .ne 10, 3) := by decide +kernel
theorem dX11_judge_95 : decode cX11_judge 95 = .ok (.aload_n 0, 1) := by decide +kernel
theorem dX11_judge_96 : decode cX11_judge 96 = .ok (.getfield 189, 3) := by decide +kernel
theorem dX11_judge_99 : decode cX11_judge 99 = .ok (.goto 5, 3) := by decide +kernel
theorem dX11_judge_102 : decode cX11_judge 102 = .ok (.iload 4, 2) := by decide +kernel
theorem dX11_judge_104 : decode cX11_judge 104 = .ok (.ireturn, 1) := by decide +kernel
theorem dX11_perform_0 : decode cX11_perform 0 = .ok (.aload_n 0, 1) := by decide +kernel
theorem dX11_perform_1 : decode cX11_perform 1 = .ok (.iconst 0, 1) := by decide +kernel
theorem dX11_perform_2 : decode cX11_perform 2 = .ok (.putfield 1, 3) := by decide +kernel
theorem dX11_perform_5 : decode cX11_perform 5 = .ok (.iload_n 1, 1) := by decide +kernel
theorem dX11_perform_6 : decode cX11_perform 6 = .ok (.i2l, 1) := by decide +kernel
theorem dX11_perform_7 : decode cX11_perform 7 = .ok (.lconst 0, 1) := by decide +kernel
theorem dX11_perform_8 : decode cX11_perform 8 = .ok (.ldc2_w 194, 3) := by decide +kernel
theorem dX11_perform_11 : decode cX11_perform 11 = .ok (.invokestatic 125, 3) := by decide +kernel
theorem dX11_perform_14 : decode cX11_perform 14 = .ok (.ifCond .ne 6, 3) := by decide +kernel
theorem dX11_perform_17 : decode cX11_perform 17 = .ok (.bipush (-2), 2) := by decide +kernel
theorem dX11_perform_19 : decode cX11_perform 19 = .ok (.ireturn, 1) := by decide +kernel
theorem dX11_perform_20 : decode cX11_perform 20 = .ok (.aload_n 0, 1) := by decide +kernel
theorem dX11_perform_21 : decode cX11_perform 21 = .ok (.getfield 52, 3) := by decide +kernel
theorem dX11_perform_24 : decode cX11_perform 24 = .ok (.iload_n 1, 1) := by decide +kernel
theorem dX11_perform_25 : decode cX11_perform 25 = .ok (.iaload, 1) := by decide +kernel
theorem dX11_perform_26 : decode cX11_perform 26 = .ok (.iconst (-1), 1) := by decide +kernel
theorem dX11_perform_27 : decode cX11_perform 27 = .ok (.if_icmp .ne 8, 3) := by decide +kernel
theorem dX11_perform_30 : decode cX11_perform 30 = .ok (.bipush (-6), 2) := by decide +kernel
theorem dX11_perform_32 : decode cX11_perform 32 = .ok (.goto 8, 3) := by decide +kernel
theorem dX11_perform_35 : decode cX11_perform 35 = .ok (.aload_n 0, 1) := by decide +kernel
theorem dX11_perform_36 : decode cX11_perform 36 = .ok (.iload_n 1, 1) := by decide +kernel
theorem dX11_perform_37 : decode cX11_perform 37 = .ok (.invokevirtual 201, 3) := by decide +kernel
theorem dX11_perform_40 : decode cX11_perform 40 = .ok (.ireturn, 1) := by decide +kernel
theorem dX11_draw_0 : decode cX11_draw 0 = .ok (.aload_n 0, 1) := by decide +kernel
theorem dX11_draw_1 : decode cX11_draw 1 = .ok (.ldc 207, 2) := by decide +kernel
theorem dX11_draw_3 : decode cX11_draw 3 = .ok (.aload_n 0, 1) := by decide +kernel
theorem dX11_draw_4 : decode cX11_draw 4 = .ok (.getfield 208, 3) := by decide +kernel
theorem dX11_draw_7 : decode cX11_draw 7 = .ok (.imul, 1) := by decide +kernel
theorem dX11_draw_8 : decode cX11_draw 8 = .ok (.sipush 12345, 3) := by decide +kernel
theorem dX11_draw_11 : decode cX11_draw 11 = .ok (.iadd, 1) := by decide +kernel
theorem dX11_draw_12 : decode cX11_draw 12 = .ok (.putfield 208, 3) := by decide +kernel
theorem dX11_draw_15 : decode cX11_draw 15 = .ok (.aload_n 0, 1) := by decide +kernel
theorem dX11_draw_16 : decode cX11_draw 16 = .ok (.getfield 208, 3) := by decide +kernel
theorem dX11_draw_19 : decode cX11_draw 19 = .ok (.bipush 16, 2) := by decide +kernel
theorem dX11_draw_21 : decode cX11_draw 21 = .ok (.iushr, 1) := by decide +kernel
theorem dX11_draw_22 : decode cX11_draw 22 = .ok (.iload_n 1, 1) := by decide +kernel
theorem dX11_draw_23 : decode cX11_draw 23 = .ok (.irem, 1) := by decide +kernel
theorem dX11_draw_24 : decode cX11_draw 24 = .ok (.ireturn, 1) := by decide +kernel
theorem dX11_comes_0 : decode cX11_comes 0 = .ok (.aload_n 0, 1) := by decide +kernel
theorem dX11_comes_1 : decode cX11_comes 1 = .ok (.aload_n 0, 1) := by decide +kernel
theorem dX11_comes_2 : decode cX11_comes 2 = .ok (.getfield 13, 3) := by decide +kernel
theorem dX11_comes_5 : decode cX11_comes 5 = .ok (.iconst 0, 1) := by decide +kernel
theorem dX11_comes_6 : decode cX11_comes 6 = .ok (.iaload, 1) := by decide +kernel
theorem dX11_comes_7 : decode cX11_comes 7 = .ok (.invokevirtual 211, 3) := by decide +kernel
theorem dX11_comes_10 : decode cX11_comes 10 = .ok (.istore_n 1, 1) := by decide +kernel
theorem dX11_comes_11 : decode cX11_comes 11 = .ok (.aload_n 0, 1) := by decide +kernel
theorem dX11_comes_12 : decode cX11_comes 12 = .ok (.aload_n 0, 1) := by decide +kernel
theorem dX11_comes_13 : decode cX11_comes 13 = .ok (.getfield 13, 3) := by decide +kernel
theorem dX11_comes_16 : decode cX11_comes 16 = .ok (.iconst 1, 1) := by decide +kernel
theorem dX11_comes_17 : decode cX11_comes 17 = .ok (.iaload, 1) := by decide +kernel
theorem dX11_comes_18 : decode cX11_comes 18 = .ok (.invokevirtual 186, 3) := by decide +kernel
theorem dX11_comes_21 : decode cX11_comes 21 = .ok (.istore_n 2, 1) := by decide +kernel
theorem dX11_comes_22 : decode cX11_comes 22 = .ok (.aload_n 0, 1) := by decide +kernel
theorem dX11_comes_23 : decode cX11_comes 23 = .ok (.bipush 10, 2) := by decide +kernel
theorem dX11_comes_25 : decode cX11_comes 25 = .ok (.invokevirtual 211, 3) := by decide +kernel
theorem dX11_comes_28 : decode cX11_comes 28 = .ok (.aload_n 0, 1) := by decide +kernel
theorem dX11_comes_29 : decode cX11_comes 29 = .ok (.getfield 13, 3) := by decide +kernel
theorem dX11_comes_32 : decode cX11_comes 32 = .ok (.bipush 23, 2) := by decide +kernel
theorem dX11_comes_34 : decode cX11_comes 34 = .ok (.iload_n 1, 1) := by decide +kernel
theorem dX11_comes_35 : decode cX11_comes 35 = .ok (.iadd, 1) := by decide +kernel
theorem dX11_comes_36 : decode cX11_comes 36 = .ok (.iaload, 1) := by decide +kernel
theorem dX11_comes_37 : decode cX11_comes 37 = .ok (.if_icmp .ge 15, 3) := by decide +kernel
theorem dX11_comes_40 : decode cX11_comes 40 = .ok (.iload_n 2, 1) := by decide +kernel
theorem dX11_comes_41 : decode cX11_comes 41 = .ok (.iconst (-1), 1) := by decide +kernel
theorem dX11_comes_42 : decode cX11_comes 42 = .ok (.if_icmp .eq 10, 3) := by decide +kernel
theorem dX11_comes_45 : decode cX11_comes 45 = .ok (.aload_n 0, 1) := by decide +kernel
theorem dX11_comes_46 : decode cX11_comes 46 = .ok (.iload_n 1, 1) := by decide +kernel
theorem dX11_comes_47 : decode cX11_comes 47 = .ok (.iload_n 2, 1) := by decide +kernel
theorem dX11_comes_48 : decode cX11_comes 48 = .ok (.invokevirtual 179, 3) := by decide +kernel
theorem dX11_comes_51 : decode cX11_comes 51 = .ok (.return_, 1) := by decide +kernel
theorem dX11_comes_52 : decode cX11_comes 52 = .ok (.aload_n 0, 1) := by decide +kernel
theorem dX11_comes_53 : decode cX11_comes 53 = .ok (.iload_n 1, 1) := by decide +kernel
theorem dX11_comes_54 : decode cX11_comes 54 = .ok (.aload_n 0, 1) := by decide +kernel
theorem dX11_comes_55 : decode cX11_comes 55 = .ok (.getfield 13, 3) := by decide +kernel
theorem dX11_comes_58 : decode cX11_comes 58 = .ok (.bipush 6, 2) := by decide +kernel
theorem dX11_comes_60 : decode cX11_comes 60 = .ok (.iaload, 1) := by decide +kernel
theorem dX11_comes_61 : decode cX11_comes 61 = .ok (.invokevirtual 159, 3) := by decide +kernel
theorem dX11_comes_64 : decode cX11_comes 64 = .ok (.aload_n 0, 1) := by decide +kernel
theorem dX11_comes_65 : decode cX11_comes 65 = .ok (.getfield 13, 3) := by decide +kernel
theorem dX11_comes_68 : decode cX11_comes 68 = .ok (.bipush 17, 2) := by decide +kernel
theorem dX11_comes_70 : decode cX11_comes 70 = .ok (.iload_n 1, 1) := by decide +kernel
theorem dX11_comes_71 : decode cX11_comes 71 = .ok (.iadd, 1) := by decide +kernel
theorem dX11_comes_72 : decode cX11_comes 72 = .ok (.iaload, 1) := by decide +kernel
theorem dX11_comes_73 : decode cX11_comes 73 = .ok (.isub, 1) := by decide +kernel
theorem dX11_comes_74 : decode cX11_comes 74 = .ok (.aload_n 0, 1) := by decide +kernel
theorem dX11_comes_75 : decode cX11_comes 75 = .ok (.iconst 2, 1) := by decide +kernel
theorem dX11_comes_76 : decode cX11_comes 76 = .ok (.aload_n 0, 1) := by decide +kernel
theorem dX11_comes_77 : decode cX11_comes 77 = .ok (.getfield 13, 3) := by decide +kernel
theorem dX11_comes_80 : decode cX11_comes 80 = .ok (.bipush 17, 2) := by decide +kernel
theorem dX11_comes_82 : decode cX11_comes 82 = .ok (.iload_n 1, 1) := by decide +kernel
theorem dX11_comes_83 : decode cX11_comes 83 = .ok (.iadd, 1) := by decide +kernel
theorem dX11_comes_84 : decode cX11_comes 84 = .ok (.iaload, 1) := by decide +kernel
theorem dX11_comes_85 : decode cX11_comes 85 = .ok (.imul, 1) := by decide +kernel
theorem dX11_comes_86 : decode cX11_comes 86 = .ok (.iconst 1, 1) := by decide +kernel
theorem dX11_comes_87 : decode cX11_comes 87 = .ok (.iadd, 1) := by decide +kernel
theorem dX11_comes_88 : decode cX11_comes 88 = .ok (.invokevirtual 211, 3) := by decide +kernel
theorem dX11_comes_91 : decode cX11_comes 91 = .ok (.iadd, 1) := by decide +kernel
theorem dX11_comes_92 : decode cX11_comes 92 = .ok (.istore_n 3, 1) := by decide +kernel
theorem dX11_comes_93 : decode cX11_comes 93 = .ok (.aload_n 0, 1) := by decide +kernel
theorem dX11_comes_94 : decode cX11_comes 94 = .ok (.iload_n 1, 1) := by decide +kernel
theorem dX11_comes_95 : decode cX11_comes 95 = .ok (.iload_n 3, 1) := by decide +kernel
theorem dX11_comes_96 : decode cX11_comes 96 = .ok (.ifCond .ge 7, 3) := by decide +kernel
theorem dX11_comes_99 : decode cX11_comes 99 = .ok (.iconst 0, 1) := by decide +kernel
theorem dX11_comes_100 : decode cX11_comes 100 = .ok (.goto 17, 3) := by decide +kernel
theorem dX11_comes_103 : decode cX11_comes 103 = .ok (.iload_n 3, 1) := by decide +kernel
theorem dX11_comes_104 : decode cX11_comes 104 = .ok (.sipush 2000, 3) := by decide +kernel
theorem dX11_comes_107 : decode cX11_comes 107 = .ok (.if_icmp .le 9, 3) := by decide +kernel
theorem dX11_comes_110 : decode cX11_comes 110 = .ok (.sipush 2000, 3) := by decide +kernel
theorem dX11_comes_113 : decode cX11_comes 113 = .ok (.goto 4, 3) := by decide +kernel
theorem dX11_comes_116 : decode cX11_comes 116 = .ok (.iload_n 3, 1) := by decide +kernel
theorem dX11_comes_117 : decode cX11_comes 117 = .ok (.invokevirtual 179, 3) := by decide +kernel
theorem dX11_comes_120 : decode cX11_comes 120 = .ok (.return_, 1) := by decide +kernel
theorem dX11_come_0 : decode cX11_come 0 = .ok (.aload_n 0, 1) := by decide +kernel
theorem dX11_come_1 : decode cX11_come 1 = .ok (.iconst 0, 1) := by decide +kernel
theorem dX11_come_2 : decode cX11_come 2 = .ok (.putfield 1, 3) := by decide +kernel
theorem dX11_come_5 : decode cX11_come 5 = .ok (.iload_n 2, 1) := by decide +kernel
theorem dX11_come_6 : decode cX11_come 6 = .ok (.i2l, 1) := by decide +kernel
theorem dX11_come_7 : decode cX11_come 7 = .ok (.lconst 1, 1) := by decide +kernel
theorem dX11_come_8 : decode cX11_come 8 = .ok (.ldc2_w 214, 3) := by decide +kernel
theorem dX11_come_11 : decode cX11_come 11 = .ok (.invokestatic 125, 3) := by decide +kernel
theorem dX11_come_14 : decode cX11_come 14 = .ok (.ifCond .ne 6, 3) := by decide +kernel
theorem dX11_come_17 : decode cX11_come 17 = .ok (.bipush (-3), 2) := by decide +kernel
theorem dX11_come_19 : decode cX11_come 19 = .ok (.ireturn, 1) := by decide +kernel
theorem dX11_come_20 : decode cX11_come 20 = .ok (.aload_n 0, 1) := by decide +kernel
theorem dX11_come_21 : decode cX11_come 21 = .ok (.getfield 13, 3) := by decide +kernel
theorem dX11_come_24 : decode cX11_come 24 = .ok (.iconst 0, 1) := by decide +kernel
theorem dX11_come_25 : decode cX11_come 25 = .ok (.iaload, 1) := by decide +kernel
theorem dX11_come_26 : decode cX11_come 26 = .ok (.ifCond .eq 13, 3) := by decide +kernel
theorem dX11_come_29 : decode cX11_come 29 = .ok (.aload_n 0, 1) := by decide +kernel
theorem dX11_come_30 : decode cX11_come 30 = .ok (.getfield 13, 3) := by decide +kernel
theorem dX11_come_33 : decode cX11_come 33 = .ok (.bipush 6, 2) := by decide +kernel
theorem dX11_come_35 : decode cX11_come 35 = .ok (.iaload, 1) := by decide +kernel
theorem dX11_come_36 : decode cX11_come 36 = .ok (.ifCond .ne 6, 3) := by decide +kernel
theorem dX11_come_39 : decode cX11_come 39 = .ok (.bipush (-5), 2) := by decide +kernel
theorem dX11_come_41 : decode cX11_come 41 = .ok (.ireturn, 1) := by decide +kernel
theorem dX11_come_42 : decode cX11_come 42 = .ok (.aload_n 0, 1) := by decide +kernel
theorem dX11_come_43 : decode cX11_come 43 = .ok (.getfield 13, 3) := by decide +kernel
theorem dX11_come_46 : decode cX11_come 46 = .ok (.iconst 1, 1) := by decide +kernel
theorem dX11_come_47 : decode cX11_come 47 = .ok (.iaload, 1) := by decide +kernel
theorem dX11_come_48 : decode cX11_come 48 = .ok (.iload_n 2, 1) := by decide +kernel
theorem dX11_come_49 : decode cX11_come 49 = .ok (.iadd, 1) := by decide +kernel
theorem dX11_come_50 : decode cX11_come 50 = .ok (.bipush 40, 2) := by decide +kernel
theorem dX11_come_52 : decode cX11_come 52 = .ok (.if_icmp .le 6, 3) := by decide +kernel
theorem dX11_come_55 : decode cX11_come 55 = .ok (.bipush (-4), 2) := by decide +kernel
theorem dX11_come_57 : decode cX11_come 57 = .ok (.ireturn, 1) := by decide +kernel
theorem dX11_come_58 : decode cX11_come 58 = .ok (.aload_n 0, 1) := by decide +kernel
theorem dX11_come_59 : decode cX11_come 59 = .ok (.iload_n 1, 1) := by decide +kernel
theorem dX11_come_60 : decode cX11_come 60 = .ok (.putfield 208, 3) := by decide +kernel
theorem dX11_come_63 : decode cX11_come 63 = .ok (.iconst 0, 1) := by decide +kernel
theorem dX11_come_64 : decode cX11_come 64 = .ok (.istore_n 3, 1) := by decide +kernel
theorem dX11_come_65 : decode cX11_come 65 = .ok (.iload_n 3, 1) := by decide +kernel
theorem dX11_come_66 : decode cX11_come 66 = .ok (.iload_n 2, 1) := by decide +kernel
theorem dX11_come_67 : decode cX11_come 67 = .ok (.if_icmp .ge 13, 3) := by decide +kernel
theorem dX11_come_70 : decode cX11_come 70 = .ok (.aload_n 0, 1) := by decide +kernel
theorem dX11_come_71 : decode cX11_come 71 = .ok (.invokevirtual 216, 3) := by decide +kernel
theorem dX11_come_74 : decode cX11_come 74 = .ok (.iinc 3 1, 3) := by decide +kernel
theorem dX11_come_77 : decode cX11_come 77 = .ok (.goto (-12), 3) := by decide +kernel
theorem dX11_come_80 : decode cX11_come 80 = .ok (.aload_n 0, 1) := by decide +kernel
theorem dX11_come_81 : decode cX11_come 81 = .ok (.getfield 13, 3) := by decide +kernel
theorem dX11_come_84 : decode cX11_come 84 = .ok (.iconst 1, 1) := by decide +kernel
theorem dX11_come_85 : decode cX11_come 85 = .ok (.iaload, 1) := by decide +kernel
theorem dX11_come_86 : decode cX11_come 86 = .ok (.ireturn, 1) := by decide +kernel
theorem dX11_leaderFor_0 : decode cX11_leaderFor 0 = .ok (.iconst (-1), 1) := by decide +kernel
theorem dX11_leaderFor_1 : decode cX11_leaderFor 1 = .ok (.istore_n 2, 1) := by decide +kernel
theorem dX11_leaderFor_2 : decode cX11_leaderFor 2 = .ok (.iconst 0, 1) := by decide +kernel
theorem dX11_leaderFor_3 : decode cX11_leaderFor 3 = .ok (.istore_n 3, 1) := by decide +kernel
theorem dX11_leaderFor_4 : decode cX11_leaderFor 4 = .ok (.iload_n 3, 1) := by decide +kernel
theorem dX11_leaderFor_5 : decode cX11_leaderFor 5 = .ok (.aload_n 0, 1) := by decide +kernel
theorem dX11_leaderFor_6 : decode cX11_leaderFor 6 = .ok (.getfield 13, 3) := by decide +kernel
theorem dX11_leaderFor_9 : decode cX11_leaderFor 9 = .ok (.iconst 1, 1) := by decide +kernel
theorem dX11_leaderFor_10 : decode cX11_leaderFor 10 = .ok (.iaload, 1) := by decide +kernel
theorem dX11_leaderFor_11 : decode cX11_leaderFor 11 = .ok (.if_icmp .ge 37, 3) := by decide +kernel
theorem dX11_leaderFor_14 : decode cX11_leaderFor 14 = .ok (.iload_n 2, 1) := by decide +kernel
theorem dX11_leaderFor_15 : decode cX11_leaderFor 15 = .ok (.iconst (-1), 1) := by decide +kernel
theorem dX11_leaderFor_16 : decode cX11_leaderFor 16 = .ok (.if_icmp .eq 24, 3) := by decide +kernel
theorem dX11_leaderFor_19 : decode cX11_leaderFor 19 = .ok (.aload_n 0, 1) := by decide +kernel
theorem dX11_leaderFor_20 : decode cX11_leaderFor 20 = .ok (.iload_n 3, 1) := by decide +kernel
theorem dX11_leaderFor_21 : decode cX11_leaderFor 21 = .ok (.invokevirtual 171, 3) := by decide +kernel
theorem dX11_leaderFor_24 : decode cX11_leaderFor 24 = .ok (.iload_n 1, 1) := by decide +kernel
theorem dX11_leaderFor_25 : decode cX11_leaderFor 25 = .ok (.invokestatic 162, 3) := by decide +kernel
theorem dX11_leaderFor_28 : decode cX11_leaderFor 28 = .ok (.aload_n 0, 1) := by decide +kernel
theorem dX11_leaderFor_29 : decode cX11_leaderFor 29 = .ok (.iload_n 2, 1) := by decide +kernel
theorem dX11_leaderFor_30 : decode cX11_leaderFor 30 = .ok (.invokevirtual 171, 3) := by decide +kernel
theorem dX11_leaderFor_33 : decode cX11_leaderFor 33 = .ok (.iload_n 1, 1) := by decide +kernel
theorem dX11_leaderFor_34 : decode cX11_leaderFor 34 = .ok (.invokestatic 162, 3) := by decide +kernel
theorem dX11_leaderFor_37 : decode cX11_leaderFor 37 = .ok (.if_icmp .ge 5, 3) := by decide +kernel
theorem dX11_leaderFor_40 : decode cX11_leaderFor 40 = .ok (.iload_n 3, 1) := by decide +kernel
theorem dX11_leaderFor_41 : decode cX11_leaderFor 41 = .ok (.istore_n 2, 1) := by decide +kernel
theorem dX11_leaderFor_42 : decode cX11_leaderFor 42 = .ok (.iinc 3 1, 3) := by decide +kernel
theorem dX11_leaderFor_45 : decode cX11_leaderFor 45 = .ok (.goto (-41), 3) := by decide +kernel
theorem dX11_leaderFor_48 : decode cX11_leaderFor 48 = .ok (.iload_n 2, 1) := by decide +kernel
theorem dX11_leaderFor_49 : decode cX11_leaderFor 49 = .ok (.ireturn, 1) := by decide +kernel
theorem dX11_leader_0 : decode cX11_leader 0 = .ok (.aload_n 0, 1) := by decide +kernel
theorem dX11_leader_1 : decode cX11_leader 1 = .ok (.iconst 0, 1) := by decide +kernel
theorem dX11_leader_2 : decode cX11_leader 2 = .ok (.putfield 1, 3) := by decide +kernel
theorem dX11_leader_5 : decode cX11_leader 5 = .ok (.iload_n 1, 1) := by decide +kernel
theorem dX11_leader_6 : decode cX11_leader 6 = .ok (.i2l, 1) := by decide +kernel
theorem dX11_leader_7 : decode cX11_leader 7 = .ok (.lconst 1, 1) := by decide +kernel
theorem dX11_leader_8 : decode cX11_leader 8 = .ok (.ldc2_w 157, 3) := by decide +kernel
theorem dX11_leader_11 : decode cX11_leader 11 = .ok (.invokestatic 125, 3) := by decide +kernel
theorem dX11_leader_14 : decode cX11_leader 14 = .ok (.ifCond .eq 11, 3) := by decide +kernel
theorem dX11_leader_17 : decode cX11_leader 17 = .ok (.aload_n 0, 1) := by decide +kernel
theorem dX11_leader_18 : decode cX11_leader 18 = .ok (.iload_n 1, 1) := by decide +kernel
theorem dX11_leader_19 : decode cX11_leader 19 = .ok (.invokevirtual 219, 3) := by decide +kernel
theorem dX11_leader_22 : decode cX11_leader 22 = .ok (.goto 5, 3) := by decide +kernel
theorem dX11_leader_25 : decode cX11_leader 25 = .ok (.bipush (-3), 2) := by decide +kernel
theorem dX11_leader_27 : decode cX11_leader 27 = .ok (.ireturn, 1) := by decide +kernel
theorem dX11_winner_0 : decode cX11_winner 0 = .ok (.aload_n 0, 1) := by decide +kernel
theorem dX11_winner_1 : decode cX11_winner 1 = .ok (.iconst 0, 1) := by decide +kernel
theorem dX11_winner_2 : decode cX11_winner 2 = .ok (.putfield 1, 3) := by decide +kernel
theorem dX11_winner_5 : decode cX11_winner 5 = .ok (.aload_n 0, 1) := by decide +kernel
theorem dX11_winner_6 : decode cX11_winner 6 = .ok (.getfield 13, 3) := by decide +kernel
theorem dX11_winner_9 : decode cX11_winner 9 = .ok (.bipush 6, 2) := by decide +kernel
theorem dX11_winner_11 : decode cX11_winner 11 = .ok (.iaload, 1) := by decide +kernel
theorem dX11_winner_12 : decode cX11_winner 12 = .ok (.ifCond .ne 8, 3) := by decide +kernel
theorem dX11_winner_15 : decode cX11_winner 15 = .ok (.bipush (-5), 2) := by decide +kernel
theorem dX11_winner_17 : decode cX11_winner 17 = .ok (.goto 14, 3) := by decide +kernel
theorem dX11_winner_20 : decode cX11_winner 20 = .ok (.aload_n 0, 1) := by decide +kernel
theorem dX11_winner_21 : decode cX11_winner 21 = .ok (.aload_n 0, 1) := by decide +kernel
theorem dX11_winner_22 : decode cX11_winner 22 = .ok (.getfield 13, 3) := by decide +kernel
theorem dX11_winner_25 : decode cX11_winner 25 = .ok (.bipush 6, 2) := by decide +kernel
theorem dX11_winner_27 : decode cX11_winner 27 = .ok (.iaload, 1) := by decide +kernel
theorem dX11_winner_28 : decode cX11_winner 28 = .ok (.invokevirtual 219, 3) := by decide +kernel
theorem dX11_winner_31 : decode cX11_winner 31 = .ok (.ireturn, 1) := by decide +kernel
theorem dX11_wins_0 : decode cX11_wins 0 = .ok (.aload_n 0, 1) := by decide +kernel
theorem dX11_wins_1 : decode cX11_wins 1 = .ok (.iconst 0, 1) := by decide +kernel
theorem dX11_wins_2 : decode cX11_wins 2 = .ok (.putfield 1, 3) := by decide +kernel
theorem dX11_wins_5 : decode cX11_wins 5 = .ok (.aload_n 0, 1) := by decide +kernel
theorem dX11_wins_6 : decode cX11_wins 6 = .ok (.iload_n 1, 1) := by decide +kernel
theorem dX11_wins_7 : decode cX11_wins 7 = .ok (.invokevirtual 183, 3) := by decide +kernel
theorem dX11_wins_10 : decode cX11_wins 10 = .ok (.ifCond .eq 15, 3) := by decide +kernel
theorem dX11_wins_13 : decode cX11_wins 13 = .ok (.iload_n 2, 1) := by decide +kernel
theorem dX11_wins_14 : decode cX11_wins 14 = .ok (.i2l, 1) := by decide +kernel
theorem dX11_wins_15 : decode cX11_wins 15 = .ok (.lconst 0, 1) := by decide +kernel
theorem dX11_wins_16 : decode cX11_wins 16 = .ok (.ldc2_w 194, 3) := by decide +kernel
theorem dX11_wins_19 : decode cX11_wins 19 = .ok (.invokestatic 125, 3) := by decide +kernel
theorem dX11_wins_22 : decode cX11_wins 22 = .ok (.ifCond .ne 6, 3) := by decide +kernel
theorem dX11_wins_25 : decode cX11_wins 25 = .ok (.bipush (-2), 2) := by decide +kernel
theorem dX11_wins_27 : decode cX11_wins 27 = .ok (.ireturn, 1) := by decide +kernel
theorem dX11_wins_28 : decode cX11_wins 28 = .ok (.iconst 0, 1) := by decide +kernel
theorem dX11_wins_29 : decode cX11_wins 29 = .ok (.istore_n 3, 1) := by decide +kernel
theorem dX11_wins_30 : decode cX11_wins 30 = .ok (.iconst (-1), 1) := by decide +kernel
theorem dX11_wins_31 : decode cX11_wins 31 = .ok (.istore 4, 2) := by decide +kernel
theorem dX11_wins_33 : decode cX11_wins 33 = .ok (.iconst (-1), 1) := by decide +kernel
theorem dX11_wins_34 : decode cX11_wins 34 = .ok (.istore 5, 2) := by decide +kernel
theorem dX11_wins_36 : decode cX11_wins 36 = .ok (.iconst 0, 1) := by decide +kernel
theorem dX11_wins_37 : decode cX11_wins 37 = .ok (.istore 6, 2) := by decide +kernel
theorem dX11_wins_39 : decode cX11_wins 39 = .ok (.aload_n 0, 1) := by decide +kernel
theorem dX11_wins_40 : decode cX11_wins 40 = .ok (.getfield 13, 3) := by decide +kernel
theorem dX11_wins_43 : decode cX11_wins 43 = .ok (.iconst 2, 1) := by decide +kernel
theorem dX11_wins_44 : decode cX11_wins 44 = .ok (.iaload, 1) := by decide +kernel
theorem dX11_wins_45 : decode cX11_wins 45 = .ok (.istore 7, 2) := by decide +kernel
theorem dX11_wins_47 : decode cX11_wins 47 = .ok (.iload 7, 2) := by decide +kernel
theorem dX11_wins_49 : decode cX11_wins 49 = .ok (.aload_n 0, 1) := by decide +kernel
theorem dX11_wins_50 : decode cX11_wins 50 = .ok (.getfield 13, 3) := by decide +kernel
theorem dX11_wins_53 : decode cX11_wins 53 = .ok (.iconst 3, 1) := by decide +kernel
theorem dX11_wins_54 : decode cX11_wins 54 = .ok (.iaload, 1) := by decide +kernel
theorem dX11_wins_55 : decode cX11_wins 55 = .ok (.if_icmp .gt 55, 3) := by decide +kernel
theorem dX11_wins_58 : decode cX11_wins 58 = .ok (.aload_n 0, 1) := by decide +kernel
theorem dX11_wins_59 : decode cX11_wins 59 = .ok (.iload 7, 2) := by decide +kernel
theorem dX11_wins_61 : decode cX11_wins 61 = .ok (.invokevirtual 219, 3) := by decide +kernel
theorem dX11_wins_64 : decode cX11_wins 64 = .ok (.iload_n 1, 1) := by decide +kernel
theorem dX11_wins_65 : decode cX11_wins 65 = .ok (.if_icmp .eq 6, 3) := by decide +kernel
theorem dX11_wins_68 : decode cX11_wins 68 = .ok (.goto 36, 3) := by decide +kernel
theorem dX11_wins_71 : decode cX11_wins 71 = .ok (.iinc 3 1, 3) := by decide +kernel
theorem dX11_wins_74 : decode cX11_wins 74 = .ok (.iload 6, 2) := by decide +kernel
theorem dX11_wins_76 : decode cX11_wins 76 = .ok (.aload_n 0, 1) := by decide +kernel
theorem dX11_wins_77 : decode cX11_wins 77 = .ok (.iload 7, 2) := by decide +kernel
theorem dX11_wins_79 : decode cX11_wins 79 = .ok (.invokevirtual 168, 3) := by decide +kernel
theorem dX11_wins_82 : decode cX11_wins 82 = .ok (.iadd, 1) := by decide +kernel
theorem dX11_wins_83 : decode cX11_wins 83 = .ok (.istore 6, 2) := by decide +kernel
theorem dX11_wins_85 : decode cX11_wins 85 = .ok (.iload 4, 2) := by decide +kernel
theorem dX11_wins_87 : decode cX11_wins 87 = .ok (.iconst (-1), 1) := by decide +kernel
theorem dX11_wins_88 : decode cX11_wins 88 = .ok (.if_icmp .ne 8, 3) := by decide +kernel
theorem dX11_wins_91 : decode cX11_wins 91 = .ok (.iload 7, 2) := by decide +kernel
theorem dX11_wins_93 : decode cX11_wins 93 = .ok (.goto 5, 3) := by decide +kernel
theorem dX11_wins_96 : decode cX11_wins 96 = .ok (.iload 4, 2) := by decide +kernel
theorem dX11_wins_98 : decode cX11_wins 98 = .ok (.istore 4, 2) := by decide +kernel
theorem dX11_wins_100 : decode cX11_wins 100 = .ok (.iload 7, 2) := by decide +kernel
theorem dX11_wins_102 : decode cX11_wins 102 = .ok (.istore 5, 2) := by decide +kernel
theorem dX11_wins_104 : decode cX11_wins 104 = .ok (.iinc 7 1, 3) := by decide +kernel
theorem dX11_wins_107 : decode cX11_wins 107 = .ok (.goto (-60), 3) := by decide +kernel
theorem dX11_wins_110 : decode cX11_wins 110 = .ok (.iload_n 2, 1) := by decide +kernel
theorem dX11_wins_111 : decode cX11_wins 111 = .ok (.ifCond .ne 7, 3) := by decide +kernel
theorem dX11_wins_114 : decode cX11_wins 114 = .ok (.iload_n 3, 1) := by decide +kernel
theorem dX11_wins_115 : decode cX11_wins 115 = .ok (.goto 25, 3) := by decide +kernel
theorem dX11_wins_118 : decode cX11_wins 118 = .ok (.iload_n 2, 1) := by decide +kernel
theorem dX11_wins_119 : decode cX11_wins 119 = .ok (.iconst 1, 1) := by decide +kernel
theorem dX11_wins_120 : decode cX11_wins 120 = .ok (.if_icmp .ne 8, 3) := by decide +kernel
theorem dX11_wins_123 : decode cX11_wins 123 = .ok (.iload 4, 2) := by decide +kernel
theorem dX11_wins_125 : decode cX11_wins 125 = .ok (.goto 15, 3) := by decide +kernel
theorem dX11_wins_128 : decode cX11_wins 128 = .ok (.iload_n 2, 1) := by decide +kernel
theorem dX11_wins_129 : decode cX11_wins 129 = .ok (.iconst 2, 1) := by decide +kernel
theorem dX11_wins_130 : decode cX11_wins 130 = .ok (.if_icmp .ne 8, 3) := by decide +kernel
theorem dX11_wins_133 : decode cX11_wins 133 = .ok (.iload 5, 2) := by decide +kernel
theorem dX11_wins_135 : decode cX11_wins 135 = .ok (.goto 5, 3) := by decide +kernel
theorem dX11_wins_138 : decode cX11_wins 138 = .ok (.iload 6, 2) := by decide +kernel
theorem dX11_wins_140 : decode cX11_wins 140 = .ok (.ireturn, 1) := by decide +kernel
theorem dX11_ranked_0 : decode cX11_ranked 0 = .ok (.iconst 0, 1) := by decide +kernel
theorem dX11_ranked_1 : decode cX11_ranked 1 = .ok (.istore_n 2, 1) := by decide +kernel
theorem dX11_ranked_2 : decode cX11_ranked 2 = .ok (.iload_n 2, 1) := by decide +kernel
theorem dX11_ranked_3 : decode cX11_ranked 3 = .ok (.aload_n 0, 1) := by decide +kernel
theorem dX11_ranked_4 : decode cX11_ranked 4 = .ok (.getfield 13, 3) := by decide +kernel
theorem dX11_ranked_7 : decode cX11_ranked 7 = .ok (.iconst 1, 1) := by decide +kernel
theorem dX11_ranked_8 : decode cX11_ranked 8 = .ok (.iaload, 1) := by decide +kernel
theorem dX11_ranked_9 : decode cX11_ranked 9 = .ok (.if_icmp .ge 99, 3) := by decide +kernel
theorem dX11_ranked_12 : decode cX11_ranked 12 = .ok (.iconst 0, 1) := by decide +kernel
theorem dX11_ranked_13 : decode cX11_ranked 13 = .ok (.istore_n 3, 1) := by decide +kernel
theorem dX11_ranked_14 : decode cX11_ranked 14 = .ok (.iconst 0, 1) := by decide +kernel
theorem dX11_ranked_15 : decode cX11_ranked 15 = .ok (.istore 4, 2) := by decide +kernel
theorem dX11_ranked_17 : decode cX11_ranked 17 = .ok (.iconst 0, 1) := by decide +kernel
theorem dX11_ranked_18 : decode cX11_ranked 18 = .ok (.istore 5, 2) := by decide +kernel
theorem dX11_ranked_20 : decode cX11_ranked 20 = .ok (.iload 5, 2) := by decide +kernel
theorem dX11_ranked_22 : decode cX11_ranked 22 = .ok (.aload_n 0, 1) := by decide +kernel
theorem dX11_ranked_23 : decode cX11_ranked 23 = .ok (.getfield 13, 3) := by decide +kernel
theorem dX11_ranked_26 : decode cX11_ranked 26 = .ok (.iconst 1, 1) := by decide +kernel
theorem dX11_ranked_27 : decode cX11_ranked 27 = .ok (.iaload, 1) := by decide +kernel
theorem dX11_ranked_28 : decode cX11_ranked 28 = .ok (.if_icmp .ge 55, 3) := by decide +kernel
theorem dX11_ranked_31 : decode cX11_ranked 31 = .ok (.iload_n 3, 1) := by decide +kernel
theorem dX11_ranked_32 : decode cX11_ranked 32 = .ok (.aload_n 0, 1) := by decide +kernel
theorem dX11_ranked_33 : decode cX11_ranked 33 = .ok (.iload 5, 2) := by decide +kernel
theorem dX11_ranked_35 : decode cX11_ranked 35 = .ok (.invokevirtual 171, 3) := by decide +kernel
theorem dX11_ranked_38 : decode cX11_ranked 38 = .ok (.aload_n 0, 1) := by decide +kernel
theorem dX11_ranked_39 : decode cX11_ranked 39 = .ok (.iload_n 2, 1) := by decide +kernel
theorem dX11_ranked_40 : decode cX11_ranked 40 = .ok (.invokevirtual 171, 3) := by decide +kernel
theorem dX11_ranked_43 : decode cX11_ranked 43 = .ok (.if_icmp .ge 7, 3) := by decide +kernel
theorem dX11_ranked_46 : decode cX11_ranked 46 = .ok (.iconst 1, 1) := by decide +kernel
theorem dX11_ranked_47 : decode cX11_ranked 47 = .ok (.goto 4, 3) := by decide +kernel
theorem dX11_ranked_50 : decode cX11_ranked 50 = .ok (.iconst 0, 1) := by decide +kernel
theorem dX11_ranked_51 : decode cX11_ranked 51 = .ok (.iadd, 1) := by decide +kernel
theorem dX11_ranked_52 : decode cX11_ranked 52 = .ok (.istore_n 3, 1) := by decide +kernel
theorem dX11_ranked_53 : decode cX11_ranked 53 = .ok (.iload 4, 2) := by decide +kernel
theorem dX11_ranked_55 : decode cX11_ranked 55 = .ok (.aload_n 0, 1) := by decide +kernel
theorem dX11_ranked_56 : decode cX11_ranked 56 = .ok (.iload 5, 2) := by decide +kernel
theorem dX11_ranked_58 : decode cX11_ranked 58 = .ok (.invokevirtual 171, 3) := by decide +kernel
theorem dX11_ranked_61 : decode cX11_ranked 61 = .ok (.aload_n 0, 1) := by decide +kernel
theorem dX11_ranked_62 : decode cX11_ranked 62 = .ok (.iload_n 2, 1) := by decide +kernel
theorem dX11_ranked_63 : decode cX11_ranked 63 = .ok (.invokevirtual 171, 3) := by decide +kernel
theorem dX11_ranked_66 : decode cX11_ranked 66 = .ok (.if_icmp .ne 7, 3) := by decide +kernel
theorem dX11_ranked_69 : decode cX11_ranked 69 = .ok (.iconst 1, 1) := by decide +kernel
theorem dX11_ranked_70 : decode cX11_ranked 70 = .ok (.goto 4, 3) := by decide +kernel
theorem dX11_ranked_73 : decode cX11_ranked 73 = .ok (.iconst 0, 1) := by decide +kernel
theorem dX11_ranked_74 : decode cX11_ranked 74 = .ok (.iadd, 1) := by decide +kernel
theorem dX11_ranked_75 : decode cX11_ranked 75 = .ok (.istore 4, 2) := by decide +kernel
theorem dX11_ranked_77 : decode cX11_ranked 77 = .ok (.iinc 5 1, 3) := by decide +kernel
theorem dX11_ranked_80 : decode cX11_ranked 80 = .ok (.goto (-60), 3) := by decide +kernel
theorem dX11_ranked_83 : decode cX11_ranked 83 = .ok (.iload_n 1, 1) := by decide +kernel
theorem dX11_ranked_84 : decode cX11_ranked 84 = .ok (.iload_n 3, 1) := by decide +kernel
theorem dX11_ranked_85 : decode cX11_ranked 85 = .ok (.if_icmp .lt 17, 3) := by decide +kernel
theorem dX11_ranked_88 : decode cX11_ranked 88 = .ok (.iload_n 1, 1) := by decide +kernel
theorem dX11_ranked_89 : decode cX11_ranked 89 = .ok (.iload_n 3, 1) := by decide +kernel
theorem dX11_ranked_90 : decode cX11_ranked 90 = .ok (.iload 4, 2) := by decide +kernel
theorem dX11_ranked_92 : decode cX11_ranked 92 = .ok (.iadd, 1) := by decide +kernel
theorem dX11_ranked_93 : decode cX11_ranked 93 = .ok (.if_icmp .ge 9, 3) := by decide +kernel
theorem dX11_ranked_96 : decode cX11_ranked 96 = .ok (.aload_n 0, 1) := by decide +kernel
theorem dX11_ranked_97 : decode cX11_ranked 97 = .ok (.iload_n 2, 1) := by decide +kernel
theorem dX11_ranked_98 : decode cX11_ranked 98 = .ok (.invokevirtual 171, 3) := by decide +kernel
theorem dX11_ranked_101 : decode cX11_ranked 101 = .ok (.ireturn, 1) := by decide +kernel
theorem dX11_ranked_102 : decode cX11_ranked 102 = .ok (.iinc 2 1, 3) := by decide +kernel
theorem dX11_ranked_105 : decode cX11_ranked 105 = .ok (.goto (-103), 3) := by decide +kernel
theorem dX11_ranked_108 : decode cX11_ranked 108 = .ok (.iconst (-1), 1) := by decide +kernel
theorem dX11_ranked_109 : decode cX11_ranked 109 = .ok (.ireturn, 1) := by decide +kernel
theorem dX11_nine_0 : decode cX11_nine 0 = .ok (.aload_n 0, 1) := by decide +kernel
theorem dX11_nine_1 : decode cX11_nine 1 = .ok (.getfield 13, 3) := by decide +kernel
theorem dX11_nine_4 : decode cX11_nine 4 = .ok (.iconst 1, 1) := by decide +kernel
theorem dX11_nine_5 : decode cX11_nine 5 = .ok (.iaload, 1) := by decide +kernel
theorem dX11_nine_6 : decode cX11_nine 6 = .ok (.bipush 9, 2) := by decide +kernel
theorem dX11_nine_8 : decode cX11_nine 8 = .ok (.if_icmp .ge 12, 3) := by decide +kernel
theorem dX11_nine_11 : decode cX11_nine 11 = .ok (.aload_n 0, 1) := by decide +kernel
theorem dX11_nine_12 : decode cX11_nine 12 = .ok (.getfield 13, 3) := by decide +kernel
theorem dX11_nine_15 : decode cX11_nine 15 = .ok (.iconst 1, 1) := by decide +kernel
theorem dX11_nine_16 : decode cX11_nine 16 = .ok (.iaload, 1) := by decide +kernel
theorem dX11_nine_17 : decode cX11_nine 17 = .ok (.goto 5, 3) := by decide +kernel
theorem dX11_nine_20 : decode cX11_nine 20 = .ok (.bipush 9, 2) := by decide +kernel
theorem dX11_nine_22 : decode cX11_nine 22 = .ok (.ireturn, 1) := by decide +kernel
theorem dX11_mean_0 : decode cX11_mean 0 = .ok (.aload_n 0, 1) := by decide +kernel
theorem dX11_mean_1 : decode cX11_mean 1 = .ok (.iconst 0, 1) := by decide +kernel
theorem dX11_mean_2 : decode cX11_mean 2 = .ok (.putfield 1, 3) := by decide +kernel
theorem dX11_mean_5 : decode cX11_mean 5 = .ok (.iload_n 1, 1) := by decide +kernel
theorem dX11_mean_6 : decode cX11_mean 6 = .ok (.i2l, 1) := by decide +kernel
theorem dX11_mean_7 : decode cX11_mean 7 = .ok (.lconst 0, 1) := by decide +kernel
theorem dX11_mean_8 : decode cX11_mean 8 = .ok (.ldc2_w 149, 3) := by decide +kernel
theorem dX11_mean_11 : decode cX11_mean 11 = .ok (.invokestatic 125, 3) := by decide +kernel
theorem dX11_mean_14 : decode cX11_mean 14 = .ok (.ifCond .ne 6, 3) := by decide +kernel
theorem dX11_mean_17 : decode cX11_mean 17 = .ok (.bipush (-2), 2) := by decide +kernel
theorem dX11_mean_19 : decode cX11_mean 19 = .ok (.ireturn, 1) := by decide +kernel
theorem dX11_mean_20 : decode cX11_mean 20 = .ok (.aload_n 0, 1) := by decide +kernel
theorem dX11_mean_21 : decode cX11_mean 21 = .ok (.getfield 13, 3) := by decide +kernel
theorem dX11_mean_24 : decode cX11_mean 24 = .ok (.iconst 1, 1) := by decide +kernel
theorem dX11_mean_25 : decode cX11_mean 25 = .ok (.iaload, 1) := by decide +kernel
theorem dX11_mean_26 : decode cX11_mean 26 = .ok (.istore_n 2, 1) := by decide +kernel
theorem dX11_mean_27 : decode cX11_mean 27 = .ok (.iload_n 2, 1) := by decide +kernel
theorem dX11_mean_28 : decode cX11_mean 28 = .ok (.ifCond .ne 5, 3) := by decide +kernel
theorem dX11_mean_31 : decode cX11_mean 31 = .ok (.iconst (-1), 1) := by decide +kernel
theorem dX11_mean_32 : decode cX11_mean 32 = .ok (.ireturn, 1) := by decide +kernel
theorem dX11_mean_33 : decode cX11_mean 33 = .ok (.iload_n 1, 1) := by decide +kernel
theorem dX11_mean_34 : decode cX11_mean 34 = .ok (.ifCond .ne 11, 3) := by decide +kernel
theorem dX11_mean_37 : decode cX11_mean 37 = .ok (.aload_n 0, 1) := by decide +kernel
theorem dX11_mean_38 : decode cX11_mean 38 = .ok (.iload_n 2, 1) := by decide +kernel
theorem dX11_mean_39 : decode cX11_mean 39 = .ok (.invokevirtual 174, 3) := by decide +kernel
theorem dX11_mean_42 : decode cX11_mean 42 = .ok (.goto 52, 3) := by decide +kernel
theorem dX11_mean_45 : decode cX11_mean 45 = .ok (.iload_n 1, 1) := by decide +kernel
theorem dX11_mean_46 : decode cX11_mean 46 = .ok (.iconst 1, 1) := by decide +kernel
theorem dX11_mean_47 : decode cX11_mean 47 = .ok (.if_icmp .ne 15, 3) := by decide +kernel
theorem dX11_mean_50 : decode cX11_mean 50 = .ok (.aload_n 0, 1) := by decide +kernel
theorem dX11_mean_51 : decode cX11_mean 51 = .ok (.iload_n 2, 1) := by decide +kernel
theorem dX11_mean_52 : decode cX11_mean 52 = .ok (.iconst 1, 1) := by decide +kernel
theorem dX11_mean_53 : decode cX11_mean 53 = .ok (.isub, 1) := by decide +kernel
theorem dX11_mean_54 : decode cX11_mean 54 = .ok (.iconst 2, 1) := by decide +kernel
theorem dX11_mean_55 : decode cX11_mean 55 = .ok (.idiv, 1) := by decide +kernel
theorem dX11_mean_56 : decode cX11_mean 56 = .ok (.invokevirtual 222, 3) := by decide +kernel
theorem dX11_mean_59 : decode cX11_mean 59 = .ok (.goto 35, 3) := by decide +kernel
theorem dX11_mean_62 : decode cX11_mean 62 = .ok (.iload_n 1, 1) := by decide +kernel
theorem dX11_mean_63 : decode cX11_mean 63 = .ok (.iconst 2, 1) := by decide +kernel
theorem dX11_mean_64 : decode cX11_mean 64 = .ok (.if_icmp .ne 14, 3) := by decide +kernel
theorem dX11_mean_67 : decode cX11_mean 67 = .ok (.aload_n 0, 1) := by decide +kernel
theorem dX11_mean_68 : decode cX11_mean 68 = .ok (.aload_n 0, 1) := by decide +kernel
theorem dX11_mean_69 : decode cX11_mean 69 = .ok (.invokevirtual 225, 3) := by decide +kernel
theorem dX11_mean_72 : decode cX11_mean 72 = .ok (.invokevirtual 174, 3) := by decide +kernel
theorem dX11_mean_75 : decode cX11_mean 75 = .ok (.goto 19, 3) := by decide +kernel
theorem dX11_mean_78 : decode cX11_mean 78 = .ok (.aload_n 0, 1) := by decide +kernel
theorem dX11_mean_79 : decode cX11_mean 79 = .ok (.iload_n 1, 1) := by decide +kernel
theorem dX11_mean_80 : decode cX11_mean 80 = .ok (.iconst 3, 1) := by decide +kernel
theorem dX11_mean_81 : decode cX11_mean 81 = .ok (.if_icmp .ne 7, 3) := by decide +kernel
theorem dX11_mean_84 : decode cX11_mean 84 = .ok (.iconst 0, 1) := by decide +kernel
theorem dX11_mean_85 : decode cX11_mean 85 = .ok (.goto 6, 3) := by decide +kernel
theorem dX11_mean_88 : decode cX11_mean 88 = .ok (.iload_n 2, 1) := by decide +kernel
theorem dX11_mean_89 : decode cX11_mean 89 = .ok (.iconst 1, 1) := by decide +kernel
theorem dX11_mean_90 : decode cX11_mean 90 = .ok (.isub, 1) := by decide +kernel
theorem dX11_mean_91 : decode cX11_mean 91 = .ok (.invokevirtual 222, 3) := by decide +kernel
theorem dX11_mean_94 : decode cX11_mean 94 = .ok (.ireturn, 1) := by decide +kernel
theorem dX11_nearest_0 : decode cX11_nearest 0 = .ok (.aload_n 0, 1) := by decide +kernel
theorem dX11_nearest_1 : decode cX11_nearest 1 = .ok (.iconst 0, 1) := by decide +kernel
theorem dX11_nearest_2 : decode cX11_nearest 2 = .ok (.putfield 1, 3) := by decide +kernel
theorem dX11_nearest_5 : decode cX11_nearest 5 = .ok (.aload_n 0, 1) := by decide +kernel
theorem dX11_nearest_6 : decode cX11_nearest 6 = .ok (.getfield 13, 3) := by decide +kernel
theorem dX11_nearest_9 : decode cX11_nearest 9 = .ok (.bipush 6, 2) := by decide +kernel
theorem dX11_nearest_11 : decode cX11_nearest 11 = .ok (.iaload, 1) := by decide +kernel
theorem dX11_nearest_12 : decode cX11_nearest 12 = .ok (.ifCond .ne 6, 3) := by decide +kernel
theorem dX11_nearest_15 : decode cX11_nearest 15 = .ok (.bipush (-5), 2) := by decide +kernel
theorem dX11_nearest_17 : decode cX11_nearest 17 = .ok (.ireturn, 1) := by decide +kernel
theorem dX11_nearest_18 : decode cX11_nearest 18 = .ok (.aload_n 0, 1) := by decide +kernel
theorem dX11_nearest_19 : decode cX11_nearest 19 = .ok (.getfield 13, 3) := by decide +kernel
theorem dX11_nearest_22 : decode cX11_nearest 22 = .ok (.iconst 1, 1) := by decide +kernel
theorem dX11_nearest_23 : decode cX11_nearest 23 = .ok (.iaload, 1) := by decide +kernel
theorem dX11_nearest_24 : decode cX11_nearest 24 = .ok (.ifCond .ne 5, 3) := by decide +kernel
theorem dX11_nearest_27 : decode cX11_nearest 27 = .ok (.iconst (-1), 1) := by decide +kernel
theorem dX11_nearest_28 : decode cX11_nearest 28 = .ok (.ireturn, 1) := by decide +kernel
theorem dX11_nearest_29 : decode cX11_nearest 29 = .ok (.iconst 0, 1) := by decide +kernel
theorem dX11_nearest_30 : decode cX11_nearest 30 = .ok (.istore_n 1, 1) := by decide +kernel
theorem dX11_nearest_31 : decode cX11_nearest 31 = .ok (.sipush 9999, 3) := by decide +kernel
theorem dX11_nearest_34 : decode cX11_nearest 34 = .ok (.istore_n 2, 1) := by decide +kernel
theorem dX11_nearest_35 : decode cX11_nearest 35 = .ok (.iconst 0, 1) := by decide +kernel
theorem dX11_nearest_36 : decode cX11_nearest 36 = .ok (.istore_n 3, 1) := by decide +kernel
theorem dX11_nearest_37 : decode cX11_nearest 37 = .ok (.iload_n 3, 1) := by decide +kernel
theorem dX11_nearest_38 : decode cX11_nearest 38 = .ok (.iconst 4, 1) := by decide +kernel
theorem dX11_nearest_39 : decode cX11_nearest 39 = .ok (.if_icmp .ge 115, 3) := by decide +kernel
theorem dX11_nearest_42 : decode cX11_nearest 42 = .ok (.iload_n 3, 1) := by decide +kernel
theorem dX11_nearest_43 : decode cX11_nearest 43 = .ok (.ifCond .ne 16, 3) := by decide +kernel
theorem dX11_nearest_46 : decode cX11_nearest 46 = .ok (.aload_n 0, 1) := by decide +kernel
theorem dX11_nearest_47 : decode cX11_nearest 47 = .ok (.aload_n 0, 1) := by decide +kernel
theorem dX11_nearest_48 : decode cX11_nearest 48 = .ok (.getfield 13, 3) := by decide +kernel
theorem dX11_nearest_51 : decode cX11_nearest 51 = .ok (.iconst 1, 1) := by decide +kernel
theorem dX11_nearest_52 : decode cX11_nearest 52 = .ok (.iaload, 1) := by decide +kernel
theorem dX11_nearest_53 : decode cX11_nearest 53 = .ok (.invokevirtual 174, 3) := by decide +kernel
theorem dX11_nearest_56 : decode cX11_nearest 56 = .ok (.goto 56, 3) := by decide +kernel
theorem dX11_nearest_59 : decode cX11_nearest 59 = .ok (.iload_n 3, 1) := by decide +kernel
theorem dX11_nearest_60 : decode cX11_nearest 60 = .ok (.iconst 1, 1) := by decide +kernel
theorem dX11_nearest_61 : decode cX11_nearest 61 = .ok (.if_icmp .ne 20, 3) := by decide +kernel
theorem dX11_nearest_64 : decode cX11_nearest 64 = .ok (.aload_n 0, 1) := by decide +kernel
theorem dX11_nearest_65 : decode cX11_nearest 65 = .ok (.aload_n 0, 1) := by decide +kernel
theorem dX11_nearest_66 : decode cX11_nearest 66 = .ok (.getfield 13, 3) := by decide +kernel
theorem dX11_nearest_69 : decode cX11_nearest 69 = .ok (.iconst 1, 1) := by decide +kernel
theorem dX11_nearest_70 : decode cX11_nearest 70 = .ok (.iaload, 1) := by decide +kernel
theorem dX11_nearest_71 : decode cX11_nearest 71 = .ok (.iconst 1, 1) := by decide +kernel
theorem dX11_nearest_72 : decode cX11_nearest 72 = .ok (.isub, 1) := by decide +kernel
theorem dX11_nearest_73 : decode cX11_nearest 73 = .ok (.iconst 2, 1) := by decide +kernel
theorem dX11_nearest_74 : decode cX11_nearest 74 = .ok (.idiv, 1) := by decide +kernel
theorem dX11_nearest_75 : decode cX11_nearest 75 = .ok (.invokevirtual 222, 3) := by decide +kernel
theorem dX11_nearest_78 : decode cX11_nearest 78 = .ok (.goto 34, 3) := by decide +kernel
theorem dX11_nearest_81 : decode cX11_nearest 81 = .ok (.iload_n 3, 1) := by decide +kernel
theorem dX11_nearest_82 : decode cX11_nearest 82 = .ok (.iconst 2, 1) := by decide +kernel
theorem dX11_nearest_83 : decode cX11_nearest 83 = .ok (.if_icmp .ne 14, 3) := by decide +kernel
theorem dX11_nearest_86 : decode cX11_nearest 86 = .ok (.aload_n 0, 1) := by decide +kernel
theorem dX11_nearest_87 : decode cX11_nearest 87 = .ok (.aload_n 0, 1) := by decide +kernel
theorem dX11_nearest_88 : decode cX11_nearest 88 = .ok (.invokevirtual 225, 3) := by decide +kernel
theorem dX11_nearest_91 : decode cX11_nearest 91 = .ok (.invokevirtual 174, 3) := by decide +kernel
theorem dX11_nearest_94 : decode cX11_nearest 94 = .ok (.goto 18, 3) := by decide +kernel
theorem dX11_nearest_97 : decode cX11_nearest 97 = .ok (.aload_n 0, 1) := by decide +kernel
theorem dX11_nearest_98 : decode cX11_nearest 98 = .ok (.aload_n 0, 1) := by decide +kernel
theorem dX11_nearest_99 : decode cX11_nearest 99 = .ok (.aload_n 0, 1) := by decide +kernel
theorem dX11_nearest_100 : decode cX11_nearest 100 = .ok (.getfield 13, 3) := by decide +kernel
theorem dX11_nearest_103 : decode cX11_nearest 103 = .ok (.bipush 6, 2) := by decide +kernel
theorem dX11_nearest_105 : decode cX11_nearest 105 = .ok (.iaload, 1) := by decide +kernel
theorem dX11_nearest_106 : decode cX11_nearest 106 = .ok (.invokevirtual 219, 3) := by decide +kernel
theorem dX11_nearest_109 : decode cX11_nearest 109 = .ok (.invokevirtual 171, 3) := by decide +kernel
theorem dX11_nearest_112 : decode cX11_nearest 112 = .ok (.istore 4, 2) := by decide +kernel
theorem dX11_nearest_114 : decode cX11_nearest 114 = .ok (.iload 4, 2) := by decide +kernel
theorem dX11_nearest_116 : decode cX11_nearest 116 = .ok (.aload_n 0, 1) := by decide +kernel
theorem dX11_nearest_117 : decode cX11_nearest 117 = .ok (.getfield 13, 3) := by decide +kernel
theorem dX11_nearest_120 : decode cX11_nearest 120 = .ok (.bipush 6, 2) := by decide +kernel
theorem dX11_nearest_122 : decode cX11_nearest 122 = .ok (.iaload, 1) := by decide +kernel
theorem dX11_nearest_123 : decode cX11_nearest 123 = .ok (.invokestatic 162, 3) := by decide +kernel
theorem dX11_nearest_126 : decode cX11_nearest 126 = .ok (.iload_n 2, 1) := by decide +kernel
theorem dX11_nearest_127 : decode cX11_nearest 127 = .ok (.if_icmp .lt 6, 3) := by decide +kernel
theorem dX11_nearest_130 : decode cX11_nearest 130 = .ok (.goto 18, 3) := by decide +kernel
theorem dX11_nearest_133 : decode cX11_nearest 133 = .ok (.iload_n 3, 1) := by decide +kernel
theorem dX11_nearest_134 : decode cX11_nearest 134 = .ok (.istore_n 1, 1) := by decide +kernel
theorem dX11_nearest_135 : decode cX11_nearest 135 = .ok (.iload 4, 2) := by decide +kernel
theorem dX11_nearest_137 : decode cX11_nearest 137 = .ok (.aload_n 0, 1) := by decide +kernel
theorem dX11_nearest_138 : decode cX11_nearest 138 = .ok (.getfield 13, 3) := by decide +kernel
theorem dX11_nearest_141 : decode cX11_nearest 141 = .ok (.bipush 6, 2) := by decide +kernel
theorem dX11_nearest_143 : decode cX11_nearest 143 = .ok (.iaload, 1) := by decide +kernel
theorem dX11_nearest_144 : decode cX11_nearest 144 = .ok (.invokestatic 162, 3) := by decide +kernel
theorem dX11_nearest_147 : decode cX11_nearest 147 = .ok (.istore_n 2, 1) := by decide +kernel
theorem dX11_nearest_148 : decode cX11_nearest 148 = .ok (.iinc 3 1, 3) := by decide +kernel
theorem dX11_nearest_151 : decode cX11_nearest 151 = .ok (.goto (-114), 3) := by decide +kernel
theorem dX11_nearest_154 : decode cX11_nearest 154 = .ok (.iload_n 1, 1) := by decide +kernel
theorem dX11_nearest_155 : decode cX11_nearest 155 = .ok (.ireturn, 1) := by decide +kernel
theorem dX11_isOwn_0 : decode cX11_isOwn 0 = .ok (.aload_n 0, 1) := by decide +kernel
theorem dX11_isOwn_1 : decode cX11_isOwn 1 = .ok (.iload_n 1, 1) := by decide +kernel
theorem dX11_isOwn_2 : decode cX11_isOwn 2 = .ok (.invokevirtual 171, 3) := by decide +kernel
theorem dX11_isOwn_5 : decode cX11_isOwn 5 = .ok (.aload_n 0, 1) := by decide +kernel
theorem dX11_isOwn_6 : decode cX11_isOwn 6 = .ok (.aload_n 0, 1) := by decide +kernel
theorem dX11_isOwn_7 : decode cX11_isOwn 7 = .ok (.getfield 13, 3) := by decide +kernel
theorem dX11_isOwn_10 : decode cX11_isOwn 10 = .ok (.bipush 29, 2) := by decide +kernel
theorem dX11_isOwn_12 : decode cX11_isOwn 12 = .ok (.iload_n 1, 1) := by decide +kernel
theorem dX11_isOwn_13 : decode cX11_isOwn 13 = .ok (.iadd, 1) := by decide +kernel
theorem dX11_isOwn_14 : decode cX11_isOwn 14 = .ok (.iaload, 1) := by decide +kernel
theorem dX11_isOwn_15 : decode cX11_isOwn 15 = .ok (.iload_n 2, 1) := by decide +kernel
theorem dX11_isOwn_16 : decode cX11_isOwn 16 = .ok (.invokevirtual 159, 3) := by decide +kernel
theorem dX11_isOwn_19 : decode cX11_isOwn 19 = .ok (.invokestatic 162, 3) := by decide +kernel
theorem dX11_isOwn_22 : decode cX11_isOwn 22 = .ok (.aload_n 0, 1) := by decide +kernel
theorem dX11_isOwn_23 : decode cX11_isOwn 23 = .ok (.getfield 13, 3) := by decide +kernel
theorem dX11_isOwn_26 : decode cX11_isOwn 26 = .ok (.bipush 17, 2) := by decide +kernel
theorem dX11_isOwn_28 : decode cX11_isOwn 28 = .ok (.aload_n 0, 1) := by decide +kernel
theorem dX11_isOwn_29 : decode cX11_isOwn 29 = .ok (.getfield 13, 3) := by decide +kernel
theorem dX11_isOwn_32 : decode cX11_isOwn 32 = .ok (.bipush 29, 2) := by decide +kernel
theorem dX11_isOwn_34 : decode cX11_isOwn 34 = .ok (.iload_n 1, 1) := by decide +kernel
theorem dX11_isOwn_35 : decode cX11_isOwn 35 = .ok (.iadd, 1) := by decide +kernel
theorem dX11_isOwn_36 : decode cX11_isOwn 36 = .ok (.iaload, 1) := by decide +kernel
theorem dX11_isOwn_37 : decode cX11_isOwn 37 = .ok (.iadd, 1) := by decide +kernel
theorem dX11_isOwn_38 : decode cX11_isOwn 38 = .ok (.iaload, 1) := by decide +kernel
theorem dX11_isOwn_39 : decode cX11_isOwn 39 = .ok (.if_icmp .gt 7, 3) := by decide +kernel
theorem dX11_isOwn_42 : decode cX11_isOwn 42 = .ok (.iconst 1, 1) := by decide +kernel
theorem dX11_isOwn_43 : decode cX11_isOwn 43 = .ok (.goto 4, 3) := by decide +kernel
theorem dX11_isOwn_46 : decode cX11_isOwn 46 = .ok (.iconst 0, 1) := by decide +kernel
theorem dX11_isOwn_47 : decode cX11_isOwn 47 = .ok (.ireturn, 1) := by decide +kernel
theorem dX11_byGoal_0 : decode cX11_byGoal 0 = .ok (.aload_n 0, 1) := by decide +kernel
theorem dX11_byGoal_1 : decode cX11_byGoal 1 = .ok (.getfield 13, 3) := by decide +kernel
theorem dX11_byGoal_4 : decode cX11_byGoal 4 = .ok (.bipush 29, 2) := by decide +kernel
theorem dX11_byGoal_6 : decode cX11_byGoal 6 = .ok (.iload_n 1, 1) := by decide +kernel
theorem dX11_byGoal_7 : decode cX11_byGoal 7 = .ok (.iadd, 1) := by decide +kernel
theorem dX11_byGoal_8 : decode cX11_byGoal 8 = .ok (.iaload, 1) := by decide +kernel
theorem dX11_byGoal_9 : decode cX11_byGoal 9 = .ok (.istore_n 2, 1) := by decide +kernel
theorem dX11_byGoal_10 : decode cX11_byGoal 10 = .ok (.aload_n 0, 1) := by decide +kernel
theorem dX11_byGoal_11 : decode cX11_byGoal 11 = .ok (.iload_n 1, 1) := by decide +kernel
theorem dX11_byGoal_12 : decode cX11_byGoal 12 = .ok (.invokevirtual 186, 3) := by decide +kernel
theorem dX11_byGoal_15 : decode cX11_byGoal 15 = .ok (.aload_n 0, 1) := by decide +kernel
theorem dX11_byGoal_16 : decode cX11_byGoal 16 = .ok (.iload_n 1, 1) := by decide +kernel
theorem dX11_byGoal_17 : decode cX11_byGoal 17 = .ok (.invokevirtual 171, 3) := by decide +kernel
theorem dX11_byGoal_20 : decode cX11_byGoal 20 = .ok (.if_icmp .ne 33, 3) := by decide +kernel
theorem dX11_byGoal_23 : decode cX11_byGoal 23 = .ok (.aload_n 0, 1) := by decide +kernel
theorem dX11_byGoal_24 : decode cX11_byGoal 24 = .ok (.getfield 13, 3) := by decide +kernel
theorem dX11_byGoal_27 : decode cX11_byGoal 27 = .ok (.bipush 23, 2) := by decide +kernel
theorem dX11_byGoal_29 : decode cX11_byGoal 29 = .ok (.iload_n 2, 1) := by decide +kernel
theorem dX11_byGoal_30 : decode cX11_byGoal 30 = .ok (.iadd, 1) := by decide +kernel
theorem dX11_byGoal_31 : decode cX11_byGoal 31 = .ok (.iaload, 1) := by decide +kernel
theorem dX11_byGoal_32 : decode cX11_byGoal 32 = .ok (.i2l, 1) := by decide +kernel
theorem dX11_byGoal_33 : decode cX11_byGoal 33 = .ok (.ldc2_w 196, 3) := by decide +kernel
theorem dX11_byGoal_36 : decode cX11_byGoal 36 = .ok (.aload_n 0, 1) := by decide +kernel
theorem dX11_byGoal_37 : decode cX11_byGoal 37 = .ok (.getfield 13, 3) := by decide +kernel
theorem dX11_byGoal_40 : decode cX11_byGoal 40 = .ok (.bipush 17, 2) := by decide +kernel
theorem dX11_byGoal_42 : decode cX11_byGoal 42 = .ok (.iload_n 2, 1) := by decide +kernel
theorem dX11_byGoal_43 : decode cX11_byGoal 43 = .ok (.iadd, 1) := by decide +kernel
theorem dX11_byGoal_44 : decode cX11_byGoal 44 = .ok (.iaload, 1) := by decide +kernel
theorem dX11_byGoal_45 : decode cX11_byGoal 45 = .ok (.i2l, 1) := by decide +kernel
theorem dX11_byGoal_46 : decode cX11_byGoal 46 = .ok (.lmul, 1) := by decide +kernel
theorem dX11_byGoal_47 : decode cX11_byGoal 47 = .ok (.lconst 1, 1) := by decide +kernel
theorem dX11_byGoal_48 : decode cX11_byGoal 48 = .ok (.ladd, 1) := by decide +kernel
theorem dX11_byGoal_49 : decode cX11_byGoal 49 = .ok (.lmul, 1) := by decide +kernel
theorem dX11_byGoal_50 : decode cX11_byGoal 50 = .ok (.goto 4, 3) := by decide +kernel
theorem dX11_byGoal_53 : decode cX11_byGoal 53 = .ok (.lconst 0, 1) := by decide +kernel
theorem dX11_byGoal_54 : decode cX11_byGoal 54 = .ok (.lreturn, 1) := by decide +kernel
theorem dX11_chanceOf_0 : decode cX11_chanceOf 0 = .ok (.aload_n 0, 1) := by decide +kernel
theorem dX11_chanceOf_1 : decode cX11_chanceOf 1 = .ok (.iload_n 1, 1) := by decide +kernel
theorem dX11_chanceOf_2 : decode cX11_chanceOf 2 = .ok (.invokevirtual 186, 3) := by decide +kernel
theorem dX11_chanceOf_5 : decode cX11_chanceOf 5 = .ok (.iconst (-1), 1) := by decide +kernel
theorem dX11_chanceOf_6 : decode cX11_chanceOf 6 = .ok (.if_icmp .ne 8, 3) := by decide +kernel
theorem dX11_chanceOf_9 : decode cX11_chanceOf 9 = .ok (.bipush 10, 2) := by decide +kernel
theorem dX11_chanceOf_11 : decode cX11_chanceOf 11 = .ok (.goto 23, 3) := by decide +kernel
theorem dX11_chanceOf_14 : decode cX11_chanceOf 14 = .ok (.bipush 10, 2) := by decide +kernel
theorem dX11_chanceOf_16 : decode cX11_chanceOf 16 = .ok (.aload_n 0, 1) := by decide +kernel
theorem dX11_chanceOf_17 : decode cX11_chanceOf 17 = .ok (.getfield 13, 3) := by decide +kernel
theorem dX11_chanceOf_20 : decode cX11_chanceOf 20 = .ok (.bipush 23, 2) := by decide +kernel
theorem dX11_chanceOf_22 : decode cX11_chanceOf 22 = .ok (.aload_n 0, 1) := by decide +kernel
theorem dX11_chanceOf_23 : decode cX11_chanceOf 23 = .ok (.getfield 13, 3) := by decide +kernel
theorem dX11_chanceOf_26 : decode cX11_chanceOf 26 = .ok (.bipush 29, 2) := by decide +kernel
theorem dX11_chanceOf_28 : decode cX11_chanceOf 28 = .ok (.iload_n 1, 1) := by decide +kernel
theorem dX11_chanceOf_29 : decode cX11_chanceOf 29 = .ok (.iadd, 1) := by decide +kernel
theorem dX11_chanceOf_30 : decode cX11_chanceOf 30 = .ok (.iaload, 1) := by decide +kernel
theorem dX11_chanceOf_31 : decode cX11_chanceOf 31 = .ok (.iadd, 1) := by decide +kernel
theorem dX11_chanceOf_32 : decode cX11_chanceOf 32 = .ok (.iaload, 1) := by decide +kernel
theorem dX11_chanceOf_33 : decode cX11_chanceOf 33 = .ok (.isub, 1) := by decide +kernel
theorem dX11_chanceOf_34 : decode cX11_chanceOf 34 = .ok (.istore_n 3, 1) := by decide +kernel
theorem dX11_chanceOf_35 : decode cX11_chanceOf 35 = .ok (.aload_n 0, 1) := by decide +kernel
theorem dX11_chanceOf_36 : decode cX11_chanceOf 36 = .ok (.iload_n 1, 1) := by decide +kernel
theorem dX11_chanceOf_37 : decode cX11_chanceOf 37 = .ok (.invokevirtual 228, 3) := by decide +kernel
theorem dX11_chanceOf_40 : decode cX11_chanceOf 40 = .ok (.aload_n 0, 1) := by decide +kernel
theorem dX11_chanceOf_41 : decode cX11_chanceOf 41 = .ok (.iload_n 1, 1) := by decide +kernel
theorem dX11_chanceOf_42 : decode cX11_chanceOf 42 = .ok (.iload_n 2, 1) := by decide +kernel
theorem dX11_chanceOf_43 : decode cX11_chanceOf 43 = .ok (.invokevirtual 232, 3) := by decide +kernel
theorem dX11_chanceOf_46 : decode cX11_chanceOf 46 = .ok (.ifCond .eq 7, 3) := by decide +kernel
theorem dX11_chanceOf_49 : decode cX11_chanceOf 49 = .ok (.iload_n 3, 1) := by decide +kernel
theorem dX11_chanceOf_50 : decode cX11_chanceOf 50 = .ok (.goto 4, 3) := by decide +kernel
theorem dX11_chanceOf_53 : decode cX11_chanceOf 53 = .ok (.iconst 0, 1) := by decide +kernel
theorem dX11_chanceOf_54 : decode cX11_chanceOf 54 = .ok (.i2l, 1) := by decide +kernel
theorem dX11_chanceOf_55 : decode cX11_chanceOf 55 = .ok (.ladd, 1) := by decide +kernel
theorem dX11_chanceOf_56 : decode cX11_chanceOf 56 = .ok (.lreturn, 1) := by decide +kernel
theorem dX11_gridMany_0 : decode cX11_gridMany 0 = .ok (.aload_n 0, 1) := by decide +kernel
theorem dX11_gridMany_1 : decode cX11_gridMany 1 = .ok (.getfield 13, 3) := by decide +kernel
theorem dX11_gridMany_4 : decode cX11_gridMany 4 = .ok (.iconst 3, 1) := by decide +kernel
theorem dX11_gridMany_5 : decode cX11_gridMany 5 = .ok (.iaload, 1) := by decide +kernel
theorem dX11_gridMany_6 : decode cX11_gridMany 6 = .ok (.aload_n 0, 1) := by decide +kernel
theorem dX11_gridMany_7 : decode cX11_gridMany 7 = .ok (.getfield 13, 3) := by decide +kernel
theorem dX11_gridMany_10 : decode cX11_gridMany 10 = .ok (.iconst 2, 1) := by decide +kernel
theorem dX11_gridMany_11 : decode cX11_gridMany 11 = .ok (.iaload, 1) := by decide +kernel
theorem dX11_gridMany_12 : decode cX11_gridMany 12 = .ok (.isub, 1) := by decide +kernel
theorem dX11_gridMany_13 : decode cX11_gridMany 13 = .ok (.iconst 1, 1) := by decide +kernel
theorem dX11_gridMany_14 : decode cX11_gridMany 14 = .ok (.iadd, 1) := by decide +kernel
theorem dX11_gridMany_15 : decode cX11_gridMany 15 = .ok (.ireturn, 1) := by decide +kernel
theorem dX11_laysWays_0 : decode cX11_laysWays 0 = .ok (.aload_n 0, 1) := by decide +kernel
theorem dX11_laysWays_1 : decode cX11_laysWays 1 = .ok (.lconst 0, 1) := by decide +kernel
theorem dX11_laysWays_2 : decode cX11_laysWays 2 = .ok (.putfield 236, 3) := by decide +kernel
theorem dX11_laysWays_5 : decode cX11_laysWays 5 = .ok (.iconst 0, 1) := by decide +kernel
theorem dX11_laysWays_6 : decode cX11_laysWays 6 = .ok (.istore_n 3, 1) := by decide +kernel
theorem dX11_laysWays_7 : decode cX11_laysWays 7 = .ok (.iload_n 3, 1) := by decide +kernel
theorem dX11_laysWays_8 : decode cX11_laysWays 8 = .ok (.aload_n 0, 1) := by decide +kernel
theorem dX11_laysWays_9 : decode cX11_laysWays 9 = .ok (.invokevirtual 240, 3) := by decide +kernel
theorem dX11_laysWays_12 : decode cX11_laysWays 12 = .ok (.if_icmp .ge 94, 3) := by decide +kernel
theorem dX11_laysWays_15 : decode cX11_laysWays 15 = .ok (.aload_n 0, 1) := by decide +kernel
theorem dX11_laysWays_16 : decode cX11_laysWays 16 = .ok (.getfield 13, 3) := by decide +kernel
theorem dX11_laysWays_19 : decode cX11_laysWays 19 = .ok (.iconst 2, 1) := by decide +kernel
theorem dX11_laysWays_20 : decode cX11_laysWays 20 = .ok (.iaload, 1) := by decide +kernel
theorem dX11_laysWays_21 : decode cX11_laysWays 21 = .ok (.iload_n 3, 1) := by decide +kernel
theorem dX11_laysWays_22 : decode cX11_laysWays 22 = .ok (.iadd, 1) := by decide +kernel
theorem dX11_laysWays_23 : decode cX11_laysWays 23 = .ok (.istore 4, 2) := by decide +kernel
theorem dX11_laysWays_25 : decode cX11_laysWays 25 = .ok (.aload_n 0, 1) := by decide +kernel
theorem dX11_laysWays_26 : decode cX11_laysWays 26 = .ok (.getfield 33, 3) := by decide +kernel
theorem dX11_laysWays_29 : decode cX11_laysWays 29 = .ok (.iload_n 3, 1) := by decide +kernel
theorem dX11_laysWays_30 : decode cX11_laysWays 30 = .ok (.aload_n 0, 1) := by decide +kernel
theorem dX11_laysWays_31 : decode cX11_laysWays 31 = .ok (.iload 4, 2) := by decide +kernel
theorem dX11_laysWays_33 : decode cX11_laysWays 33 = .ok (.invokevirtual 168, 3) := by decide +kernel
theorem dX11_laysWays_36 : decode cX11_laysWays 36 = .ok (.i2l, 1) := by decide +kernel
theorem dX11_laysWays_37 : decode cX11_laysWays 37 = .ok (.lastore, 1) := by decide +kernel
theorem dX11_laysWays_38 : decode cX11_laysWays 38 = .ok (.iconst 0, 1) := by decide +kernel
theorem dX11_laysWays_39 : decode cX11_laysWays 39 = .ok (.istore 5, 2) := by decide +kernel
theorem dX11_laysWays_41 : decode cX11_laysWays 41 = .ok (.iload 5, 2) := by decide +kernel
theorem dX11_laysWays_43 : decode cX11_laysWays 43 = .ok (.iload_n 1, 1) := by decide +kernel
theorem dX11_laysWays_44 : decode cX11_laysWays 44 = .ok (.if_icmp .ge 41, 3) := by decide +kernel
theorem dX11_laysWays_47 : decode cX11_laysWays 47 = .ok (.aload_n 0, 1) := by decide +kernel
theorem dX11_laysWays_48 : decode cX11_laysWays 48 = .ok (.getfield 33, 3) := by decide +kernel
theorem dX11_laysWays_51 : decode cX11_laysWays 51 = .ok (.iload_n 3, 1) := by decide +kernel
theorem dX11_laysWays_52 : decode cX11_laysWays 52 = .ok (.dup2, 1) := by decide +kernel
theorem dX11_laysWays_53 : decode cX11_laysWays 53 = .ok (.laload, 1) := by decide +kernel
theorem dX11_laysWays_54 : decode cX11_laysWays 54 = .ok (.iload 5, 2) := by decide +kernel
theorem dX11_laysWays_56 : decode cX11_laysWays 56 = .ok (.iload_n 2, 1) := by decide +kernel
theorem dX11_laysWays_57 : decode cX11_laysWays 57 = .ok (.if_icmp .ne 12, 3) := by decide +kernel
theorem dX11_laysWays_60 : decode cX11_laysWays 60 = .ok (.aload_n 0, 1) := by decide +kernel
theorem dX11_laysWays_61 : decode cX11_laysWays 61 = .ok (.iload 5, 2) := by decide +kernel
theorem dX11_laysWays_63 : decode cX11_laysWays 63 = .ok (.invokevirtual 228, 3) := by decide +kernel
theorem dX11_laysWays_66 : decode cX11_laysWays 66 = .ok (.goto 11, 3) := by decide +kernel
theorem dX11_laysWays_69 : decode cX11_laysWays 69 = .ok (.aload_n 0, 1) := by decide +kernel
theorem dX11_laysWays_70 : decode cX11_laysWays 70 = .ok (.iload 5, 2) := by decide +kernel
theorem dX11_laysWays_72 : decode cX11_laysWays 72 = .ok (.iload 4, 2) := by decide +kernel
theorem dX11_laysWays_74 : decode cX11_laysWays 74 = .ok (.invokevirtual 243, 3) := by decide +kernel
theorem dX11_laysWays_77 : decode cX11_laysWays 77 = .ok (.lmul, 1) := by decide +kernel
theorem dX11_laysWays_78 : decode cX11_laysWays 78 = .ok (.lastore, 1) := by decide +kernel
theorem dX11_laysWays_79 : decode cX11_laysWays 79 = .ok (.iinc 5 1, 3) := by decide +kernel
theorem dX11_laysWays_82 : decode cX11_laysWays 82 = .ok (.goto (-41), 3) := by decide +kernel
theorem dX11_laysWays_85 : decode cX11_laysWays 85 = .ok (.aload_n 0, 1) := by decide +kernel
theorem dX11_laysWays_86 : decode cX11_laysWays 86 = .ok (.dup, 1) := by decide +kernel
theorem dX11_laysWays_87 : decode cX11_laysWays 87 = .ok (.getfield 236, 3) := by decide +kernel
theorem dX11_laysWays_90 : decode cX11_laysWays 90 = .ok (.aload_n 0, 1) := by decide +kernel
theorem dX11_laysWays_91 : decode cX11_laysWays 91 = .ok (.getfield 33, 3) := by decide +kernel
theorem dX11_laysWays_94 : decode cX11_laysWays 94 = .ok (.iload_n 3, 1) := by decide +kernel
theorem dX11_laysWays_95 : decode cX11_laysWays 95 = .ok (.laload, 1) := by decide +kernel
theorem dX11_laysWays_96 : decode cX11_laysWays 96 = .ok (.ladd, 1) := by decide +kernel
theorem dX11_laysWays_97 : decode cX11_laysWays 97 = .ok (.putfield 236, 3) := by decide +kernel
theorem dX11_laysWays_100 : decode cX11_laysWays 100 = .ok (.iinc 3 1, 3) := by decide +kernel
theorem dX11_laysWays_103 : decode cX11_laysWays 103 = .ok (.goto (-96), 3) := by decide +kernel
theorem dX11_laysWays_106 : decode cX11_laysWays 106 = .ok (.return_, 1) := by decide +kernel
theorem dX11_isMany_0 : decode cX11_isMany 0 = .ok (.iload_n 1, 1) := by decide +kernel
theorem dX11_isMany_1 : decode cX11_isMany 1 = .ok (.i2l, 1) := by decide +kernel
theorem dX11_isMany_2 : decode cX11_isMany 2 = .ok (.lconst 0, 1) := by decide +kernel
theorem dX11_isMany_3 : decode cX11_isMany 3 = .ok (.ldc2_w 149, 3) := by decide +kernel
theorem dX11_isMany_6 : decode cX11_isMany 6 = .ok (.invokestatic 125, 3) := by decide +kernel
theorem dX11_isMany_9 : decode cX11_isMany 9 = .ok (.ifCond .eq 17, 3) := by decide +kernel
theorem dX11_isMany_12 : decode cX11_isMany 12 = .ok (.iload_n 1, 1) := by decide +kernel
theorem dX11_isMany_13 : decode cX11_isMany 13 = .ok (.aload_n 0, 1) := by decide +kernel
theorem dX11_isMany_14 : decode cX11_isMany 14 = .ok (.getfield 13, 3) := by decide +kernel
theorem dX11_isMany_17 : decode cX11_isMany 17 = .ok (.iconst 1, 1) := by decide +kernel
theorem dX11_isMany_18 : decode cX11_isMany 18 = .ok (.iaload, 1) := by decide +kernel
theorem dX11_isMany_19 : decode cX11_isMany 19 = .ok (.if_icmp .gt 7, 3) := by decide +kernel
theorem dX11_isMany_22 : decode cX11_isMany 22 = .ok (.iconst 1, 1) := by decide +kernel
theorem dX11_isMany_23 : decode cX11_isMany 23 = .ok (.goto 4, 3) := by decide +kernel
theorem dX11_isMany_26 : decode cX11_isMany 26 = .ok (.iconst 0, 1) := by decide +kernel
theorem dX11_isMany_27 : decode cX11_isMany 27 = .ok (.ireturn, 1) := by decide +kernel
theorem dX11_odds_0 : decode cX11_odds 0 = .ok (.aload_n 0, 1) := by decide +kernel
theorem dX11_odds_1 : decode cX11_odds 1 = .ok (.iconst 0, 1) := by decide +kernel
theorem dX11_odds_2 : decode cX11_odds 2 = .ok (.putfield 1, 3) := by decide +kernel
theorem dX11_odds_5 : decode cX11_odds 5 = .ok (.aload_n 0, 1) := by decide +kernel
theorem dX11_odds_6 : decode cX11_odds 6 = .ok (.iload_n 1, 1) := by decide +kernel
theorem dX11_odds_7 : decode cX11_odds 7 = .ok (.invokevirtual 165, 3) := by decide +kernel
theorem dX11_odds_10 : decode cX11_odds 10 = .ok (.ifCond .eq 11, 3) := by decide +kernel
theorem dX11_odds_13 : decode cX11_odds 13 = .ok (.aload_n 0, 1) := by decide +kernel
theorem dX11_odds_14 : decode cX11_odds 14 = .ok (.iload_n 2, 1) := by decide +kernel
theorem dX11_odds_15 : decode cX11_odds 15 = .ok (.invokevirtual 247, 3) := by decide +kernel
theorem dX11_odds_18 : decode cX11_odds 18 = .ok (.ifCond .ne 7, 3) := by decide +kernel
theorem dX11_odds_21 : decode cX11_odds 21 = .ok (.ldc2_w 250, 3) := by decide +kernel
theorem dX11_odds_24 : decode cX11_odds 24 = .ok (.lreturn, 1) := by decide +kernel
theorem dX11_odds_25 : decode cX11_odds 25 = .ok (.aload_n 0, 1) := by decide +kernel
theorem dX11_odds_26 : decode cX11_odds 26 = .ok (.iload_n 2, 1) := by decide +kernel
theorem dX11_odds_27 : decode cX11_odds 27 = .ok (.iconst (-1), 1) := by decide +kernel
theorem dX11_odds_28 : decode cX11_odds 28 = .ok (.invokevirtual 252, 3) := by decide +kernel
theorem dX11_odds_31 : decode cX11_odds 31 = .ok (.aload_n 0, 1) := by decide +kernel
theorem dX11_odds_32 : decode cX11_odds 32 = .ok (.getfield 33, 3) := by decide +kernel
theorem dX11_odds_35 : decode cX11_odds 35 = .ok (.iload_n 1, 1) := by decide +kernel
theorem dX11_odds_36 : decode cX11_odds 36 = .ok (.aload_n 0, 1) := by decide +kernel
theorem dX11_odds_37 : decode cX11_odds 37 = .ok (.getfield 13, 3) := by decide +kernel
theorem dX11_odds_40 : decode cX11_odds 40 = .ok (.iconst 2, 1) := by decide +kernel
theorem dX11_odds_41 : decode cX11_odds 41 = .ok (.iaload, 1) := by decide +kernel
theorem dX11_odds_42 : decode cX11_odds 42 = .ok (.isub, 1) := by decide +kernel
theorem dX11_odds_43 : decode cX11_odds 43 = .ok (.laload, 1) := by decide +kernel
theorem dX11_odds_44 : decode cX11_odds 44 = .ok (.lreturn, 1) := by decide +kernel
theorem dX11_out_0 : decode cX11_out 0 = .ok (.aload_n 0, 1) := by decide +kernel
theorem dX11_out_1 : decode cX11_out 1 = .ok (.iconst 0, 1) := by decide +kernel
theorem dX11_out_2 : decode cX11_out 2 = .ok (.putfield 1, 3) := by decide +kernel
theorem dX11_out_5 : decode cX11_out 5 = .ok (.aload_n 0, 1) := by decide +kernel
theorem dX11_out_6 : decode cX11_out 6 = .ok (.iload_n 1, 1) := by decide +kernel
theorem dX11_out_7 : decode cX11_out 7 = .ok (.invokevirtual 247, 3) := by decide +kernel
theorem dX11_out_10 : decode cX11_out 10 = .ok (.ifCond .ne 7, 3) := by decide +kernel
theorem dX11_out_13 : decode cX11_out 13 = .ok (.ldc2_w 250, 3) := by decide +kernel
theorem dX11_out_16 : decode cX11_out 16 = .ok (.lreturn, 1) := by decide +kernel
theorem dX11_out_17 : decode cX11_out 17 = .ok (.aload_n 0, 1) := by decide +kernel
theorem dX11_out_18 : decode cX11_out 18 = .ok (.iload_n 1, 1) := by decide +kernel
theorem dX11_out_19 : decode cX11_out 19 = .ok (.iconst (-1), 1) := by decide +kernel
theorem dX11_out_20 : decode cX11_out 20 = .ok (.invokevirtual 252, 3) := by decide +kernel
theorem dX11_out_23 : decode cX11_out 23 = .ok (.aload_n 0, 1) := by decide +kernel
theorem dX11_out_24 : decode cX11_out 24 = .ok (.getfield 236, 3) := by decide +kernel
theorem dX11_out_27 : decode cX11_out 27 = .ok (.lreturn, 1) := by decide +kernel
theorem dX11_likeliest_0 : decode cX11_likeliest 0 = .ok (.aload_n 0, 1) := by decide +kernel
theorem dX11_likeliest_1 : decode cX11_likeliest 1 = .ok (.iconst 0, 1) := by decide +kernel
theorem dX11_likeliest_2 : decode cX11_likeliest 2 = .ok (.putfield 1, 3) := by decide +kernel
theorem dX11_likeliest_5 : decode cX11_likeliest 5 = .ok (.aload_n 0, 1) := by decide +kernel
theorem dX11_likeliest_6 : decode cX11_likeliest 6 = .ok (.iload_n 1, 1) := by decide +kernel
theorem dX11_likeliest_7 : decode cX11_likeliest 7 = .ok (.invokevirtual 247, 3) := by decide +kernel
theorem dX11_likeliest_10 : decode cX11_likeliest 10 = .ok (.ifCond .ne 6, 3) := by decide +kernel
theorem dX11_likeliest_13 : decode cX11_likeliest 13 = .ok (.bipush (-3), 2) := by decide +kernel
theorem dX11_likeliest_15 : decode cX11_likeliest 15 = .ok (.ireturn, 1) := by decide +kernel
theorem dX11_likeliest_16 : decode cX11_likeliest 16 = .ok (.aload_n 0, 1) := by decide +kernel
theorem dX11_likeliest_17 : decode cX11_likeliest 17 = .ok (.iload_n 1, 1) := by decide +kernel
theorem dX11_likeliest_18 : decode cX11_likeliest 18 = .ok (.iconst (-1), 1) := by decide +kernel
theorem dX11_likeliest_19 : decode cX11_likeliest 19 = .ok (.invokevirtual 252, 3) := by decide +kernel
theorem dX11_likeliest_22 : decode cX11_likeliest 22 = .ok (.iconst 0, 1) := by decide +kernel
theorem dX11_likeliest_23 : decode cX11_likeliest 23 = .ok (.istore_n 2, 1) := by decide +kernel
theorem dX11_likeliest_24 : decode cX11_likeliest 24 = .ok (.iconst 1, 1) := by decide +kernel
theorem dX11_likeliest_25 : decode cX11_likeliest 25 = .ok (.istore_n 3, 1) := by decide +kernel
theorem dX11_likeliest_26 : decode cX11_likeliest 26 = .ok (.iload_n 3, 1) := by decide +kernel
theorem dX11_likeliest_27 : decode cX11_likeliest 27 = .ok (.aload_n 0, 1) := by decide +kernel
theorem dX11_likeliest_28 : decode cX11_likeliest 28 = .ok (.invokevirtual 240, 3) := by decide +kernel
theorem dX11_likeliest_31 : decode cX11_likeliest 31 = .ok (.if_icmp .ge 27, 3) := by decide +kernel
theorem dX11_likeliest_34 : decode cX11_likeliest 34 = .ok (.aload_n 0, 1) := by decide +kernel
theorem dX11_likeliest_35 : decode cX11_likeliest 35 = .ok (.getfield 33, 3) := by decide +kernel
theorem dX11_likeliest_38 : decode cX11_likeliest 38 = .ok (.iload_n 3, 1) := by decide +kernel
theorem dX11_likeliest_39 : decode cX11_likeliest 39 = .ok (.laload, 1) := by decide +kernel
theorem dX11_likeliest_40 : decode cX11_likeliest 40 = .ok (.aload_n 0, 1) := by decide +kernel
theorem dX11_likeliest_41 : decode cX11_likeliest 41 = .ok (.getfield 33, 3) := by decide +kernel
theorem dX11_likeliest_44 : decode cX11_likeliest 44 = .ok (.iload_n 2, 1) := by decide +kernel
theorem dX11_likeliest_45 : decode cX11_likeliest 45 = .ok (.laload, 1) := by decide +kernel
theorem dX11_likeliest_46 : decode cX11_likeliest 46 = .ok (.lcmp, 1) := by decide +kernel
theorem dX11_likeliest_47 : decode cX11_likeliest 47 = .ok (.ifCond .le 5, 3) := by decide +kernel
theorem dX11_likeliest_50 : decode cX11_likeliest 50 = .ok (.iload_n 3, 1) := by decide +kernel
theorem dX11_likeliest_51 : decode cX11_likeliest 51 = .ok (.istore_n 2, 1) := by decide +kernel
theorem dX11_likeliest_52 : decode cX11_likeliest 52 = .ok (.iinc 3 1, 3) := by decide +kernel
theorem dX11_likeliest_55 : decode cX11_likeliest 55 = .ok (.goto (-29), 3) := by decide +kernel
theorem dX11_likeliest_58 : decode cX11_likeliest 58 = .ok (.aload_n 0, 1) := by decide +kernel
theorem dX11_likeliest_59 : decode cX11_likeliest 59 = .ok (.getfield 236, 3) := by decide +kernel
theorem dX11_likeliest_62 : decode cX11_likeliest 62 = .ok (.lconst 0, 1) := by decide +kernel
theorem dX11_likeliest_63 : decode cX11_likeliest 63 = .ok (.lcmp, 1) := by decide +kernel
theorem dX11_likeliest_64 : decode cX11_likeliest 64 = .ok (.ifCond .ne 7, 3) := by decide +kernel
theorem dX11_likeliest_67 : decode cX11_likeliest 67 = .ok (.iconst (-1), 1) := by decide +kernel
theorem dX11_likeliest_68 : decode cX11_likeliest 68 = .ok (.goto 11, 3) := by decide +kernel
theorem dX11_likeliest_71 : decode cX11_likeliest 71 = .ok (.aload_n 0, 1) := by decide +kernel
theorem dX11_likeliest_72 : decode cX11_likeliest 72 = .ok (.getfield 13, 3) := by decide +kernel
theorem dX11_likeliest_75 : decode cX11_likeliest 75 = .ok (.iconst 2, 1) := by decide +kernel
theorem dX11_likeliest_76 : decode cX11_likeliest 76 = .ok (.iaload, 1) := by decide +kernel
theorem dX11_likeliest_77 : decode cX11_likeliest 77 = .ok (.iload_n 2, 1) := by decide +kernel
theorem dX11_likeliest_78 : decode cX11_likeliest 78 = .ok (.iadd, 1) := by decide +kernel
theorem dX11_likeliest_79 : decode cX11_likeliest 79 = .ok (.ireturn, 1) := by decide +kernel
theorem dX11_span_0 : decode cX11_span 0 = .ok (.aload_n 0, 1) := by decide +kernel
theorem dX11_span_1 : decode cX11_span 1 = .ok (.iconst 0, 1) := by decide +kernel
theorem dX11_span_2 : decode cX11_span 2 = .ok (.putfield 1, 3) := by decide +kernel
theorem dX11_span_5 : decode cX11_span 5 = .ok (.iload_n 2, 1) := by decide +kernel
theorem dX11_span_6 : decode cX11_span 6 = .ok (.i2l, 1) := by decide +kernel
theorem dX11_span_7 : decode cX11_span 7 = .ok (.lconst 0, 1) := by decide +kernel
theorem dX11_span_8 : decode cX11_span 8 = .ok (.ldc2_w 196, 3) := by decide +kernel
theorem dX11_span_11 : decode cX11_span 11 = .ok (.invokestatic 125, 3) := by decide +kernel
theorem dX11_span_14 : decode cX11_span 14 = .ok (.ifCond .ne 6, 3) := by decide +kernel
theorem dX11_span_17 : decode cX11_span 17 = .ok (.bipush (-2), 2) := by decide +kernel
theorem dX11_span_19 : decode cX11_span 19 = .ok (.ireturn, 1) := by decide +kernel
theorem dX11_span_20 : decode cX11_span 20 = .ok (.aload_n 0, 1) := by decide +kernel
theorem dX11_span_21 : decode cX11_span 21 = .ok (.iload_n 1, 1) := by decide +kernel
theorem dX11_span_22 : decode cX11_span 22 = .ok (.invokevirtual 247, 3) := by decide +kernel
theorem dX11_span_25 : decode cX11_span 25 = .ok (.ifCond .ne 6, 3) := by decide +kernel
theorem dX11_span_28 : decode cX11_span 28 = .ok (.bipush (-3), 2) := by decide +kernel
theorem dX11_span_30 : decode cX11_span 30 = .ok (.ireturn, 1) := by decide +kernel
theorem dX11_span_31 : decode cX11_span 31 = .ok (.aload_n 0, 1) := by decide +kernel
theorem dX11_span_32 : decode cX11_span 32 = .ok (.iload_n 1, 1) := by decide +kernel
theorem dX11_span_33 : decode cX11_span 33 = .ok (.iconst (-1), 1) := by decide +kernel
theorem dX11_span_34 : decode cX11_span 34 = .ok (.invokevirtual 252, 3) := by decide +kernel
theorem dX11_span_37 : decode cX11_span 37 = .ok (.iconst 0, 1) := by decide +kernel
theorem dX11_span_38 : decode cX11_span 38 = .ok (.istore_n 3, 1) := by decide +kernel
theorem dX11_span_39 : decode cX11_span 39 = .ok (.iconst (-1), 1) := by decide +kernel
theorem dX11_span_40 : decode cX11_span 40 = .ok (.istore 4, 2) := by decide +kernel
theorem dX11_span_42 : decode cX11_span 42 = .ok (.iconst (-1), 1) := by decide +kernel
theorem dX11_span_43 : decode cX11_span 43 = .ok (.istore 5, 2) := by decide +kernel
theorem dX11_span_45 : decode cX11_span 45 = .ok (.iconst 0, 1) := by decide +kernel
theorem dX11_span_46 : decode cX11_span 46 = .ok (.istore 6, 2) := by decide +kernel
theorem dX11_span_48 : decode cX11_span 48 = .ok (.iload 6, 2) := by decide +kernel
theorem dX11_span_50 : decode cX11_span 50 = .ok (.aload_n 0, 1) := by decide +kernel
theorem dX11_span_51 : decode cX11_span 51 = .ok (.invokevirtual 240, 3) := by decide +kernel
theorem dX11_span_54 : decode cX11_span 54 = .ok (.if_icmp .ge 60, 3) := by decide +kernel
theorem dX11_span_57 : decode cX11_span 57 = .ok (.aload_n 0, 1) := by decide +kernel
theorem dX11_span_58 : decode cX11_span 58 = .ok (.getfield 33, 3) := by decide +kernel
theorem dX11_span_61 : decode cX11_span 61 = .ok (.iload 6, 2) := by decide +kernel
theorem dX11_span_63 : decode cX11_span 63 = .ok (.laload, 1) := by decide +kernel
theorem dX11_span_64 : decode cX11_span 64 = .ok (.lconst 0, 1) := by decide +kernel
theorem dX11_span_65 : decode cX11_span 65 = .ok (.lcmp, 1) := by decide +kernel
theorem dX11_span_66 : decode cX11_span 66 = .ok (.ifCond .ne 6, 3) := by decide +kernel
theorem dX11_span_69 : decode cX11_span 69 = .ok (.goto 39, 3) := by decide +kernel
theorem dX11_span_72 : decode cX11_span 72 = .ok (.iinc 3 1, 3) := by decide +kernel
theorem dX11_span_75 : decode cX11_span 75 = .ok (.iload 4, 2) := by decide +kernel
theorem dX11_span_77 : decode cX11_span 77 = .ok (.iconst (-1), 1) := by decide +kernel
theorem dX11_span_78 : decode cX11_span 78 = .ok (.if_icmp .ne 15, 3) := by decide +kernel
theorem dX11_span_81 : decode cX11_span 81 = .ok (.aload_n 0, 1) := by decide +kernel
theorem dX11_span_82 : decode cX11_span 82 = .ok (.getfield 13, 3) := by decide +kernel
theorem dX11_span_85 : decode cX11_span 85 = .ok (.iconst 2, 1) := by decide +kernel
theorem dX11_span_86 : decode cX11_span 86 = .ok (.iaload, 1) := by decide +kernel
theorem dX11_span_87 : decode cX11_span 87 = .ok (.iload 6, 2) := by decide +kernel
theorem dX11_span_89 : decode cX11_span 89 = .ok (.iadd, 1) := by decide +kernel
theorem dX11_span_90 : decode cX11_span 90 = .ok (.goto 5, 3) := by decide +kernel
theorem dX11_span_93 : decode cX11_span 93 = .ok (.iload 4, 2) := by decide +kernel
theorem dX11_span_95 : decode cX11_span 95 = .ok (.istore 4, 2) := by decide +kernel
theorem dX11_span_97 : decode cX11_span 97 = .ok (.aload_n 0, 1) := by decide +kernel
theorem dX11_span_98 : decode cX11_span 98 = .ok (.getfield 13, 3) := by decide +kernel
theorem dX11_span_101 : decode cX11_span 101 = .ok (.iconst 2, 1) := by decide +kernel
theorem dX11_span_102 : decode cX11_span 102 = .ok (.iaload, 1) := by decide +kernel
theorem dX11_span_103 : decode cX11_span 103 = .ok (.iload 6, 2) := by decide +kernel
theorem dX11_span_105 : decode cX11_span 105 = .ok (.iadd, 1) := by decide +kernel
theorem dX11_span_106 : decode cX11_span 106 = .ok (.istore 5, 2) := by decide +kernel
theorem dX11_span_108 : decode cX11_span 108 = .ok (.iinc 6 1, 3) := by decide +kernel
theorem dX11_span_111 : decode cX11_span 111 = .ok (.goto (-63), 3) := by decide +kernel
theorem dX11_span_114 : decode cX11_span 114 = .ok (.iload_n 2, 1) := by decide +kernel
theorem dX11_span_115 : decode cX11_span 115 = .ok (.ifCond .ne 8, 3) := by decide +kernel
theorem dX11_span_118 : decode cX11_span 118 = .ok (.iload 4, 2) := by decide +kernel
theorem dX11_span_120 : decode cX11_span 120 = .ok (.goto 14, 3) := by decide +kernel
theorem dX11_span_123 : decode cX11_span 123 = .ok (.iload_n 2, 1) := by decide +kernel
theorem dX11_span_124 : decode cX11_span 124 = .ok (.iconst 1, 1) := by decide +kernel
theorem dX11_span_125 : decode cX11_span 125 = .ok (.if_icmp .ne 8, 3) := by decide +kernel
theorem dX11_span_128 : decode cX11_span 128 = .ok (.iload 5, 2) := by decide +kernel
theorem dX11_span_130 : decode cX11_span 130 = .ok (.goto 4, 3) := by decide +kernel
theorem dX11_span_133 : decode cX11_span 133 = .ok (.iload_n 3, 1) := by decide +kernel
theorem dX11_span_134 : decode cX11_span 134 = .ok (.ireturn, 1) := by decide +kernel
theorem dX11_expect_0 : decode cX11_expect 0 = .ok (.aload_n 0, 1) := by decide +kernel
theorem dX11_expect_1 : decode cX11_expect 1 = .ok (.iconst 0, 1) := by decide +kernel
theorem dX11_expect_2 : decode cX11_expect 2 = .ok (.putfield 1, 3) := by decide +kernel
theorem dX11_expect_5 : decode cX11_expect 5 = .ok (.iload_n 2, 1) := by decide +kernel
theorem dX11_expect_6 : decode cX11_expect 6 = .ok (.i2l, 1) := by decide +kernel
theorem dX11_expect_7 : decode cX11_expect 7 = .ok (.lconst 0, 1) := by decide +kernel
theorem dX11_expect_8 : decode cX11_expect 8 = .ok (.ldc2_w 196, 3) := by decide +kernel
theorem dX11_expect_11 : decode cX11_expect 11 = .ok (.invokestatic 125, 3) := by decide +kernel
theorem dX11_expect_14 : decode cX11_expect 14 = .ok (.ifCond .ne 7, 3) := by decide +kernel
theorem dX11_expect_17 : decode cX11_expect 17 = .ok (.ldc2_w 255, 3) := by decide +kernel
theorem dX11_expect_20 : decode cX11_expect 20 = .ok (.lreturn, 1) := by decide +kernel
theorem dX11_expect_21 : decode cX11_expect 21 = .ok (.aload_n 0, 1) := by decide +kernel
theorem dX11_expect_22 : decode cX11_expect 22 = .ok (.iload_n 1, 1) := by decide +kernel
theorem dX11_expect_23 : decode cX11_expect 23 = .ok (.invokevirtual 247, 3) := by decide +kernel
theorem dX11_expect_26 : decode cX11_expect 26 = .ok (.ifCond .ne 7, 3) := by decide +kernel
theorem dX11_expect_29 : decode cX11_expect 29 = .ok (.ldc2_w 250, 3) := by decide +kernel
theorem dX11_expect_32 : decode cX11_expect 32 = .ok (.lreturn, 1) := by decide +kernel
theorem dX11_expect_33 : decode cX11_expect 33 = .ok (.aload_n 0, 1) := by decide +kernel
theorem dX11_expect_34 : decode cX11_expect 34 = .ok (.iload_n 1, 1) := by decide +kernel
theorem dX11_expect_35 : decode cX11_expect 35 = .ok (.iconst (-1), 1) := by decide +kernel
theorem dX11_expect_36 : decode cX11_expect 36 = .ok (.invokevirtual 252, 3) := by decide +kernel
theorem dX11_expect_39 : decode cX11_expect 39 = .ok (.aload_n 0, 1) := by decide +kernel
theorem dX11_expect_40 : decode cX11_expect 40 = .ok (.getfield 236, 3) := by decide +kernel
theorem dX11_expect_43 : decode cX11_expect 43 = .ok (.lconst 0, 1) := by decide +kernel
theorem dX11_expect_44 : decode cX11_expect 44 = .ok (.lcmp, 1) := by decide +kernel
theorem dX11_expect_45 : decode cX11_expect 45 = .ok (.ifCond .ne 7, 3) := by decide +kernel
theorem dX11_expect_48 : decode cX11_expect 48 = .ok (.ldc2_w 257, 3) := by decide +kernel
theorem dX11_expect_51 : decode cX11_expect 51 = .ok (.lreturn, 1) := by decide +kernel
theorem dX11_expect_52 : decode cX11_expect 52 = .ok (.lconst 0, 1) := by decide +kernel
theorem dX11_expect_53 : decode cX11_expect 53 = .ok (.lstore_n 3, 1) := by decide +kernel
theorem dX11_expect_54 : decode cX11_expect 54 = .ok (.lconst 0, 1) := by decide +kernel
theorem dX11_expect_55 : decode cX11_expect 55 = .ok (.lstore 5, 2) := by decide +kernel
theorem dX11_expect_57 : decode cX11_expect 57 = .ok (.iconst (-1), 1) := by decide +kernel
theorem dX11_expect_58 : decode cX11_expect 58 = .ok (.istore 7, 2) := by decide +kernel
theorem dX11_expect_60 : decode cX11_expect 60 = .ok (.iconst 0, 1) := by decide +kernel
theorem dX11_expect_61 : decode cX11_expect 61 = .ok (.istore 8, 2) := by decide +kernel
theorem dX11_expect_63 : decode cX11_expect 63 = .ok (.iload 8, 2) := by decide +kernel
theorem dX11_expect_65 : decode cX11_expect 65 = .ok (.aload_n 0, 1) := by decide +kernel
theorem dX11_expect_66 : decode cX11_expect 66 = .ok (.invokevirtual 240, 3) := by decide +kernel
theorem dX11_expect_69 : decode cX11_expect 69 = .ok (.if_icmp .ge 73, 3) := by decide +kernel
theorem dX11_expect_72 : decode cX11_expect 72 = .ok (.lload_n 3, 1) := by decide +kernel
theorem dX11_expect_73 : decode cX11_expect 73 = .ok (.aload_n 0, 1) := by decide +kernel
theorem dX11_expect_74 : decode cX11_expect 74 = .ok (.getfield 33, 3) := by decide +kernel
theorem dX11_expect_77 : decode cX11_expect 77 = .ok (.iload 8, 2) := by decide +kernel
theorem dX11_expect_79 : decode cX11_expect 79 = .ok (.laload, 1) := by decide +kernel
theorem dX11_expect_80 : decode cX11_expect 80 = .ok (.aload_n 0, 1) := by decide +kernel
theorem dX11_expect_81 : decode cX11_expect 81 = .ok (.getfield 13, 3) := by decide +kernel
theorem dX11_expect_84 : decode cX11_expect 84 = .ok (.iconst 2, 1) := by decide +kernel
theorem dX11_expect_85 : decode cX11_expect 85 = .ok (.iaload, 1) := by decide +kernel
theorem dX11_expect_86 : decode cX11_expect 86 = .ok (.iload 8, 2) := by decide +kernel
theorem dX11_expect_88 : decode cX11_expect 88 = .ok (.iadd, 1) := by decide +kernel
theorem dX11_expect_89 : decode cX11_expect 89 = .ok (.i2l, 1) := by decide +kernel
theorem dX11_expect_90 : decode cX11_expect 90 = .ok (.lmul, 1) := by decide +kernel
theorem dX11_expect_91 : decode cX11_expect 91 = .ok (.ladd, 1) := by decide +kernel
theorem dX11_expect_92 : decode cX11_expect 92 = .ok (.lstore_n 3, 1) := by decide +kernel
theorem dX11_expect_93 : decode cX11_expect 93 = .ok (.lload 5, 2) := by decide +kernel
theorem dX11_expect_95 : decode cX11_expect 95 = .ok (.aload_n 0, 1) := by decide +kernel
theorem dX11_expect_96 : decode cX11_expect 96 = .ok (.getfield 33, 3) := by decide +kernel
theorem dX11_expect_99 : decode cX11_expect 99 = .ok (.iload 8, 2) := by decide +kernel
theorem dX11_expect_101 : decode cX11_expect 101 = .ok (.laload, 1) := by decide +kernel
theorem dX11_expect_102 : decode cX11_expect 102 = .ok (.ladd, 1) := by decide +kernel
theorem dX11_expect_103 : decode cX11_expect 103 = .ok (.lstore 5, 2) := by decide +kernel
theorem dX11_expect_105 : decode cX11_expect 105 = .ok (.iload 7, 2) := by decide +kernel
theorem dX11_expect_107 : decode cX11_expect 107 = .ok (.iconst (-1), 1) := by decide +kernel
theorem dX11_expect_108 : decode cX11_expect 108 = .ok (.if_icmp .ne 28, 3) := by decide +kernel
theorem dX11_expect_111 : decode cX11_expect 111 = .ok (.ldc2_w 196, 3) := by decide +kernel
theorem dX11_expect_114 : decode cX11_expect 114 = .ok (.lload 5, 2) := by decide +kernel
theorem dX11_expect_116 : decode cX11_expect 116 = .ok (.lmul, 1) := by decide +kernel
theorem dX11_expect_117 : decode cX11_expect 117 = .ok (.aload_n 0, 1) := by decide +kernel
theorem dX11_expect_118 : decode cX11_expect 118 = .ok (.getfield 236, 3) := by decide +kernel
theorem dX11_expect_121 : decode cX11_expect 121 = .ok (.lcmp, 1) := by decide +kernel
theorem dX11_expect_122 : decode cX11_expect 122 = .ok (.ifCond .lt 14, 3) := by decide +kernel
theorem dX11_expect_125 : decode cX11_expect 125 = .ok (.aload_n 0, 1) := by decide +kernel
theorem dX11_expect_126 : decode cX11_expect 126 = .ok (.getfield 13, 3) := by decide +kernel
theorem dX11_expect_129 : decode cX11_expect 129 = .ok (.iconst 2, 1) := by decide +kernel
theorem dX11_expect_130 : decode cX11_expect 130 = .ok (.iaload, 1) := by decide +kernel
theorem dX11_expect_131 : decode cX11_expect 131 = .ok (.iload 8, 2) := by decide +kernel
theorem dX11_expect_133 : decode cX11_expect 133 = .ok (.iadd, 1) := by decide +kernel
theorem dX11_expect_134 : decode cX11_expect 134 = .ok (.istore 7, 2) := by decide +kernel
theorem dX11_expect_136 : decode cX11_expect 136 = .ok (.iinc 8 1, 3) := by decide +kernel
theorem dX11_expect_139 : decode cX11_expect 139 = .ok (.goto (-76), 3) := by decide +kernel
theorem dX11_expect_142 : decode cX11_expect 142 = .ok (.iload_n 2, 1) := by decide +kernel
theorem dX11_expect_143 : decode cX11_expect 143 = .ok (.ifCond .ne 12, 3) := by decide +kernel
theorem dX11_expect_146 : decode cX11_expect 146 = .ok (.lload_n 3, 1) := by decide +kernel
theorem dX11_expect_147 : decode cX11_expect 147 = .ok (.aload_n 0, 1) := by decide +kernel
theorem dX11_expect_148 : decode cX11_expect 148 = .ok (.getfield 236, 3) := by decide +kernel
theorem dX11_expect_151 : decode cX11_expect 151 = .ok (.ldiv, 1) := by decide +kernel
theorem dX11_expect_152 : decode cX11_expect 152 = .ok (.goto 20, 3) := by decide +kernel
theorem dX11_expect_155 : decode cX11_expect 155 = .ok (.iload_n 2, 1) := by decide +kernel
theorem dX11_expect_156 : decode cX11_expect 156 = .ok (.iconst 1, 1) := by decide +kernel
theorem dX11_expect_157 : decode cX11_expect 157 = .ok (.if_icmp .ne 12, 3) := by decide +kernel
theorem dX11_expect_160 : decode cX11_expect 160 = .ok (.lload_n 3, 1) := by decide +kernel
theorem dX11_expect_161 : decode cX11_expect 161 = .ok (.aload_n 0, 1) := by decide +kernel
theorem dX11_expect_162 : decode cX11_expect 162 = .ok (.getfield 236, 3) := by decide +kernel
theorem dX11_expect_165 : decode cX11_expect 165 = .ok (.lrem, 1) := by decide +kernel
theorem dX11_expect_166 : decode cX11_expect 166 = .ok (.goto 6, 3) := by decide +kernel
theorem dX11_expect_169 : decode cX11_expect 169 = .ok (.iload 7, 2) := by decide +kernel
theorem dX11_expect_171 : decode cX11_expect 171 = .ok (.i2l, 1) := by decide +kernel
theorem dX11_expect_172 : decode cX11_expect 172 = .ok (.lreturn, 1) := by decide +kernel
theorem dX11_copiedOf_0 : decode cX11_copiedOf 0 = .ok (.aload_n 0, 1) := by decide +kernel
theorem dX11_copiedOf_1 : decode cX11_copiedOf 1 = .ok (.iload_n 2, 1) := by decide +kernel
theorem dX11_copiedOf_2 : decode cX11_copiedOf 2 = .ok (.iload_n 1, 1) := by decide +kernel
theorem dX11_copiedOf_3 : decode cX11_copiedOf 3 = .ok (.invokevirtual 252, 3) := by decide +kernel
theorem dX11_copiedOf_6 : decode cX11_copiedOf 6 = .ok (.aload_n 0, 1) := by decide +kernel
theorem dX11_copiedOf_7 : decode cX11_copiedOf 7 = .ok (.getfield 236, 3) := by decide +kernel
theorem dX11_copiedOf_10 : decode cX11_copiedOf 10 = .ok (.lreturn, 1) := by decide +kernel
theorem dX11_copied_0 : decode cX11_copied 0 = .ok (.aload_n 0, 1) := by decide +kernel
theorem dX11_copied_1 : decode cX11_copied 1 = .ok (.iconst 0, 1) := by decide +kernel
theorem dX11_copied_2 : decode cX11_copied 2 = .ok (.putfield 1, 3) := by decide +kernel
theorem dX11_copied_5 : decode cX11_copied 5 = .ok (.aload_n 0, 1) := by decide +kernel
theorem dX11_copied_6 : decode cX11_copied 6 = .ok (.iload_n 2, 1) := by decide +kernel
theorem dX11_copied_7 : decode cX11_copied 7 = .ok (.invokevirtual 247, 3) := by decide +kernel
theorem dX11_copied_10 : decode cX11_copied 10 = .ok (.ifCond .ne 7, 3) := by decide +kernel
theorem dX11_copied_13 : decode cX11_copied 13 = .ok (.ldc2_w 250, 3) := by decide +kernel
theorem dX11_copied_16 : decode cX11_copied 16 = .ok (.lreturn, 1) := by decide +kernel
theorem dX11_copied_17 : decode cX11_copied 17 = .ok (.iload_n 1, 1) := by decide +kernel
theorem dX11_copied_18 : decode cX11_copied 18 = .ok (.i2l, 1) := by decide +kernel
theorem dX11_copied_19 : decode cX11_copied 19 = .ok (.lconst 0, 1) := by decide +kernel
theorem dX11_copied_20 : decode cX11_copied 20 = .ok (.iload_n 2, 1) := by decide +kernel
theorem dX11_copied_21 : decode cX11_copied 21 = .ok (.iconst 1, 1) := by decide +kernel
theorem dX11_copied_22 : decode cX11_copied 22 = .ok (.isub, 1) := by decide +kernel
theorem dX11_copied_23 : decode cX11_copied 23 = .ok (.i2l, 1) := by decide +kernel
theorem dX11_copied_24 : decode cX11_copied 24 = .ok (.invokestatic 125, 3) := by decide +kernel
theorem dX11_copied_27 : decode cX11_copied 27 = .ok (.ifCond .eq 12, 3) := by decide +kernel
theorem dX11_copied_30 : decode cX11_copied 30 = .ok (.aload_n 0, 1) := by decide +kernel
theorem dX11_copied_31 : decode cX11_copied 31 = .ok (.iload_n 1, 1) := by decide +kernel
theorem dX11_copied_32 : decode cX11_copied 32 = .ok (.iload_n 2, 1) := by decide +kernel
theorem dX11_copied_33 : decode cX11_copied 33 = .ok (.invokevirtual 259, 3) := by decide +kernel
theorem dX11_copied_36 : decode cX11_copied 36 = .ok (.goto 6, 3) := by decide +kernel
theorem dX11_copied_39 : decode cX11_copied 39 = .ok (.ldc2_w 255, 3) := by decide +kernel
theorem dX11_copied_42 : decode cX11_copied 42 = .ok (.lreturn, 1) := by decide +kernel
theorem dX11_copier_0 : decode cX11_copier 0 = .ok (.aload_n 0, 1) := by decide +kernel
theorem dX11_copier_1 : decode cX11_copier 1 = .ok (.iconst 0, 1) := by decide +kernel
theorem dX11_copier_2 : decode cX11_copier 2 = .ok (.putfield 1, 3) := by decide +kernel
theorem dX11_copier_5 : decode cX11_copier 5 = .ok (.aload_n 0, 1) := by decide +kernel
theorem dX11_copier_6 : decode cX11_copier 6 = .ok (.iload_n 1, 1) := by decide +kernel
theorem dX11_copier_7 : decode cX11_copier 7 = .ok (.invokevirtual 247, 3) := by decide +kernel
theorem dX11_copier_10 : decode cX11_copier 10 = .ok (.ifCond .ne 6, 3) := by decide +kernel
theorem dX11_copier_13 : decode cX11_copier 13 = .ok (.bipush (-3), 2) := by decide +kernel
theorem dX11_copier_15 : decode cX11_copier 15 = .ok (.ireturn, 1) := by decide +kernel
theorem dX11_copier_16 : decode cX11_copier 16 = .ok (.iconst (-1), 1) := by decide +kernel
theorem dX11_copier_17 : decode cX11_copier 17 = .ok (.istore_n 2, 1) := by decide +kernel
theorem dX11_copier_18 : decode cX11_copier 18 = .ok (.lconst 0, 1) := by decide +kernel
theorem dX11_copier_19 : decode cX11_copier 19 = .ok (.lstore_n 3, 1) := by decide +kernel
theorem dX11_copier_20 : decode cX11_copier 20 = .ok (.iconst 0, 1) := by decide +kernel
theorem dX11_copier_21 : decode cX11_copier 21 = .ok (.istore 5, 2) := by decide +kernel
theorem dX11_copier_23 : decode cX11_copier 23 = .ok (.iload 5, 2) := by decide +kernel
theorem dX11_copier_25 : decode cX11_copier 25 = .ok (.iload_n 1, 1) := by decide +kernel
theorem dX11_copier_26 : decode cX11_copier 26 = .ok (.if_icmp .ge 34, 3) := by decide +kernel
theorem dX11_copier_29 : decode cX11_copier 29 = .ok (.aload_n 0, 1) := by decide +kernel
theorem dX11_copier_30 : decode cX11_copier 30 = .ok (.iload 5, 2) := by decide +kernel
theorem dX11_copier_32 : decode cX11_copier 32 = .ok (.iload_n 1, 1) := by decide +kernel
theorem dX11_copier_33 : decode cX11_copier 33 = .ok (.invokevirtual 259, 3) := by decide +kernel
theorem dX11_copier_36 : decode cX11_copier 36 = .ok (.lstore 6, 2) := by decide +kernel
theorem dX11_copier_38 : decode cX11_copier 38 = .ok (.lload 6, 2) := by decide +kernel
theorem dX11_copier_40 : decode cX11_copier 40 = .ok (.lload_n 3, 1) := by decide +kernel
theorem dX11_copier_41 : decode cX11_copier 41 = .ok (.lcmp, 1) := by decide +kernel
theorem dX11_copier_42 : decode cX11_copier 42 = .ok (.ifCond .gt 6, 3) := by decide +kernel
theorem dX11_copier_45 : decode cX11_copier 45 = .ok (.goto 9, 3) := by decide +kernel
theorem dX11_copier_48 : decode cX11_copier 48 = .ok (.lload 6, 2) := by decide +kernel
theorem dX11_copier_50 : decode cX11_copier 50 = .ok (.lstore_n 3, 1) := by decide +kernel
theorem dX11_copier_51 : decode cX11_copier 51 = .ok (.iload 5, 2) := by decide +kernel
theorem dX11_copier_53 : decode cX11_copier 53 = .ok (.istore_n 2, 1) := by decide +kernel
theorem dX11_copier_54 : decode cX11_copier 54 = .ok (.iinc 5 1, 3) := by decide +kernel
theorem dX11_copier_57 : decode cX11_copier 57 = .ok (.goto (-34), 3) := by decide +kernel
theorem dX11_copier_60 : decode cX11_copier 60 = .ok (.iload_n 2, 1) := by decide +kernel
theorem dX11_copier_61 : decode cX11_copier 61 = .ok (.ireturn, 1) := by decide +kernel
theorem dX11_laysNear_0 : decode cX11_laysNear 0 = .ok (.iconst 0, 1) := by decide +kernel
theorem dX11_laysNear_1 : decode cX11_laysNear 1 = .ok (.istore_n 1, 1) := by decide +kernel
theorem dX11_laysNear_2 : decode cX11_laysNear 2 = .ok (.iload_n 1, 1) := by decide +kernel
theorem dX11_laysNear_3 : decode cX11_laysNear 3 = .ok (.aload_n 0, 1) := by decide +kernel
theorem dX11_laysNear_4 : decode cX11_laysNear 4 = .ok (.invokevirtual 240, 3) := by decide +kernel
theorem dX11_laysNear_7 : decode cX11_laysNear 7 = .ok (.if_icmp .ge 92, 3) := by decide +kernel
theorem dX11_laysNear_10 : decode cX11_laysNear 10 = .ok (.aload_n 0, 1) := by decide +kernel
theorem dX11_laysNear_11 : decode cX11_laysNear 11 = .ok (.getfield 37, 3) := by decide +kernel
theorem dX11_laysNear_14 : decode cX11_laysNear 14 = .ok (.iload_n 1, 1) := by decide +kernel
theorem dX11_laysNear_15 : decode cX11_laysNear 15 = .ok (.sipush 9999, 3) := by decide +kernel
theorem dX11_laysNear_18 : decode cX11_laysNear 18 = .ok (.iastore, 1) := by decide +kernel
theorem dX11_laysNear_19 : decode cX11_laysNear 19 = .ok (.iconst 0, 1) := by decide +kernel
theorem dX11_laysNear_20 : decode cX11_laysNear 20 = .ok (.istore_n 2, 1) := by decide +kernel
theorem dX11_laysNear_21 : decode cX11_laysNear 21 = .ok (.iload_n 2, 1) := by decide +kernel
theorem dX11_laysNear_22 : decode cX11_laysNear 22 = .ok (.aload_n 0, 1) := by decide +kernel
theorem dX11_laysNear_23 : decode cX11_laysNear 23 = .ok (.getfield 13, 3) := by decide +kernel
theorem dX11_laysNear_26 : decode cX11_laysNear 26 = .ok (.iconst 1, 1) := by decide +kernel
theorem dX11_laysNear_27 : decode cX11_laysNear 27 = .ok (.iaload, 1) := by decide +kernel
theorem dX11_laysNear_28 : decode cX11_laysNear 28 = .ok (.if_icmp .ge 65, 3) := by decide +kernel
theorem dX11_laysNear_31 : decode cX11_laysNear 31 = .ok (.aload_n 0, 1) := by decide +kernel
theorem dX11_laysNear_32 : decode cX11_laysNear 32 = .ok (.getfield 37, 3) := by decide +kernel
theorem dX11_laysNear_35 : decode cX11_laysNear 35 = .ok (.iload_n 1, 1) := by decide +kernel
theorem dX11_laysNear_36 : decode cX11_laysNear 36 = .ok (.aload_n 0, 1) := by decide +kernel
theorem dX11_laysNear_37 : decode cX11_laysNear 37 = .ok (.iload_n 2, 1) := by decide +kernel
theorem dX11_laysNear_38 : decode cX11_laysNear 38 = .ok (.invokevirtual 171, 3) := by decide +kernel
theorem dX11_laysNear_41 : decode cX11_laysNear 41 = .ok (.aload_n 0, 1) := by decide +kernel
theorem dX11_laysNear_42 : decode cX11_laysNear 42 = .ok (.getfield 13, 3) := by decide +kernel
theorem dX11_laysNear_45 : decode cX11_laysNear 45 = .ok (.iconst 2, 1) := by decide +kernel
theorem dX11_laysNear_46 : decode cX11_laysNear 46 = .ok (.iaload, 1) := by decide +kernel
theorem dX11_laysNear_47 : decode cX11_laysNear 47 = .ok (.iload_n 1, 1) := by decide +kernel
theorem dX11_laysNear_48 : decode cX11_laysNear 48 = .ok (.iadd, 1) := by decide +kernel
theorem dX11_laysNear_49 : decode cX11_laysNear 49 = .ok (.invokestatic 162, 3) := by decide +kernel
theorem dX11_laysNear_52 : decode cX11_laysNear 52 = .ok (.aload_n 0, 1) := by decide +kernel
theorem dX11_laysNear_53 : decode cX11_laysNear 53 = .ok (.getfield 37, 3) := by decide +kernel
theorem dX11_laysNear_56 : decode cX11_laysNear 56 = .ok (.iload_n 1, 1) := by decide +kernel
theorem dX11_laysNear_57 : decode cX11_laysNear 57 = .ok (.iaload, 1) := by decide +kernel
theorem dX11_laysNear_58 : decode cX11_laysNear 58 = .ok (.if_icmp .ge 22, 3) := by decide +kernel
theorem dX11_laysNear_61 : decode cX11_laysNear 61 = .ok (.aload_n 0, 1) := by decide +kernel
theorem dX11_laysNear_62 : decode cX11_laysNear 62 = .ok (.iload_n 2, 1) := by decide +kernel
theorem dX11_laysNear_63 : decode cX11_laysNear 63 = .ok (.invokevirtual 171, 3) := by decide +kernel
theorem dX11_laysNear_66 : decode cX11_laysNear 66 = .ok (.aload_n 0, 1) := by decide +kernel
theorem dX11_laysNear_67 : decode cX11_laysNear 67 = .ok (.getfield 13, 3) := by decide +kernel
theorem dX11_laysNear_70 : decode cX11_laysNear 70 = .ok (.iconst 2, 1) := by decide +kernel
theorem dX11_laysNear_71 : decode cX11_laysNear 71 = .ok (.iaload, 1) := by decide +kernel
theorem dX11_laysNear_72 : decode cX11_laysNear 72 = .ok (.iload_n 1, 1) := by decide +kernel
theorem dX11_laysNear_73 : decode cX11_laysNear 73 = .ok (.iadd, 1) := by decide +kernel
theorem dX11_laysNear_74 : decode cX11_laysNear 74 = .ok (.invokestatic 162, 3) := by decide +kernel
theorem dX11_laysNear_77 : decode cX11_laysNear 77 = .ok (.goto 9, 3) := by decide +kernel
theorem dX11_laysNear_80 : decode cX11_laysNear 80 = .ok (.aload_n 0, 1) := by decide +kernel
theorem dX11_laysNear_81 : decode cX11_laysNear 81 = .ok (.getfield 37, 3) := by decide +kernel
theorem dX11_laysNear_84 : decode cX11_laysNear 84 = .ok (.iload_n 1, 1) := by decide +kernel
theorem dX11_laysNear_85 : decode cX11_laysNear 85 = .ok (.iaload, 1) := by decide +kernel
theorem dX11_laysNear_86 : decode cX11_laysNear 86 = .ok (.iastore, 1) := by decide +kernel
theorem dX11_laysNear_87 : decode cX11_laysNear 87 = .ok (.iinc 2 1, 3) := by decide +kernel
theorem dX11_laysNear_90 : decode cX11_laysNear 90 = .ok (.goto (-69), 3) := by decide +kernel
theorem dX11_laysNear_93 : decode cX11_laysNear 93 = .ok (.iinc 1 1, 3) := by decide +kernel
theorem dX11_laysNear_96 : decode cX11_laysNear 96 = .ok (.goto (-94), 3) := by decide +kernel
theorem dX11_laysNear_99 : decode cX11_laysNear 99 = .ok (.return_, 1) := by decide +kernel
theorem dX11_waysBy_0 : decode cX11_waysBy 0 = .ok (.lconst 0, 1) := by decide +kernel
theorem dX11_waysBy_1 : decode cX11_waysBy 1 = .ok (.lstore 4, 2) := by decide +kernel
theorem dX11_waysBy_3 : decode cX11_waysBy 3 = .ok (.iconst 0, 1) := by decide +kernel
theorem dX11_waysBy_4 : decode cX11_waysBy 4 = .ok (.istore 6, 2) := by decide +kernel
theorem dX11_waysBy_6 : decode cX11_waysBy 6 = .ok (.iload 6, 2) := by decide +kernel
theorem dX11_waysBy_8 : decode cX11_waysBy 8 = .ok (.aload_n 0, 1) := by decide +kernel
theorem dX11_waysBy_9 : decode cX11_waysBy 9 = .ok (.invokevirtual 240, 3) := by decide +kernel
theorem dX11_waysBy_12 : decode cX11_waysBy 12 = .ok (.if_icmp .ge 97, 3) := by decide +kernel
theorem dX11_waysBy_15 : decode cX11_waysBy 15 = .ok (.iload_n 1, 1) := by decide +kernel
theorem dX11_waysBy_16 : decode cX11_waysBy 16 = .ok (.aload_n 0, 1) := by decide +kernel
theorem dX11_waysBy_17 : decode cX11_waysBy 17 = .ok (.getfield 13, 3) := by decide +kernel
theorem dX11_waysBy_20 : decode cX11_waysBy 20 = .ok (.iconst 2, 1) := by decide +kernel
theorem dX11_waysBy_21 : decode cX11_waysBy 21 = .ok (.iaload, 1) := by decide +kernel
theorem dX11_waysBy_22 : decode cX11_waysBy 22 = .ok (.iload 6, 2) := by decide +kernel
theorem dX11_waysBy_24 : decode cX11_waysBy 24 = .ok (.iadd, 1) := by decide +kernel
theorem dX11_waysBy_25 : decode cX11_waysBy 25 = .ok (.invokestatic 162, 3) := by decide +kernel
theorem dX11_waysBy_28 : decode cX11_waysBy 28 = .ok (.istore 7, 2) := by decide +kernel
theorem dX11_waysBy_30 : decode cX11_waysBy 30 = .ok (.iload 7, 2) := by decide +kernel
theorem dX11_waysBy_32 : decode cX11_waysBy 32 = .ok (.aload_n 0, 1) := by decide +kernel
theorem dX11_waysBy_33 : decode cX11_waysBy 33 = .ok (.getfield 37, 3) := by decide +kernel
theorem dX11_waysBy_36 : decode cX11_waysBy 36 = .ok (.iload 6, 2) := by decide +kernel
theorem dX11_waysBy_38 : decode cX11_waysBy 38 = .ok (.iaload, 1) := by decide +kernel
theorem dX11_waysBy_39 : decode cX11_waysBy 39 = .ok (.if_icmp .ge 64, 3) := by decide +kernel
theorem dX11_waysBy_42 : decode cX11_waysBy 42 = .ok (.iload_n 2, 1) := by decide +kernel
theorem dX11_waysBy_43 : decode cX11_waysBy 43 = .ok (.iconst (-1), 1) := by decide +kernel
theorem dX11_waysBy_44 : decode cX11_waysBy 44 = .ok (.if_icmp .eq 21, 3) := by decide +kernel
theorem dX11_waysBy_47 : decode cX11_waysBy 47 = .ok (.iload 7, 2) := by decide +kernel
theorem dX11_waysBy_49 : decode cX11_waysBy 49 = .ok (.iload_n 2, 1) := by decide +kernel
theorem dX11_waysBy_50 : decode cX11_waysBy 50 = .ok (.aload_n 0, 1) := by decide +kernel
theorem dX11_waysBy_51 : decode cX11_waysBy 51 = .ok (.getfield 13, 3) := by decide +kernel
theorem dX11_waysBy_54 : decode cX11_waysBy 54 = .ok (.iconst 2, 1) := by decide +kernel
theorem dX11_waysBy_55 : decode cX11_waysBy 55 = .ok (.iaload, 1) := by decide +kernel
theorem dX11_waysBy_56 : decode cX11_waysBy 56 = .ok (.iload 6, 2) := by decide +kernel
theorem dX11_waysBy_58 : decode cX11_waysBy 58 = .ok (.iadd, 1) := by decide +kernel
theorem dX11_waysBy_59 : decode cX11_waysBy 59 = .ok (.invokestatic 162, 3) := by decide +kernel
theorem dX11_waysBy_62 : decode cX11_waysBy 62 = .ok (.if_icmp .ge 41, 3) := by decide +kernel
theorem dX11_waysBy_65 : decode cX11_waysBy 65 = .ok (.iload_n 3, 1) := by decide +kernel
theorem dX11_waysBy_66 : decode cX11_waysBy 66 = .ok (.iconst (-1), 1) := by decide +kernel
theorem dX11_waysBy_67 : decode cX11_waysBy 67 = .ok (.if_icmp .eq 24, 3) := by decide +kernel
theorem dX11_waysBy_70 : decode cX11_waysBy 70 = .ok (.iload 7, 2) := by decide +kernel
theorem dX11_waysBy_72 : decode cX11_waysBy 72 = .ok (.iload_n 3, 1) := by decide +kernel
theorem dX11_waysBy_73 : decode cX11_waysBy 73 = .ok (.aload_n 0, 1) := by decide +kernel
theorem dX11_waysBy_74 : decode cX11_waysBy 74 = .ok (.getfield 13, 3) := by decide +kernel
theorem dX11_waysBy_77 : decode cX11_waysBy 77 = .ok (.iconst 2, 1) := by decide +kernel
theorem dX11_waysBy_78 : decode cX11_waysBy 78 = .ok (.iaload, 1) := by decide +kernel
theorem dX11_waysBy_79 : decode cX11_waysBy 79 = .ok (.iload 6, 2) := by decide +kernel
theorem dX11_waysBy_81 : decode cX11_waysBy 81 = .ok (.iadd, 1) := by decide +kernel
theorem dX11_waysBy_82 : decode cX11_waysBy 82 = .ok (.invokestatic 162, 3) := by decide +kernel
theorem dX11_waysBy_85 : decode cX11_waysBy 85 = .ok (.if_icmp .le 6, 3) := by decide +kernel
theorem dX11_waysBy_88 : decode cX11_waysBy 88 = .ok (.goto 15, 3) := by decide +kernel
theorem dX11_waysBy_91 : decode cX11_waysBy 91 = .ok (.lload 4, 2) := by decide +kernel
theorem dX11_waysBy_93 : decode cX11_waysBy 93 = .ok (.aload_n 0, 1) := by decide +kernel
theorem dX11_waysBy_94 : decode cX11_waysBy 94 = .ok (.getfield 33, 3) := by decide +kernel
theorem dX11_waysBy_97 : decode cX11_waysBy 97 = .ok (.iload 6, 2) := by decide +kernel
theorem dX11_waysBy_99 : decode cX11_waysBy 99 = .ok (.laload, 1) := by decide +kernel
theorem dX11_waysBy_100 : decode cX11_waysBy 100 = .ok (.ladd, 1) := by decide +kernel
theorem dX11_waysBy_101 : decode cX11_waysBy 101 = .ok (.lstore 4, 2) := by decide +kernel
theorem dX11_waysBy_103 : decode cX11_waysBy 103 = .ok (.iinc 6 1, 3) := by decide +kernel
theorem dX11_waysBy_106 : decode cX11_waysBy 106 = .ok (.goto (-100), 3) := by decide +kernel
theorem dX11_waysBy_109 : decode cX11_waysBy 109 = .ok (.lload 4, 2) := by decide +kernel
theorem dX11_waysBy_111 : decode cX11_waysBy 111 = .ok (.lreturn, 1) := by decide +kernel
theorem dX11_bestBy_0 : decode cX11_bestBy 0 = .ok (.aload_n 0, 1) := by decide +kernel
theorem dX11_bestBy_1 : decode cX11_bestBy 1 = .ok (.getfield 13, 3) := by decide +kernel
theorem dX11_bestBy_4 : decode cX11_bestBy 4 = .ok (.iconst 2, 1) := by decide +kernel
theorem dX11_bestBy_5 : decode cX11_bestBy 5 = .ok (.iaload, 1) := by decide +kernel
theorem dX11_bestBy_6 : decode cX11_bestBy 6 = .ok (.istore_n 2, 1) := by decide +kernel
theorem dX11_bestBy_7 : decode cX11_bestBy 7 = .ok (.aload_n 0, 1) := by decide +kernel
theorem dX11_bestBy_8 : decode cX11_bestBy 8 = .ok (.iload_n 2, 1) := by decide +kernel
theorem dX11_bestBy_9 : decode cX11_bestBy 9 = .ok (.iload_n 1, 1) := by decide +kernel
theorem dX11_bestBy_10 : decode cX11_bestBy 10 = .ok (.iconst (-1), 1) := by decide +kernel
theorem dX11_bestBy_11 : decode cX11_bestBy 11 = .ok (.invokevirtual 262, 3) := by decide +kernel
theorem dX11_bestBy_14 : decode cX11_bestBy 14 = .ok (.lstore_n 3, 1) := by decide +kernel
theorem dX11_bestBy_15 : decode cX11_bestBy 15 = .ok (.aload_n 0, 1) := by decide +kernel
theorem dX11_bestBy_16 : decode cX11_bestBy 16 = .ok (.getfield 13, 3) := by decide +kernel
theorem dX11_bestBy_19 : decode cX11_bestBy 19 = .ok (.iconst 2, 1) := by decide +kernel
theorem dX11_bestBy_20 : decode cX11_bestBy 20 = .ok (.iaload, 1) := by decide +kernel
theorem dX11_bestBy_21 : decode cX11_bestBy 21 = .ok (.iconst 1, 1) := by decide +kernel
theorem dX11_bestBy_22 : decode cX11_bestBy 22 = .ok (.iadd, 1) := by decide +kernel
theorem dX11_bestBy_23 : decode cX11_bestBy 23 = .ok (.istore 5, 2) := by decide +kernel
theorem dX11_bestBy_25 : decode cX11_bestBy 25 = .ok (.iload 5, 2) := by decide +kernel
theorem dX11_bestBy_27 : decode cX11_bestBy 27 = .ok (.aload_n 0, 1) := by decide +kernel
theorem dX11_bestBy_28 : decode cX11_bestBy 28 = .ok (.getfield 13, 3) := by decide +kernel
theorem dX11_bestBy_31 : decode cX11_bestBy 31 = .ok (.iconst 3, 1) := by decide +kernel
theorem dX11_bestBy_32 : decode cX11_bestBy 32 = .ok (.iaload, 1) := by decide +kernel
theorem dX11_bestBy_33 : decode cX11_bestBy 33 = .ok (.if_icmp .gt 35, 3) := by decide +kernel
theorem dX11_bestBy_36 : decode cX11_bestBy 36 = .ok (.aload_n 0, 1) := by decide +kernel
theorem dX11_bestBy_37 : decode cX11_bestBy 37 = .ok (.iload 5, 2) := by decide +kernel
theorem dX11_bestBy_39 : decode cX11_bestBy 39 = .ok (.iload_n 1, 1) := by decide +kernel
theorem dX11_bestBy_40 : decode cX11_bestBy 40 = .ok (.iconst (-1), 1) := by decide +kernel
theorem dX11_bestBy_41 : decode cX11_bestBy 41 = .ok (.invokevirtual 262, 3) := by decide +kernel
theorem dX11_bestBy_44 : decode cX11_bestBy 44 = .ok (.lstore 6, 2) := by decide +kernel
theorem dX11_bestBy_46 : decode cX11_bestBy 46 = .ok (.lload 6, 2) := by decide +kernel
theorem dX11_bestBy_48 : decode cX11_bestBy 48 = .ok (.lload_n 3, 1) := by decide +kernel
theorem dX11_bestBy_49 : decode cX11_bestBy 49 = .ok (.lcmp, 1) := by decide +kernel
theorem dX11_bestBy_50 : decode cX11_bestBy 50 = .ok (.ifCond .gt 6, 3) := by decide +kernel
theorem dX11_bestBy_53 : decode cX11_bestBy 53 = .ok (.goto 9, 3) := by decide +kernel
