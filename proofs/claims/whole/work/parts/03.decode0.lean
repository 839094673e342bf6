theorem dX0_init_0 : decode cX0_init 0 = .ok (.aload_n 0, 1) := by decide +kernel
theorem dX0_init_1 : decode cX0_init 1 = .ok (.invokespecial 3, 3) := by decide +kernel
theorem dX0_init_4 : decode cX0_init 4 = .ok (.return_, 1) := by decide +kernel
theorem dX0_start_0 : decode cX0_start 0 = .ok (.aload_n 0, 1) := by decide +kernel
theorem dX0_start_1 : decode cX0_start 1 = .ok (.iload_n 1, 1) := by decide +kernel
theorem dX0_start_2 : decode cX0_start 2 = .ok (.putfield 9, 3) := by decide +kernel
theorem dX0_start_5 : decode cX0_start 5 = .ok (.return_, 1) := by decide +kernel
theorem dX0_draw_0 : decode cX0_draw 0 = .ok (.aload_n 0, 1) := by decide +kernel
theorem dX0_draw_1 : decode cX0_draw 1 = .ok (.ldc 15, 2) := by decide +kernel
theorem dX0_draw_3 : decode cX0_draw 3 = .ok (.aload_n 0, 1) := by decide +kernel
theorem dX0_draw_4 : decode cX0_draw 4 = .ok (.getfield 9, 3) := by decide +kernel
theorem dX0_draw_7 : decode cX0_draw 7 = .ok (.imul, 1) := by decide +kernel
theorem dX0_draw_8 : decode cX0_draw 8 = .ok (.sipush 12345, 3) := by decide +kernel
theorem dX0_draw_11 : decode cX0_draw 11 = .ok (.iadd, 1) := by decide +kernel
theorem dX0_draw_12 : decode cX0_draw 12 = .ok (.putfield 9, 3) := by decide +kernel
theorem dX0_draw_15 : decode cX0_draw 15 = .ok (.aload_n 0, 1) := by decide +kernel
theorem dX0_draw_16 : decode cX0_draw 16 = .ok (.getfield 9, 3) := by decide +kernel
theorem dX0_draw_19 : decode cX0_draw 19 = .ok (.bipush 16, 2) := by decide +kernel
theorem dX0_draw_21 : decode cX0_draw 21 = .ok (.iushr, 1) := by decide +kernel
theorem dX0_draw_22 : decode cX0_draw 22 = .ok (.ireturn, 1) := by decide +kernel
theorem dX0_fill_0 : decode cX0_fill 0 = .ok (.aload_n 1, 1) := by decide +kernel
theorem dX0_fill_1 : decode cX0_fill 1 = .ok (.getfield 16, 3) := by decide +kernel
theorem dX0_fill_4 : decode cX0_fill 4 = .ok (.ifCond .gt 4, 3) := by decide +kernel
theorem dX0_fill_7 : decode cX0_fill 7 = .ok (.return_, 1) := by decide +kernel
theorem dX0_fill_8 : decode cX0_fill 8 = .ok (.iconst 0, 1) := by decide +kernel
theorem dX0_fill_9 : decode cX0_fill 9 = .ok (.istore 5, 2) := by decide +kernel
theorem dX0_fill_11 : decode cX0_fill 11 = .ok (.iload 5, 2) := by decide +kernel
theorem dX0_fill_13 : decode cX0_fill 13 = .ok (.iload_n 3, 1) := by decide +kernel
theorem dX0_fill_14 : decode cX0_fill 14 = .ok (.if_icmp .ge 43, 3) := by decide +kernel
theorem dX0_fill_17 : decode cX0_fill 17 = .ok (.aload_n 0, 1) := by decide +kernel
theorem dX0_fill_18 : decode cX0_fill 18 = .ok (.invokevirtual 21, 3) := by decide +kernel
theorem dX0_fill_21 : decode cX0_fill 21 = .ok (.aload_n 1, 1) := by decide +kernel
theorem dX0_fill_22 : decode cX0_fill 22 = .ok (.getfield 16, 3) := by decide +kernel
theorem dX0_fill_25 : decode cX0_fill 25 = .ok (.irem, 1) := by decide +kernel
theorem dX0_fill_26 : decode cX0_fill 26 = .ok (.istore 6, 2) := by decide +kernel
theorem dX0_fill_28 : decode cX0_fill 28 = .ok (.aload_n 2, 1) := by decide +kernel
theorem dX0_fill_29 : decode cX0_fill 29 = .ok (.iload 6, 2) := by decide +kernel
theorem dX0_fill_31 : decode cX0_fill 31 = .ok (.aload_n 0, 1) := by decide +kernel
theorem dX0_fill_32 : decode cX0_fill 32 = .ok (.aload_n 1, 1) := by decide +kernel
theorem dX0_fill_33 : decode cX0_fill 33 = .ok (.iload 6, 2) := by decide +kernel
theorem dX0_fill_35 : decode cX0_fill 35 = .ok (.aload_n 2, 1) := by decide +kernel
theorem dX0_fill_36 : decode cX0_fill 36 = .ok (.aload_n 2, 1) := by decide +kernel
theorem dX0_fill_37 : decode cX0_fill 37 = .ok (.getfield 25, 3) := by decide +kernel
theorem dX0_fill_40 : decode cX0_fill 40 = .ok (.iload 4, 2) := by decide +kernel
theorem dX0_fill_42 : decode cX0_fill 42 = .ok (.invokevirtual 30, 3) := by decide +kernel
theorem dX0_fill_45 : decode cX0_fill 45 = .ok (.invokevirtual 34, 3) := by decide +kernel
theorem dX0_fill_48 : decode cX0_fill 48 = .ok (.invokevirtual 38, 3) := by decide +kernel
theorem dX0_fill_51 : decode cX0_fill 51 = .ok (.iinc 5 1, 3) := by decide +kernel
theorem dX0_fill_54 : decode cX0_fill 54 = .ok (.goto (-43), 3) := by decide +kernel
theorem dX0_fill_57 : decode cX0_fill 57 = .ok (.return_, 1) := by decide +kernel
theorem dX0_nextNumber_0 : decode cX0_nextNumber 0 = .ok (.aload_n 1, 1) := by decide +kernel
theorem dX0_nextNumber_1 : decode cX0_nextNumber 1 = .ok (.iload_n 2, 1) := by decide +kernel
theorem dX0_nextNumber_2 : decode cX0_nextNumber 2 = .ok (.invokevirtual 42, 3) := by decide +kernel
theorem dX0_nextNumber_5 : decode cX0_nextNumber 5 = .ok (.ifCond .ne 5, 3) := by decide +kernel
theorem dX0_nextNumber_8 : decode cX0_nextNumber 8 = .ok (.iconst 0, 1) := by decide +kernel
theorem dX0_nextNumber_9 : decode cX0_nextNumber 9 = .ok (.ireturn, 1) := by decide +kernel
theorem dX0_nextNumber_10 : decode cX0_nextNumber 10 = .ok (.aload_n 0, 1) := by decide +kernel
theorem dX0_nextNumber_11 : decode cX0_nextNumber 11 = .ok (.invokevirtual 21, 3) := by decide +kernel
theorem dX0_nextNumber_14 : decode cX0_nextNumber 14 = .ok (.bipush 10, 2) := by decide +kernel
theorem dX0_nextNumber_16 : decode cX0_nextNumber 16 = .ok (.irem, 1) := by decide +kernel
theorem dX0_nextNumber_17 : decode cX0_nextNumber 17 = .ok (.aload_n 1, 1) := by decide +kernel
theorem dX0_nextNumber_18 : decode cX0_nextNumber 18 = .ok (.getfield 46, 3) := by decide +kernel
theorem dX0_nextNumber_21 : decode cX0_nextNumber 21 = .ok (.iload_n 2, 1) := by decide +kernel
theorem dX0_nextNumber_22 : decode cX0_nextNumber 22 = .ok (.iaload, 1) := by decide +kernel
theorem dX0_nextNumber_23 : decode cX0_nextNumber 23 = .ok (.if_icmp .ge 7, 3) := by decide +kernel
theorem dX0_nextNumber_26 : decode cX0_nextNumber 26 = .ok (.iconst 1, 1) := by decide +kernel
theorem dX0_nextNumber_27 : decode cX0_nextNumber 27 = .ok (.goto 4, 3) := by decide +kernel
theorem dX0_nextNumber_30 : decode cX0_nextNumber 30 = .ok (.iconst 0, 1) := by decide +kernel
theorem dX0_nextNumber_31 : decode cX0_nextNumber 31 = .ok (.istore 4, 2) := by decide +kernel
theorem dX0_nextNumber_33 : decode cX0_nextNumber 33 = .ok (.iload 4, 2) := by decide +kernel
theorem dX0_nextNumber_35 : decode cX0_nextNumber 35 = .ok (.ifCond .eq 10, 3) := by decide +kernel
theorem dX0_nextNumber_38 : decode cX0_nextNumber 38 = .ok (.iload_n 3, 1) := by decide +kernel
theorem dX0_nextNumber_39 : decode cX0_nextNumber 39 = .ok (.iconst (-1), 1) := by decide +kernel
theorem dX0_nextNumber_40 : decode cX0_nextNumber 40 = .ok (.if_icmp .eq 5, 3) := by decide +kernel
theorem dX0_nextNumber_43 : decode cX0_nextNumber 43 = .ok (.iload_n 3, 1) := by decide +kernel
theorem dX0_nextNumber_44 : decode cX0_nextNumber 44 = .ok (.ireturn, 1) := by decide +kernel
theorem dX0_nextNumber_45 : decode cX0_nextNumber 45 = .ok (.iconst 2, 1) := by decide +kernel
theorem dX0_nextNumber_46 : decode cX0_nextNumber 46 = .ok (.aload_n 1, 1) := by decide +kernel
theorem dX0_nextNumber_47 : decode cX0_nextNumber 47 = .ok (.getfield 50, 3) := by decide +kernel
theorem dX0_nextNumber_50 : decode cX0_nextNumber 50 = .ok (.iload_n 2, 1) := by decide +kernel
theorem dX0_nextNumber_51 : decode cX0_nextNumber 51 = .ok (.iaload, 1) := by decide +kernel
theorem dX0_nextNumber_52 : decode cX0_nextNumber 52 = .ok (.imul, 1) := by decide +kernel
theorem dX0_nextNumber_53 : decode cX0_nextNumber 53 = .ok (.iconst 1, 1) := by decide +kernel
theorem dX0_nextNumber_54 : decode cX0_nextNumber 54 = .ok (.iadd, 1) := by decide +kernel
theorem dX0_nextNumber_55 : decode cX0_nextNumber 55 = .ok (.istore 5, 2) := by decide +kernel
theorem dX0_nextNumber_57 : decode cX0_nextNumber 57 = .ok (.iload 5, 2) := by decide +kernel
theorem dX0_nextNumber_59 : decode cX0_nextNumber 59 = .ok (.ifCond .le 20, 3) := by decide +kernel
theorem dX0_nextNumber_62 : decode cX0_nextNumber 62 = .ok (.aload_n 0, 1) := by decide +kernel
theorem dX0_nextNumber_63 : decode cX0_nextNumber 63 = .ok (.invokevirtual 21, 3) := by decide +kernel
theorem dX0_nextNumber_66 : decode cX0_nextNumber 66 = .ok (.iload 5, 2) := by decide +kernel
theorem dX0_nextNumber_68 : decode cX0_nextNumber 68 = .ok (.irem, 1) := by decide +kernel
theorem dX0_nextNumber_69 : decode cX0_nextNumber 69 = .ok (.aload_n 1, 1) := by decide +kernel
theorem dX0_nextNumber_70 : decode cX0_nextNumber 70 = .ok (.getfield 50, 3) := by decide +kernel
theorem dX0_nextNumber_73 : decode cX0_nextNumber 73 = .ok (.iload_n 2, 1) := by decide +kernel
theorem dX0_nextNumber_74 : decode cX0_nextNumber 74 = .ok (.iaload, 1) := by decide +kernel
theorem dX0_nextNumber_75 : decode cX0_nextNumber 75 = .ok (.isub, 1) := by decide +kernel
theorem dX0_nextNumber_76 : decode cX0_nextNumber 76 = .ok (.goto 4, 3) := by decide +kernel
theorem dX0_nextNumber_79 : decode cX0_nextNumber 79 = .ok (.iconst 0, 1) := by decide +kernel
theorem dX0_nextNumber_80 : decode cX0_nextNumber 80 = .ok (.istore 6, 2) := by decide +kernel
theorem dX0_nextNumber_82 : decode cX0_nextNumber 82 = .ok (.aload_n 1, 1) := by decide +kernel
theorem dX0_nextNumber_83 : decode cX0_nextNumber 83 = .ok (.iload_n 2, 1) := by decide +kernel
theorem dX0_nextNumber_84 : decode cX0_nextNumber 84 = .ok (.aload_n 1, 1) := by decide +kernel
theorem dX0_nextNumber_85 : decode cX0_nextNumber 85 = .ok (.getfield 53, 3) := by decide +kernel
theorem dX0_nextNumber_88 : decode cX0_nextNumber 88 = .ok (.invokevirtual 56, 3) := by decide +kernel
theorem dX0_nextNumber_91 : decode cX0_nextNumber 91 = .ok (.iload 6, 2) := by decide +kernel
theorem dX0_nextNumber_93 : decode cX0_nextNumber 93 = .ok (.iadd, 1) := by decide +kernel
theorem dX0_nextNumber_94 : decode cX0_nextNumber 94 = .ok (.istore 7, 2) := by decide +kernel
theorem dX0_nextNumber_96 : decode cX0_nextNumber 96 = .ok (.iconst 0, 1) := by decide +kernel
theorem dX0_nextNumber_97 : decode cX0_nextNumber 97 = .ok (.sipush 2000, 3) := by decide +kernel
theorem dX0_nextNumber_100 : decode cX0_nextNumber 100 = .ok (.iload 7, 2) := by decide +kernel
theorem dX0_nextNumber_102 : decode cX0_nextNumber 102 = .ok (.invokestatic 60, 3) := by decide +kernel
theorem dX0_nextNumber_105 : decode cX0_nextNumber 105 = .ok (.invokestatic 65, 3) := by decide +kernel
theorem dX0_nextNumber_108 : decode cX0_nextNumber 108 = .ok (.ireturn, 1) := by decide +kernel
theorem dX1_init_0 : decode cX1_init 0 = .ok (.aload_n 0, 1) := by decide +kernel
theorem dX1_init_1 : decode cX1_init 1 = .ok (.invokespecial 3, 3) := by decide +kernel
theorem dX1_init_4 : decode cX1_init 4 = .ok (.aload_n 0, 1) := by decide +kernel
theorem dX1_init_5 : decode cX1_init 5 = .ok (.iconst 1, 1) := by decide +kernel
theorem dX1_init_6 : decode cX1_init 6 = .ok (.putfield 9, 3) := by decide +kernel
theorem dX1_init_9 : decode cX1_init 9 = .ok (.aload_n 0, 1) := by decide +kernel
theorem dX1_init_10 : decode cX1_init 10 = .ok (.bipush 100, 2) := by decide +kernel
theorem dX1_init_12 : decode cX1_init 12 = .ok (.putfield 15, 3) := by decide +kernel
theorem dX1_init_15 : decode cX1_init 15 = .ok (.aload_n 0, 1) := by decide +kernel
theorem dX1_init_16 : decode cX1_init 16 = .ok (.bipush 6, 2) := by decide +kernel
theorem dX1_init_18 : decode cX1_init 18 = .ok (.newarray .int, 2) := by decide +kernel
theorem dX1_init_20 : decode cX1_init 20 = .ok (.putfield 18, 3) := by decide +kernel
theorem dX1_init_23 : decode cX1_init 23 = .ok (.aload_n 0, 1) := by decide +kernel
theorem dX1_init_24 : decode cX1_init 24 = .ok (.bipush 6, 2) := by decide +kernel
theorem dX1_init_26 : decode cX1_init 26 = .ok (.newarray .int, 2) := by decide +kernel
theorem dX1_init_28 : decode cX1_init 28 = .ok (.putfield 22, 3) := by decide +kernel
theorem dX1_init_31 : decode cX1_init 31 = .ok (.aload_n 0, 1) := by decide +kernel
theorem dX1_init_32 : decode cX1_init 32 = .ok (.bipush 6, 2) := by decide +kernel
theorem dX1_init_34 : decode cX1_init 34 = .ok (.newarray .int, 2) := by decide +kernel
theorem dX1_init_36 : decode cX1_init 36 = .ok (.putfield 25, 3) := by decide +kernel
theorem dX1_init_39 : decode cX1_init 39 = .ok (.aload_n 0, 1) := by decide +kernel
theorem dX1_init_40 : decode cX1_init 40 = .ok (.bipush 10, 2) := by decide +kernel
theorem dX1_init_42 : decode cX1_init 42 = .ok (.putfield 28, 3) := by decide +kernel
theorem dX1_init_45 : decode cX1_init 45 = .ok (.aload_n 0, 1) := by decide +kernel
theorem dX1_init_46 : decode cX1_init 46 = .ok (.bipush 100, 2) := by decide +kernel
theorem dX1_init_48 : decode cX1_init 48 = .ok (.putfield 31, 3) := by decide +kernel
theorem dX1_init_51 : decode cX1_init 51 = .ok (.return_, 1) := by decide +kernel
theorem dX1_clear_0 : decode cX1_clear 0 = .ok (.aload_n 0, 1) := by decide +kernel
theorem dX1_clear_1 : decode cX1_clear 1 = .ok (.iconst 1, 1) := by decide +kernel
theorem dX1_clear_2 : decode cX1_clear 2 = .ok (.putfield 9, 3) := by decide +kernel
theorem dX1_clear_5 : decode cX1_clear 5 = .ok (.aload_n 0, 1) := by decide +kernel
theorem dX1_clear_6 : decode cX1_clear 6 = .ok (.bipush 100, 2) := by decide +kernel
theorem dX1_clear_8 : decode cX1_clear 8 = .ok (.putfield 15, 3) := by decide +kernel
theorem dX1_clear_11 : decode cX1_clear 11 = .ok (.aload_n 0, 1) := by decide +kernel
theorem dX1_clear_12 : decode cX1_clear 12 = .ok (.iconst 0, 1) := by decide +kernel
theorem dX1_clear_13 : decode cX1_clear 13 = .ok (.putfield 34, 3) := by decide +kernel
theorem dX1_clear_16 : decode cX1_clear 16 = .ok (.aload_n 0, 1) := by decide +kernel
theorem dX1_clear_17 : decode cX1_clear 17 = .ok (.iconst 0, 1) := by decide +kernel
theorem dX1_clear_18 : decode cX1_clear 18 = .ok (.putfield 38, 3) := by decide +kernel
theorem dX1_clear_21 : decode cX1_clear 21 = .ok (.aload_n 0, 1) := by decide +kernel
theorem dX1_clear_22 : decode cX1_clear 22 = .ok (.iconst 0, 1) := by decide +kernel
theorem dX1_clear_23 : decode cX1_clear 23 = .ok (.putfield 41, 3) := by decide +kernel
theorem dX1_clear_26 : decode cX1_clear 26 = .ok (.aload_n 0, 1) := by decide +kernel
theorem dX1_clear_27 : decode cX1_clear 27 = .ok (.iconst 0, 1) := by decide +kernel
theorem dX1_clear_28 : decode cX1_clear 28 = .ok (.putfield 44, 3) := by decide +kernel
theorem dX1_clear_31 : decode cX1_clear 31 = .ok (.aload_n 0, 1) := by decide +kernel
theorem dX1_clear_32 : decode cX1_clear 32 = .ok (.iconst 0, 1) := by decide +kernel
theorem dX1_clear_33 : decode cX1_clear 33 = .ok (.putfield 47, 3) := by decide +kernel
theorem dX1_clear_36 : decode cX1_clear 36 = .ok (.aload_n 0, 1) := by decide +kernel
theorem dX1_clear_37 : decode cX1_clear 37 = .ok (.bipush 10, 2) := by decide +kernel
theorem dX1_clear_39 : decode cX1_clear 39 = .ok (.putfield 28, 3) := by decide +kernel
theorem dX1_clear_42 : decode cX1_clear 42 = .ok (.aload_n 0, 1) := by decide +kernel
theorem dX1_clear_43 : decode cX1_clear 43 = .ok (.bipush 100, 2) := by decide +kernel
theorem dX1_clear_45 : decode cX1_clear 45 = .ok (.putfield 31, 3) := by decide +kernel
theorem dX1_clear_48 : decode cX1_clear 48 = .ok (.aload_n 0, 1) := by decide +kernel
theorem dX1_clear_49 : decode cX1_clear 49 = .ok (.iconst 0, 1) := by decide +kernel
theorem dX1_clear_50 : decode cX1_clear 50 = .ok (.putfield 50, 3) := by decide +kernel
theorem dX1_clear_53 : decode cX1_clear 53 = .ok (.aload_n 0, 1) := by decide +kernel
theorem dX1_clear_54 : decode cX1_clear 54 = .ok (.iconst 0, 1) := by decide +kernel
theorem dX1_clear_55 : decode cX1_clear 55 = .ok (.putfield 53, 3) := by decide +kernel
theorem dX1_clear_58 : decode cX1_clear 58 = .ok (.return_, 1) := by decide +kernel
theorem dX1_takeFrom_0 : decode cX1_takeFrom 0 = .ok (.aload_n 0, 1) := by decide +kernel
theorem dX1_takeFrom_1 : decode cX1_takeFrom 1 = .ok (.aload_n 1, 1) := by decide +kernel
theorem dX1_takeFrom_2 : decode cX1_takeFrom 2 = .ok (.getfield 9, 3) := by decide +kernel
theorem dX1_takeFrom_5 : decode cX1_takeFrom 5 = .ok (.putfield 9, 3) := by decide +kernel
theorem dX1_takeFrom_8 : decode cX1_takeFrom 8 = .ok (.aload_n 0, 1) := by decide +kernel
theorem dX1_takeFrom_9 : decode cX1_takeFrom 9 = .ok (.aload_n 1, 1) := by decide +kernel
theorem dX1_takeFrom_10 : decode cX1_takeFrom 10 = .ok (.getfield 15, 3) := by decide +kernel
theorem dX1_takeFrom_13 : decode cX1_takeFrom 13 = .ok (.putfield 15, 3) := by decide +kernel
theorem dX1_takeFrom_16 : decode cX1_takeFrom 16 = .ok (.aload_n 0, 1) := by decide +kernel
theorem dX1_takeFrom_17 : decode cX1_takeFrom 17 = .ok (.aload_n 1, 1) := by decide +kernel
theorem dX1_takeFrom_18 : decode cX1_takeFrom 18 = .ok (.getfield 34, 3) := by decide +kernel
theorem dX1_takeFrom_21 : decode cX1_takeFrom 21 = .ok (.putfield 34, 3) := by decide +kernel
theorem dX1_takeFrom_24 : decode cX1_takeFrom 24 = .ok (.aload_n 0, 1) := by decide +kernel
theorem dX1_takeFrom_25 : decode cX1_takeFrom 25 = .ok (.aload_n 1, 1) := by decide +kernel
theorem dX1_takeFrom_26 : decode cX1_takeFrom 26 = .ok (.getfield 38, 3) := by decide +kernel
theorem dX1_takeFrom_29 : decode cX1_takeFrom 29 = .ok (.putfield 38, 3) := by decide +kernel
theorem dX1_takeFrom_32 : decode cX1_takeFrom 32 = .ok (.aload_n 0, 1) := by decide +kernel
theorem dX1_takeFrom_33 : decode cX1_takeFrom 33 = .ok (.aload_n 1, 1) := by decide +kernel
theorem dX1_takeFrom_34 : decode cX1_takeFrom 34 = .ok (.getfield 41, 3) := by decide +kernel
theorem dX1_takeFrom_37 : decode cX1_takeFrom 37 = .ok (.putfield 41, 3) := by decide +kernel
theorem dX1_takeFrom_40 : decode cX1_takeFrom 40 = .ok (.aload_n 0, 1) := by decide +kernel
theorem dX1_takeFrom_41 : decode cX1_takeFrom 41 = .ok (.aload_n 1, 1) := by decide +kernel
theorem dX1_takeFrom_42 : decode cX1_takeFrom 42 = .ok (.getfield 44, 3) := by decide +kernel
theorem dX1_takeFrom_45 : decode cX1_takeFrom 45 = .ok (.putfield 44, 3) := by decide +kernel
theorem dX1_takeFrom_48 : decode cX1_takeFrom 48 = .ok (.aload_n 1, 1) := by decide +kernel
theorem dX1_takeFrom_49 : decode cX1_takeFrom 49 = .ok (.getfield 18, 3) := by decide +kernel
theorem dX1_takeFrom_52 : decode cX1_takeFrom 52 = .ok (.iconst 0, 1) := by decide +kernel
theorem dX1_takeFrom_53 : decode cX1_takeFrom 53 = .ok (.aload_n 0, 1) := by decide +kernel
theorem dX1_takeFrom_54 : decode cX1_takeFrom 54 = .ok (.getfield 18, 3) := by decide +kernel
theorem dX1_takeFrom_57 : decode cX1_takeFrom 57 = .ok (.iconst 0, 1) := by decide +kernel
theorem dX1_takeFrom_58 : decode cX1_takeFrom 58 = .ok (.bipush 6, 2) := by decide +kernel
theorem dX1_takeFrom_60 : decode cX1_takeFrom 60 = .ok (.invokestatic 56, 3) := by decide +kernel
theorem dX1_takeFrom_63 : decode cX1_takeFrom 63 = .ok (.aload_n 1, 1) := by decide +kernel
theorem dX1_takeFrom_64 : decode cX1_takeFrom 64 = .ok (.getfield 22, 3) := by decide +kernel
theorem dX1_takeFrom_67 : decode cX1_takeFrom 67 = .ok (.iconst 0, 1) := by decide +kernel
theorem dX1_takeFrom_68 : decode cX1_takeFrom 68 = .ok (.aload_n 0, 1) := by decide +kernel
theorem dX1_takeFrom_69 : decode cX1_takeFrom 69 = .ok (.getfield 22, 3) := by decide +kernel
theorem dX1_takeFrom_72 : decode cX1_takeFrom 72 = .ok (.iconst 0, 1) := by decide +kernel
theorem dX1_takeFrom_73 : decode cX1_takeFrom 73 = .ok (.bipush 6, 2) := by decide +kernel
theorem dX1_takeFrom_75 : decode cX1_takeFrom 75 = .ok (.invokestatic 56, 3) := by decide +kernel
theorem dX1_takeFrom_78 : decode cX1_takeFrom 78 = .ok (.aload_n 1, 1) := by decide +kernel
theorem dX1_takeFrom_79 : decode cX1_takeFrom 79 = .ok (.getfield 25, 3) := by decide +kernel
theorem dX1_takeFrom_82 : decode cX1_takeFrom 82 = .ok (.iconst 0, 1) := by decide +kernel
theorem dX1_takeFrom_83 : decode cX1_takeFrom 83 = .ok (.aload_n 0, 1) := by decide +kernel
theorem dX1_takeFrom_84 : decode cX1_takeFrom 84 = .ok (.getfield 25, 3) := by decide +kernel
theorem dX1_takeFrom_87 : decode cX1_takeFrom 87 = .ok (.iconst 0, 1) := by decide +kernel
theorem dX1_takeFrom_88 : decode cX1_takeFrom 88 = .ok (.bipush 6, 2) := by decide +kernel
theorem dX1_takeFrom_90 : decode cX1_takeFrom 90 = .ok (.invokestatic 56, 3) := by decide +kernel
theorem dX1_takeFrom_93 : decode cX1_takeFrom 93 = .ok (.aload_n 0, 1) := by decide +kernel
theorem dX1_takeFrom_94 : decode cX1_takeFrom 94 = .ok (.aload_n 1, 1) := by decide +kernel
theorem dX1_takeFrom_95 : decode cX1_takeFrom 95 = .ok (.getfield 47, 3) := by decide +kernel
theorem dX1_takeFrom_98 : decode cX1_takeFrom 98 = .ok (.putfield 47, 3) := by decide +kernel
theorem dX1_takeFrom_101 : decode cX1_takeFrom 101 = .ok (.aload_n 0, 1) := by decide +kernel
theorem dX1_takeFrom_102 : decode cX1_takeFrom 102 = .ok (.aload_n 1, 1) := by decide +kernel
theorem dX1_takeFrom_103 : decode cX1_takeFrom 103 = .ok (.getfield 28, 3) := by decide +kernel
theorem dX1_takeFrom_106 : decode cX1_takeFrom 106 = .ok (.putfield 28, 3) := by decide +kernel
theorem dX1_takeFrom_109 : decode cX1_takeFrom 109 = .ok (.aload_n 0, 1) := by decide +kernel
theorem dX1_takeFrom_110 : decode cX1_takeFrom 110 = .ok (.aload_n 1, 1) := by decide +kernel
theorem dX1_takeFrom_111 : decode cX1_takeFrom 111 = .ok (.getfield 31, 3) := by decide +kernel
theorem dX1_takeFrom_114 : decode cX1_takeFrom 114 = .ok (.putfield 31, 3) := by decide +kernel
theorem dX1_takeFrom_117 : decode cX1_takeFrom 117 = .ok (.aload_n 0, 1) := by decide +kernel
theorem dX1_takeFrom_118 : decode cX1_takeFrom 118 = .ok (.aload_n 1, 1) := by decide +kernel
theorem dX1_takeFrom_119 : decode cX1_takeFrom 119 = .ok (.getfield 50, 3) := by decide +kernel
theorem dX1_takeFrom_122 : decode cX1_takeFrom 122 = .ok (.putfield 50, 3) := by decide +kernel
theorem dX1_takeFrom_125 : decode cX1_takeFrom 125 = .ok (.aload_n 0, 1) := by decide +kernel
theorem dX1_takeFrom_126 : decode cX1_takeFrom 126 = .ok (.aload_n 1, 1) := by decide +kernel
theorem dX1_takeFrom_127 : decode cX1_takeFrom 127 = .ok (.getfield 53, 3) := by decide +kernel
theorem dX1_takeFrom_130 : decode cX1_takeFrom 130 = .ok (.putfield 53, 3) := by decide +kernel
theorem dX1_takeFrom_133 : decode cX1_takeFrom 133 = .ok (.return_, 1) := by decide +kernel
theorem dX1_has_0 : decode cX1_has 0 = .ok (.iload_n 1, 1) := by decide +kernel
theorem dX1_has_1 : decode cX1_has 1 = .ok (.ifCond .lt 21, 3) := by decide +kernel
theorem dX1_has_4 : decode cX1_has 4 = .ok (.iload_n 1, 1) := by decide +kernel
theorem dX1_has_5 : decode cX1_has 5 = .ok (.aload_n 0, 1) := by decide +kernel
theorem dX1_has_6 : decode cX1_has 6 = .ok (.getfield 44, 3) := by decide +kernel
theorem dX1_has_9 : decode cX1_has 9 = .ok (.if_icmp .ge 13, 3) := by decide +kernel
theorem dX1_has_12 : decode cX1_has 12 = .ok (.iload_n 1, 1) := by decide +kernel
theorem dX1_has_13 : decode cX1_has 13 = .ok (.bipush 6, 2) := by decide +kernel
theorem dX1_has_15 : decode cX1_has 15 = .ok (.if_icmp .ge 7, 3) := by decide +kernel
theorem dX1_has_18 : decode cX1_has 18 = .ok (.iconst 1, 1) := by decide +kernel
theorem dX1_has_19 : decode cX1_has 19 = .ok (.goto 4, 3) := by decide +kernel
theorem dX1_has_22 : decode cX1_has 22 = .ok (.iconst 0, 1) := by decide +kernel
theorem dX1_has_23 : decode cX1_has 23 = .ok (.ireturn, 1) := by decide +kernel
theorem dX1_spans_0 : decode cX1_spans 0 = .ok (.iload_n 1, 1) := by decide +kernel
theorem dX1_spans_1 : decode cX1_spans 1 = .ok (.aload_n 0, 1) := by decide +kernel
theorem dX1_spans_2 : decode cX1_spans 2 = .ok (.getfield 9, 3) := by decide +kernel
theorem dX1_spans_5 : decode cX1_spans 5 = .ok (.if_icmp .lt 15, 3) := by decide +kernel
theorem dX1_spans_8 : decode cX1_spans 8 = .ok (.iload_n 1, 1) := by decide +kernel
theorem dX1_spans_9 : decode cX1_spans 9 = .ok (.aload_n 0, 1) := by decide +kernel
theorem dX1_spans_10 : decode cX1_spans 10 = .ok (.getfield 15, 3) := by decide +kernel
theorem dX1_spans_13 : decode cX1_spans 13 = .ok (.if_icmp .gt 7, 3) := by decide +kernel
theorem dX1_spans_16 : decode cX1_spans 16 = .ok (.iconst 1, 1) := by decide +kernel
theorem dX1_spans_17 : decode cX1_spans 17 = .ok (.goto 4, 3) := by decide +kernel
theorem dX1_spans_20 : decode cX1_spans 20 = .ok (.iconst 0, 1) := by decide +kernel
theorem dX1_spans_21 : decode cX1_spans 21 = .ok (.ireturn, 1) := by decide +kernel
theorem dX1_weightOf_0 : decode cX1_weightOf 0 = .ok (.aload_n 0, 1) := by decide +kernel
theorem dX1_weightOf_1 : decode cX1_weightOf 1 = .ok (.getfield 34, 3) := by decide +kernel
theorem dX1_weightOf_4 : decode cX1_weightOf 4 = .ok (.ifCond .eq 27, 3) := by decide +kernel
theorem dX1_weightOf_7 : decode cX1_weightOf 7 = .ok (.iconst 1, 1) := by decide +kernel
theorem dX1_weightOf_8 : decode cX1_weightOf 8 = .ok (.bipush 9, 2) := by decide +kernel
theorem dX1_weightOf_10 : decode cX1_weightOf 10 = .ok (.aload_n 0, 1) := by decide +kernel
theorem dX1_weightOf_11 : decode cX1_weightOf 11 = .ok (.getfield 41, 3) := by decide +kernel
theorem dX1_weightOf_14 : decode cX1_weightOf 14 = .ok (.iload_n 1, 1) := by decide +kernel
theorem dX1_weightOf_15 : decode cX1_weightOf 15 = .ok (.aload_n 0, 1) := by decide +kernel
theorem dX1_weightOf_16 : decode cX1_weightOf 16 = .ok (.getfield 38, 3) := by decide +kernel
theorem dX1_weightOf_19 : decode cX1_weightOf 19 = .ok (.isub, 1) := by decide +kernel
theorem dX1_weightOf_20 : decode cX1_weightOf 20 = .ok (.invokestatic 62, 3) := by decide +kernel
theorem dX1_weightOf_23 : decode cX1_weightOf 23 = .ok (.imul, 1) := by decide +kernel
theorem dX1_weightOf_24 : decode cX1_weightOf 24 = .ok (.isub, 1) := by decide +kernel
theorem dX1_weightOf_25 : decode cX1_weightOf 25 = .ok (.invokestatic 68, 3) := by decide +kernel
theorem dX1_weightOf_28 : decode cX1_weightOf 28 = .ok (.goto 4, 3) := by decide +kernel
theorem dX1_weightOf_31 : decode cX1_weightOf 31 = .ok (.iconst 1, 1) := by decide +kernel
theorem dX1_weightOf_32 : decode cX1_weightOf 32 = .ok (.ireturn, 1) := by decide +kernel
theorem dX1_sightOf_0 : decode cX1_sightOf 0 = .ok (.aload_n 0, 1) := by decide +kernel
theorem dX1_sightOf_1 : decode cX1_sightOf 1 = .ok (.iload_n 1, 1) := by decide +kernel
theorem dX1_sightOf_2 : decode cX1_sightOf 2 = .ok (.invokevirtual 72, 3) := by decide +kernel
theorem dX1_sightOf_5 : decode cX1_sightOf 5 = .ok (.ifCond .eq 17, 3) := by decide +kernel
theorem dX1_sightOf_8 : decode cX1_sightOf 8 = .ok (.iload_n 2, 1) := by decide +kernel
theorem dX1_sightOf_9 : decode cX1_sightOf 9 = .ok (.aload_n 0, 1) := by decide +kernel
theorem dX1_sightOf_10 : decode cX1_sightOf 10 = .ok (.getfield 18, 3) := by decide +kernel
theorem dX1_sightOf_13 : decode cX1_sightOf 13 = .ok (.iload_n 1, 1) := by decide +kernel
theorem dX1_sightOf_14 : decode cX1_sightOf 14 = .ok (.iaload, 1) := by decide +kernel
theorem dX1_sightOf_15 : decode cX1_sightOf 15 = .ok (.imul, 1) := by decide +kernel
theorem dX1_sightOf_16 : decode cX1_sightOf 16 = .ok (.bipush 100, 2) := by decide +kernel
theorem dX1_sightOf_18 : decode cX1_sightOf 18 = .ok (.idiv, 1) := by decide +kernel
theorem dX1_sightOf_19 : decode cX1_sightOf 19 = .ok (.goto 4, 3) := by decide +kernel
theorem dX1_sightOf_22 : decode cX1_sightOf 22 = .ok (.iconst 0, 1) := by decide +kernel
theorem dX1_sightOf_23 : decode cX1_sightOf 23 = .ok (.ireturn, 1) := by decide +kernel
theorem dX2_init_0 : decode cX2_init 0 = .ok (.aload_n 0, 1) := by decide +kernel
theorem dX2_init_1 : decode cX2_init 1 = .ok (.invokespecial 1, 3) := by decide +kernel
theorem dX2_init_4 : decode cX2_init 4 = .ok (.aload_n 0, 1) := by decide +kernel
theorem dX2_init_5 : decode cX2_init 5 = .ok (.new 7, 3) := by decide +kernel
theorem dX2_init_8 : decode cX2_init 8 = .ok (.dup, 1) := by decide +kernel
theorem dX2_init_9 : decode cX2_init 9 = .ok (.invokespecial 9, 3) := by decide +kernel
theorem dX2_init_12 : decode cX2_init 12 = .ok (.putfield 10, 3) := by decide +kernel
theorem dX2_init_15 : decode cX2_init 15 = .ok (.aload_n 0, 1) := by decide +kernel
theorem dX2_init_16 : decode cX2_init 16 = .ok (.new 16, 3) := by decide +kernel
theorem dX2_init_19 : decode cX2_init 19 = .ok (.dup, 1) := by decide +kernel
theorem dX2_init_20 : decode cX2_init 20 = .ok (.invokespecial 18, 3) := by decide +kernel
theorem dX2_init_23 : decode cX2_init 23 = .ok (.putfield 19, 3) := by decide +kernel
theorem dX2_init_26 : decode cX2_init 26 = .ok (.return_, 1) := by decide +kernel
theorem dX3_init_0 : decode cX3_init 0 = .ok (.aload_n 0, 1) := by decide +kernel
theorem dX3_init_1 : decode cX3_init 1 = .ok (.invokespecial 3, 3) := by decide +kernel
theorem dX3_init_4 : decode cX3_init 4 = .ok (.aload_n 0, 1) := by decide +kernel
theorem dX3_init_5 : decode cX3_init 5 = .ok (.sipush 321, 3) := by decide +kernel
theorem dX3_init_8 : decode cX3_init 8 = .ok (.newarray .long, 2) := by decide +kernel
theorem dX3_init_10 : decode cX3_init 10 = .ok (.putfield 11, 3) := by decide +kernel
theorem dX3_init_13 : decode cX3_init 13 = .ok (.aload_n 0, 1) := by decide +kernel
theorem dX3_init_14 : decode cX3_init 14 = .ok (.sipush 321, 3) := by decide +kernel
theorem dX3_init_17 : decode cX3_init 17 = .ok (.newarray .long, 2) := by decide +kernel
theorem dX3_init_19 : decode cX3_init 19 = .ok (.putfield 15, 3) := by decide +kernel
theorem dX3_init_22 : decode cX3_init 22 = .ok (.return_, 1) := by decide +kernel
theorem dX3_start_0 : decode cX3_start 0 = .ok (.aload_n 0, 1) := by decide +kernel
theorem dX3_start_1 : decode cX3_start 1 = .ok (.iconst 0, 1) := by decide +kernel
theorem dX3_start_2 : decode cX3_start 2 = .ok (.bipush 20, 2) := by decide +kernel
theorem dX3_start_4 : decode cX3_start 4 = .ok (.iload_n 1, 1) := by decide +kernel
theorem dX3_start_5 : decode cX3_start 5 = .ok (.invokestatic 18, 3) := by decide +kernel
theorem dX3_start_8 : decode cX3_start 8 = .ok (.invokestatic 24, 3) := by decide +kernel
theorem dX3_start_11 : decode cX3_start 11 = .ok (.putfield 27, 3) := by decide +kernel
theorem dX3_start_14 : decode cX3_start 14 = .ok (.aload_n 0, 1) := by decide +kernel
theorem dX3_start_15 : decode cX3_start 15 = .ok (.iconst 0, 1) := by decide +kernel
theorem dX3_start_16 : decode cX3_start 16 = .ok (.putfield 31, 3) := by decide +kernel
theorem dX3_start_19 : decode cX3_start 19 = .ok (.aload_n 0, 1) := by decide +kernel
theorem dX3_start_20 : decode cX3_start 20 = .ok (.lconst 1, 1) := by decide +kernel
theorem dX3_start_21 : decode cX3_start 21 = .ok (.putfield 34, 3) := by decide +kernel
theorem dX3_start_24 : decode cX3_start 24 = .ok (.aload_n 0, 1) := by decide +kernel
theorem dX3_start_25 : decode cX3_start 25 = .ok (.getfield 11, 3) := by decide +kernel
theorem dX3_start_28 : decode cX3_start 28 = .ok (.iconst 0, 1) := by decide +kernel
theorem dX3_start_29 : decode cX3_start 29 = .ok (.lconst 1, 1) := by decide +kernel
theorem dX3_start_30 : decode cX3_start 30 = .ok (.lastore, 1) := by decide +kernel
theorem dX3_start_31 : decode cX3_start 31 = .ok (.return_, 1) := by decide +kernel
theorem dX3_addOne_0 : decode cX3_addOne 0 = .ok (.aload_n 0, 1) := by decide +kernel
theorem dX3_addOne_1 : decode cX3_addOne 1 = .ok (.getfield 31, 3) := by decide +kernel
theorem dX3_addOne_4 : decode cX3_addOne 4 = .ok (.bipush 8, 2) := by decide +kernel
theorem dX3_addOne_6 : decode cX3_addOne 6 = .ok (.if_icmp .lt 4, 3) := by decide +kernel
theorem dX3_addOne_9 : decode cX3_addOne 9 = .ok (.return_, 1) := by decide +kernel
theorem dX3_addOne_10 : decode cX3_addOne 10 = .ok (.iconst 2, 1) := by decide +kernel
theorem dX3_addOne_11 : decode cX3_addOne 11 = .ok (.aload_n 0, 1) := by decide +kernel
theorem dX3_addOne_12 : decode cX3_addOne 12 = .ok (.getfield 27, 3) := by decide +kernel
theorem dX3_addOne_15 : decode cX3_addOne 15 = .ok (.imul, 1) := by decide +kernel
theorem dX3_addOne_16 : decode cX3_addOne 16 = .ok (.aload_n 0, 1) := by decide +kernel
theorem dX3_addOne_17 : decode cX3_addOne 17 = .ok (.getfield 31, 3) := by decide +kernel
theorem dX3_addOne_20 : decode cX3_addOne 20 = .ok (.imul, 1) := by decide +kernel
theorem dX3_addOne_21 : decode cX3_addOne 21 = .ok (.istore_n 1, 1) := by decide +kernel
theorem dX3_addOne_22 : decode cX3_addOne 22 = .ok (.iconst 2, 1) := by decide +kernel
theorem dX3_addOne_23 : decode cX3_addOne 23 = .ok (.aload_n 0, 1) := by decide +kernel
theorem dX3_addOne_24 : decode cX3_addOne 24 = .ok (.getfield 27, 3) := by decide +kernel
theorem dX3_addOne_27 : decode cX3_addOne 27 = .ok (.imul, 1) := by decide +kernel
theorem dX3_addOne_28 : decode cX3_addOne 28 = .ok (.istore_n 2, 1) := by decide +kernel
theorem dX3_addOne_29 : decode cX3_addOne 29 = .ok (.lconst 0, 1) := by decide +kernel
theorem dX3_addOne_30 : decode cX3_addOne 30 = .ok (.lstore_n 3, 1) := by decide +kernel
theorem dX3_addOne_31 : decode cX3_addOne 31 = .ok (.iconst 0, 1) := by decide +kernel
theorem dX3_addOne_32 : decode cX3_addOne 32 = .ok (.istore 5, 2) := by decide +kernel
theorem dX3_addOne_34 : decode cX3_addOne 34 = .ok (.iload 5, 2) := by decide +kernel
theorem dX3_addOne_36 : decode cX3_addOne 36 = .ok (.iload_n 1, 1) := by decide +kernel
theorem dX3_addOne_37 : decode cX3_addOne 37 = .ok (.iload_n 2, 1) := by decide +kernel
theorem dX3_addOne_38 : decode cX3_addOne 38 = .ok (.iadd, 1) := by decide +kernel
theorem dX3_addOne_39 : decode cX3_addOne 39 = .ok (.if_icmp .gt 61, 3) := by decide +kernel
theorem dX3_addOne_42 : decode cX3_addOne 42 = .ok (.iload 5, 2) := by decide +kernel
theorem dX3_addOne_44 : decode cX3_addOne 44 = .ok (.sipush 321, 3) := by decide +kernel
theorem dX3_addOne_47 : decode cX3_addOne 47 = .ok (.if_icmp .ge 53, 3) := by decide +kernel
theorem dX3_addOne_50 : decode cX3_addOne 50 = .ok (.iload 5, 2) := by decide +kernel
theorem dX3_addOne_52 : decode cX3_addOne 52 = .ok (.iload_n 1, 1) := by decide +kernel
theorem dX3_addOne_53 : decode cX3_addOne 53 = .ok (.if_icmp .gt 13, 3) := by decide +kernel
theorem dX3_addOne_56 : decode cX3_addOne 56 = .ok (.lload_n 3, 1) := by decide +kernel
theorem dX3_addOne_57 : decode cX3_addOne 57 = .ok (.aload_n 0, 1) := by decide +kernel
theorem dX3_addOne_58 : decode cX3_addOne 58 = .ok (.getfield 11, 3) := by decide +kernel
theorem dX3_addOne_61 : decode cX3_addOne 61 = .ok (.iload 5, 2) := by decide +kernel
theorem dX3_addOne_63 : decode cX3_addOne 63 = .ok (.laload, 1) := by decide +kernel
theorem dX3_addOne_64 : decode cX3_addOne 64 = .ok (.ladd, 1) := by decide +kernel
theorem dX3_addOne_65 : decode cX3_addOne 65 = .ok (.lstore_n 3, 1) := by decide +kernel
theorem dX3_addOne_66 : decode cX3_addOne 66 = .ok (.iload 5, 2) := by decide +kernel
theorem dX3_addOne_68 : decode cX3_addOne 68 = .ok (.iload_n 2, 1) := by decide +kernel
theorem dX3_addOne_69 : decode cX3_addOne 69 = .ok (.if_icmp .le 17, 3) := by decide +kernel
theorem dX3_addOne_72 : decode cX3_addOne 72 = .ok (.lload_n 3, 1) := by decide +kernel
theorem dX3_addOne_73 : decode cX3_addOne 73 = .ok (.aload_n 0, 1) := by decide +kernel
theorem dX3_addOne_74 : decode cX3_addOne 74 = .ok (.getfield 11, 3) := by decide +kernel
theorem dX3_addOne_77 : decode cX3_addOne 77 = .ok (.iload 5, 2) := by decide +kernel
theorem dX3_addOne_79 : decode cX3_addOne 79 = .ok (.iload_n 2, 1) := by decide +kernel
theorem dX3_addOne_80 : decode cX3_addOne 80 = .ok (.isub, 1) := by decide +kernel
theorem dX3_addOne_81 : decode cX3_addOne 81 = .ok (.iconst 1, 1) := by decide +kernel
theorem dX3_addOne_82 : decode cX3_addOne 82 = .ok (.isub, 1) := by decide +kernel
theorem dX3_addOne_83 : decode cX3_addOne 83 = .ok (.laload, 1) := by decide +kernel
theorem dX3_addOne_84 : decode cX3_addOne 84 = .ok (.lsub, 1) := by decide +kernel
theorem dX3_addOne_85 : decode cX3_addOne 85 = .ok (.lstore_n 3, 1) := by decide +kernel
theorem dX3_addOne_86 : decode cX3_addOne 86 = .ok (.aload_n 0, 1) := by decide +kernel
theorem dX3_addOne_87 : decode cX3_addOne 87 = .ok (.getfield 15, 3) := by decide +kernel
theorem dX3_addOne_90 : decode cX3_addOne 90 = .ok (.iload 5, 2) := by decide +kernel
theorem dX3_addOne_92 : decode cX3_addOne 92 = .ok (.lload_n 3, 1) := by decide +kernel
theorem dX3_addOne_93 : decode cX3_addOne 93 = .ok (.lastore, 1) := by decide +kernel
theorem dX3_addOne_94 : decode cX3_addOne 94 = .ok (.iinc 5 1, 3) := by decide +kernel
theorem dX3_addOne_97 : decode cX3_addOne 97 = .ok (.goto (-63), 3) := by decide +kernel
theorem dX3_addOne_100 : decode cX3_addOne 100 = .ok (.aload_n 0, 1) := by decide +kernel
theorem dX3_addOne_101 : decode cX3_addOne 101 = .ok (.getfield 11, 3) := by decide +kernel
theorem dX3_addOne_104 : decode cX3_addOne 104 = .ok (.astore 5, 2) := by decide +kernel
theorem dX3_addOne_106 : decode cX3_addOne 106 = .ok (.aload_n 0, 1) := by decide +kernel
theorem dX3_addOne_107 : decode cX3_addOne 107 = .ok (.aload_n 0, 1) := by decide +kernel
theorem dX3_addOne_108 : decode cX3_addOne 108 = .ok (.getfield 15, 3) := by decide +kernel
theorem dX3_addOne_111 : decode cX3_addOne 111 = .ok (.putfield 11, 3) := by decide +kernel
theorem dX3_addOne_114 : decode cX3_addOne 114 = .ok (.aload_n 0, 1) := by decide +kernel
theorem dX3_addOne_115 : decode cX3_addOne 115 = .ok (.aload 5, 2) := by decide +kernel
theorem dX3_addOne_117 : decode cX3_addOne 117 = .ok (.putfield 15, 3) := by decide +kernel
theorem dX3_addOne_120 : decode cX3_addOne 120 = .ok (.aload_n 0, 1) := by decide +kernel
theorem dX3_addOne_121 : decode cX3_addOne 121 = .ok (.dup, 1) := by decide +kernel
theorem dX3_addOne_122 : decode cX3_addOne 122 = .ok (.getfield 31, 3) := by decide +kernel
theorem dX3_addOne_125 : decode cX3_addOne 125 = .ok (.iconst 1, 1) := by decide +kernel
theorem dX3_addOne_126 : decode cX3_addOne 126 = .ok (.iadd, 1) := by decide +kernel
theorem dX3_addOne_127 : decode cX3_addOne 127 = .ok (.putfield 31, 3) := by decide +kernel
theorem dX3_addOne_130 : decode cX3_addOne 130 = .ok (.aload_n 0, 1) := by decide +kernel
theorem dX3_addOne_131 : decode cX3_addOne 131 = .ok (.dup, 1) := by decide +kernel
theorem dX3_addOne_132 : decode cX3_addOne 132 = .ok (.getfield 34, 3) := by decide +kernel
theorem dX3_addOne_135 : decode cX3_addOne 135 = .ok (.iload_n 2, 1) := by decide +kernel
theorem dX3_addOne_136 : decode cX3_addOne 136 = .ok (.iconst 1, 1) := by decide +kernel
theorem dX3_addOne_137 : decode cX3_addOne 137 = .ok (.iadd, 1) := by decide +kernel
theorem dX3_addOne_138 : decode cX3_addOne 138 = .ok (.i2l, 1) := by decide +kernel
theorem dX3_addOne_139 : decode cX3_addOne 139 = .ok (.lmul, 1) := by decide +kernel
theorem dX3_addOne_140 : decode cX3_addOne 140 = .ok (.putfield 34, 3) := by decide +kernel
theorem dX3_addOne_143 : decode cX3_addOne 143 = .ok (.return_, 1) := by decide +kernel
theorem dX3_within_0 : decode cX3_within 0 = .ok (.aload_n 0, 1) := by decide +kernel
theorem dX3_within_1 : decode cX3_within 1 = .ok (.getfield 27, 3) := by decide +kernel
theorem dX3_within_4 : decode cX3_within 4 = .ok (.aload_n 0, 1) := by decide +kernel
theorem dX3_within_5 : decode cX3_within 5 = .ok (.getfield 31, 3) := by decide +kernel
theorem dX3_within_8 : decode cX3_within 8 = .ok (.imul, 1) := by decide +kernel
theorem dX3_within_9 : decode cX3_within 9 = .ok (.istore_n 2, 1) := by decide +kernel
theorem dX3_within_10 : decode cX3_within 10 = .ok (.lconst 0, 1) := by decide +kernel
theorem dX3_within_11 : decode cX3_within 11 = .ok (.lstore_n 3, 1) := by decide +kernel
theorem dX3_within_12 : decode cX3_within 12 = .ok (.iconst 0, 1) := by decide +kernel
theorem dX3_within_13 : decode cX3_within 13 = .ok (.iload_n 2, 1) := by decide +kernel
theorem dX3_within_14 : decode cX3_within 14 = .ok (.iload_n 1, 1) := by decide +kernel
theorem dX3_within_15 : decode cX3_within 15 = .ok (.isub, 1) := by decide +kernel
theorem dX3_within_16 : decode cX3_within 16 = .ok (.invokestatic 24, 3) := by decide +kernel
theorem dX3_within_19 : decode cX3_within 19 = .ok (.istore 5, 2) := by decide +kernel
theorem dX3_within_21 : decode cX3_within 21 = .ok (.iload 5, 2) := by decide +kernel
theorem dX3_within_23 : decode cX3_within 23 = .ok (.iconst 2, 1) := by decide +kernel
theorem dX3_within_24 : decode cX3_within 24 = .ok (.iload_n 2, 1) := by decide +kernel
theorem dX3_within_25 : decode cX3_within 25 = .ok (.imul, 1) := by decide +kernel
theorem dX3_within_26 : decode cX3_within 26 = .ok (.iload_n 2, 1) := by decide +kernel
theorem dX3_within_27 : decode cX3_within 27 = .ok (.iload_n 1, 1) := by decide +kernel
theorem dX3_within_28 : decode cX3_within 28 = .ok (.iadd, 1) := by decide +kernel
theorem dX3_within_29 : decode cX3_within 29 = .ok (.invokestatic 18, 3) := by decide +kernel
theorem dX3_within_32 : decode cX3_within 32 = .ok (.if_icmp .gt 27, 3) := by decide +kernel
theorem dX3_within_35 : decode cX3_within 35 = .ok (.iload 5, 2) := by decide +kernel
theorem dX3_within_37 : decode cX3_within 37 = .ok (.sipush 321, 3) := by decide +kernel
theorem dX3_within_40 : decode cX3_within 40 = .ok (.if_icmp .ge 19, 3) := by decide +kernel
theorem dX3_within_43 : decode cX3_within 43 = .ok (.lload_n 3, 1) := by decide +kernel
theorem dX3_within_44 : decode cX3_within 44 = .ok (.aload_n 0, 1) := by decide +kernel
theorem dX3_within_45 : decode cX3_within 45 = .ok (.getfield 11, 3) := by decide +kernel
theorem dX3_within_48 : decode cX3_within 48 = .ok (.iload 5, 2) := by decide +kernel
theorem dX3_within_50 : decode cX3_within 50 = .ok (.laload, 1) := by decide +kernel
theorem dX3_within_51 : decode cX3_within 51 = .ok (.ladd, 1) := by decide +kernel
theorem dX3_within_52 : decode cX3_within 52 = .ok (.lstore_n 3, 1) := by decide +kernel
theorem dX3_within_53 : decode cX3_within 53 = .ok (.iinc 5 1, 3) := by decide +kernel
theorem dX3_within_56 : decode cX3_within 56 = .ok (.goto (-35), 3) := by decide +kernel
theorem dX3_within_59 : decode cX3_within 59 = .ok (.lload_n 3, 1) := by decide +kernel
theorem dX3_within_60 : decode cX3_within 60 = .ok (.lreturn, 1) := by decide +kernel
theorem dX4_init_0 : decode cX4_init 0 = .ok (.aload_n 0, 1) := by decide +kernel
theorem dX4_init_1 : decode cX4_init 1 = .ok (.invokespecial 1, 3) := by decide +kernel
theorem dX4_init_4 : decode cX4_init 4 = .ok (.return_, 1) := by decide +kernel
theorem dX4_open_0 : decode cX4_open 0 = .ok (.aload_n 0, 1) := by decide +kernel
theorem dX4_open_1 : decode cX4_open 1 = .ok (.iload_n 1, 1) := by decide +kernel
theorem dX4_open_2 : decode cX4_open 2 = .ok (.putfield 7, 3) := by decide +kernel
theorem dX4_open_5 : decode cX4_open 5 = .ok (.aload_n 0, 1) := by decide +kernel
theorem dX4_open_6 : decode cX4_open 6 = .ok (.iload_n 2, 1) := by decide +kernel
theorem dX4_open_7 : decode cX4_open 7 = .ok (.putfield 13, 3) := by decide +kernel
theorem dX4_open_10 : decode cX4_open 10 = .ok (.aload_n 0, 1) := by decide +kernel
theorem dX4_open_11 : decode cX4_open 11 = .ok (.iload_n 3, 1) := by decide +kernel
theorem dX4_open_12 : decode cX4_open 12 = .ok (.putfield 16, 3) := by decide +kernel
theorem dX4_open_15 : decode cX4_open 15 = .ok (.return_, 1) := by decide +kernel
theorem dX4_yieldTo_0 : decode cX4_yieldTo 0 = .ok (.iload_n 1, 1) := by decide +kernel
theorem dX4_yieldTo_1 : decode cX4_yieldTo 1 = .ok (.aload_n 0, 1) := by decide +kernel
theorem dX4_yieldTo_2 : decode cX4_yieldTo 2 = .ok (.getfield 7, 3) := by decide +kernel
theorem dX4_yieldTo_5 : decode cX4_yieldTo 5 = .ok (.if_icmp .ne 16, 3) := by decide +kernel
theorem dX4_yieldTo_8 : decode cX4_yieldTo 8 = .ok (.aload_n 0, 1) := by decide +kernel
theorem dX4_yieldTo_9 : decode cX4_yieldTo 9 = .ok (.aload_n 0, 1) := by decide +kernel
theorem dX4_yieldTo_10 : decode cX4_yieldTo 10 = .ok (.getfield 13, 3) := by decide +kernel
theorem dX4_yieldTo_13 : decode cX4_yieldTo 13 = .ok (.iconst 1, 1) := by decide +kernel
theorem dX4_yieldTo_14 : decode cX4_yieldTo 14 = .ok (.isub, 1) := by decide +kernel
theorem dX4_yieldTo_15 : decode cX4_yieldTo 15 = .ok (.putfield 16, 3) := by decide +kernel
theorem dX4_yieldTo_18 : decode cX4_yieldTo 18 = .ok (.goto 58, 3) := by decide +kernel
theorem dX4_yieldTo_21 : decode cX4_yieldTo 21 = .ok (.iload_n 1, 1) := by decide +kernel
theorem dX4_yieldTo_22 : decode cX4_yieldTo 22 = .ok (.aload_n 0, 1) := by decide +kernel
theorem dX4_yieldTo_23 : decode cX4_yieldTo 23 = .ok (.getfield 7, 3) := by decide +kernel
theorem dX4_yieldTo_26 : decode cX4_yieldTo 26 = .ok (.if_icmp .ge 27, 3) := by decide +kernel
theorem dX4_yieldTo_29 : decode cX4_yieldTo 29 = .ok (.aload_n 0, 1) := by decide +kernel
theorem dX4_yieldTo_30 : decode cX4_yieldTo 30 = .ok (.aload_n 0, 1) := by decide +kernel
theorem dX4_yieldTo_31 : decode cX4_yieldTo 31 = .ok (.getfield 13, 3) := by decide +kernel
theorem dX4_yieldTo_34 : decode cX4_yieldTo 34 = .ok (.aload_n 0, 1) := by decide +kernel
theorem dX4_yieldTo_35 : decode cX4_yieldTo 35 = .ok (.getfield 7, 3) := by decide +kernel
theorem dX4_yieldTo_38 : decode cX4_yieldTo 38 = .ok (.iload_n 1, 1) := by decide +kernel
theorem dX4_yieldTo_39 : decode cX4_yieldTo 39 = .ok (.iadd, 1) := by decide +kernel
theorem dX4_yieldTo_40 : decode cX4_yieldTo 40 = .ok (.iconst 2, 1) := by decide +kernel
theorem dX4_yieldTo_41 : decode cX4_yieldTo 41 = .ok (.idiv, 1) := by decide +kernel
theorem dX4_yieldTo_42 : decode cX4_yieldTo 42 = .ok (.iconst 1, 1) := by decide +kernel
theorem dX4_yieldTo_43 : decode cX4_yieldTo 43 = .ok (.iadd, 1) := by decide +kernel
theorem dX4_yieldTo_44 : decode cX4_yieldTo 44 = .ok (.invokestatic 19, 3) := by decide +kernel
theorem dX4_yieldTo_47 : decode cX4_yieldTo 47 = .ok (.putfield 13, 3) := by decide +kernel
theorem dX4_yieldTo_50 : decode cX4_yieldTo 50 = .ok (.goto 26, 3) := by decide +kernel
theorem dX4_yieldTo_53 : decode cX4_yieldTo 53 = .ok (.aload_n 0, 1) := by decide +kernel
theorem dX4_yieldTo_54 : decode cX4_yieldTo 54 = .ok (.aload_n 0, 1) := by decide +kernel
theorem dX4_yieldTo_55 : decode cX4_yieldTo 55 = .ok (.getfield 16, 3) := by decide +kernel
theorem dX4_yieldTo_58 : decode cX4_yieldTo 58 = .ok (.aload_n 0, 1) := by decide +kernel
theorem dX4_yieldTo_59 : decode cX4_yieldTo 59 = .ok (.getfield 7, 3) := by decide +kernel
theorem dX4_yieldTo_62 : decode cX4_yieldTo 62 = .ok (.iload_n 1, 1) := by decide +kernel
theorem dX4_yieldTo_63 : decode cX4_yieldTo 63 = .ok (.iadd, 1) := by decide +kernel
theorem dX4_yieldTo_64 : decode cX4_yieldTo 64 = .ok (.iconst 1, 1) := by decide +kernel
theorem dX4_yieldTo_65 : decode cX4_yieldTo 65 = .ok (.iadd, 1) := by decide +kernel
theorem dX4_yieldTo_66 : decode cX4_yieldTo 66 = .ok (.iconst 2, 1) := by decide +kernel
theorem dX4_yieldTo_67 : decode cX4_yieldTo 67 = .ok (.idiv, 1) := by decide +kernel
theorem dX4_yieldTo_68 : decode cX4_yieldTo 68 = .ok (.iconst 1, 1) := by decide +kernel
theorem dX4_yieldTo_69 : decode cX4_yieldTo 69 = .ok (.isub, 1) := by decide +kernel
theorem dX4_yieldTo_70 : decode cX4_yieldTo 70 = .ok (.invokestatic 25, 3) := by decide +kernel
theorem dX4_yieldTo_73 : decode cX4_yieldTo 73 = .ok (.putfield 16, 3) := by decide +kernel
theorem dX4_yieldTo_76 : decode cX4_yieldTo 76 = .ok (.return_, 1) := by decide +kernel
theorem dX4_keepFrom_0 : decode cX4_keepFrom 0 = .ok (.iload_n 1, 1) := by decide +kernel
theorem dX4_keepFrom_1 : decode cX4_keepFrom 1 = .ok (.aload_n 0, 1) := by decide +kernel
theorem dX4_keepFrom_2 : decode cX4_keepFrom 2 = .ok (.getfield 7, 3) := by decide +kernel
theorem dX4_keepFrom_5 : decode cX4_keepFrom 5 = .ok (.if_icmp .ge 27, 3) := by decide +kernel
theorem dX4_keepFrom_8 : decode cX4_keepFrom 8 = .ok (.aload_n 0, 1) := by decide +kernel
theorem dX4_keepFrom_9 : decode cX4_keepFrom 9 = .ok (.aload_n 0, 1) := by decide +kernel
theorem dX4_keepFrom_10 : decode cX4_keepFrom 10 = .ok (.getfield 13, 3) := by decide +kernel
theorem dX4_keepFrom_13 : decode cX4_keepFrom 13 = .ok (.aload_n 0, 1) := by decide +kernel
theorem dX4_keepFrom_14 : decode cX4_keepFrom 14 = .ok (.getfield 7, 3) := by decide +kernel
theorem dX4_keepFrom_17 : decode cX4_keepFrom 17 = .ok (.iload_n 1, 1) := by decide +kernel
theorem dX4_keepFrom_18 : decode cX4_keepFrom 18 = .ok (.iadd, 1) := by decide +kernel
theorem dX4_keepFrom_19 : decode cX4_keepFrom 19 = .ok (.iconst 1, 1) := by decide +kernel
theorem dX4_keepFrom_20 : decode cX4_keepFrom 20 = .ok (.iadd, 1) := by decide +kernel
theorem dX4_keepFrom_21 : decode cX4_keepFrom 21 = .ok (.iconst 2, 1) := by decide +kernel
theorem dX4_keepFrom_22 : decode cX4_keepFrom 22 = .ok (.idiv, 1) := by decide +kernel
theorem dX4_keepFrom_23 : decode cX4_keepFrom 23 = .ok (.invokestatic 19, 3) := by decide +kernel
theorem dX4_keepFrom_26 : decode cX4_keepFrom 26 = .ok (.putfield 13, 3) := by decide +kernel
theorem dX4_keepFrom_29 : decode cX4_keepFrom 29 = .ok (.goto 30, 3) := by decide +kernel
theorem dX4_keepFrom_32 : decode cX4_keepFrom 32 = .ok (.iload_n 1, 1) := by decide +kernel
theorem dX4_keepFrom_33 : decode cX4_keepFrom 33 = .ok (.aload_n 0, 1) := by decide +kernel
theorem dX4_keepFrom_34 : decode cX4_keepFrom 34 = .ok (.getfield 7, 3) := by decide +kernel
theorem dX4_keepFrom_37 : decode cX4_keepFrom 37 = .ok (.if_icmp .le 22, 3) := by decide +kernel
theorem dX4_keepFrom_40 : decode cX4_keepFrom 40 = .ok (.aload_n 0, 1) := by decide +kernel
theorem dX4_keepFrom_41 : decode cX4_keepFrom 41 = .ok (.aload_n 0, 1) := by decide +kernel
theorem dX4_keepFrom_42 : decode cX4_keepFrom 42 = .ok (.getfield 16, 3) := by decide +kernel
theorem dX4_keepFrom_45 : decode cX4_keepFrom 45 = .ok (.aload_n 0, 1) := by decide +kernel
theorem dX4_keepFrom_46 : decode cX4_keepFrom 46 = .ok (.getfield 7, 3) := by decide +kernel
theorem dX4_keepFrom_49 : decode cX4_keepFrom 49 = .ok (.iload_n 1, 1) := by decide +kernel
theorem dX4_keepFrom_50 : decode cX4_keepFrom 50 = .ok (.iadd, 1) := by decide +kernel
theorem dX4_keepFrom_51 : decode cX4_keepFrom 51 = .ok (.iconst 2, 1) := by decide +kernel
theorem dX4_keepFrom_52 : decode cX4_keepFrom 52 = .ok (.idiv, 1) := by decide +kernel
theorem dX4_keepFrom_53 : decode cX4_keepFrom 53 = .ok (.invokestatic 25, 3) := by decide +kernel
theorem dX4_keepFrom_56 : decode cX4_keepFrom 56 = .ok (.putfield 16, 3) := by decide +kernel
theorem dX4_keepFrom_59 : decode cX4_keepFrom 59 = .ok (.return_, 1) := by decide +kernel
theorem dX4_width_0 : decode cX4_width 0 = .ok (.iconst 0, 1) := by decide +kernel
theorem dX4_width_1 : decode cX4_width 1 = .ok (.aload_n 0, 1) := by decide +kernel
theorem dX4_width_2 : decode cX4_width 2 = .ok (.getfield 16, 3) := by decide +kernel
theorem dX4_width_5 : decode cX4_width 5 = .ok (.aload_n 0, 1) := by decide +kernel
theorem dX4_width_6 : decode cX4_width 6 = .ok (.getfield 13, 3) := by decide +kernel
theorem dX4_width_9 : decode cX4_width 9 = .ok (.isub, 1) := by decide +kernel
theorem dX4_width_10 : decode cX4_width 10 = .ok (.iconst 1, 1) := by decide +kernel
theorem dX4_width_11 : decode cX4_width 11 = .ok (.iadd, 1) := by decide +kernel
theorem dX4_width_12 : decode cX4_width 12 = .ok (.invokestatic 19, 3) := by decide +kernel
theorem dX4_width_15 : decode cX4_width 15 = .ok (.ireturn, 1) := by decide +kernel
theorem dX5_init_0 : decode cX5_init 0 = .ok (.aload_n 0, 1) := by decide +kernel
theorem dX5_init_1 : decode cX5_init 1 = .ok (.invokespecial 3, 3) := by decide +kernel
theorem dX5_init_4 : decode cX5_init 4 = .ok (.aload_n 0, 1) := by decide +kernel
theorem dX5_init_5 : decode cX5_init 5 = .ok (.iconst (-1), 1) := by decide +kernel
theorem dX5_init_6 : decode cX5_init 6 = .ok (.putfield 9, 3) := by decide +kernel
theorem dX5_init_9 : decode cX5_init 9 = .ok (.return_, 1) := by decide +kernel
theorem dX5_readText_0 : decode cX5_readText 0 = .ok (.aload_n 0, 1) := by decide +kernel
theorem dX5_readText_1 : decode cX5_readText 1 = .ok (.aload_n 1, 1) := by decide +kernel
theorem dX5_readText_2 : decode cX5_readText 2 = .ok (.putfield 15, 3) := by decide +kernel
theorem dX5_readText_5 : decode cX5_readText 5 = .ok (.aload_n 0, 1) := by decide +kernel
theorem dX5_readText_6 : decode cX5_readText 6 = .ok (.iload_n 2, 1) := by decide +kernel
theorem dX5_readText_7 : decode cX5_readText 7 = .ok (.aload_n 1, 1) := by decide +kernel
theorem dX5_readText_8 : decode cX5_readText 8 = .ok (.arraylength, 1) := by decide +kernel
theorem dX5_readText_9 : decode cX5_readText 9 = .ok (.invokestatic 19, 3) := by decide +kernel
theorem dX5_readText_12 : decode cX5_readText 12 = .ok (.putfield 25, 3) := by decide +kernel
theorem dX5_readText_15 : decode cX5_readText 15 = .ok (.aload_n 0, 1) := by decide +kernel
theorem dX5_readText_16 : decode cX5_readText 16 = .ok (.iconst 0, 1) := by decide +kernel
theorem dX5_readText_17 : decode cX5_readText 17 = .ok (.putfield 28, 3) := by decide +kernel
theorem dX5_readText_20 : decode cX5_readText 20 = .ok (.aload_n 0, 1) := by decide +kernel
theorem dX5_readText_21 : decode cX5_readText 21 = .ok (.iconst 0, 1) := by decide +kernel
theorem dX5_readText_22 : decode cX5_readText 22 = .ok (.putfield 31, 3) := by decide +kernel
theorem dX5_readText_25 : decode cX5_readText 25 = .ok (.aload_n 0, 1) := by decide +kernel
theorem dX5_readText_26 : decode cX5_readText 26 = .ok (.iconst (-1), 1) := by decide +kernel
theorem dX5_readText_27 : decode cX5_readText 27 = .ok (.putfield 9, 3) := by decide +kernel
theorem dX5_readText_30 : decode cX5_readText 30 = .ok (.aload_n 3, 1) := by decide +kernel
theorem dX5_readText_31 : decode cX5_readText 31 = .ok (.invokevirtual 34, 3) := by decide +kernel
theorem dX5_readText_34 : decode cX5_readText 34 = .ok (.aload_n 0, 1) := by decide +kernel
theorem dX5_readText_35 : decode cX5_readText 35 = .ok (.invokevirtual 39, 3) := by decide +kernel
theorem dX5_readText_38 : decode cX5_readText 38 = .ok (.iconst 0, 1) := by decide +kernel
theorem dX5_readText_39 : decode cX5_readText 39 = .ok (.istore 4, 2) := by decide +kernel
theorem dX5_readText_41 : decode cX5_readText 41 = .ok (.iload 4, 2) := by decide +kernel
theorem dX5_readText_43 : decode cX5_readText 43 = .ok (.aload_n 0, 1) := by decide +kernel
theorem dX5_readText_44 : decode cX5_readText 44 = .ok (.getfield 25, 3) := by decide +kernel
theorem dX5_readText_47 : decode cX5_readText 47 = .ok (.if_icmp .ge 43, 3) := by decide +kernel
theorem dX5_readText_50 : decode cX5_readText 50 = .ok (.aload_n 0, 1) := by decide +kernel
theorem dX5_readText_51 : decode cX5_readText 51 = .ok (.getfield 42, 3) := by decide +kernel
theorem dX5_readText_54 : decode cX5_readText 54 = .ok (.iconst 3, 1) := by decide +kernel
theorem dX5_readText_55 : decode cX5_readText 55 = .ok (.if_icmp .eq 35, 3) := by decide +kernel
theorem dX5_readText_58 : decode cX5_readText 58 = .ok (.aload_n 0, 1) := by decide +kernel
theorem dX5_readText_59 : decode cX5_readText 59 = .ok (.aload_n 3, 1) := by decide +kernel
theorem dX5_readText_60 : decode cX5_readText 60 = .ok (.invokevirtual 45, 3) := by decide +kernel
theorem dX5_readText_63 : decode cX5_readText 63 = .ok (.ifCond .eq 10, 3) := by decide +kernel
theorem dX5_readText_66 : decode cX5_readText 66 = .ok (.aload_n 0, 1) := by decide +kernel
theorem dX5_readText_67 : decode cX5_readText 67 = .ok (.invokevirtual 49, 3) := by decide +kernel
theorem dX5_readText_70 : decode cX5_readText 70 = .ok (.ifCond .ne 4, 3) := by decide +kernel
theorem dX5_readText_73 : decode cX5_readText 73 = .ok (.return_, 1) := by decide +kernel
theorem dX5_readText_74 : decode cX5_readText 74 = .ok (.aload_n 3, 1) := by decide +kernel
theorem dX5_readText_75 : decode cX5_readText 75 = .ok (.dup, 1) := by decide +kernel
theorem dX5_readText_76 : decode cX5_readText 76 = .ok (.getfield 53, 3) := by decide +kernel
theorem dX5_readText_79 : decode cX5_readText 79 = .ok (.iconst 1, 1) := by decide +kernel
theorem dX5_readText_80 : decode cX5_readText 80 = .ok (.iadd, 1) := by decide +kernel
theorem dX5_readText_81 : decode cX5_readText 81 = .ok (.putfield 53, 3) := by decide +kernel
theorem dX5_readText_84 : decode cX5_readText 84 = .ok (.iinc 4 1, 3) := by decide +kernel
theorem dX5_readText_87 : decode cX5_readText 87 = .ok (.goto (-46), 3) := by decide +kernel
theorem dX5_readText_90 : decode cX5_readText 90 = .ok (.return_, 1) := by decide +kernel
theorem dX5_readLine_0 : decode cX5_readLine 0 = .ok (.aload_n 0, 1) := by decide +kernel
theorem dX5_readLine_1 : decode cX5_readLine 1 = .ok (.ldc 56, 2) := by decide +kernel
theorem dX5_readLine_3 : decode cX5_readLine 3 = .ok (.invokevirtual 58, 3) := by decide +kernel
theorem dX5_readLine_6 : decode cX5_readLine 6 = .ok (.ifCond .eq 9, 3) := by decide +kernel
theorem dX5_readLine_9 : decode cX5_readLine 9 = .ok (.aload_n 0, 1) := by decide +kernel
theorem dX5_readLine_10 : decode cX5_readLine 10 = .ok (.aload_n 1, 1) := by decide +kernel
theorem dX5_readLine_11 : decode cX5_readLine 11 = .ok (.invokevirtual 62, 3) := by decide +kernel
theorem dX5_readLine_14 : decode cX5_readLine 14 = .ok (.ireturn, 1) := by decide +kernel
theorem dX5_readLine_15 : decode cX5_readLine 15 = .ok (.aload_n 0, 1) := by decide +kernel
theorem dX5_readLine_16 : decode cX5_readLine 16 = .ok (.ldc 65, 2) := by decide +kernel
theorem dX5_readLine_18 : decode cX5_readLine 18 = .ok (.invokevirtual 58, 3) := by decide +kernel
theorem dX5_readLine_21 : decode cX5_readLine 21 = .ok (.ifCond .eq 9, 3) := by decide +kernel
theorem dX5_readLine_24 : decode cX5_readLine 24 = .ok (.aload_n 0, 1) := by decide +kernel
theorem dX5_readLine_25 : decode cX5_readLine 25 = .ok (.aload_n 1, 1) := by decide +kernel
theorem dX5_readLine_26 : decode cX5_readLine 26 = .ok (.invokevirtual 67, 3) := by decide +kernel
theorem dX5_readLine_29 : decode cX5_readLine 29 = .ok (.ireturn, 1) := by decide +kernel
theorem dX5_readLine_30 : decode cX5_readLine 30 = .ok (.aload_n 0, 1) := by decide +kernel
theorem dX5_readLine_31 : decode cX5_readLine 31 = .ok (.ldc 70, 2) := by decide +kernel
theorem dX5_readLine_33 : decode cX5_readLine 33 = .ok (.invokevirtual 72, 3) := by decide +kernel
theorem dX5_readLine_36 : decode cX5_readLine 36 = .ok (.ifCond .eq 9, 3) := by decide +kernel
theorem dX5_readLine_39 : decode cX5_readLine 39 = .ok (.aload_n 0, 1) := by decide +kernel
theorem dX5_readLine_40 : decode cX5_readLine 40 = .ok (.aload_n 1, 1) := by decide +kernel
theorem dX5_readLine_41 : decode cX5_readLine 41 = .ok (.invokevirtual 75, 3) := by decide +kernel
theorem dX5_readLine_44 : decode cX5_readLine 44 = .ok (.ireturn, 1) := by decide +kernel
theorem dX5_readLine_45 : decode cX5_readLine 45 = .ok (.aload_n 0, 1) := by decide +kernel
theorem dX5_readLine_46 : decode cX5_readLine 46 = .ok (.ldc 78, 2) := by decide +kernel
theorem dX5_readLine_48 : decode cX5_readLine 48 = .ok (.invokevirtual 58, 3) := by decide +kernel
theorem dX5_readLine_51 : decode cX5_readLine 51 = .ok (.ifCond .eq 10, 3) := by decide +kernel
theorem dX5_readLine_54 : decode cX5_readLine 54 = .ok (.aload_n 1, 1) := by decide +kernel
theorem dX5_readLine_55 : decode cX5_readLine 55 = .ok (.iconst 1, 1) := by decide +kernel
theorem dX5_readLine_56 : decode cX5_readLine 56 = .ok (.putfield 80, 3) := by decide +kernel
theorem dX5_readLine_59 : decode cX5_readLine 59 = .ok (.iconst 1, 1) := by decide +kernel
theorem dX5_readLine_60 : decode cX5_readLine 60 = .ok (.ireturn, 1) := by decide +kernel
theorem dX5_readLine_61 : decode cX5_readLine 61 = .ok (.aload_n 0, 1) := by decide +kernel
theorem dX5_readLine_62 : decode cX5_readLine 62 = .ok (.ldc 83, 2) := by decide +kernel
theorem dX5_readLine_64 : decode cX5_readLine 64 = .ok (.invokevirtual 58, 3) := by decide +kernel
theorem dX5_readLine_67 : decode cX5_readLine 67 = .ok (.ifCond .eq 21, 3) := by decide +kernel
theorem dX5_readLine_70 : decode cX5_readLine 70 = .ok (.aload_n 0, 1) := by decide +kernel
theorem dX5_readLine_71 : decode cX5_readLine 71 = .ok (.iconst 0, 1) := by decide +kernel
theorem dX5_readLine_72 : decode cX5_readLine 72 = .ok (.bipush 99, 2) := by decide +kernel
theorem dX5_readLine_74 : decode cX5_readLine 74 = .ok (.invokevirtual 85, 3) := by decide +kernel
theorem dX5_readLine_77 : decode cX5_readLine 77 = .ok (.istore_n 2, 1) := by decide +kernel
theorem dX5_readLine_78 : decode cX5_readLine 78 = .ok (.aload_n 1, 1) := by decide +kernel
theorem dX5_readLine_79 : decode cX5_readLine 79 = .ok (.aload_n 0, 1) := by decide +kernel
theorem dX5_readLine_80 : decode cX5_readLine 80 = .ok (.getfield 89, 3) := by decide +kernel
theorem dX5_readLine_83 : decode cX5_readLine 83 = .ok (.putfield 92, 3) := by decide +kernel
theorem dX5_readLine_86 : decode cX5_readLine 86 = .ok (.iload_n 2, 1) := by decide +kernel
theorem dX5_readLine_87 : decode cX5_readLine 87 = .ok (.ireturn, 1) := by decide +kernel
theorem dX5_readLine_88 : decode cX5_readLine 88 = .ok (.aload_n 0, 1) := by decide +kernel
theorem dX5_readLine_89 : decode cX5_readLine 89 = .ok (.ldc 94, 2) := by decide +kernel
theorem dX5_readLine_91 : decode cX5_readLine 91 = .ok (.invokevirtual 58, 3) := by decide +kernel
theorem dX5_readLine_94 : decode cX5_readLine 94 = .ok (.ifCond .eq 22, 3) := by decide +kernel
theorem dX5_readLine_97 : decode cX5_readLine 97 = .ok (.aload_n 0, 1) := by decide +kernel
theorem dX5_readLine_98 : decode cX5_readLine 98 = .ok (.iconst 0, 1) := by decide +kernel
theorem dX5_readLine_99 : decode cX5_readLine 99 = .ok (.sipush 9999, 3) := by decide +kernel
theorem dX5_readLine_102 : decode cX5_readLine 102 = .ok (.invokevirtual 85, 3) := by decide +kernel
theorem dX5_readLine_105 : decode cX5_readLine 105 = .ok (.istore_n 2, 1) := by decide +kernel
theorem dX5_readLine_106 : decode cX5_readLine 106 = .ok (.aload_n 1, 1) := by decide +kernel
theorem dX5_readLine_107 : decode cX5_readLine 107 = .ok (.aload_n 0, 1) := by decide +kernel
theorem dX5_readLine_108 : decode cX5_readLine 108 = .ok (.getfield 89, 3) := by decide +kernel
theorem dX5_readLine_111 : decode cX5_readLine 111 = .ok (.putfield 96, 3) := by decide +kernel
theorem dX5_readLine_114 : decode cX5_readLine 114 = .ok (.iload_n 2, 1) := by decide +kernel
theorem dX5_readLine_115 : decode cX5_readLine 115 = .ok (.ireturn, 1) := by decide +kernel
theorem dX5_readLine_116 : decode cX5_readLine 116 = .ok (.aload_n 0, 1) := by decide +kernel
theorem dX5_readLine_117 : decode cX5_readLine 117 = .ok (.ldc 98, 2) := by decide +kernel
theorem dX5_readLine_119 : decode cX5_readLine 119 = .ok (.invokevirtual 58, 3) := by decide +kernel
theorem dX5_readLine_122 : decode cX5_readLine 122 = .ok (.ifCond .eq 22, 3) := by decide +kernel
theorem dX5_readLine_125 : decode cX5_readLine 125 = .ok (.aload_n 0, 1) := by decide +kernel
theorem dX5_readLine_126 : decode cX5_readLine 126 = .ok (.iconst 1, 1) := by decide +kernel
theorem dX5_readLine_127 : decode cX5_readLine 127 = .ok (.sipush 999, 3) := by decide +kernel
theorem dX5_readLine_130 : decode cX5_readLine 130 = .ok (.invokevirtual 85, 3) := by decide +kernel
theorem dX5_readLine_133 : decode cX5_readLine 133 = .ok (.istore_n 2, 1) := by decide +kernel
theorem dX5_readLine_134 : decode cX5_readLine 134 = .ok (.aload_n 1, 1) := by decide +kernel
theorem dX5_readLine_135 : decode cX5_readLine 135 = .ok (.aload_n 0, 1) := by decide +kernel
theorem dX5_readLine_136 : decode cX5_readLine 136 = .ok (.getfield 89, 3) := by decide +kernel
theorem dX5_readLine_139 : decode cX5_readLine 139 = .ok (.putfield 100, 3) := by decide +kernel
theorem dX5_readLine_142 : decode cX5_readLine 142 = .ok (.iload_n 2, 1) := by decide +kernel
theorem dX5_readLine_143 : decode cX5_readLine 143 = .ok (.ireturn, 1) := by decide +kernel
theorem dX5_readLine_144 : decode cX5_readLine 144 = .ok (.aload_n 0, 1) := by decide +kernel
theorem dX5_readLine_145 : decode cX5_readLine 145 = .ok (.iconst 2, 1) := by decide +kernel
theorem dX5_readLine_146 : decode cX5_readLine 146 = .ok (.invokevirtual 103, 3) := by decide +kernel
theorem dX5_readLine_149 : decode cX5_readLine 149 = .ok (.ireturn, 1) := by decide +kernel
theorem dX5_readGrid_0 : decode cX5_readGrid 0 = .ok (.aload_n 0, 1) := by decide +kernel
theorem dX5_readGrid_1 : decode cX5_readGrid 1 = .ok (.iconst 1, 1) := by decide +kernel
theorem dX5_readGrid_2 : decode cX5_readGrid 2 = .ok (.sipush 999, 3) := by decide +kernel
theorem dX5_readGrid_5 : decode cX5_readGrid 5 = .ok (.invokevirtual 85, 3) := by decide +kernel
theorem dX5_readGrid_8 : decode cX5_readGrid 8 = .ok (.ifCond .ne 5, 3) := by decide +kernel
theorem dX5_readGrid_11 : decode cX5_readGrid 11 = .ok (.iconst 0, 1) := by decide +kernel
theorem dX5_readGrid_12 : decode cX5_readGrid 12 = .ok (.ireturn, 1) := by decide +kernel
theorem dX5_readGrid_13 : decode cX5_readGrid 13 = .ok (.aload_n 1, 1) := by decide +kernel
theorem dX5_readGrid_14 : decode cX5_readGrid 14 = .ok (.aload_n 0, 1) := by decide +kernel
theorem dX5_readGrid_15 : decode cX5_readGrid 15 = .ok (.getfield 89, 3) := by decide +kernel
theorem dX5_readGrid_18 : decode cX5_readGrid 18 = .ok (.putfield 107, 3) := by decide +kernel
theorem dX5_readGrid_21 : decode cX5_readGrid 21 = .ok (.aload_n 0, 1) := by decide +kernel
theorem dX5_readGrid_22 : decode cX5_readGrid 22 = .ok (.aload_n 1, 1) := by decide +kernel
theorem dX5_readGrid_23 : decode cX5_readGrid 23 = .ok (.getfield 107, 3) := by decide +kernel
theorem dX5_readGrid_26 : decode cX5_readGrid 26 = .ok (.aload_n 1, 1) := by decide +kernel
theorem dX5_readGrid_27 : decode cX5_readGrid 27 = .ok (.getfield 107, 3) := by decide +kernel
theorem dX5_readGrid_30 : decode cX5_readGrid 30 = .ok (.sipush 200, 3) := by decide +kernel
theorem dX5_readGrid_33 : decode cX5_readGrid 33 = .ok (.iadd, 1) := by decide +kernel
theorem dX5_readGrid_34 : decode cX5_readGrid 34 = .ok (.iconst 1, 1) := by decide +kernel
theorem dX5_readGrid_35 : decode cX5_readGrid 35 = .ok (.isub, 1) := by decide +kernel
theorem dX5_readGrid_36 : decode cX5_readGrid 36 = .ok (.invokevirtual 85, 3) := by decide +kernel
theorem dX5_readGrid_39 : decode cX5_readGrid 39 = .ok (.ifCond .ne 5, 3) := by decide +kernel
theorem dX5_readGrid_42 : decode cX5_readGrid 42 = .ok (.iconst 0, 1) := by decide +kernel
theorem dX5_readGrid_43 : decode cX5_readGrid 43 = .ok (.ireturn, 1) := by decide +kernel
theorem dX5_readGrid_44 : decode cX5_readGrid 44 = .ok (.aload_n 1, 1) := by decide +kernel
theorem dX5_readGrid_45 : decode cX5_readGrid 45 = .ok (.aload_n 0, 1) := by decide +kernel
theorem dX5_readGrid_46 : decode cX5_readGrid 46 = .ok (.getfield 89, 3) := by decide +kernel
theorem dX5_readGrid_49 : decode cX5_readGrid 49 = .ok (.putfield 110, 3) := by decide +kernel
theorem dX5_readGrid_52 : decode cX5_readGrid 52 = .ok (.iconst 1, 1) := by decide +kernel
theorem dX5_readGrid_53 : decode cX5_readGrid 53 = .ok (.ireturn, 1) := by decide +kernel
theorem dX5_readPrior_0 : decode cX5_readPrior 0 = .ok (.aload_n 0, 1) := by decide +kernel
theorem dX5_readPrior_1 : decode cX5_readPrior 1 = .ok (.iconst 0, 1) := by decide +kernel
theorem dX5_readPrior_2 : decode cX5_readPrior 2 = .ok (.sipush 999, 3) := by decide +kernel
theorem dX5_readPrior_5 : decode cX5_readPrior 5 = .ok (.invokevirtual 85, 3) := by decide +kernel
theorem dX5_readPrior_8 : decode cX5_readPrior 8 = .ok (.ifCond .ne 5, 3) := by decide +kernel
theorem dX5_readPrior_11 : decode cX5_readPrior 11 = .ok (.iconst 0, 1) := by decide +kernel
theorem dX5_readPrior_12 : decode cX5_readPrior 12 = .ok (.ireturn, 1) := by decide +kernel
theorem dX5_readPrior_13 : decode cX5_readPrior 13 = .ok (.aload_n 1, 1) := by decide +kernel
theorem dX5_readPrior_14 : decode cX5_readPrior 14 = .ok (.aload_n 0, 1) := by decide +kernel
theorem dX5_readPrior_15 : decode cX5_readPrior 15 = .ok (.getfield 89, 3) := by decide +kernel
theorem dX5_readPrior_18 : decode cX5_readPrior 18 = .ok (.putfield 113, 3) := by decide +kernel
theorem dX5_readPrior_21 : decode cX5_readPrior 21 = .ok (.aload_n 0, 1) := by decide +kernel
theorem dX5_readPrior_22 : decode cX5_readPrior 22 = .ok (.iconst 0, 1) := by decide +kernel
theorem dX5_readPrior_23 : decode cX5_readPrior 23 = .ok (.bipush 8, 2) := by decide +kernel
theorem dX5_readPrior_25 : decode cX5_readPrior 25 = .ok (.invokevirtual 85, 3) := by decide +kernel
theorem dX5_readPrior_28 : decode cX5_readPrior 28 = .ok (.ifCond .ne 5, 3) := by decide +kernel
theorem dX5_readPrior_31 : decode cX5_readPrior 31 = .ok (.iconst 0, 1) := by decide +kernel
theorem dX5_readPrior_32 : decode cX5_readPrior 32 = .ok (.ireturn, 1) := by decide +kernel
theorem dX5_readPrior_33 : decode cX5_readPrior 33 = .ok (.aload_n 1, 1) := by decide +kernel
theorem dX5_readPrior_34 : decode cX5_readPrior 34 = .ok (.aload_n 0, 1) := by decide +kernel
theorem dX5_readPrior_35 : decode cX5_readPrior 35 = .ok (.getfield 89, 3) := by decide +kernel
theorem dX5_readPrior_38 : decode cX5_readPrior 38 = .ok (.putfield 116, 3) := by decide +kernel
theorem dX5_readPrior_41 : decode cX5_readPrior 41 = .ok (.aload_n 1, 1) := by decide +kernel
theorem dX5_readPrior_42 : decode cX5_readPrior 42 = .ok (.iconst 1, 1) := by decide +kernel
theorem dX5_readPrior_43 : decode cX5_readPrior 43 = .ok (.putfield 119, 3) := by decide +kernel
theorem dX5_readPrior_46 : decode cX5_readPrior 46 = .ok (.iconst 1, 1) := by decide +kernel
theorem dX5_readPrior_47 : decode cX5_readPrior 47 = .ok (.ireturn, 1) := by decide +kernel
theorem dX5_readGuesser_0 : decode cX5_readGuesser 0 = .ok (.aload_n 1, 1) := by decide +kernel
theorem dX5_readGuesser_1 : decode cX5_readGuesser 1 = .ok (.getfield 122, 3) := by decide +kernel
theorem dX5_readGuesser_4 : decode cX5_readGuesser 4 = .ok (.istore_n 2, 1) := by decide +kernel
theorem dX5_readGuesser_5 : decode cX5_readGuesser 5 = .ok (.iload_n 2, 1) := by decide +kernel
theorem dX5_readGuesser_6 : decode cX5_readGuesser 6 = .ok (.ifCond .lt 9, 3) := by decide +kernel
theorem dX5_readGuesser_9 : decode cX5_readGuesser 9 = .ok (.iload_n 2, 1) := by decide +kernel
theorem dX5_readGuesser_10 : decode cX5_readGuesser 10 = .ok (.bipush 6, 2) := by decide +kernel
theorem dX5_readGuesser_12 : decode cX5_readGuesser 12 = .ok (.if_icmp .lt 9, 3) := by decide +kernel
theorem dX5_readGuesser_15 : decode cX5_readGuesser 15 = .ok (.aload_n 0, 1) := by decide +kernel
theorem dX5_readGuesser_16 : decode cX5_readGuesser 16 = .ok (.iconst 4, 1) := by decide +kernel
theorem dX5_readGuesser_17 : decode cX5_readGuesser 17 = .ok (.invokevirtual 103, 3) := by decide +kernel
theorem dX5_readGuesser_20 : decode cX5_readGuesser 20 = .ok (.ireturn, 1) := by decide +kernel
theorem dX5_readGuesser_21 : decode cX5_readGuesser 21 = .ok (.aload_n 0, 1) := by decide +kernel
theorem dX5_readGuesser_22 : decode cX5_readGuesser 22 = .ok (.invokevirtual 39, 3) := by decide +kernel
theorem dX5_readGuesser_25 : decode cX5_readGuesser 25 = .ok (.aload_n 0, 1) := by decide +kernel
theorem dX5_readGuesser_26 : decode cX5_readGuesser 26 = .ok (.iconst 1, 1) := by decide +kernel
theorem dX5_readGuesser_27 : decode cX5_readGuesser 27 = .ok (.sipush 200, 3) := by decide +kernel
theorem dX5_readGuesser_30 : decode cX5_readGuesser 30 = .ok (.invokevirtual 85, 3) := by decide +kernel
theorem dX5_readGuesser_33 : decode cX5_readGuesser 33 = .ok (.ifCond .ne 5, 3) := by decide +kernel
theorem dX5_readGuesser_36 : decode cX5_readGuesser 36 = .ok (.iconst 0, 1) := by decide +kernel
theorem dX5_readGuesser_37 : decode cX5_readGuesser 37 = .ok (.ireturn, 1) := by decide +kernel
theorem dX5_readGuesser_38 : decode cX5_readGuesser 38 = .ok (.aload_n 1, 1) := by decide +kernel
theorem dX5_readGuesser_39 : decode cX5_readGuesser 39 = .ok (.getfield 125, 3) := by decide +kernel
theorem dX5_readGuesser_42 : decode cX5_readGuesser 42 = .ok (.iload_n 2, 1) := by decide +kernel
theorem dX5_readGuesser_43 : decode cX5_readGuesser 43 = .ok (.aload_n 0, 1) := by decide +kernel
theorem dX5_readGuesser_44 : decode cX5_readGuesser 44 = .ok (.getfield 89, 3) := by decide +kernel
theorem dX5_readGuesser_47 : decode cX5_readGuesser 47 = .ok (.iastore, 1) := by decide +kernel
theorem dX5_readGuesser_48 : decode cX5_readGuesser 48 = .ok (.aload_n 0, 1) := by decide +kernel
theorem dX5_readGuesser_49 : decode cX5_readGuesser 49 = .ok (.iconst 0, 1) := by decide +kernel
theorem dX5_readGuesser_50 : decode cX5_readGuesser 50 = .ok (.bipush 20, 2) := by decide +kernel
theorem dX5_readGuesser_52 : decode cX5_readGuesser 52 = .ok (.invokevirtual 85, 3) := by decide +kernel
theorem dX5_readGuesser_55 : decode cX5_readGuesser 55 = .ok (.ifCond .ne 5, 3) := by decide +kernel
theorem dX5_readGuesser_58 : decode cX5_readGuesser 58 = .ok (.iconst 0, 1) := by decide +kernel
theorem dX5_readGuesser_59 : decode cX5_readGuesser 59 = .ok (.ireturn, 1) := by decide +kernel
theorem dX5_readGuesser_60 : decode cX5_readGuesser 60 = .ok (.aload_n 1, 1) := by decide +kernel
theorem dX5_readGuesser_61 : decode cX5_readGuesser 61 = .ok (.getfield 129, 3) := by decide +kernel
theorem dX5_readGuesser_64 : decode cX5_readGuesser 64 = .ok (.iload_n 2, 1) := by decide +kernel
theorem dX5_readGuesser_65 : decode cX5_readGuesser 65 = .ok (.aload_n 0, 1) := by decide +kernel
theorem dX5_readGuesser_66 : decode cX5_readGuesser 66 = .ok (.getfield 89, 3) := by decide +kernel
theorem dX5_readGuesser_69 : decode cX5_readGuesser 69 = .ok (.iastore, 1) := by decide +kernel
theorem dX5_readGuesser_70 : decode cX5_readGuesser 70 = .ok (.aload_n 1, 1) := by decide +kernel
theorem dX5_readGuesser_71 : decode cX5_readGuesser 71 = .ok (.getfield 132, 3) := by decide +kernel
theorem dX5_readGuesser_74 : decode cX5_readGuesser 74 = .ok (.iload_n 2, 1) := by decide +kernel
theorem dX5_readGuesser_75 : decode cX5_readGuesser 75 = .ok (.iconst 0, 1) := by decide +kernel
theorem dX5_readGuesser_76 : decode cX5_readGuesser 76 = .ok (.iastore, 1) := by decide +kernel
theorem dX5_readGuesser_77 : decode cX5_readGuesser 77 = .ok (.aload_n 0, 1) := by decide +kernel
theorem dX5_readGuesser_78 : decode cX5_readGuesser 78 = .ok (.ldc 135, 2) := by decide +kernel
theorem dX5_readGuesser_80 : decode cX5_readGuesser 80 = .ok (.invokevirtual 58, 3) := by decide +kernel
theorem dX5_readGuesser_83 : decode cX5_readGuesser 83 = .ok (.ifCond .eq 25, 3) := by decide +kernel
theorem dX5_readGuesser_86 : decode cX5_readGuesser 86 = .ok (.aload_n 0, 1) := by decide +kernel
theorem dX5_readGuesser_87 : decode cX5_readGuesser 87 = .ok (.iconst 0, 1) := by decide +kernel
theorem dX5_readGuesser_88 : decode cX5_readGuesser 88 = .ok (.bipush 10, 2) := by decide +kernel
theorem dX5_readGuesser_90 : decode cX5_readGuesser 90 = .ok (.invokevirtual 85, 3) := by decide +kernel
theorem dX5_readGuesser_93 : decode cX5_readGuesser 93 = .ok (.ifCond .ne 5, 3) := by decide +kernel
theorem dX5_readGuesser_96 : decode cX5_readGuesser 96 = .ok (.iconst 0, 1) := by decide +kernel
theorem dX5_readGuesser_97 : decode cX5_readGuesser 97 = .ok (.ireturn, 1) := by decide +kernel
theorem dX5_readGuesser_98 : decode cX5_readGuesser 98 = .ok (.aload_n 1, 1) := by decide +kernel
theorem dX5_readGuesser_99 : decode cX5_readGuesser 99 = .ok (.getfield 132, 3) := by decide +kernel
theorem dX5_readGuesser_102 : decode cX5_readGuesser 102 = .ok (.iload_n 2, 1) := by decide +kernel
theorem dX5_readGuesser_103 : decode cX5_readGuesser 103 = .ok (.aload_n 0, 1) := by decide +kernel
theorem dX5_readGuesser_104 : decode cX5_readGuesser 104 = .ok (.getfield 89, 3) := by decide +kernel
theorem dX5_readGuesser_107 : decode cX5_readGuesser 107 = .ok (.iastore, 1) := by decide +kernel
theorem dX5_readGuesser_108 : decode cX5_readGuesser 108 = .ok (.aload_n 1, 1) := by decide +kernel
theorem dX5_readGuesser_109 : decode cX5_readGuesser 109 = .ok (.iload_n 2, 1) := by decide +kernel
theorem dX5_readGuesser_110 : decode cX5_readGuesser 110 = .ok (.iconst 1, 1) := by decide +kernel
theorem dX5_readGuesser_111 : decode cX5_readGuesser 111 = .ok (.iadd, 1) := by decide +kernel
theorem dX5_readGuesser_112 : decode cX5_readGuesser 112 = .ok (.putfield 122, 3) := by decide +kernel
theorem dX5_readGuesser_115 : decode cX5_readGuesser 115 = .ok (.iconst 1, 1) := by decide +kernel
theorem dX5_readGuesser_116 : decode cX5_readGuesser 116 = .ok (.ireturn, 1) := by decide +kernel
theorem dX5_endLine_0 : decode cX5_endLine 0 = .ok (.aload_n 0, 1) := by decide +kernel
theorem dX5_endLine_1 : decode cX5_endLine 1 = .ok (.getfield 42, 3) := by decide +kernel
theorem dX5_endLine_4 : decode cX5_endLine 4 = .ok (.iconst 2, 1) := by decide +kernel
theorem dX5_endLine_5 : decode cX5_endLine 5 = .ok (.if_icmp .eq 9, 3) := by decide +kernel
theorem dX5_endLine_8 : decode cX5_endLine 8 = .ok (.aload_n 0, 1) := by decide +kernel
theorem dX5_endLine_9 : decode cX5_endLine 9 = .ok (.iconst 2, 1) := by decide +kernel
theorem dX5_endLine_10 : decode cX5_endLine 10 = .ok (.invokevirtual 103, 3) := by decide +kernel
theorem dX5_endLine_13 : decode cX5_endLine 13 = .ok (.ireturn, 1) := by decide +kernel
theorem dX5_endLine_14 : decode cX5_endLine 14 = .ok (.aload_n 0, 1) := by decide +kernel
theorem dX5_endLine_15 : decode cX5_endLine 15 = .ok (.invokevirtual 39, 3) := by decide +kernel
theorem dX5_endLine_18 : decode cX5_endLine 18 = .ok (.iconst 1, 1) := by decide +kernel
theorem dX5_endLine_19 : decode cX5_endLine 19 = .ok (.ireturn, 1) := by decide +kernel
theorem dX5_takeNumber_0 : decode cX5_takeNumber 0 = .ok (.aload_n 0, 1) := by decide +kernel
theorem dX5_takeNumber_1 : decode cX5_takeNumber 1 = .ok (.getfield 42, 3) := by decide +kernel
theorem dX5_takeNumber_4 : decode cX5_takeNumber 4 = .ok (.iconst 1, 1) := by decide +kernel
theorem dX5_takeNumber_5 : decode cX5_takeNumber 5 = .ok (.if_icmp .eq 9, 3) := by decide +kernel
theorem dX5_takeNumber_8 : decode cX5_takeNumber 8 = .ok (.aload_n 0, 1) := by decide +kernel
theorem dX5_takeNumber_9 : decode cX5_takeNumber 9 = .ok (.iconst 2, 1) := by decide +kernel
theorem dX5_takeNumber_10 : decode cX5_takeNumber 10 = .ok (.invokevirtual 103, 3) := by decide +kernel
theorem dX5_takeNumber_13 : decode cX5_takeNumber 13 = .ok (.ireturn, 1) := by decide +kernel
theorem dX5_takeNumber_14 : decode cX5_takeNumber 14 = .ok (.aload_n 0, 1) := by decide +kernel
theorem dX5_takeNumber_15 : decode cX5_takeNumber 15 = .ok (.getfield 137, 3) := by decide +kernel
theorem dX5_takeNumber_18 : decode cX5_takeNumber 18 = .ok (.iload_n 1, 1) := by decide +kernel
theorem dX5_takeNumber_19 : decode cX5_takeNumber 19 = .ok (.if_icmp .lt 11, 3) := by decide +kernel
theorem dX5_takeNumber_22 : decode cX5_takeNumber 22 = .ok (.aload_n 0, 1) := by decide +kernel
theorem dX5_takeNumber_23 : decode cX5_takeNumber 23 = .ok (.getfield 137, 3) := by decide +kernel
theorem dX5_takeNumber_26 : decode cX5_takeNumber 26 = .ok (.iload_n 2, 1) := by decide +kernel
theorem dX5_takeNumber_27 : decode cX5_takeNumber 27 = .ok (.if_icmp .le 9, 3) := by decide +kernel
theorem dX5_takeNumber_30 : decode cX5_takeNumber 30 = .ok (.aload_n 0, 1) := by decide +kernel
theorem dX5_takeNumber_31 : decode cX5_takeNumber 31 = .ok (.iconst 3, 1) := by decide +kernel
theorem dX5_takeNumber_32 : decode cX5_takeNumber 32 = .ok (.invokevirtual 103, 3) := by decide +kernel
theorem dX5_takeNumber_35 : decode cX5_takeNumber 35 = .ok (.ireturn, 1) := by decide +kernel
theorem dX5_takeNumber_36 : decode cX5_takeNumber 36 = .ok (.aload_n 0, 1) := by decide +kernel
theorem dX5_takeNumber_37 : decode cX5_takeNumber 37 = .ok (.aload_n 0, 1) := by decide +kernel
theorem dX5_takeNumber_38 : decode cX5_takeNumber 38 = .ok (.getfield 137, 3) := by decide +kernel
theorem dX5_takeNumber_41 : decode cX5_takeNumber 41 = .ok (.putfield 89, 3) := by decide +kernel
theorem dX5_takeNumber_44 : decode cX5_takeNumber 44 = .ok (.aload_n 0, 1) := by decide +kernel
theorem dX5_takeNumber_45 : decode cX5_takeNumber 45 = .ok (.invokevirtual 39, 3) := by decide +kernel
theorem dX5_takeNumber_48 : decode cX5_takeNumber 48 = .ok (.iconst 1, 1) := by decide +kernel
theorem dX5_takeNumber_49 : decode cX5_takeNumber 49 = .ok (.ireturn, 1) := by decide +kernel
theorem dX5_takeWord_0 : decode cX5_takeWord 0 = .ok (.aload_n 0, 1) := by decide +kernel
theorem dX5_takeWord_1 : decode cX5_takeWord 1 = .ok (.aload_n 1, 1) := by decide +kernel
theorem dX5_takeWord_2 : decode cX5_takeWord 2 = .ok (.invokevirtual 72, 3) := by decide +kernel
theorem dX5_takeWord_5 : decode cX5_takeWord 5 = .ok (.ifCond .ne 5, 3) := by decide +kernel
theorem dX5_takeWord_8 : decode cX5_takeWord 8 = .ok (.iconst 0, 1) := by decide +kernel
theorem dX5_takeWord_9 : decode cX5_takeWord 9 = .ok (.ireturn, 1) := by decide +kernel
theorem dX5_takeWord_10 : decode cX5_takeWord 10 = .ok (.aload_n 0, 1) := by decide +kernel
theorem dX5_takeWord_11 : decode cX5_takeWord 11 = .ok (.invokevirtual 39, 3) := by decide +kernel
theorem dX5_takeWord_14 : decode cX5_takeWord 14 = .ok (.iconst 1, 1) := by decide +kernel
theorem dX5_takeWord_15 : decode cX5_takeWord 15 = .ok (.ireturn, 1) := by decide +kernel
theorem dX5_isWord_0 : decode cX5_isWord 0 = .ok (.aload_n 0, 1) := by decide +kernel
theorem dX5_isWord_1 : decode cX5_isWord 1 = .ok (.getfield 42, 3) := by decide +kernel
theorem dX5_isWord_4 : decode cX5_isWord 4 = .ok (.ifCond .ne 19, 3) := by decide +kernel
theorem dX5_isWord_7 : decode cX5_isWord 7 = .ok (.aload_n 0, 1) := by decide +kernel
theorem dX5_isWord_8 : decode cX5_isWord 8 = .ok (.getfield 28, 3) := by decide +kernel
theorem dX5_isWord_11 : decode cX5_isWord 11 = .ok (.aload_n 0, 1) := by decide +kernel
theorem dX5_isWord_12 : decode cX5_isWord 12 = .ok (.getfield 140, 3) := by decide +kernel
theorem dX5_isWord_15 : decode cX5_isWord 15 = .ok (.isub, 1) := by decide +kernel
theorem dX5_isWord_16 : decode cX5_isWord 16 = .ok (.aload_n 1, 1) := by decide +kernel
theorem dX5_isWord_17 : decode cX5_isWord 17 = .ok (.invokevirtual 143, 3) := by decide +kernel
theorem dX5_isWord_20 : decode cX5_isWord 20 = .ok (.if_icmp .eq 5, 3) := by decide +kernel
theorem dX5_isWord_23 : decode cX5_isWord 23 = .ok (.iconst 0, 1) := by decide +kernel
theorem dX5_isWord_24 : decode cX5_isWord 24 = .ok (.ireturn, 1) := by decide +kernel
theorem dX5_isWord_25 : decode cX5_isWord 25 = .ok (.iconst 0, 1) := by decide +kernel
theorem dX5_isWord_26 : decode cX5_isWord 26 = .ok (.istore_n 2, 1) := by decide +kernel
theorem dX5_isWord_27 : decode cX5_isWord 27 = .ok (.iload_n 2, 1) := by decide +kernel
theorem dX5_isWord_28 : decode cX5_isWord 28 = .ok (.aload_n 1, 1) := by decide +kernel
theorem dX5_isWord_29 : decode cX5_isWord 29 = .ok (.invokevirtual 143, 3) := by decide +kernel
theorem dX5_isWord_32 : decode cX5_isWord 32 = .ok (.if_icmp .ge 29, 3) := by decide +kernel
theorem dX5_isWord_35 : decode cX5_isWord 35 = .ok (.aload_n 0, 1) := by decide +kernel
theorem dX5_isWord_36 : decode cX5_isWord 36 = .ok (.aload_n 0, 1) := by decide +kernel
theorem dX5_isWord_37 : decode cX5_isWord 37 = .ok (.getfield 140, 3) := by decide +kernel
theorem dX5_isWord_40 : decode cX5_isWord 40 = .ok (.iload_n 2, 1) := by decide +kernel
theorem dX5_isWord_41 : decode cX5_isWord 41 = .ok (.iadd, 1) := by decide +kernel
theorem dX5_isWord_42 : decode cX5_isWord 42 = .ok (.invokevirtual 148, 3) := by decide +kernel
theorem dX5_isWord_45 : decode cX5_isWord 45 = .ok (.aload_n 1, 1) := by decide +kernel
theorem dX5_isWord_46 : decode cX5_isWord 46 = .ok (.iload_n 2, 1) := by decide +kernel
theorem dX5_isWord_47 : decode cX5_isWord 47 = .ok (.invokevirtual 152, 3) := by decide +kernel
theorem dX5_isWord_50 : decode cX5_isWord 50 = .ok (.if_icmp .eq 5, 3) := by decide +kernel
theorem dX5_isWord_53 : decode cX5_isWord 53 = .ok (.iconst 0, 1) := by decide +kernel
theorem dX5_isWord_54 : decode cX5_isWord 54 = .ok (.ireturn, 1) := by decide +kernel
theorem dX5_isWord_55 : decode cX5_isWord 55 = .ok (.iinc 2 1, 3) := by decide +kernel
theorem dX5_isWord_58 : decode cX5_isWord 58 = .ok (.goto (-31), 3) := by decide +kernel
theorem dX5_isWord_61 : decode cX5_isWord 61 = .ok (.iconst 1, 1) := by decide +kernel
theorem dX5_isWord_62 : decode cX5_isWord 62 = .ok (.ireturn, 1) := by decide +kernel
theorem dX5_refuse_0 : decode cX5_refuse 0 = .ok (.aload_n 0, 1) := by decide +kernel
theorem dX5_refuse_1 : decode cX5_refuse 1 = .ok (.aload_n 0, 1) := by decide +kernel
theorem dX5_refuse_2 : decode cX5_refuse 2 = .ok (.getfield 42, 3) := by decide +kernel
theorem dX5_refuse_5 : decode cX5_refuse 5 = .ok (.iconst 4, 1) := by decide +kernel
theorem dX5_refuse_6 : decode cX5_refuse 6 = .ok (.if_icmp .ne 7, 3) := by decide +kernel
theorem dX5_refuse_9 : decode cX5_refuse 9 = .ok (.iconst 1, 1) := by decide +kernel
theorem dX5_refuse_10 : decode cX5_refuse 10 = .ok (.goto 4, 3) := by decide +kernel
theorem dX5_refuse_13 : decode cX5_refuse 13 = .ok (.iload_n 1, 1) := by decide +kernel
theorem dX5_refuse_14 : decode cX5_refuse 14 = .ok (.putfield 31, 3) := by decide +kernel
theorem dX5_refuse_17 : decode cX5_refuse 17 = .ok (.aload_n 0, 1) := by decide +kernel
theorem dX5_refuse_18 : decode cX5_refuse 18 = .ok (.aload_n 0, 1) := by decide +kernel
theorem dX5_refuse_19 : decode cX5_refuse 19 = .ok (.getfield 140, 3) := by decide +kernel
theorem dX5_refuse_22 : decode cX5_refuse 22 = .ok (.putfield 9, 3) := by decide +kernel
theorem dX5_refuse_25 : decode cX5_refuse 25 = .ok (.iconst 0, 1) := by decide +kernel
theorem dX5_refuse_26 : decode cX5_refuse 26 = .ok (.ireturn, 1) := by decide +kernel
theorem dX5_next_0 : decode cX5_next 0 = .ok (.aload_n 0, 1) := by decide +kernel
theorem dX5_next_1 : decode cX5_next 1 = .ok (.aload_n 0, 1) := by decide +kernel
theorem dX5_next_2 : decode cX5_next 2 = .ok (.getfield 28, 3) := by decide +kernel
theorem dX5_next_5 : decode cX5_next 5 = .ok (.putfield 140, 3) := by decide +kernel
theorem dX5_next_8 : decode cX5_next 8 = .ok (.aload_n 0, 1) := by decide +kernel
theorem dX5_next_9 : decode cX5_next 9 = .ok (.getfield 140, 3) := by decide +kernel
theorem dX5_next_12 : decode cX5_next 12 = .ok (.aload_n 0, 1) := by decide +kernel
theorem dX5_next_13 : decode cX5_next 13 = .ok (.getfield 25, 3) := by decide +kernel
theorem dX5_next_16 : decode cX5_next 16 = .ok (.if_icmp .ge 42, 3) := by decide +kernel
theorem dX5_next_19 : decode cX5_next 19 = .ok (.aload_n 0, 1) := by decide +kernel
theorem dX5_next_20 : decode cX5_next 20 = .ok (.aload_n 0, 1) := by decide +kernel
theorem dX5_next_21 : decode cX5_next 21 = .ok (.getfield 140, 3) := by decide +kernel
theorem dX5_next_24 : decode cX5_next 24 = .ok (.invokevirtual 148, 3) := by decide +kernel
theorem dX5_next_27 : decode cX5_next 27 = .ok (.bipush 10, 2) := by decide +kernel
theorem dX5_next_29 : decode cX5_next 29 = .ok (.if_icmp .eq 16, 3) := by decide +kernel
theorem dX5_next_32 : decode cX5_next 32 = .ok (.aload_n 0, 1) := by decide +kernel
theorem dX5_next_33 : decode cX5_next 33 = .ok (.aload_n 0, 1) := by decide +kernel
theorem dX5_next_34 : decode cX5_next 34 = .ok (.getfield 140, 3) := by decide +kernel
theorem dX5_next_37 : decode cX5_next 37 = .ok (.invokevirtual 148, 3) := by decide +kernel
theorem dX5_next_40 : decode cX5_next 40 = .ok (.bipush 32, 2) := by decide +kernel
theorem dX5_next_42 : decode cX5_next 42 = .ok (.if_icmp .ne 16, 3) := by decide +kernel
theorem dX5_next_45 : decode cX5_next 45 = .ok (.aload_n 0, 1) := by decide +kernel
theorem dX5_next_46 : decode cX5_next 46 = .ok (.dup, 1) := by decide +kernel
theorem dX5_next_47 : decode cX5_next 47 = .ok (.getfield 140, 3) := by decide +kernel
theorem dX5_next_50 : decode cX5_next 50 = .ok (.iconst 1, 1) := by decide +kernel
theorem dX5_next_51 : decode cX5_next 51 = .ok (.iadd, 1) := by decide +kernel
theorem dX5_next_52 : decode cX5_next 52 = .ok (.putfield 140, 3) := by decide +kernel
theorem dX5_next_55 : decode cX5_next 55 = .ok (.goto (-47), 3) := by decide +kernel
theorem dX5_next_58 : decode cX5_next 58 = .ok (.aload_n 0, 1) := by decide +kernel
theorem dX5_next_59 : decode cX5_next 59 = .ok (.aload_n 0, 1) := by decide +kernel
theorem dX5_next_60 : decode cX5_next 60 = .ok (.getfield 140, 3) := by decide +kernel
theorem dX5_next_63 : decode cX5_next 63 = .ok (.putfield 28, 3) := by decide +kernel
theorem dX5_next_66 : decode cX5_next 66 = .ok (.aload_n 0, 1) := by decide +kernel
theorem dX5_next_67 : decode cX5_next 67 = .ok (.aload_n 0, 1) := by decide +kernel
theorem dX5_next_68 : decode cX5_next 68 = .ok (.getfield 140, 3) := by decide +kernel
theorem dX5_next_71 : decode cX5_next 71 = .ok (.invokevirtual 148, 3) := by decide +kernel
theorem dX5_next_74 : decode cX5_next 74 = .ok (.istore_n 1, 1) := by decide +kernel
theorem dX5_next_75 : decode cX5_next 75 = .ok (.aload_n 0, 1) := by decide +kernel
theorem dX5_next_76 : decode cX5_next 76 = .ok (.getfield 140, 3) := by decide +kernel
theorem dX5_next_79 : decode cX5_next 79 = .ok (.aload_n 0, 1) := by decide +kernel
theorem dX5_next_80 : decode cX5_next 80 = .ok (.getfield 25, 3) := by decide +kernel
theorem dX5_next_83 : decode cX5_next 83 = .ok (.if_icmp .lt 11, 3) := by decide +kernel
theorem dX5_next_86 : decode cX5_next 86 = .ok (.aload_n 0, 1) := by decide +kernel
theorem dX5_next_87 : decode cX5_next 87 = .ok (.iconst 3, 1) := by decide +kernel
theorem dX5_next_88 : decode cX5_next 88 = .ok (.putfield 42, 3) := by decide +kernel
theorem dX5_next_91 : decode cX5_next 91 = .ok (.goto 196, 3) := by decide +kernel
theorem dX5_next_94 : decode cX5_next 94 = .ok (.iload_n 1, 1) := by decide +kernel
theorem dX5_next_95 : decode cX5_next 95 = .ok (.invokestatic 156, 3) := by decide +kernel
theorem dX5_next_98 : decode cX5_next 98 = .ok (.ifCond .eq 46, 3) := by decide +kernel
theorem dX5_next_101 : decode cX5_next 101 = .ok (.aload_n 0, 1) := by decide +kernel
theorem dX5_next_102 : decode cX5_next 102 = .ok (.iconst 0, 1) := by decide +kernel
theorem dX5_next_103 : decode cX5_next 103 = .ok (.putfield 42, 3) := by decide +kernel
theorem dX5_next_106 : decode cX5_next 106 = .ok (.aload_n 0, 1) := by decide +kernel
theorem dX5_next_107 : decode cX5_next 107 = .ok (.getfield 28, 3) := by decide +kernel
theorem dX5_next_110 : decode cX5_next 110 = .ok (.aload_n 0, 1) := by decide +kernel
theorem dX5_next_111 : decode cX5_next 111 = .ok (.getfield 25, 3) := by decide +kernel
theorem dX5_next_114 : decode cX5_next 114 = .ok (.if_icmp .ge 173, 3) := by decide +kernel
theorem dX5_next_117 : decode cX5_next 117 = .ok (.aload_n 0, 1) := by decide +kernel
theorem dX5_next_118 : decode cX5_next 118 = .ok (.aload_n 0, 1) := by decide +kernel
theorem dX5_next_119 : decode cX5_next 119 = .ok (.getfield 28, 3) := by decide +kernel
theorem dX5_next_122 : decode cX5_next 122 = .ok (.invokevirtual 148, 3) := by decide +kernel
theorem dX5_next_125 : decode cX5_next 125 = .ok (.invokestatic 156, 3) := by decide +kernel
theorem dX5_next_128 : decode cX5_next 128 = .ok (.ifCond .eq 159, 3) := by decide +kernel
theorem dX5_next_131 : decode cX5_next 131 = .ok (.aload_n 0, 1) := by decide +kernel
theorem dX5_next_132 : decode cX5_next 132 = .ok (.dup, 1) := by decide +kernel
theorem dX5_next_133 : decode cX5_next 133 = .ok (.getfield 28, 3) := by decide +kernel
theorem dX5_next_136 : decode cX5_next 136 = .ok (.iconst 1, 1) := by decide +kernel
theorem dX5_next_137 : decode cX5_next 137 = .ok (.iadd, 1) := by decide +kernel
theorem dX5_next_138 : decode cX5_next 138 = .ok (.putfield 28, 3) := by decide +kernel
theorem dX5_next_141 : decode cX5_next 141 = .ok (.goto (-35), 3) := by decide +kernel
theorem dX5_next_144 : decode cX5_next 144 = .ok (.iload_n 1, 1) := by decide +kernel
theorem dX5_next_145 : decode cX5_next 145 = .ok (.invokestatic 159, 3) := by decide +kernel
theorem dX5_next_148 : decode cX5_next 148 = .ok (.ifCond .eq 114, 3) := by decide +kernel
theorem dX5_next_151 : decode cX5_next 151 = .ok (.aload_n 0, 1) := by decide +kernel
theorem dX5_next_152 : decode cX5_next 152 = .ok (.iconst 0, 1) := by decide +kernel
theorem dX5_next_153 : decode cX5_next 153 = .ok (.putfield 137, 3) := by decide +kernel
theorem dX5_next_156 : decode cX5_next 156 = .ok (.aload_n 0, 1) := by decide +kernel
theorem dX5_next_157 : decode cX5_next 157 = .ok (.getfield 28, 3) := by decide +kernel
theorem dX5_next_160 : decode cX5_next 160 = .ok (.aload_n 0, 1) := by decide +kernel
theorem dX5_next_161 : decode cX5_next 161 = .ok (.getfield 25, 3) := by decide +kernel
theorem dX5_next_164 : decode cX5_next 164 = .ok (.if_icmp .ge 73, 3) := by decide +kernel
theorem dX5_next_167 : decode cX5_next 167 = .ok (.aload_n 0, 1) := by decide +kernel
theorem dX5_next_168 : decode cX5_next 168 = .ok (.aload_n 0, 1) := by decide +kernel
theorem dX5_next_169 : decode cX5_next 169 = .ok (.getfield 28, 3) := by decide +kernel
theorem dX5_next_172 : decode cX5_next 172 = .ok (.invokevirtual 148, 3) := by decide +kernel
theorem dX5_next_175 : decode cX5_next 175 = .ok (.invokestatic 159, 3) := by decide +kernel
theorem dX5_next_178 : decode cX5_next 178 = .ok (.ifCond .eq 59, 3) := by decide +kernel
theorem dX5_next_181 : decode cX5_next 181 = .ok (.aload_n 0, 1) := by decide +kernel
theorem dX5_next_182 : decode cX5_next 182 = .ok (.aload_n 0, 1) := by decide +kernel
theorem dX5_next_183 : decode cX5_next 183 = .ok (.getfield 28, 3) := by decide +kernel
theorem dX5_next_186 : decode cX5_next 186 = .ok (.aload_n 0, 1) := by decide +kernel
theorem dX5_next_187 : decode cX5_next 187 = .ok (.getfield 140, 3) := by decide +kernel
theorem dX5_next_190 : decode cX5_next 190 = .ok (.isub, 1) := by decide +kernel
theorem dX5_next_191 : decode cX5_next 191 = .ok (.iconst 4, 1) := by decide +kernel
theorem dX5_next_192 : decode cX5_next 192 = .ok (.if_icmp .ge 25, 3) := by decide +kernel
theorem dX5_next_195 : decode cX5_next 195 = .ok (.aload_n 0, 1) := by decide +kernel
theorem dX5_next_196 : decode cX5_next 196 = .ok (.getfield 137, 3) := by decide +kernel
theorem dX5_next_199 : decode cX5_next 199 = .ok (.bipush 10, 2) := by decide +kernel
theorem dX5_next_201 : decode cX5_next 201 = .ok (.imul, 1) := by decide +kernel
theorem dX5_next_202 : decode cX5_next 202 = .ok (.aload_n 0, 1) := by decide +kernel
theorem dX5_next_203 : decode cX5_next 203 = .ok (.aload_n 0, 1) := by decide +kernel
theorem dX5_next_204 : decode cX5_next 204 = .ok (.getfield 28, 3) := by decide +kernel
theorem dX5_next_207 : decode cX5_next 207 = .ok (.invokevirtual 148, 3) := by decide +kernel
theorem dX5_next_210 : decode cX5_next 210 = .ok (.iadd, 1) := by decide +kernel
theorem dX5_next_211 : decode cX5_next 211 = .ok (.bipush 48, 2) := by decide +kernel
theorem dX5_next_213 : decode cX5_next 213 = .ok (.isub, 1) := by decide +kernel
theorem dX5_next_214 : decode cX5_next 214 = .ok (.goto 7, 3) := by decide +kernel
theorem dX5_next_217 : decode cX5_next 217 = .ok (.aload_n 0, 1) := by decide +kernel
theorem dX5_next_218 : decode cX5_next 218 = .ok (.getfield 137, 3) := by decide +kernel
theorem dX5_next_221 : decode cX5_next 221 = .ok (.putfield 137, 3) := by decide +kernel
theorem dX5_next_224 : decode cX5_next 224 = .ok (.aload_n 0, 1) := by decide +kernel
theorem dX5_next_225 : decode cX5_next 225 = .ok (.dup, 1) := by decide +kernel
theorem dX5_next_226 : decode cX5_next 226 = .ok (.getfield 28, 3) := by decide +kernel
theorem dX5_next_229 : decode cX5_next 229 = .ok (.iconst 1, 1) := by decide +kernel
theorem dX5_next_230 : decode cX5_next 230 = .ok (.iadd, 1) := by decide +kernel
theorem dX5_next_231 : decode cX5_next 231 = .ok (.putfield 28, 3) := by decide +kernel
theorem dX5_next_234 : decode cX5_next 234 = .ok (.goto (-78), 3) := by decide +kernel
theorem dX5_next_237 : decode cX5_next 237 = .ok (.aload_n 0, 1) := by decide +kernel
theorem dX5_next_238 : decode cX5_next 238 = .ok (.aload_n 0, 1) := by decide +kernel
theorem dX5_next_239 : decode cX5_next 239 = .ok (.getfield 28, 3) := by decide +kernel
theorem dX5_next_242 : decode cX5_next 242 = .ok (.aload_n 0, 1) := by decide +kernel
theorem dX5_next_243 : decode cX5_next 243 = .ok (.getfield 140, 3) := by decide +kernel
theorem dX5_next_246 : decode cX5_next 246 = .ok (.isub, 1) := by decide +kernel
theorem dX5_next_247 : decode cX5_next 247 = .ok (.iconst 4, 1) := by decide +kernel
theorem dX5_next_248 : decode cX5_next 248 = .ok (.if_icmp .le 7, 3) := by decide +kernel
theorem dX5_next_251 : decode cX5_next 251 = .ok (.iconst 4, 1) := by decide +kernel
theorem dX5_next_252 : decode cX5_next 252 = .ok (.goto 4, 3) := by decide +kernel
theorem dX5_next_255 : decode cX5_next 255 = .ok (.iconst 1, 1) := by decide +kernel
theorem dX5_next_256 : decode cX5_next 256 = .ok (.putfield 42, 3) := by decide +kernel
theorem dX5_next_259 : decode cX5_next 259 = .ok (.goto 28, 3) := by decide +kernel
theorem dX5_next_262 : decode cX5_next 262 = .ok (.aload_n 0, 1) := by decide +kernel
theorem dX5_next_263 : decode cX5_next 263 = .ok (.iload_n 1, 1) := by decide +kernel
theorem dX5_next_264 : decode cX5_next 264 = .ok (.bipush 59, 2) := by decide +kernel
theorem dX5_next_266 : decode cX5_next 266 = .ok (.if_icmp .ne 7, 3) := by decide +kernel
theorem dX5_next_269 : decode cX5_next 269 = .ok (.iconst 2, 1) := by decide +kernel
theorem dX5_next_270 : decode cX5_next 270 = .ok (.goto 4, 3) := by decide +kernel
theorem dX5_next_273 : decode cX5_next 273 = .ok (.iconst 4, 1) := by decide +kernel
theorem dX5_next_274 : decode cX5_next 274 = .ok (.putfield 42, 3) := by decide +kernel
theorem dX5_next_277 : decode cX5_next 277 = .ok (.aload_n 0, 1) := by decide +kernel
theorem dX5_next_278 : decode cX5_next 278 = .ok (.dup, 1) := by decide +kernel
theorem dX5_next_279 : decode cX5_next 279 = .ok (.getfield 28, 3) := by decide +kernel
theorem dX5_next_282 : decode cX5_next 282 = .ok (.iconst 1, 1) := by decide +kernel
theorem dX5_next_283 : decode cX5_next 283 = .ok (.iadd, 1) := by decide +kernel
theorem dX5_next_284 : decode cX5_next 284 = .ok (.putfield 28, 3) := by decide +kernel
theorem dX5_next_287 : decode cX5_next 287 = .ok (.return_, 1) := by decide +kernel
theorem dX5_isLetter_0 : decode cX5_isLetter 0 = .ok (.iload_n 0, 1) := by decide +kernel
theorem dX5_isLetter_1 : decode cX5_isLetter 1 = .ok (.bipush 97, 2) := by decide +kernel
theorem dX5_isLetter_3 : decode cX5_isLetter 3 = .ok (.if_icmp .lt 13, 3) := by decide +kernel
theorem dX5_isLetter_6 : decode cX5_isLetter 6 = .ok (.iload_n 0, 1) := by decide +kernel
theorem dX5_isLetter_7 : decode cX5_isLetter 7 = .ok (.bipush 122, 2) := by decide +kernel
theorem dX5_isLetter_9 : decode cX5_isLetter 9 = .ok (.if_icmp .gt 7, 3) := by decide +kernel
theorem dX5_isLetter_12 : decode cX5_isLetter 12 = .ok (.iconst 1, 1) := by decide +kernel
theorem dX5_isLetter_13 : decode cX5_isLetter 13 = .ok (.goto 4, 3) := by decide +kernel
theorem dX5_isLetter_16 : decode cX5_isLetter 16 = .ok (.iconst 0, 1) := by decide +kernel
theorem dX5_isLetter_17 : decode cX5_isLetter 17 = .ok (.ireturn, 1) := by decide +kernel
theorem dX5_isDigit_0 : decode cX5_isDigit 0 = .ok (.iload_n 0, 1) := by decide +kernel
theorem dX5_isDigit_1 : decode cX5_isDigit 1 = .ok (.bipush 48, 2) := by decide +kernel
theorem dX5_isDigit_3 : decode cX5_isDigit 3 = .ok (.if_icmp .lt 13, 3) := by decide +kernel
theorem dX5_isDigit_6 : decode cX5_isDigit 6 = .ok (.iload_n 0, 1) := by decide +kernel
theorem dX5_isDigit_7 : decode cX5_isDigit 7 = .ok (.bipush 57, 2) := by decide +kernel
theorem dX5_isDigit_9 : decode cX5_isDigit 9 = .ok (.if_icmp .gt 7, 3) := by decide +kernel
theorem dX5_isDigit_12 : decode cX5_isDigit 12 = .ok (.iconst 1, 1) := by decide +kernel
theorem dX5_isDigit_13 : decode cX5_isDigit 13 = .ok (.goto 4, 3) := by decide +kernel
theorem dX5_isDigit_16 : decode cX5_isDigit 16 = .ok (.iconst 0, 1) := by decide +kernel
theorem dX5_isDigit_17 : decode cX5_isDigit 17 = .ok (.ireturn, 1) := by decide +kernel
theorem dX5_byteAt_0 : decode cX5_byteAt 0 = .ok (.aload_n 0, 1) := by decide +kernel
theorem dX5_byteAt_1 : decode cX5_byteAt 1 = .ok (.getfield 15, 3) := by decide +kernel
theorem dX5_byteAt_4 : decode cX5_byteAt 4 = .ok (.ifnull 25, 3) := by decide +kernel
theorem dX5_byteAt_7 : decode cX5_byteAt 7 = .ok (.iload_n 1, 1) := by decide +kernel
theorem dX5_byteAt_8 : decode cX5_byteAt 8 = .ok (.ifCond .lt 21, 3) := by decide +kernel
theorem dX5_byteAt_11 : decode cX5_byteAt 11 = .ok (.iload_n 1, 1) := by decide +kernel
theorem dX5_byteAt_12 : decode cX5_byteAt 12 = .ok (.aload_n 0, 1) := by decide +kernel
theorem dX5_byteAt_13 : decode cX5_byteAt 13 = .ok (.getfield 15, 3) := by decide +kernel
theorem dX5_byteAt_16 : decode cX5_byteAt 16 = .ok (.arraylength, 1) := by decide +kernel
theorem dX5_byteAt_17 : decode cX5_byteAt 17 = .ok (.if_icmp .ge 12, 3) := by decide +kernel
theorem dX5_byteAt_20 : decode cX5_byteAt 20 = .ok (.aload_n 0, 1) := by decide +kernel
theorem dX5_byteAt_21 : decode cX5_byteAt 21 = .ok (.getfield 15, 3) := by decide +kernel
theorem dX5_byteAt_24 : decode cX5_byteAt 24 = .ok (.iload_n 1, 1) := by decide +kernel
theorem dX5_byteAt_25 : decode cX5_byteAt 25 = .ok (.baload, 1) := by decide +kernel
theorem dX5_byteAt_26 : decode cX5_byteAt 26 = .ok (.goto 4, 3) := by decide +kernel
theorem dX5_byteAt_29 : decode cX5_byteAt 29 = .ok (.iconst 0, 1) := by decide +kernel
theorem dX5_byteAt_30 : decode cX5_byteAt 30 = .ok (.ireturn, 1) := by decide +kernel
theorem dX6_init_0 : decode cX6_init 0 = .ok (.aload_n 0, 1) := by decide +kernel
theorem dX6_init_1 : decode cX6_init 1 = .ok (.invokespecial 3, 3) := by decide +kernel
theorem dX6_init_4 : decode cX6_init 4 = .ok (.aload_n 0, 1) := by decide +kernel
theorem dX6_init_5 : decode cX6_init 5 = .ok (.bipush 40, 2) := by decide +kernel
theorem dX6_init_7 : decode cX6_init 7 = .ok (.newarray .long, 2) := by decide +kernel
theorem dX6_init_9 : decode cX6_init 9 = .ok (.putfield 9, 3) := by decide +kernel
theorem dX6_init_12 : decode cX6_init 12 = .ok (.aload_n 0, 1) := by decide +kernel
theorem dX6_init_13 : decode cX6_init 13 = .ok (.iconst (-1), 1) := by decide +kernel
theorem dX6_init_14 : decode cX6_init 14 = .ok (.putfield 15, 3) := by decide +kernel
theorem dX6_init_17 : decode cX6_init 17 = .ok (.return_, 1) := by decide +kernel
theorem dX6_isMissing_0 : decode cX6_isMissing 0 = .ok (.aload_n 0, 1) := by decide +kernel
theorem dX6_isMissing_1 : decode cX6_isMissing 1 = .ok (.getfield 15, 3) := by decide +kernel
theorem dX6_isMissing_4 : decode cX6_isMissing 4 = .ok (.ifCond .ge 7, 3) := by decide +kernel
theorem dX6_isMissing_7 : decode cX6_isMissing 7 = .ok (.iconst 1, 1) := by decide +kernel
theorem dX6_isMissing_8 : decode cX6_isMissing 8 = .ok (.goto 4, 3) := by decide +kernel
theorem dX6_isMissing_11 : decode cX6_isMissing 11 = .ok (.iconst 0, 1) := by decide +kernel
theorem dX6_isMissing_12 : decode cX6_isMissing 12 = .ok (.ireturn, 1) := by decide +kernel
theorem dX6_begin_0 : decode cX6_begin 0 = .ok (.aload_n 0, 1) := by decide +kernel
theorem dX6_begin_1 : decode cX6_begin 1 = .ok (.iload_n 1, 1) := by decide +kernel
theorem dX6_begin_2 : decode cX6_begin 2 = .ok (.putfield 19, 3) := by decide +kernel
theorem dX6_begin_5 : decode cX6_begin 5 = .ok (.aload_n 0, 1) := by decide +kernel
theorem dX6_begin_6 : decode cX6_begin 6 = .ok (.iload_n 2, 1) := by decide +kernel
theorem dX6_begin_7 : decode cX6_begin 7 = .ok (.putfield 15, 3) := by decide +kernel
theorem dX6_begin_10 : decode cX6_begin 10 = .ok (.iconst 0, 1) := by decide +kernel
theorem dX6_begin_11 : decode cX6_begin 11 = .ok (.istore_n 3, 1) := by decide +kernel
theorem dX6_begin_12 : decode cX6_begin 12 = .ok (.iload_n 3, 1) := by decide +kernel
theorem dX6_begin_13 : decode cX6_begin 13 = .ok (.bipush 40, 2) := by decide +kernel
theorem dX6_begin_15 : decode cX6_begin 15 = .ok (.if_icmp .ge 16, 3) := by decide +kernel
theorem dX6_begin_18 : decode cX6_begin 18 = .ok (.aload_n 0, 1) := by decide +kernel
theorem dX6_begin_19 : decode cX6_begin 19 = .ok (.getfield 9, 3) := by decide +kernel
theorem dX6_begin_22 : decode cX6_begin 22 = .ok (.iload_n 3, 1) := by decide +kernel
theorem dX6_begin_23 : decode cX6_begin 23 = .ok (.lconst 0, 1) := by decide +kernel
theorem dX6_begin_24 : decode cX6_begin 24 = .ok (.lastore, 1) := by decide +kernel
theorem dX6_begin_25 : decode cX6_begin 25 = .ok (.iinc 3 1, 3) := by decide +kernel
theorem dX6_begin_28 : decode cX6_begin 28 = .ok (.goto (-16), 3) := by decide +kernel
theorem dX6_begin_31 : decode cX6_begin 31 = .ok (.return_, 1) := by decide +kernel
theorem dX6_set_0 : decode cX6_set 0 = .ok (.iload_n 1, 1) := by decide +kernel
theorem dX6_set_1 : decode cX6_set 1 = .ok (.ifCond .lt 17, 3) := by decide +kernel
theorem dX6_set_4 : decode cX6_set 4 = .ok (.iload_n 1, 1) := by decide +kernel
theorem dX6_set_5 : decode cX6_set 5 = .ok (.aload_n 0, 1) := by decide +kernel
theorem dX6_set_6 : decode cX6_set 6 = .ok (.getfield 15, 3) := by decide +kernel
theorem dX6_set_9 : decode cX6_set 9 = .ok (.if_icmp .ge 9, 3) := by decide +kernel
theorem dX6_set_12 : decode cX6_set 12 = .ok (.iload_n 1, 1) := by decide +kernel
theorem dX6_set_13 : decode cX6_set 13 = .ok (.bipush 40, 2) := by decide +kernel
theorem dX6_set_15 : decode cX6_set 15 = .ok (.if_icmp .lt 5, 3) := by decide +kernel
theorem dX6_set_18 : decode cX6_set 18 = .ok (.lconst 0, 1) := by decide +kernel
theorem dX6_set_19 : decode cX6_set 19 = .ok (.lreturn, 1) := by decide +kernel
theorem dX6_set_20 : decode cX6_set 20 = .ok (.aload_n 0, 1) := by decide +kernel
theorem dX6_set_21 : decode cX6_set 21 = .ok (.getfield 9, 3) := by decide +kernel
theorem dX6_set_24 : decode cX6_set 24 = .ok (.iload_n 1, 1) := by decide +kernel
theorem dX6_set_25 : decode cX6_set 25 = .ok (.aload_n 0, 1) := by decide +kernel
theorem dX6_set_26 : decode cX6_set 26 = .ok (.lload_n 2, 1) := by decide +kernel
theorem dX6_set_27 : decode cX6_set 27 = .ok (.invokevirtual 22, 3) := by decide +kernel
theorem dX6_set_30 : decode cX6_set 30 = .ok (.lastore, 1) := by decide +kernel
theorem dX6_set_31 : decode cX6_set 31 = .ok (.aload_n 0, 1) := by decide +kernel
theorem dX6_set_32 : decode cX6_set 32 = .ok (.getfield 9, 3) := by decide +kernel
theorem dX6_set_35 : decode cX6_set 35 = .ok (.iload_n 1, 1) := by decide +kernel
theorem dX6_set_36 : decode cX6_set 36 = .ok (.laload, 1) := by decide +kernel
theorem dX6_set_37 : decode cX6_set 37 = .ok (.lreturn, 1) := by decide +kernel
theorem dX6_cut_0 : decode cX6_cut 0 = .ok (.aload_n 0, 1) := by decide +kernel
theorem dX6_cut_1 : decode cX6_cut 1 = .ok (.getfield 19, 3) := by decide +kernel
theorem dX6_cut_4 : decode cX6_cut 4 = .ok (.tableswitch 42 0 2 #[28, 33, 38], 28) := by decide +kernel
theorem dX6_cut_32 : decode cX6_cut 32 = .ok (.lload_n 1, 1) := by decide +kernel
theorem dX6_cut_33 : decode cX6_cut 33 = .ok (.l2i, 1) := by decide +kernel
theorem dX6_cut_34 : decode cX6_cut 34 = .ok (.i2b, 1) := by decide +kernel
theorem dX6_cut_35 : decode cX6_cut 35 = .ok (.i2l, 1) := by decide +kernel
theorem dX6_cut_36 : decode cX6_cut 36 = .ok (.lreturn, 1) := by decide +kernel
theorem dX6_cut_37 : decode cX6_cut 37 = .ok (.lload_n 1, 1) := by decide +kernel
theorem dX6_cut_38 : decode cX6_cut 38 = .ok (.l2i, 1) := by decide +kernel
theorem dX6_cut_39 : decode cX6_cut 39 = .ok (.i2s, 1) := by decide +kernel
theorem dX6_cut_40 : decode cX6_cut 40 = .ok (.i2l, 1) := by decide +kernel
theorem dX6_cut_41 : decode cX6_cut 41 = .ok (.lreturn, 1) := by decide +kernel
theorem dX6_cut_42 : decode cX6_cut 42 = .ok (.lload_n 1, 1) := by decide +kernel
theorem dX6_cut_43 : decode cX6_cut 43 = .ok (.l2i, 1) := by decide +kernel
theorem dX6_cut_44 : decode cX6_cut 44 = .ok (.i2l, 1) := by decide +kernel
theorem dX6_cut_45 : decode cX6_cut 45 = .ok (.lreturn, 1) := by decide +kernel
theorem dX6_cut_46 : decode cX6_cut 46 = .ok (.lload_n 1, 1) := by decide +kernel
theorem dX6_cut_47 : decode cX6_cut 47 = .ok (.lreturn, 1) := by decide +kernel
theorem dX7_init_0 : decode cX7_init 0 = .ok (.aload_n 0, 1) := by decide +kernel
theorem dX7_init_1 : decode cX7_init 1 = .ok (.invokespecial 3, 3) := by decide +kernel
theorem dX7_init_4 : decode cX7_init 4 = .ok (.aload_n 0, 1) := by decide +kernel
theorem dX7_init_5 : decode cX7_init 5 = .ok (.new 9, 3) := by decide +kernel
theorem dX7_init_8 : decode cX7_init 8 = .ok (.dup, 1) := by decide +kernel
theorem dX7_init_9 : decode cX7_init 9 = .ok (.invokespecial 11, 3) := by decide +kernel
theorem dX7_init_12 : decode cX7_init 12 = .ok (.putfield 12, 3) := by decide +kernel
theorem dX7_init_15 : decode cX7_init 15 = .ok (.aload_n 0, 1) := by decide +kernel
theorem dX7_init_16 : decode cX7_init 16 = .ok (.sipush 201, 3) := by decide +kernel
theorem dX7_init_19 : decode cX7_init 19 = .ok (.newarray .long, 2) := by decide +kernel
theorem dX7_init_21 : decode cX7_init 21 = .ok (.putfield 18, 3) := by decide +kernel
theorem dX7_init_24 : decode cX7_init 24 = .ok (.aload_n 0, 1) := by decide +kernel
theorem dX7_init_25 : decode cX7_init 25 = .ok (.sipush 200, 3) := by decide +kernel
theorem dX7_init_28 : decode cX7_init 28 = .ok (.newarray .int, 2) := by decide +kernel
theorem dX7_init_30 : decode cX7_init 30 = .ok (.putfield 22, 3) := by decide +kernel
theorem dX7_init_33 : decode cX7_init 33 = .ok (.aload_n 0, 1) := by decide +kernel
theorem dX7_init_34 : decode cX7_init 34 = .ok (.sipush 200, 3) := by decide +kernel
theorem dX7_init_37 : decode cX7_init 37 = .ok (.newarray .int, 2) := by decide +kernel
theorem dX7_init_39 : decode cX7_init 39 = .ok (.putfield 26, 3) := by decide +kernel
theorem dX7_init_42 : decode cX7_init 42 = .ok (.aload_n 0, 1) := by decide +kernel
theorem dX7_init_43 : decode cX7_init 43 = .ok (.sipush 200, 3) := by decide +kernel
theorem dX7_init_46 : decode cX7_init 46 = .ok (.newarray .long, 2) := by decide +kernel
theorem dX7_init_48 : decode cX7_init 48 = .ok (.putfield 29, 3) := by decide +kernel
theorem dX7_init_51 : decode cX7_init 51 = .ok (.aload_n 0, 1) := by decide +kernel
theorem dX7_init_52 : decode cX7_init 52 = .ok (.aload_n 1, 1) := by decide +kernel
theorem dX7_init_53 : decode cX7_init 53 = .ok (.putfield 32, 3) := by decide +kernel
theorem dX7_init_56 : decode cX7_init 56 = .ok (.aload_n 0, 1) := by decide +kernel
theorem dX7_init_57 : decode cX7_init 57 = .ok (.aload_n 2, 1) := by decide +kernel
theorem dX7_init_58 : decode cX7_init 58 = .ok (.putfield 36, 3) := by decide +kernel
theorem dX7_init_61 : decode cX7_init 61 = .ok (.return_, 1) := by decide +kernel
theorem dX7_low_0 : decode cX7_low 0 = .ok (.aload_n 0, 1) := by decide +kernel
theorem dX7_low_1 : decode cX7_low 1 = .ok (.getfield 32, 3) := by decide +kernel
theorem dX7_low_4 : decode cX7_low 4 = .ok (.getfield 40, 3) := by decide +kernel
theorem dX7_low_7 : decode cX7_low 7 = .ok (.ireturn, 1) := by decide +kernel
theorem dX7_waysFor_0 : decode cX7_waysFor 0 = .ok (.aload_n 0, 1) := by decide +kernel
theorem dX7_waysFor_1 : decode cX7_waysFor 1 = .ok (.getfield 32, 3) := by decide +kernel
theorem dX7_waysFor_4 : decode cX7_waysFor 4 = .ok (.iload_n 1, 1) := by decide +kernel
theorem dX7_waysFor_5 : decode cX7_waysFor 5 = .ok (.invokevirtual 46, 3) := by decide +kernel
theorem dX7_waysFor_8 : decode cX7_waysFor 8 = .ok (.i2l, 1) := by decide +kernel
theorem dX7_waysFor_9 : decode cX7_waysFor 9 = .ok (.lstore 4, 2) := by decide +kernel
theorem dX7_waysFor_11 : decode cX7_waysFor 11 = .ok (.iconst 0, 1) := by decide +kernel
theorem dX7_waysFor_12 : decode cX7_waysFor 12 = .ok (.istore 6, 2) := by decide +kernel
theorem dX7_waysFor_14 : decode cX7_waysFor 14 = .ok (.iload 6, 2) := by decide +kernel
theorem dX7_waysFor_16 : decode cX7_waysFor 16 = .ok (.iload_n 2, 1) := by decide +kernel
theorem dX7_waysFor_17 : decode cX7_waysFor 17 = .ok (.if_icmp .ge 43, 3) := by decide +kernel
theorem dX7_waysFor_20 : decode cX7_waysFor 20 = .ok (.aload_n 0, 1) := by decide +kernel
theorem dX7_waysFor_21 : decode cX7_waysFor 21 = .ok (.iload 6, 2) := by decide +kernel
theorem dX7_waysFor_23 : decode cX7_waysFor 23 = .ok (.invokevirtual 50, 3) := by decide +kernel
theorem dX7_waysFor_26 : decode cX7_waysFor 26 = .ok (.lstore 7, 2) := by decide +kernel
theorem dX7_waysFor_28 : decode cX7_waysFor 28 = .ok (.lload 4, 2) := by decide +kernel
theorem dX7_waysFor_30 : decode cX7_waysFor 30 = .ok (.iload 6, 2) := by decide +kernel
theorem dX7_waysFor_32 : decode cX7_waysFor 32 = .ok (.iload_n 3, 1) := by decide +kernel
theorem dX7_waysFor_33 : decode cX7_waysFor 33 = .ok (.if_icmp .ne 8, 3) := by decide +kernel
theorem dX7_waysFor_36 : decode cX7_waysFor 36 = .ok (.lload 7, 2) := by decide +kernel
theorem dX7_waysFor_38 : decode cX7_waysFor 38 = .ok (.goto 13, 3) := by decide +kernel
theorem dX7_waysFor_41 : decode cX7_waysFor 41 = .ok (.lload 7, 2) := by decide +kernel
theorem dX7_waysFor_43 : decode cX7_waysFor 43 = .ok (.aload_n 0, 1) := by decide +kernel
theorem dX7_waysFor_44 : decode cX7_waysFor 44 = .ok (.iload 6, 2) := by decide +kernel
theorem dX7_waysFor_46 : decode cX7_waysFor 46 = .ok (.iload_n 1, 1) := by decide +kernel
theorem dX7_waysFor_47 : decode cX7_waysFor 47 = .ok (.invokevirtual 54, 3) := by decide +kernel
theorem dX7_waysFor_50 : decode cX7_waysFor 50 = .ok (.ladd, 1) := by decide +kernel
theorem dX7_waysFor_51 : decode cX7_waysFor 51 = .ok (.lmul, 1) := by decide +kernel
theorem dX7_waysFor_52 : decode cX7_waysFor 52 = .ok (.lstore 4, 2) := by decide +kernel
theorem dX7_waysFor_54 : decode cX7_waysFor 54 = .ok (.iinc 6 1, 3) := by decide +kernel
theorem dX7_waysFor_57 : decode cX7_waysFor 57 = .ok (.goto (-43), 3) := by decide +kernel
theorem dX7_waysFor_60 : decode cX7_waysFor 60 = .ok (.lload 4, 2) := by decide +kernel
theorem dX7_waysFor_62 : decode cX7_waysFor 62 = .ok (.lreturn, 1) := by decide +kernel
theorem dX7_copyChance_0 : decode cX7_copyChance 0 = .ok (.aload_n 0, 1) := by decide +kernel
theorem dX7_copyChance_1 : decode cX7_copyChance 1 = .ok (.getfield 36, 3) := by decide +kernel
theorem dX7_copyChance_4 : decode cX7_copyChance 4 = .ok (.iload_n 1, 1) := by decide +kernel
theorem dX7_copyChance_5 : decode cX7_copyChance 5 = .ok (.invokevirtual 58, 3) := by decide +kernel
theorem dX7_copyChance_8 : decode cX7_copyChance 8 = .ok (.ifCond .eq 22, 3) := by decide +kernel
theorem dX7_copyChance_11 : decode cX7_copyChance 11 = .ok (.aload_n 0, 1) := by decide +kernel
theorem dX7_copyChance_12 : decode cX7_copyChance 12 = .ok (.getfield 32, 3) := by decide +kernel
theorem dX7_copyChance_15 : decode cX7_copyChance 15 = .ok (.aload_n 0, 1) := by decide +kernel
theorem dX7_copyChance_16 : decode cX7_copyChance 16 = .ok (.getfield 36, 3) := by decide +kernel
theorem dX7_copyChance_19 : decode cX7_copyChance 19 = .ok (.getfield 64, 3) := by decide +kernel
theorem dX7_copyChance_22 : decode cX7_copyChance 22 = .ok (.iload_n 1, 1) := by decide +kernel
theorem dX7_copyChance_23 : decode cX7_copyChance 23 = .ok (.iaload, 1) := by decide +kernel
theorem dX7_copyChance_24 : decode cX7_copyChance 24 = .ok (.invokevirtual 67, 3) := by decide +kernel
theorem dX7_copyChance_27 : decode cX7_copyChance 27 = .ok (.ifCond .ne 5, 3) := by decide +kernel
theorem dX7_copyChance_30 : decode cX7_copyChance 30 = .ok (.lconst 0, 1) := by decide +kernel
theorem dX7_copyChance_31 : decode cX7_copyChance 31 = .ok (.lreturn, 1) := by decide +kernel
theorem dX7_copyChance_32 : decode cX7_copyChance 32 = .ok (.aload_n 0, 1) := by decide +kernel
theorem dX7_copyChance_33 : decode cX7_copyChance 33 = .ok (.getfield 36, 3) := by decide +kernel
theorem dX7_copyChance_36 : decode cX7_copyChance 36 = .ok (.getfield 64, 3) := by decide +kernel
theorem dX7_copyChance_39 : decode cX7_copyChance 39 = .ok (.iload_n 1, 1) := by decide +kernel
theorem dX7_copyChance_40 : decode cX7_copyChance 40 = .ok (.iaload, 1) := by decide +kernel
theorem dX7_copyChance_41 : decode cX7_copyChance 41 = .ok (.istore_n 2, 1) := by decide +kernel
theorem dX7_copyChance_42 : decode cX7_copyChance 42 = .ok (.aload_n 0, 1) := by decide +kernel
theorem dX7_copyChance_43 : decode cX7_copyChance 43 = .ok (.getfield 36, 3) := by decide +kernel
theorem dX7_copyChance_46 : decode cX7_copyChance 46 = .ok (.getfield 68, 3) := by decide +kernel
theorem dX7_copyChance_49 : decode cX7_copyChance 49 = .ok (.iload_n 1, 1) := by decide +kernel
theorem dX7_copyChance_50 : decode cX7_copyChance 50 = .ok (.iaload, 1) := by decide +kernel
theorem dX7_copyChance_51 : decode cX7_copyChance 51 = .ok (.aload_n 0, 1) := by decide +kernel
theorem dX7_copyChance_52 : decode cX7_copyChance 52 = .ok (.getfield 36, 3) := by decide +kernel
theorem dX7_copyChance_55 : decode cX7_copyChance 55 = .ok (.iload_n 1, 1) := by decide +kernel
theorem dX7_copyChance_56 : decode cX7_copyChance 56 = .ok (.aload_n 0, 1) := by decide +kernel
theorem dX7_copyChance_57 : decode cX7_copyChance 57 = .ok (.getfield 32, 3) := by decide +kernel
theorem dX7_copyChance_60 : decode cX7_copyChance 60 = .ok (.getfield 71, 3) := by decide +kernel
theorem dX7_copyChance_63 : decode cX7_copyChance 63 = .ok (.invokevirtual 75, 3) := by decide +kernel
theorem dX7_copyChance_66 : decode cX7_copyChance 66 = .ok (.if_icmp .ne 7, 3) := by decide +kernel
theorem dX7_copyChance_69 : decode cX7_copyChance 69 = .ok (.iconst 1, 1) := by decide +kernel
theorem dX7_copyChance_70 : decode cX7_copyChance 70 = .ok (.goto 4, 3) := by decide +kernel
theorem dX7_copyChance_73 : decode cX7_copyChance 73 = .ok (.iconst 0, 1) := by decide +kernel
theorem dX7_copyChance_74 : decode cX7_copyChance 74 = .ok (.istore_n 3, 1) := by decide +kernel
theorem dX7_copyChance_75 : decode cX7_copyChance 75 = .ok (.iload_n 3, 1) := by decide +kernel
theorem dX7_copyChance_76 : decode cX7_copyChance 76 = .ok (.ifCond .eq 31, 3) := by decide +kernel
theorem dX7_copyChance_79 : decode cX7_copyChance 79 = .ok (.aload_n 0, 1) := by decide +kernel
theorem dX7_copyChance_80 : decode cX7_copyChance 80 = .ok (.getfield 32, 3) := by decide +kernel
theorem dX7_copyChance_83 : decode cX7_copyChance 83 = .ok (.getfield 79, 3) := by decide +kernel
theorem dX7_copyChance_86 : decode cX7_copyChance 86 = .ok (.iload_n 2, 1) := by decide +kernel
theorem dX7_copyChance_87 : decode cX7_copyChance 87 = .ok (.iaload, 1) := by decide +kernel
theorem dX7_copyChance_88 : decode cX7_copyChance 88 = .ok (.i2l, 1) := by decide +kernel
theorem dX7_copyChance_89 : decode cX7_copyChance 89 = .ok (.iconst 2, 1) := by decide +kernel
theorem dX7_copyChance_90 : decode cX7_copyChance 90 = .ok (.aload_n 0, 1) := by decide +kernel
theorem dX7_copyChance_91 : decode cX7_copyChance 91 = .ok (.getfield 32, 3) := by decide +kernel
theorem dX7_copyChance_94 : decode cX7_copyChance 94 = .ok (.getfield 82, 3) := by decide +kernel
theorem dX7_copyChance_97 : decode cX7_copyChance 97 = .ok (.iload_n 2, 1) := by decide +kernel
theorem dX7_copyChance_98 : decode cX7_copyChance 98 = .ok (.iaload, 1) := by decide +kernel
theorem dX7_copyChance_99 : decode cX7_copyChance 99 = .ok (.imul, 1) := by decide +kernel
theorem dX7_copyChance_100 : decode cX7_copyChance 100 = .ok (.iconst 1, 1) := by decide +kernel
theorem dX7_copyChance_101 : decode cX7_copyChance 101 = .ok (.iadd, 1) := by decide +kernel
theorem dX7_copyChance_102 : decode cX7_copyChance 102 = .ok (.i2l, 1) := by decide +kernel
theorem dX7_copyChance_103 : decode cX7_copyChance 103 = .ok (.lmul, 1) := by decide +kernel
theorem dX7_copyChance_104 : decode cX7_copyChance 104 = .ok (.goto 4, 3) := by decide +kernel
theorem dX7_copyChance_107 : decode cX7_copyChance 107 = .ok (.lconst 0, 1) := by decide +kernel
theorem dX7_copyChance_108 : decode cX7_copyChance 108 = .ok (.lreturn, 1) := by decide +kernel
theorem dX7_sightChance_0 : decode cX7_sightChance 0 = .ok (.aload_n 0, 1) := by decide +kernel
theorem dX7_sightChance_1 : decode cX7_sightChance 1 = .ok (.getfield 36, 3) := by decide +kernel
theorem dX7_sightChance_4 : decode cX7_sightChance 4 = .ok (.iload_n 1, 1) := by decide +kernel
theorem dX7_sightChance_5 : decode cX7_sightChance 5 = .ok (.invokevirtual 58, 3) := by decide +kernel
theorem dX7_sightChance_8 : decode cX7_sightChance 8 = .ok (.ifCond .eq 22, 3) := by decide +kernel
theorem dX7_sightChance_11 : decode cX7_sightChance 11 = .ok (.aload_n 0, 1) := by decide +kernel
theorem dX7_sightChance_12 : decode cX7_sightChance 12 = .ok (.getfield 32, 3) := by decide +kernel
theorem dX7_sightChance_15 : decode cX7_sightChance 15 = .ok (.aload_n 0, 1) := by decide +kernel
theorem dX7_sightChance_16 : decode cX7_sightChance 16 = .ok (.getfield 36, 3) := by decide +kernel
theorem dX7_sightChance_19 : decode cX7_sightChance 19 = .ok (.getfield 64, 3) := by decide +kernel
theorem dX7_sightChance_22 : decode cX7_sightChance 22 = .ok (.iload_n 1, 1) := by decide +kernel
theorem dX7_sightChance_23 : decode cX7_sightChance 23 = .ok (.iaload, 1) := by decide +kernel
theorem dX7_sightChance_24 : decode cX7_sightChance 24 = .ok (.invokevirtual 67, 3) := by decide +kernel
theorem dX7_sightChance_27 : decode cX7_sightChance 27 = .ok (.ifCond .ne 5, 3) := by decide +kernel
theorem dX7_sightChance_30 : decode cX7_sightChance 30 = .ok (.lconst 0, 1) := by decide +kernel
theorem dX7_sightChance_31 : decode cX7_sightChance 31 = .ok (.lreturn, 1) := by decide +kernel
theorem dX7_sightChance_32 : decode cX7_sightChance 32 = .ok (.aload_n 0, 1) := by decide +kernel
theorem dX7_sightChance_33 : decode cX7_sightChance 33 = .ok (.getfield 36, 3) := by decide +kernel
theorem dX7_sightChance_36 : decode cX7_sightChance 36 = .ok (.getfield 64, 3) := by decide +kernel
theorem dX7_sightChance_39 : decode cX7_sightChance 39 = .ok (.iload_n 1, 1) := by decide +kernel
theorem dX7_sightChance_40 : decode cX7_sightChance 40 = .ok (.iaload, 1) := by decide +kernel
theorem dX7_sightChance_41 : decode cX7_sightChance 41 = .ok (.istore_n 3, 1) := by decide +kernel
theorem dX7_sightChance_42 : decode cX7_sightChance 42 = .ok (.aload_n 0, 1) := by decide +kernel
theorem dX7_sightChance_43 : decode cX7_sightChance 43 = .ok (.getfield 36, 3) := by decide +kernel
theorem dX7_sightChance_46 : decode cX7_sightChance 46 = .ok (.getfield 68, 3) := by decide +kernel
theorem dX7_sightChance_49 : decode cX7_sightChance 49 = .ok (.iload_n 1, 1) := by decide +kernel
theorem dX7_sightChance_50 : decode cX7_sightChance 50 = .ok (.iaload, 1) := by decide +kernel
theorem dX7_sightChance_51 : decode cX7_sightChance 51 = .ok (.aload_n 0, 1) := by decide +kernel
theorem dX7_sightChance_52 : decode cX7_sightChance 52 = .ok (.getfield 32, 3) := by decide +kernel
theorem dX7_sightChance_55 : decode cX7_sightChance 55 = .ok (.iload_n 3, 1) := by decide +kernel
theorem dX7_sightChance_56 : decode cX7_sightChance 56 = .ok (.iload_n 2, 1) := by decide +kernel
theorem dX7_sightChance_57 : decode cX7_sightChance 57 = .ok (.invokevirtual 85, 3) := by decide +kernel
theorem dX7_sightChance_60 : decode cX7_sightChance 60 = .ok (.isub, 1) := by decide +kernel
theorem dX7_sightChance_61 : decode cX7_sightChance 61 = .ok (.invokestatic 89, 3) := by decide +kernel
theorem dX7_sightChance_64 : decode cX7_sightChance 64 = .ok (.aload_n 0, 1) := by decide +kernel
theorem dX7_sightChance_65 : decode cX7_sightChance 65 = .ok (.getfield 32, 3) := by decide +kernel
theorem dX7_sightChance_68 : decode cX7_sightChance 68 = .ok (.getfield 82, 3) := by decide +kernel
theorem dX7_sightChance_71 : decode cX7_sightChance 71 = .ok (.iload_n 3, 1) := by decide +kernel
theorem dX7_sightChance_72 : decode cX7_sightChance 72 = .ok (.iaload, 1) := by decide +kernel
theorem dX7_sightChance_73 : decode cX7_sightChance 73 = .ok (.if_icmp .le 5, 3) := by decide +kernel
theorem dX7_sightChance_76 : decode cX7_sightChance 76 = .ok (.lconst 0, 1) := by decide +kernel
theorem dX7_sightChance_77 : decode cX7_sightChance 77 = .ok (.lreturn, 1) := by decide +kernel
theorem dX7_sightChance_78 : decode cX7_sightChance 78 = .ok (.aload_n 0, 1) := by decide +kernel
theorem dX7_sightChance_79 : decode cX7_sightChance 79 = .ok (.getfield 36, 3) := by decide +kernel
theorem dX7_sightChance_82 : decode cX7_sightChance 82 = .ok (.iload_n 1, 1) := by decide +kernel
theorem dX7_sightChance_83 : decode cX7_sightChance 83 = .ok (.aload_n 0, 1) := by decide +kernel
theorem dX7_sightChance_84 : decode cX7_sightChance 84 = .ok (.getfield 32, 3) := by decide +kernel
theorem dX7_sightChance_87 : decode cX7_sightChance 87 = .ok (.getfield 71, 3) := by decide +kernel
theorem dX7_sightChance_90 : decode cX7_sightChance 90 = .ok (.invokevirtual 75, 3) := by decide +kernel
theorem dX7_sightChance_93 : decode cX7_sightChance 93 = .ok (.iconst (-1), 1) := by decide +kernel
theorem dX7_sightChance_94 : decode cX7_sightChance 94 = .ok (.if_icmp .ne 9, 3) := by decide +kernel
theorem dX7_sightChance_97 : decode cX7_sightChance 97 = .ok (.ldc2_w 94, 3) := by decide +kernel
theorem dX7_sightChance_100 : decode cX7_sightChance 100 = .ok (.goto 16, 3) := by decide +kernel
theorem dX7_sightChance_103 : decode cX7_sightChance 103 = .ok (.bipush 10, 2) := by decide +kernel
theorem dX7_sightChance_105 : decode cX7_sightChance 105 = .ok (.aload_n 0, 1) := by decide +kernel
theorem dX7_sightChance_106 : decode cX7_sightChance 106 = .ok (.getfield 32, 3) := by decide +kernel
theorem dX7_sightChance_109 : decode cX7_sightChance 109 = .ok (.getfield 79, 3) := by decide +kernel
theorem dX7_sightChance_112 : decode cX7_sightChance 112 = .ok (.iload_n 3, 1) := by decide +kernel
theorem dX7_sightChance_113 : decode cX7_sightChance 113 = .ok (.iaload, 1) := by decide +kernel
theorem dX7_sightChance_114 : decode cX7_sightChance 114 = .ok (.isub, 1) := by decide +kernel
theorem dX7_sightChance_115 : decode cX7_sightChance 115 = .ok (.i2l, 1) := by decide +kernel
theorem dX7_sightChance_116 : decode cX7_sightChance 116 = .ok (.lreturn, 1) := by decide +kernel
theorem dX7_weigh_0 : decode cX7_weigh 0 = .ok (.aload_n 0, 1) := by decide +kernel
theorem dX7_weigh_1 : decode cX7_weigh 1 = .ok (.iconst 0, 1) := by decide +kernel
theorem dX7_weigh_2 : decode cX7_weigh 2 = .ok (.sipush 200, 3) := by decide +kernel
theorem dX7_weigh_5 : decode cX7_weigh 5 = .ok (.aload_n 0, 1) := by decide +kernel
theorem dX7_weigh_6 : decode cX7_weigh 6 = .ok (.getfield 32, 3) := by decide +kernel
theorem dX7_weigh_9 : decode cX7_weigh 9 = .ok (.getfield 96, 3) := by decide +kernel
theorem dX7_weigh_12 : decode cX7_weigh 12 = .ok (.aload_n 0, 1) := by decide +kernel
theorem dX7_weigh_13 : decode cX7_weigh 13 = .ok (.getfield 32, 3) := by decide +kernel
theorem dX7_weigh_16 : decode cX7_weigh 16 = .ok (.getfield 40, 3) := by decide +kernel
theorem dX7_weigh_19 : decode cX7_weigh 19 = .ok (.isub, 1) := by decide +kernel
theorem dX7_weigh_20 : decode cX7_weigh 20 = .ok (.iconst 1, 1) := by decide +kernel
theorem dX7_weigh_21 : decode cX7_weigh 21 = .ok (.iadd, 1) := by decide +kernel
theorem dX7_weigh_22 : decode cX7_weigh 22 = .ok (.invokestatic 99, 3) := by decide +kernel
theorem dX7_weigh_25 : decode cX7_weigh 25 = .ok (.invokestatic 102, 3) := by decide +kernel
theorem dX7_weigh_28 : decode cX7_weigh 28 = .ok (.putfield 105, 3) := by decide +kernel
theorem dX7_weigh_31 : decode cX7_weigh 31 = .ok (.iconst 0, 1) := by decide +kernel
theorem dX7_weigh_32 : decode cX7_weigh 32 = .ok (.istore_n 2, 1) := by decide +kernel
