theorem dX10_isImage_9 : decode cX10_isImage 9 = .ok (.iconst 1, 1) := by decide +kernel
theorem dX10_isImage_10 : decode cX10_isImage 10 = .ok (.goto 4, 3) := by decide +kernel
theorem dX10_isImage_13 : decode cX10_isImage 13 = .ok (.iconst 0, 1) := by decide +kernel
theorem dX10_isImage_14 : decode cX10_isImage 14 = .ok (.ireturn, 1) := by decide +kernel
theorem dX10_numbers_0 : decode cX10_numbers 0 = .ok (.iload_n 1, 1) := by decide +kernel
theorem dX10_numbers_1 : decode cX10_numbers 1 = .ok (.invokestatic 187, 3) := by decide +kernel
theorem dX10_numbers_4 : decode cX10_numbers 4 = .ok (.ifCond .eq 12, 3) := by decide +kernel
theorem dX10_numbers_7 : decode cX10_numbers 7 = .ok (.iload_n 2, 1) := by decide +kernel
theorem dX10_numbers_8 : decode cX10_numbers 8 = .ok (.ifCond .lt 8, 3) := by decide +kernel
theorem dX10_numbers_11 : decode cX10_numbers 11 = .ok (.iload_n 2, 1) := by decide +kernel
theorem dX10_numbers_12 : decode cX10_numbers 12 = .ok (.iconst 4, 1) := by decide +kernel
theorem dX10_numbers_13 : decode cX10_numbers 13 = .ok (.if_icmp .lt 6, 3) := by decide +kernel
theorem dX10_numbers_16 : decode cX10_numbers 16 = .ok (.bipush (-2), 2) := by decide +kernel
theorem dX10_numbers_18 : decode cX10_numbers 18 = .ok (.ireturn, 1) := by decide +kernel
theorem dX10_numbers_19 : decode cX10_numbers 19 = .ok (.iload_n 3, 1) := by decide +kernel
theorem dX10_numbers_20 : decode cX10_numbers 20 = .ok (.ifCond .lt 9, 3) := by decide +kernel
theorem dX10_numbers_23 : decode cX10_numbers 23 = .ok (.iload_n 3, 1) := by decide +kernel
theorem dX10_numbers_24 : decode cX10_numbers 24 = .ok (.bipush 40, 2) := by decide +kernel
theorem dX10_numbers_26 : decode cX10_numbers 26 = .ok (.if_icmp .le 6, 3) := by decide +kernel
theorem dX10_numbers_29 : decode cX10_numbers 29 = .ok (.bipush (-3), 2) := by decide +kernel
theorem dX10_numbers_31 : decode cX10_numbers 31 = .ok (.ireturn, 1) := by decide +kernel
theorem dX10_numbers_32 : decode cX10_numbers 32 = .ok (.aload_n 0, 1) := by decide +kernel
theorem dX10_numbers_33 : decode cX10_numbers 33 = .ok (.getfield 50, 3) := by decide +kernel
theorem dX10_numbers_36 : decode cX10_numbers 36 = .ok (.iload_n 1, 1) := by decide +kernel
theorem dX10_numbers_37 : decode cX10_numbers 37 = .ok (.aaload, 1) := by decide +kernel
theorem dX10_numbers_38 : decode cX10_numbers 38 = .ok (.iload_n 2, 1) := by decide +kernel
theorem dX10_numbers_39 : decode cX10_numbers 39 = .ok (.iload_n 3, 1) := by decide +kernel
theorem dX10_numbers_40 : decode cX10_numbers 40 = .ok (.invokevirtual 379, 3) := by decide +kernel
theorem dX10_numbers_43 : decode cX10_numbers 43 = .ok (.iconst 0, 1) := by decide +kernel
theorem dX10_numbers_44 : decode cX10_numbers 44 = .ok (.ireturn, 1) := by decide +kernel
theorem dX10_put_0 : decode cX10_put 0 = .ok (.iload_n 1, 1) := by decide +kernel
theorem dX10_put_1 : decode cX10_put 1 = .ok (.invokestatic 187, 3) := by decide +kernel
theorem dX10_put_4 : decode cX10_put 4 = .ok (.ifCond .ne 7, 3) := by decide +kernel
theorem dX10_put_7 : decode cX10_put 7 = .ok (.ldc2_w 302, 3) := by decide +kernel
theorem dX10_put_10 : decode cX10_put 10 = .ok (.lreturn, 1) := by decide +kernel
theorem dX10_put_11 : decode cX10_put 11 = .ok (.aload_n 0, 1) := by decide +kernel
theorem dX10_put_12 : decode cX10_put 12 = .ok (.getfield 50, 3) := by decide +kernel
theorem dX10_put_15 : decode cX10_put 15 = .ok (.iload_n 1, 1) := by decide +kernel
theorem dX10_put_16 : decode cX10_put 16 = .ok (.aaload, 1) := by decide +kernel
theorem dX10_put_17 : decode cX10_put 17 = .ok (.astore 5, 2) := by decide +kernel
theorem dX10_put_19 : decode cX10_put 19 = .ok (.aload 5, 2) := by decide +kernel
theorem dX10_put_21 : decode cX10_put 21 = .ok (.invokevirtual 190, 3) := by decide +kernel
theorem dX10_put_24 : decode cX10_put 24 = .ok (.ifCond .eq 7, 3) := by decide +kernel
theorem dX10_put_27 : decode cX10_put 27 = .ok (.ldc2_w 382, 3) := by decide +kernel
theorem dX10_put_30 : decode cX10_put 30 = .ok (.lreturn, 1) := by decide +kernel
theorem dX10_put_31 : decode cX10_put 31 = .ok (.iload_n 2, 1) := by decide +kernel
theorem dX10_put_32 : decode cX10_put 32 = .ok (.ifCond .lt 12, 3) := by decide +kernel
theorem dX10_put_35 : decode cX10_put 35 = .ok (.iload_n 2, 1) := by decide +kernel
theorem dX10_put_36 : decode cX10_put 36 = .ok (.aload 5, 2) := by decide +kernel
theorem dX10_put_38 : decode cX10_put 38 = .ok (.getfield 198, 3) := by decide +kernel
theorem dX10_put_41 : decode cX10_put 41 = .ok (.if_icmp .lt 7, 3) := by decide +kernel
theorem dX10_put_44 : decode cX10_put 44 = .ok (.ldc2_w 384, 3) := by decide +kernel
theorem dX10_put_47 : decode cX10_put 47 = .ok (.lreturn, 1) := by decide +kernel
theorem dX10_put_48 : decode cX10_put 48 = .ok (.aload 5, 2) := by decide +kernel
theorem dX10_put_50 : decode cX10_put 50 = .ok (.iload_n 2, 1) := by decide +kernel
theorem dX10_put_51 : decode cX10_put 51 = .ok (.lload_n 3, 1) := by decide +kernel
theorem dX10_put_52 : decode cX10_put 52 = .ok (.invokevirtual 386, 3) := by decide +kernel
theorem dX10_put_55 : decode cX10_put 55 = .ok (.lreturn, 1) := by decide +kernel
theorem dX10_copy_0 : decode cX10_copy 0 = .ok (.iload_n 1, 1) := by decide +kernel
theorem dX10_copy_1 : decode cX10_copy 1 = .ok (.invokestatic 187, 3) := by decide +kernel
theorem dX10_copy_4 : decode cX10_copy 4 = .ok (.ifCond .ne 6, 3) := by decide +kernel
theorem dX10_copy_7 : decode cX10_copy 7 = .ok (.bipush (-2), 2) := by decide +kernel
theorem dX10_copy_9 : decode cX10_copy 9 = .ok (.ireturn, 1) := by decide +kernel
theorem dX10_copy_10 : decode cX10_copy 10 = .ok (.aload_n 0, 1) := by decide +kernel
theorem dX10_copy_11 : decode cX10_copy 11 = .ok (.getfield 50, 3) := by decide +kernel
theorem dX10_copy_14 : decode cX10_copy 14 = .ok (.iload_n 1, 1) := by decide +kernel
theorem dX10_copy_15 : decode cX10_copy 15 = .ok (.aaload, 1) := by decide +kernel
theorem dX10_copy_16 : decode cX10_copy 16 = .ok (.astore_n 2, 1) := by decide +kernel
theorem dX10_copy_17 : decode cX10_copy 17 = .ok (.aload_n 2, 1) := by decide +kernel
theorem dX10_copy_18 : decode cX10_copy 18 = .ok (.invokevirtual 190, 3) := by decide +kernel
theorem dX10_copy_21 : decode cX10_copy 21 = .ok (.ifCond .eq 6, 3) := by decide +kernel
theorem dX10_copy_24 : decode cX10_copy 24 = .ok (.bipush (-6), 2) := by decide +kernel
theorem dX10_copy_26 : decode cX10_copy 26 = .ok (.ireturn, 1) := by decide +kernel
theorem dX10_copy_27 : decode cX10_copy 27 = .ok (.aload_n 2, 1) := by decide +kernel
theorem dX10_copy_28 : decode cX10_copy 28 = .ok (.getfield 198, 3) := by decide +kernel
theorem dX10_copy_31 : decode cX10_copy 31 = .ok (.aload_n 0, 1) := by decide +kernel
theorem dX10_copy_32 : decode cX10_copy 32 = .ok (.getfield 68, 3) := by decide +kernel
theorem dX10_copy_35 : decode cX10_copy 35 = .ok (.getfield 154, 3) := by decide +kernel
theorem dX10_copy_38 : decode cX10_copy 38 = .ok (.invokestatic 268, 3) := by decide +kernel
theorem dX10_copy_41 : decode cX10_copy 41 = .ok (.istore_n 3, 1) := by decide +kernel
theorem dX10_copy_42 : decode cX10_copy 42 = .ok (.iconst 0, 1) := by decide +kernel
theorem dX10_copy_43 : decode cX10_copy 43 = .ok (.istore 4, 2) := by decide +kernel
theorem dX10_copy_45 : decode cX10_copy 45 = .ok (.iload 4, 2) := by decide +kernel
theorem dX10_copy_47 : decode cX10_copy 47 = .ok (.iload_n 3, 1) := by decide +kernel
theorem dX10_copy_48 : decode cX10_copy 48 = .ok (.if_icmp .ge 27, 3) := by decide +kernel
theorem dX10_copy_51 : decode cX10_copy 51 = .ok (.aload_n 2, 1) := by decide +kernel
theorem dX10_copy_52 : decode cX10_copy 52 = .ok (.iload 4, 2) := by decide +kernel
theorem dX10_copy_54 : decode cX10_copy 54 = .ok (.aload_n 0, 1) := by decide +kernel
theorem dX10_copy_55 : decode cX10_copy 55 = .ok (.getfield 68, 3) := by decide +kernel
theorem dX10_copy_58 : decode cX10_copy 58 = .ok (.getfield 162, 3) := by decide +kernel
theorem dX10_copy_61 : decode cX10_copy 61 = .ok (.iload 4, 2) := by decide +kernel
theorem dX10_copy_63 : decode cX10_copy 63 = .ok (.iaload, 1) := by decide +kernel
theorem dX10_copy_64 : decode cX10_copy 64 = .ok (.i2l, 1) := by decide +kernel
theorem dX10_copy_65 : decode cX10_copy 65 = .ok (.invokevirtual 386, 3) := by decide +kernel
theorem dX10_copy_68 : decode cX10_copy 68 = .ok (.pop2, 1) := by decide +kernel
theorem dX10_copy_69 : decode cX10_copy 69 = .ok (.iinc 4 1, 3) := by decide +kernel
theorem dX10_copy_72 : decode cX10_copy 72 = .ok (.goto (-27), 3) := by decide +kernel
theorem dX10_copy_75 : decode cX10_copy 75 = .ok (.iload_n 3, 1) := by decide +kernel
theorem dX10_copy_76 : decode cX10_copy 76 = .ok (.ireturn, 1) := by decide +kernel
theorem dX10_image_0 : decode cX10_image 0 = .ok (.iload_n 1, 1) := by decide +kernel
theorem dX10_image_1 : decode cX10_image 1 = .ok (.invokestatic 390, 3) := by decide +kernel
theorem dX10_image_4 : decode cX10_image 4 = .ok (.ifCond .ne 6, 3) := by decide +kernel
theorem dX10_image_7 : decode cX10_image 7 = .ok (.bipush (-2), 2) := by decide +kernel
theorem dX10_image_9 : decode cX10_image 9 = .ok (.ireturn, 1) := by decide +kernel
theorem dX10_image_10 : decode cX10_image 10 = .ok (.aload_n 0, 1) := by decide +kernel
theorem dX10_image_11 : decode cX10_image 11 = .ok (.getfield 56, 3) := by decide +kernel
theorem dX10_image_14 : decode cX10_image 14 = .ok (.iload_n 1, 1) := by decide +kernel
theorem dX10_image_15 : decode cX10_image 15 = .ok (.aaload, 1) := by decide +kernel
theorem dX10_image_16 : decode cX10_image 16 = .ok (.getfield 393, 3) := by decide +kernel
theorem dX10_image_19 : decode cX10_image 19 = .ok (.aload_n 0, 1) := by decide +kernel
theorem dX10_image_20 : decode cX10_image 20 = .ok (.getfield 65, 3) := by decide +kernel
theorem dX10_image_23 : decode cX10_image 23 = .ok (.invokevirtual 101, 3) := by decide +kernel
theorem dX10_image_26 : decode cX10_image 26 = .ok (.aload_n 0, 1) := by decide +kernel
theorem dX10_image_27 : decode cX10_image 27 = .ok (.getfield 56, 3) := by decide +kernel
theorem dX10_image_30 : decode cX10_image 30 = .ok (.iload_n 1, 1) := by decide +kernel
theorem dX10_image_31 : decode cX10_image 31 = .ok (.aaload, 1) := by decide +kernel
theorem dX10_image_32 : decode cX10_image 32 = .ok (.getfield 394, 3) := by decide +kernel
theorem dX10_image_35 : decode cX10_image 35 = .ok (.aload_n 0, 1) := by decide +kernel
theorem dX10_image_36 : decode cX10_image 36 = .ok (.getfield 68, 3) := by decide +kernel
theorem dX10_image_39 : decode cX10_image 39 = .ok (.invokevirtual 395, 3) := by decide +kernel
theorem dX10_image_42 : decode cX10_image 42 = .ok (.aload_n 0, 1) := by decide +kernel
theorem dX10_image_43 : decode cX10_image 43 = .ok (.getfield 56, 3) := by decide +kernel
theorem dX10_image_46 : decode cX10_image 46 = .ok (.iload_n 1, 1) := by decide +kernel
theorem dX10_image_47 : decode cX10_image 47 = .ok (.aaload, 1) := by decide +kernel
theorem dX10_image_48 : decode cX10_image 48 = .ok (.iconst 1, 1) := by decide +kernel
theorem dX10_image_49 : decode cX10_image 49 = .ok (.putfield 398, 3) := by decide +kernel
theorem dX10_image_52 : decode cX10_image 52 = .ok (.iconst 0, 1) := by decide +kernel
theorem dX10_image_53 : decode cX10_image 53 = .ok (.ireturn, 1) := by decide +kernel
theorem dX10_restore_0 : decode cX10_restore 0 = .ok (.iload_n 1, 1) := by decide +kernel
theorem dX10_restore_1 : decode cX10_restore 1 = .ok (.invokestatic 390, 3) := by decide +kernel
theorem dX10_restore_4 : decode cX10_restore 4 = .ok (.ifCond .ne 6, 3) := by decide +kernel
theorem dX10_restore_7 : decode cX10_restore 7 = .ok (.bipush (-2), 2) := by decide +kernel
theorem dX10_restore_9 : decode cX10_restore 9 = .ok (.ireturn, 1) := by decide +kernel
theorem dX10_restore_10 : decode cX10_restore 10 = .ok (.aload_n 0, 1) := by decide +kernel
theorem dX10_restore_11 : decode cX10_restore 11 = .ok (.getfield 56, 3) := by decide +kernel
theorem dX10_restore_14 : decode cX10_restore 14 = .ok (.iload_n 1, 1) := by decide +kernel
theorem dX10_restore_15 : decode cX10_restore 15 = .ok (.aaload, 1) := by decide +kernel
theorem dX10_restore_16 : decode cX10_restore 16 = .ok (.getfield 398, 3) := by decide +kernel
theorem dX10_restore_19 : decode cX10_restore 19 = .ok (.ifCond .ne 6, 3) := by decide +kernel
theorem dX10_restore_22 : decode cX10_restore 22 = .ok (.bipush (-5), 2) := by decide +kernel
theorem dX10_restore_24 : decode cX10_restore 24 = .ok (.ireturn, 1) := by decide +kernel
theorem dX10_restore_25 : decode cX10_restore 25 = .ok (.aload_n 0, 1) := by decide +kernel
theorem dX10_restore_26 : decode cX10_restore 26 = .ok (.getfield 65, 3) := by decide +kernel
theorem dX10_restore_29 : decode cX10_restore 29 = .ok (.aload_n 0, 1) := by decide +kernel
theorem dX10_restore_30 : decode cX10_restore 30 = .ok (.getfield 56, 3) := by decide +kernel
theorem dX10_restore_33 : decode cX10_restore 33 = .ok (.iload_n 1, 1) := by decide +kernel
theorem dX10_restore_34 : decode cX10_restore 34 = .ok (.aaload, 1) := by decide +kernel
theorem dX10_restore_35 : decode cX10_restore 35 = .ok (.getfield 393, 3) := by decide +kernel
theorem dX10_restore_38 : decode cX10_restore 38 = .ok (.invokevirtual 101, 3) := by decide +kernel
theorem dX10_restore_41 : decode cX10_restore 41 = .ok (.aload_n 0, 1) := by decide +kernel
theorem dX10_restore_42 : decode cX10_restore 42 = .ok (.getfield 68, 3) := by decide +kernel
theorem dX10_restore_45 : decode cX10_restore 45 = .ok (.aload_n 0, 1) := by decide +kernel
theorem dX10_restore_46 : decode cX10_restore 46 = .ok (.getfield 56, 3) := by decide +kernel
theorem dX10_restore_49 : decode cX10_restore 49 = .ok (.iload_n 1, 1) := by decide +kernel
theorem dX10_restore_50 : decode cX10_restore 50 = .ok (.aaload, 1) := by decide +kernel
theorem dX10_restore_51 : decode cX10_restore 51 = .ok (.getfield 394, 3) := by decide +kernel
theorem dX10_restore_54 : decode cX10_restore 54 = .ok (.invokevirtual 395, 3) := by decide +kernel
theorem dX10_restore_57 : decode cX10_restore 57 = .ok (.iconst 0, 1) := by decide +kernel
theorem dX10_restore_58 : decode cX10_restore 58 = .ok (.ireturn, 1) := by decide +kernel
theorem dX10_count_0 : decode cX10_count 0 = .ok (.iload_n 1, 1) := by decide +kernel
theorem dX10_count_1 : decode cX10_count 1 = .ok (.tableswitch 172 0 11 #[63, 71, 79, 87, 95, 103, 111, 119, 135, 140, 148, 156], 63) := by decide +kernel
theorem dX10_count_64 : decode cX10_count 64 = .ok (.aload_n 0, 1) := by decide +kernel
theorem dX10_count_65 : decode cX10_count 65 = .ok (.getfield 65, 3) := by decide +kernel
theorem dX10_count_68 : decode cX10_count 68 = .ok (.getfield 220, 3) := by decide +kernel
theorem dX10_count_71 : decode cX10_count 71 = .ok (.ireturn, 1) := by decide +kernel
theorem dX10_count_72 : decode cX10_count 72 = .ok (.aload_n 0, 1) := by decide +kernel
theorem dX10_count_73 : decode cX10_count 73 = .ok (.getfield 68, 3) := by decide +kernel
theorem dX10_count_76 : decode cX10_count 76 = .ok (.getfield 154, 3) := by decide +kernel
theorem dX10_count_79 : decode cX10_count 79 = .ok (.ireturn, 1) := by decide +kernel
theorem dX10_count_80 : decode cX10_count 80 = .ok (.aload_n 0, 1) := by decide +kernel
theorem dX10_count_81 : decode cX10_count 81 = .ok (.getfield 65, 3) := by decide +kernel
theorem dX10_count_84 : decode cX10_count 84 = .ok (.getfield 296, 3) := by decide +kernel
theorem dX10_count_87 : decode cX10_count 87 = .ok (.ireturn, 1) := by decide +kernel
theorem dX10_count_88 : decode cX10_count 88 = .ok (.aload_n 0, 1) := by decide +kernel
theorem dX10_count_89 : decode cX10_count 89 = .ok (.getfield 65, 3) := by decide +kernel
theorem dX10_count_92 : decode cX10_count 92 = .ok (.getfield 299, 3) := by decide +kernel
theorem dX10_count_95 : decode cX10_count 95 = .ok (.ireturn, 1) := by decide +kernel
theorem dX10_count_96 : decode cX10_count 96 = .ok (.aload_n 0, 1) := by decide +kernel
theorem dX10_count_97 : decode cX10_count 97 = .ok (.getfield 65, 3) := by decide +kernel
theorem dX10_count_100 : decode cX10_count 100 = .ok (.getfield 353, 3) := by decide +kernel
theorem dX10_count_103 : decode cX10_count 103 = .ok (.ireturn, 1) := by decide +kernel
theorem dX10_count_104 : decode cX10_count 104 = .ok (.aload_n 0, 1) := by decide +kernel
theorem dX10_count_105 : decode cX10_count 105 = .ok (.getfield 65, 3) := by decide +kernel
theorem dX10_count_108 : decode cX10_count 108 = .ok (.getfield 350, 3) := by decide +kernel
theorem dX10_count_111 : decode cX10_count 111 = .ok (.ireturn, 1) := by decide +kernel
theorem dX10_count_112 : decode cX10_count 112 = .ok (.aload_n 0, 1) := by decide +kernel
theorem dX10_count_113 : decode cX10_count 113 = .ok (.getfield 65, 3) := by decide +kernel
theorem dX10_count_116 : decode cX10_count 116 = .ok (.getfield 148, 3) := by decide +kernel
theorem dX10_count_119 : decode cX10_count 119 = .ok (.ireturn, 1) := by decide +kernel
theorem dX10_count_120 : decode cX10_count 120 = .ok (.aload_n 0, 1) := by decide +kernel
theorem dX10_count_121 : decode cX10_count 121 = .ok (.getfield 65, 3) := by decide +kernel
theorem dX10_count_124 : decode cX10_count 124 = .ok (.getfield 168, 3) := by decide +kernel
theorem dX10_count_127 : decode cX10_count 127 = .ok (.ifCond .eq 7, 3) := by decide +kernel
theorem dX10_count_130 : decode cX10_count 130 = .ok (.iconst 1, 1) := by decide +kernel
theorem dX10_count_131 : decode cX10_count 131 = .ok (.goto 4, 3) := by decide +kernel
theorem dX10_count_134 : decode cX10_count 134 = .ok (.iconst 0, 1) := by decide +kernel
theorem dX10_count_135 : decode cX10_count 135 = .ok (.ireturn, 1) := by decide +kernel
theorem dX10_count_136 : decode cX10_count 136 = .ok (.aload_n 0, 1) := by decide +kernel
theorem dX10_count_137 : decode cX10_count 137 = .ok (.getfield 86, 3) := by decide +kernel
theorem dX10_count_140 : decode cX10_count 140 = .ok (.ireturn, 1) := by decide +kernel
theorem dX10_count_141 : decode cX10_count 141 = .ok (.aload_n 0, 1) := by decide +kernel
theorem dX10_count_142 : decode cX10_count 142 = .ok (.getfield 65, 3) := by decide +kernel
theorem dX10_count_145 : decode cX10_count 145 = .ok (.getfield 108, 3) := by decide +kernel
theorem dX10_count_148 : decode cX10_count 148 = .ok (.ireturn, 1) := by decide +kernel
theorem dX10_count_149 : decode cX10_count 149 = .ok (.aload_n 0, 1) := by decide +kernel
theorem dX10_count_150 : decode cX10_count 150 = .ok (.getfield 68, 3) := by decide +kernel
theorem dX10_count_153 : decode cX10_count 153 = .ok (.invokevirtual 401, 3) := by decide +kernel
theorem dX10_count_156 : decode cX10_count 156 = .ok (.ireturn, 1) := by decide +kernel
theorem dX10_count_157 : decode cX10_count 157 = .ok (.aload_n 0, 1) := by decide +kernel
theorem dX10_count_158 : decode cX10_count 158 = .ok (.getfield 65, 3) := by decide +kernel
theorem dX10_count_161 : decode cX10_count 161 = .ok (.getfield 353, 3) := by decide +kernel
theorem dX10_count_164 : decode cX10_count 164 = .ok (.aload_n 0, 1) := by decide +kernel
theorem dX10_count_165 : decode cX10_count 165 = .ok (.getfield 68, 3) := by decide +kernel
theorem dX10_count_168 : decode cX10_count 168 = .ok (.getfield 154, 3) := by decide +kernel
theorem dX10_count_171 : decode cX10_count 171 = .ok (.imul, 1) := by decide +kernel
theorem dX10_count_172 : decode cX10_count 172 = .ok (.ireturn, 1) := by decide +kernel
theorem dX10_count_173 : decode cX10_count 173 = .ok (.iconst (-1), 1) := by decide +kernel
theorem dX10_count_174 : decode cX10_count 174 = .ok (.ireturn, 1) := by decide +kernel
theorem dX11_within_0 : decode cX11_within 0 = .ok (.lload_n 0, 1) := by decide +kernel
theorem dX11_within_1 : decode cX11_within 1 = .ok (.lload_n 2, 1) := by decide +kernel
theorem dX11_within_2 : decode cX11_within 2 = .ok (.lcmp, 1) := by decide +kernel
theorem dX11_within_3 : decode cX11_within 3 = .ok (.ifCond .lt 14, 3) := by decide +kernel
theorem dX11_within_6 : decode cX11_within 6 = .ok (.lload_n 0, 1) := by decide +kernel
theorem dX11_within_7 : decode cX11_within 7 = .ok (.lload 4, 2) := by decide +kernel
theorem dX11_within_9 : decode cX11_within 9 = .ok (.lcmp, 1) := by decide +kernel
theorem dX11_within_10 : decode cX11_within 10 = .ok (.ifCond .gt 7, 3) := by decide +kernel
theorem dX11_within_13 : decode cX11_within 13 = .ok (.iconst 1, 1) := by decide +kernel
theorem dX11_within_14 : decode cX11_within 14 = .ok (.goto 4, 3) := by decide +kernel
theorem dX11_within_17 : decode cX11_within 17 = .ok (.iconst 0, 1) := by decide +kernel
theorem dX11_within_18 : decode cX11_within 18 = .ok (.ireturn, 1) := by decide +kernel
theorem dX11_init_0 : decode cX11_init 0 = .ok (.aload_n 0, 1) := by decide +kernel
theorem dX11_init_1 : decode cX11_init 1 = .ok (.invokespecial 7, 3) := by decide +kernel
theorem dX11_init_4 : decode cX11_init 4 = .ok (.aload_n 0, 1) := by decide +kernel
theorem dX11_init_5 : decode cX11_init 5 = .ok (.sipush 330, 3) := by decide +kernel
theorem dX11_init_8 : decode cX11_init 8 = .ok (.newarray .int, 2) := by decide +kernel
theorem dX11_init_10 : decode cX11_init 10 = .ok (.putfield 13, 3) := by decide +kernel
theorem dX11_init_13 : decode cX11_init 13 = .ok (.aload_n 0, 1) := by decide +kernel
theorem dX11_init_14 : decode cX11_init 14 = .ok (.iconst 2, 1) := by decide +kernel
theorem dX11_init_15 : decode cX11_init 15 = .ok (.newarray .boolean, 2) := by decide +kernel
theorem dX11_init_17 : decode cX11_init 17 = .ok (.putfield 17, 3) := by decide +kernel
theorem dX11_init_20 : decode cX11_init 20 = .ok (.aload_n 0, 1) := by decide +kernel
theorem dX11_init_21 : decode cX11_init 21 = .ok (.sipush 700, 3) := by decide +kernel
theorem dX11_init_24 : decode cX11_init 24 = .ok (.newarray .int, 2) := by decide +kernel
theorem dX11_init_26 : decode cX11_init 26 = .ok (.putfield 21, 3) := by decide +kernel
theorem dX11_init_29 : decode cX11_init 29 = .ok (.aload_n 0, 1) := by decide +kernel
theorem dX11_init_30 : decode cX11_init 30 = .ok (.bipush 110, 2) := by decide +kernel
theorem dX11_init_32 : decode cX11_init 32 = .ok (.newarray .int, 2) := by decide +kernel
theorem dX11_init_34 : decode cX11_init 34 = .ok (.putfield 24, 3) := by decide +kernel
theorem dX11_init_37 : decode cX11_init 37 = .ok (.aload_n 0, 1) := by decide +kernel
theorem dX11_init_38 : decode cX11_init 38 = .ok (.iconst (-1), 1) := by decide +kernel
theorem dX11_init_39 : decode cX11_init 39 = .ok (.putfield 27, 3) := by decide +kernel
theorem dX11_init_42 : decode cX11_init 42 = .ok (.aload_n 0, 1) := by decide +kernel
theorem dX11_init_43 : decode cX11_init 43 = .ok (.bipush 110, 2) := by decide +kernel
theorem dX11_init_45 : decode cX11_init 45 = .ok (.newarray .int, 2) := by decide +kernel
theorem dX11_init_47 : decode cX11_init 47 = .ok (.putfield 30, 3) := by decide +kernel
theorem dX11_init_50 : decode cX11_init 50 = .ok (.aload_n 0, 1) := by decide +kernel
theorem dX11_init_51 : decode cX11_init 51 = .ok (.sipush 200, 3) := by decide +kernel
theorem dX11_init_54 : decode cX11_init 54 = .ok (.newarray .long, 2) := by decide +kernel
theorem dX11_init_56 : decode cX11_init 56 = .ok (.putfield 33, 3) := by decide +kernel
theorem dX11_init_59 : decode cX11_init 59 = .ok (.aload_n 0, 1) := by decide +kernel
theorem dX11_init_60 : decode cX11_init 60 = .ok (.sipush 200, 3) := by decide +kernel
theorem dX11_init_63 : decode cX11_init 63 = .ok (.newarray .int, 2) := by decide +kernel
theorem dX11_init_65 : decode cX11_init 65 = .ok (.putfield 37, 3) := by decide +kernel
theorem dX11_init_68 : decode cX11_init 68 = .ok (.aload_n 0, 1) := by decide +kernel
theorem dX11_init_69 : decode cX11_init 69 = .ok (.iconst 3, 1) := by decide +kernel
theorem dX11_init_70 : decode cX11_init 70 = .ok (.newarray .int, 2) := by decide +kernel
theorem dX11_init_72 : decode cX11_init 72 = .ok (.putfield 40, 3) := by decide +kernel
theorem dX11_init_75 : decode cX11_init 75 = .ok (.aload_n 0, 1) := by decide +kernel
theorem dX11_init_76 : decode cX11_init 76 = .ok (.bipush 9, 2) := by decide +kernel
theorem dX11_init_78 : decode cX11_init 78 = .ok (.newarray .int, 2) := by decide +kernel
theorem dX11_init_80 : decode cX11_init 80 = .ok (.putfield 43, 3) := by decide +kernel
theorem dX11_init_83 : decode cX11_init 83 = .ok (.aload_n 0, 1) := by decide +kernel
theorem dX11_init_84 : decode cX11_init 84 = .ok (.sipush 321, 3) := by decide +kernel
theorem dX11_init_87 : decode cX11_init 87 = .ok (.newarray .long, 2) := by decide +kernel
theorem dX11_init_89 : decode cX11_init 89 = .ok (.putfield 46, 3) := by decide +kernel
theorem dX11_init_92 : decode cX11_init 92 = .ok (.aload_n 0, 1) := by decide +kernel
theorem dX11_init_93 : decode cX11_init 93 = .ok (.sipush 321, 3) := by decide +kernel
theorem dX11_init_96 : decode cX11_init 96 = .ok (.newarray .long, 2) := by decide +kernel
theorem dX11_init_98 : decode cX11_init 98 = .ok (.putfield 49, 3) := by decide +kernel
theorem dX11_init_101 : decode cX11_init 101 = .ok (.aload_n 0, 1) := by decide +kernel
theorem dX11_init_102 : decode cX11_init 102 = .ok (.iconst 4, 1) := by decide +kernel
theorem dX11_init_103 : decode cX11_init 103 = .ok (.newarray .int, 2) := by decide +kernel
theorem dX11_init_105 : decode cX11_init 105 = .ok (.dup, 1) := by decide +kernel
theorem dX11_init_106 : decode cX11_init 106 = .ok (.iconst 0, 1) := by decide +kernel
theorem dX11_init_107 : decode cX11_init 107 = .ok (.iconst (-1), 1) := by decide +kernel
theorem dX11_init_108 : decode cX11_init 108 = .ok (.iastore, 1) := by decide +kernel
theorem dX11_init_109 : decode cX11_init 109 = .ok (.dup, 1) := by decide +kernel
theorem dX11_init_110 : decode cX11_init 110 = .ok (.iconst 1, 1) := by decide +kernel
theorem dX11_init_111 : decode cX11_init 111 = .ok (.iconst (-1), 1) := by decide +kernel
theorem dX11_init_112 : decode cX11_init 112 = .ok (.iastore, 1) := by decide +kernel
theorem dX11_init_113 : decode cX11_init 113 = .ok (.dup, 1) := by decide +kernel
theorem dX11_init_114 : decode cX11_init 114 = .ok (.iconst 2, 1) := by decide +kernel
theorem dX11_init_115 : decode cX11_init 115 = .ok (.iconst (-1), 1) := by decide +kernel
theorem dX11_init_116 : decode cX11_init 116 = .ok (.iastore, 1) := by decide +kernel
theorem dX11_init_117 : decode cX11_init 117 = .ok (.dup, 1) := by decide +kernel
theorem dX11_init_118 : decode cX11_init 118 = .ok (.iconst 3, 1) := by decide +kernel
theorem dX11_init_119 : decode cX11_init 119 = .ok (.iconst (-1), 1) := by decide +kernel
theorem dX11_init_120 : decode cX11_init 120 = .ok (.iastore, 1) := by decide +kernel
theorem dX11_init_121 : decode cX11_init 121 = .ok (.putfield 52, 3) := by decide +kernel
theorem dX11_init_124 : decode cX11_init 124 = .ok (.aload_n 0, 1) := by decide +kernel
theorem dX11_init_125 : decode cX11_init 125 = .ok (.iconst 4, 1) := by decide +kernel
theorem dX11_init_126 : decode cX11_init 126 = .ok (.newarray .int, 2) := by decide +kernel
theorem dX11_init_128 : decode cX11_init 128 = .ok (.putfield 55, 3) := by decide +kernel
theorem dX11_init_131 : decode cX11_init 131 = .ok (.aload_n 0, 1) := by decide +kernel
theorem dX11_init_132 : decode cX11_init 132 = .ok (.sipush 160, 3) := by decide +kernel
theorem dX11_init_135 : decode cX11_init 135 = .ok (.newarray .long, 2) := by decide +kernel
theorem dX11_init_137 : decode cX11_init 137 = .ok (.putfield 58, 3) := by decide +kernel
theorem dX11_init_140 : decode cX11_init 140 = .ok (.aload_n 0, 1) := by decide +kernel
theorem dX11_init_141 : decode cX11_init 141 = .ok (.getfield 13, 3) := by decide +kernel
theorem dX11_init_144 : decode cX11_init 144 = .ok (.invokestatic 61, 3) := by decide +kernel
theorem dX11_init_147 : decode cX11_init 147 = .ok (.return_, 1) := by decide +kernel
theorem dX11_plain_0 : decode cX11_plain 0 = .ok (.iconst 0, 1) := by decide +kernel
theorem dX11_plain_1 : decode cX11_plain 1 = .ok (.istore_n 1, 1) := by decide +kernel
theorem dX11_plain_2 : decode cX11_plain 2 = .ok (.iload_n 1, 1) := by decide +kernel
theorem dX11_plain_3 : decode cX11_plain 3 = .ok (.bipush 110, 2) := by decide +kernel
theorem dX11_plain_5 : decode cX11_plain 5 = .ok (.if_icmp .ge 13, 3) := by decide +kernel
theorem dX11_plain_8 : decode cX11_plain 8 = .ok (.aload_n 0, 1) := by decide +kernel
theorem dX11_plain_9 : decode cX11_plain 9 = .ok (.iload_n 1, 1) := by decide +kernel
theorem dX11_plain_10 : decode cX11_plain 10 = .ok (.iconst 0, 1) := by decide +kernel
theorem dX11_plain_11 : decode cX11_plain 11 = .ok (.iastore, 1) := by decide +kernel
theorem dX11_plain_12 : decode cX11_plain 12 = .ok (.iinc 1 1, 3) := by decide +kernel
theorem dX11_plain_15 : decode cX11_plain 15 = .ok (.goto (-13), 3) := by decide +kernel
theorem dX11_plain_18 : decode cX11_plain 18 = .ok (.aload_n 0, 1) := by decide +kernel
theorem dX11_plain_19 : decode cX11_plain 19 = .ok (.iconst 2, 1) := by decide +kernel
theorem dX11_plain_20 : decode cX11_plain 20 = .ok (.iconst 1, 1) := by decide +kernel
theorem dX11_plain_21 : decode cX11_plain 21 = .ok (.iastore, 1) := by decide +kernel
theorem dX11_plain_22 : decode cX11_plain 22 = .ok (.aload_n 0, 1) := by decide +kernel
theorem dX11_plain_23 : decode cX11_plain 23 = .ok (.iconst 3, 1) := by decide +kernel
theorem dX11_plain_24 : decode cX11_plain 24 = .ok (.bipush 100, 2) := by decide +kernel
theorem dX11_plain_26 : decode cX11_plain 26 = .ok (.iastore, 1) := by decide +kernel
theorem dX11_plain_27 : decode cX11_plain 27 = .ok (.aload_n 0, 1) := by decide +kernel
theorem dX11_plain_28 : decode cX11_plain 28 = .ok (.iconst 4, 1) := by decide +kernel
theorem dX11_plain_29 : decode cX11_plain 29 = .ok (.bipush 10, 2) := by decide +kernel
theorem dX11_plain_31 : decode cX11_plain 31 = .ok (.iastore, 1) := by decide +kernel
theorem dX11_plain_32 : decode cX11_plain 32 = .ok (.aload_n 0, 1) := by decide +kernel
theorem dX11_plain_33 : decode cX11_plain 33 = .ok (.iconst 5, 1) := by decide +kernel
theorem dX11_plain_34 : decode cX11_plain 34 = .ok (.bipush 100, 2) := by decide +kernel
theorem dX11_plain_36 : decode cX11_plain 36 = .ok (.iastore, 1) := by decide +kernel
theorem dX11_plain_37 : decode cX11_plain 37 = .ok (.aload_n 0, 1) := by decide +kernel
theorem dX11_plain_38 : decode cX11_plain 38 = .ok (.bipush 10, 2) := by decide +kernel
theorem dX11_plain_40 : decode cX11_plain 40 = .ok (.iconst (-1), 1) := by decide +kernel
theorem dX11_plain_41 : decode cX11_plain 41 = .ok (.iastore, 1) := by decide +kernel
theorem dX11_plain_42 : decode cX11_plain 42 = .ok (.return_, 1) := by decide +kernel
theorem dX11_feed_0 : decode cX11_feed 0 = .ok (.aload_n 0, 1) := by decide +kernel
theorem dX11_feed_1 : decode cX11_feed 1 = .ok (.iconst 0, 1) := by decide +kernel
theorem dX11_feed_2 : decode cX11_feed 2 = .ok (.putfield 1, 3) := by decide +kernel
theorem dX11_feed_5 : decode cX11_feed 5 = .ok (.aload_n 0, 1) := by decide +kernel
theorem dX11_feed_6 : decode cX11_feed 6 = .ok (.getfield 65, 3) := by decide +kernel
theorem dX11_feed_9 : decode cX11_feed 9 = .ok (.bipush 20, 2) := by decide +kernel
theorem dX11_feed_11 : decode cX11_feed 11 = .ok (.iadd, 1) := by decide +kernel
theorem dX11_feed_12 : decode cX11_feed 12 = .ok (.sipush 700, 3) := by decide +kernel
theorem dX11_feed_15 : decode cX11_feed 15 = .ok (.if_icmp .le 6, 3) := by decide +kernel
theorem dX11_feed_18 : decode cX11_feed 18 = .ok (.bipush (-5), 2) := by decide +kernel
theorem dX11_feed_20 : decode cX11_feed 20 = .ok (.ireturn, 1) := by decide +kernel
theorem dX11_feed_21 : decode cX11_feed 21 = .ok (.iconst 0, 1) := by decide +kernel
theorem dX11_feed_22 : decode cX11_feed 22 = .ok (.istore 6, 2) := by decide +kernel
theorem dX11_feed_24 : decode cX11_feed 24 = .ok (.iload 6, 2) := by decide +kernel
theorem dX11_feed_26 : decode cX11_feed 26 = .ok (.bipush 20, 2) := by decide +kernel
theorem dX11_feed_28 : decode cX11_feed 28 = .ok (.if_icmp .ge 93, 3) := by decide +kernel
theorem dX11_feed_31 : decode cX11_feed 31 = .ok (.iload 6, 2) := by decide +kernel
theorem dX11_feed_33 : decode cX11_feed 33 = .ok (.iconst 4, 1) := by decide +kernel
theorem dX11_feed_34 : decode cX11_feed 34 = .ok (.if_icmp .ge 7, 3) := by decide +kernel
theorem dX11_feed_37 : decode cX11_feed 37 = .ok (.iload_n 1, 1) := by decide +kernel
theorem dX11_feed_38 : decode cX11_feed 38 = .ok (.goto 39, 3) := by decide +kernel
theorem dX11_feed_41 : decode cX11_feed 41 = .ok (.iload 6, 2) := by decide +kernel
theorem dX11_feed_43 : decode cX11_feed 43 = .ok (.bipush 8, 2) := by decide +kernel
theorem dX11_feed_45 : decode cX11_feed 45 = .ok (.if_icmp .ge 7, 3) := by decide +kernel
theorem dX11_feed_48 : decode cX11_feed 48 = .ok (.iload_n 2, 1) := by decide +kernel
theorem dX11_feed_49 : decode cX11_feed 49 = .ok (.goto 28, 3) := by decide +kernel
theorem dX11_feed_52 : decode cX11_feed 52 = .ok (.iload 6, 2) := by decide +kernel
theorem dX11_feed_54 : decode cX11_feed 54 = .ok (.bipush 12, 2) := by decide +kernel
theorem dX11_feed_56 : decode cX11_feed 56 = .ok (.if_icmp .ge 7, 3) := by decide +kernel
theorem dX11_feed_59 : decode cX11_feed 59 = .ok (.iload_n 3, 1) := by decide +kernel
theorem dX11_feed_60 : decode cX11_feed 60 = .ok (.goto 17, 3) := by decide +kernel
theorem dX11_feed_63 : decode cX11_feed 63 = .ok (.iload 6, 2) := by decide +kernel
theorem dX11_feed_65 : decode cX11_feed 65 = .ok (.bipush 16, 2) := by decide +kernel
theorem dX11_feed_67 : decode cX11_feed 67 = .ok (.if_icmp .ge 8, 3) := by decide +kernel
theorem dX11_feed_70 : decode cX11_feed 70 = .ok (.iload 4, 2) := by decide +kernel
theorem dX11_feed_72 : decode cX11_feed 72 = .ok (.goto 5, 3) := by decide +kernel
theorem dX11_feed_75 : decode cX11_feed 75 = .ok (.iload 5, 2) := by decide +kernel
theorem dX11_feed_77 : decode cX11_feed 77 = .ok (.istore 7, 2) := by decide +kernel
theorem dX11_feed_79 : decode cX11_feed 79 = .ok (.aload_n 0, 1) := by decide +kernel
theorem dX11_feed_80 : decode cX11_feed 80 = .ok (.getfield 21, 3) := by decide +kernel
theorem dX11_feed_83 : decode cX11_feed 83 = .ok (.aload_n 0, 1) := by decide +kernel
theorem dX11_feed_84 : decode cX11_feed 84 = .ok (.getfield 65, 3) := by decide +kernel
theorem dX11_feed_87 : decode cX11_feed 87 = .ok (.iload 7, 2) := by decide +kernel
theorem dX11_feed_89 : decode cX11_feed 89 = .ok (.bipush 24, 2) := by decide +kernel
theorem dX11_feed_91 : decode cX11_feed 91 = .ok (.bipush 8, 2) := by decide +kernel
theorem dX11_feed_93 : decode cX11_feed 93 = .ok (.iload 6, 2) := by decide +kernel
theorem dX11_feed_95 : decode cX11_feed 95 = .ok (.iconst 4, 1) := by decide +kernel
theorem dX11_feed_96 : decode cX11_feed 96 = .ok (.irem, 1) := by decide +kernel
theorem dX11_feed_97 : decode cX11_feed 97 = .ok (.imul, 1) := by decide +kernel
theorem dX11_feed_98 : decode cX11_feed 98 = .ok (.isub, 1) := by decide +kernel
theorem dX11_feed_99 : decode cX11_feed 99 = .ok (.ishr, 1) := by decide +kernel
theorem dX11_feed_100 : decode cX11_feed 100 = .ok (.sipush 255, 3) := by decide +kernel
theorem dX11_feed_103 : decode cX11_feed 103 = .ok (.iand, 1) := by decide +kernel
theorem dX11_feed_104 : decode cX11_feed 104 = .ok (.iastore, 1) := by decide +kernel
theorem dX11_feed_105 : decode cX11_feed 105 = .ok (.aload_n 0, 1) := by decide +kernel
theorem dX11_feed_106 : decode cX11_feed 106 = .ok (.dup, 1) := by decide +kernel
theorem dX11_feed_107 : decode cX11_feed 107 = .ok (.getfield 65, 3) := by decide +kernel
theorem dX11_feed_110 : decode cX11_feed 110 = .ok (.iconst 1, 1) := by decide +kernel
theorem dX11_feed_111 : decode cX11_feed 111 = .ok (.iadd, 1) := by decide +kernel
theorem dX11_feed_112 : decode cX11_feed 112 = .ok (.putfield 65, 3) := by decide +kernel
theorem dX11_feed_115 : decode cX11_feed 115 = .ok (.iinc 6 1, 3) := by decide +kernel
theorem dX11_feed_118 : decode cX11_feed 118 = .ok (.goto (-94), 3) := by decide +kernel
theorem dX11_feed_121 : decode cX11_feed 121 = .ok (.aload_n 0, 1) := by decide +kernel
theorem dX11_feed_122 : decode cX11_feed 122 = .ok (.getfield 65, 3) := by decide +kernel
theorem dX11_feed_125 : decode cX11_feed 125 = .ok (.ireturn, 1) := by decide +kernel
theorem dX11_see_0 : decode cX11_see 0 = .ok (.iload_n 1, 1) := by decide +kernel
theorem dX11_see_1 : decode cX11_see 1 = .ok (.aload_n 0, 1) := by decide +kernel
theorem dX11_see_2 : decode cX11_see 2 = .ok (.getfield 68, 3) := by decide +kernel
theorem dX11_see_5 : decode cX11_see 5 = .ok (.if_icmp .ge 12, 3) := by decide +kernel
theorem dX11_see_8 : decode cX11_see 8 = .ok (.aload_n 0, 1) := by decide +kernel
theorem dX11_see_9 : decode cX11_see 9 = .ok (.getfield 21, 3) := by decide +kernel
theorem dX11_see_12 : decode cX11_see 12 = .ok (.iload_n 1, 1) := by decide +kernel
theorem dX11_see_13 : decode cX11_see 13 = .ok (.iaload, 1) := by decide +kernel
theorem dX11_see_14 : decode cX11_see 14 = .ok (.goto 4, 3) := by decide +kernel
theorem dX11_see_17 : decode cX11_see 17 = .ok (.iconst (-1), 1) := by decide +kernel
theorem dX11_see_18 : decode cX11_see 18 = .ok (.ireturn, 1) := by decide +kernel
theorem dX11_isSmall_0 : decode cX11_isSmall 0 = .ok (.iload_n 0, 1) := by decide +kernel
theorem dX11_isSmall_1 : decode cX11_isSmall 1 = .ok (.bipush 97, 2) := by decide +kernel
theorem dX11_isSmall_3 : decode cX11_isSmall 3 = .ok (.if_icmp .lt 13, 3) := by decide +kernel
theorem dX11_isSmall_6 : decode cX11_isSmall 6 = .ok (.iload_n 0, 1) := by decide +kernel
theorem dX11_isSmall_7 : decode cX11_isSmall 7 = .ok (.bipush 122, 2) := by decide +kernel
theorem dX11_isSmall_9 : decode cX11_isSmall 9 = .ok (.if_icmp .gt 7, 3) := by decide +kernel
theorem dX11_isSmall_12 : decode cX11_isSmall 12 = .ok (.iconst 1, 1) := by decide +kernel
theorem dX11_isSmall_13 : decode cX11_isSmall 13 = .ok (.goto 4, 3) := by decide +kernel
theorem dX11_isSmall_16 : decode cX11_isSmall 16 = .ok (.iconst 0, 1) := by decide +kernel
theorem dX11_isSmall_17 : decode cX11_isSmall 17 = .ok (.ireturn, 1) := by decide +kernel
theorem dX11_isDigit_0 : decode cX11_isDigit 0 = .ok (.iload_n 0, 1) := by decide +kernel
theorem dX11_isDigit_1 : decode cX11_isDigit 1 = .ok (.bipush 48, 2) := by decide +kernel
theorem dX11_isDigit_3 : decode cX11_isDigit 3 = .ok (.if_icmp .lt 13, 3) := by decide +kernel
theorem dX11_isDigit_6 : decode cX11_isDigit 6 = .ok (.iload_n 0, 1) := by decide +kernel
theorem dX11_isDigit_7 : decode cX11_isDigit 7 = .ok (.bipush 57, 2) := by decide +kernel
theorem dX11_isDigit_9 : decode cX11_isDigit 9 = .ok (.if_icmp .gt 7, 3) := by decide +kernel
theorem dX11_isDigit_12 : decode cX11_isDigit 12 = .ok (.iconst 1, 1) := by decide +kernel
theorem dX11_isDigit_13 : decode cX11_isDigit 13 = .ok (.goto 4, 3) := by decide +kernel
theorem dX11_isDigit_16 : decode cX11_isDigit 16 = .ok (.iconst 0, 1) := by decide +kernel
theorem dX11_isDigit_17 : decode cX11_isDigit 17 = .ok (.ireturn, 1) := by decide +kernel
theorem dX11_keyAt_0 : decode cX11_keyAt 0 = .ok (.iconst 0, 1) := by decide +kernel
theorem dX11_keyAt_1 : decode cX11_keyAt 1 = .ok (.istore_n 1, 1) := by decide +kernel
theorem dX11_keyAt_2 : decode cX11_keyAt 2 = .ok (.iconst 1, 1) := by decide +kernel
theorem dX11_keyAt_3 : decode cX11_keyAt 3 = .ok (.istore_n 2, 1) := by decide +kernel
theorem dX11_keyAt_4 : decode cX11_keyAt 4 = .ok (.iload_n 2, 1) := by decide +kernel
theorem dX11_keyAt_5 : decode cX11_keyAt 5 = .ok (.ldc 71, 2) := by decide +kernel
theorem dX11_keyAt_7 : decode cX11_keyAt 7 = .ok (.invokevirtual 73, 3) := by decide +kernel
theorem dX11_keyAt_10 : decode cX11_keyAt 10 = .ok (.if_icmp .ge 113, 3) := by decide +kernel
theorem dX11_keyAt_13 : decode cX11_keyAt 13 = .ok (.iconst 0, 1) := by decide +kernel
theorem dX11_keyAt_14 : decode cX11_keyAt 14 = .ok (.istore_n 3, 1) := by decide +kernel
theorem dX11_keyAt_15 : decode cX11_keyAt 15 = .ok (.ldc 71, 2) := by decide +kernel
theorem dX11_keyAt_17 : decode cX11_keyAt 17 = .ok (.iload_n 2, 1) := by decide +kernel
theorem dX11_keyAt_18 : decode cX11_keyAt 18 = .ok (.iload_n 3, 1) := by decide +kernel
theorem dX11_keyAt_19 : decode cX11_keyAt 19 = .ok (.iadd, 1) := by decide +kernel
theorem dX11_keyAt_20 : decode cX11_keyAt 20 = .ok (.invokevirtual 79, 3) := by decide +kernel
theorem dX11_keyAt_23 : decode cX11_keyAt 23 = .ok (.bipush 32, 2) := by decide +kernel
theorem dX11_keyAt_25 : decode cX11_keyAt 25 = .ok (.if_icmp .eq 44, 3) := by decide +kernel
theorem dX11_keyAt_28 : decode cX11_keyAt 28 = .ok (.aload_n 0, 1) := by decide +kernel
theorem dX11_keyAt_29 : decode cX11_keyAt 29 = .ok (.getfield 83, 3) := by decide +kernel
theorem dX11_keyAt_32 : decode cX11_keyAt 32 = .ok (.iload_n 3, 1) := by decide +kernel
theorem dX11_keyAt_33 : decode cX11_keyAt 33 = .ok (.iadd, 1) := by decide +kernel
theorem dX11_keyAt_34 : decode cX11_keyAt 34 = .ok (.aload_n 0, 1) := by decide +kernel
theorem dX11_keyAt_35 : decode cX11_keyAt 35 = .ok (.getfield 86, 3) := by decide +kernel
theorem dX11_keyAt_38 : decode cX11_keyAt 38 = .ok (.if_icmp .ge 31, 3) := by decide +kernel
theorem dX11_keyAt_41 : decode cX11_keyAt 41 = .ok (.aload_n 0, 1) := by decide +kernel
theorem dX11_keyAt_42 : decode cX11_keyAt 42 = .ok (.getfield 21, 3) := by decide +kernel
theorem dX11_keyAt_45 : decode cX11_keyAt 45 = .ok (.aload_n 0, 1) := by decide +kernel
theorem dX11_keyAt_46 : decode cX11_keyAt 46 = .ok (.getfield 83, 3) := by decide +kernel
theorem dX11_keyAt_49 : decode cX11_keyAt 49 = .ok (.iload_n 3, 1) := by decide +kernel
theorem dX11_keyAt_50 : decode cX11_keyAt 50 = .ok (.iadd, 1) := by decide +kernel
theorem dX11_keyAt_51 : decode cX11_keyAt 51 = .ok (.iaload, 1) := by decide +kernel
theorem dX11_keyAt_52 : decode cX11_keyAt 52 = .ok (.ldc 71, 2) := by decide +kernel
theorem dX11_keyAt_54 : decode cX11_keyAt 54 = .ok (.iload_n 2, 1) := by decide +kernel
theorem dX11_keyAt_55 : decode cX11_keyAt 55 = .ok (.iload_n 3, 1) := by decide +kernel
theorem dX11_keyAt_56 : decode cX11_keyAt 56 = .ok (.iadd, 1) := by decide +kernel
theorem dX11_keyAt_57 : decode cX11_keyAt 57 = .ok (.invokevirtual 79, 3) := by decide +kernel
theorem dX11_keyAt_60 : decode cX11_keyAt 60 = .ok (.if_icmp .ne 9, 3) := by decide +kernel
theorem dX11_keyAt_63 : decode cX11_keyAt 63 = .ok (.iinc 3 1, 3) := by decide +kernel
theorem dX11_keyAt_66 : decode cX11_keyAt 66 = .ok (.goto (-51), 3) := by decide +kernel
theorem dX11_keyAt_69 : decode cX11_keyAt 69 = .ok (.ldc 71, 2) := by decide +kernel
theorem dX11_keyAt_71 : decode cX11_keyAt 71 = .ok (.iload_n 2, 1) := by decide +kernel
theorem dX11_keyAt_72 : decode cX11_keyAt 72 = .ok (.iload_n 3, 1) := by decide +kernel
theorem dX11_keyAt_73 : decode cX11_keyAt 73 = .ok (.iadd, 1) := by decide +kernel
theorem dX11_keyAt_74 : decode cX11_keyAt 74 = .ok (.invokevirtual 79, 3) := by decide +kernel
theorem dX11_keyAt_77 : decode cX11_keyAt 77 = .ok (.bipush 32, 2) := by decide +kernel
theorem dX11_keyAt_79 : decode cX11_keyAt 79 = .ok (.if_icmp .ne 18, 3) := by decide +kernel
theorem dX11_keyAt_82 : decode cX11_keyAt 82 = .ok (.aload_n 0, 1) := by decide +kernel
theorem dX11_keyAt_83 : decode cX11_keyAt 83 = .ok (.getfield 83, 3) := by decide +kernel
theorem dX11_keyAt_86 : decode cX11_keyAt 86 = .ok (.iload_n 3, 1) := by decide +kernel
theorem dX11_keyAt_87 : decode cX11_keyAt 87 = .ok (.iadd, 1) := by decide +kernel
theorem dX11_keyAt_88 : decode cX11_keyAt 88 = .ok (.aload_n 0, 1) := by decide +kernel
theorem dX11_keyAt_89 : decode cX11_keyAt 89 = .ok (.getfield 86, 3) := by decide +kernel
theorem dX11_keyAt_92 : decode cX11_keyAt 92 = .ok (.if_icmp .ne 5, 3) := by decide +kernel
theorem dX11_keyAt_95 : decode cX11_keyAt 95 = .ok (.iload_n 1, 1) := by decide +kernel
theorem dX11_keyAt_96 : decode cX11_keyAt 96 = .ok (.ireturn, 1) := by decide +kernel
theorem dX11_keyAt_97 : decode cX11_keyAt 97 = .ok (.ldc 71, 2) := by decide +kernel
theorem dX11_keyAt_99 : decode cX11_keyAt 99 = .ok (.iload_n 2, 1) := by decide +kernel
theorem dX11_keyAt_100 : decode cX11_keyAt 100 = .ok (.invokevirtual 79, 3) := by decide +kernel
theorem dX11_keyAt_103 : decode cX11_keyAt 103 = .ok (.bipush 32, 2) := by decide +kernel
theorem dX11_keyAt_105 : decode cX11_keyAt 105 = .ok (.if_icmp .eq 9, 3) := by decide +kernel
theorem dX11_keyAt_108 : decode cX11_keyAt 108 = .ok (.iinc 2 1, 3) := by decide +kernel
theorem dX11_keyAt_111 : decode cX11_keyAt 111 = .ok (.goto (-14), 3) := by decide +kernel
theorem dX11_keyAt_114 : decode cX11_keyAt 114 = .ok (.iinc 2 1, 3) := by decide +kernel
theorem dX11_keyAt_117 : decode cX11_keyAt 117 = .ok (.iinc 1 1, 3) := by decide +kernel
theorem dX11_keyAt_120 : decode cX11_keyAt 120 = .ok (.goto (-116), 3) := by decide +kernel
theorem dX11_keyAt_123 : decode cX11_keyAt 123 = .ok (.bipush 8, 2) := by decide +kernel
theorem dX11_keyAt_125 : decode cX11_keyAt 125 = .ok (.ireturn, 1) := by decide +kernel
theorem dX11_next_0 : decode cX11_next 0 = .ok (.aload_n 0, 1) := by decide +kernel
theorem dX11_next_1 : decode cX11_next 1 = .ok (.aload_n 0, 1) := by decide +kernel
theorem dX11_next_2 : decode cX11_next 2 = .ok (.getfield 86, 3) := by decide +kernel
theorem dX11_next_5 : decode cX11_next 5 = .ok (.putfield 83, 3) := by decide +kernel
theorem dX11_next_8 : decode cX11_next 8 = .ok (.aload_n 0, 1) := by decide +kernel
theorem dX11_next_9 : decode cX11_next 9 = .ok (.aload_n 0, 1) := by decide +kernel
theorem dX11_next_10 : decode cX11_next 10 = .ok (.getfield 83, 3) := by decide +kernel
theorem dX11_next_13 : decode cX11_next 13 = .ok (.invokevirtual 89, 3) := by decide +kernel
theorem dX11_next_16 : decode cX11_next 16 = .ok (.bipush 10, 2) := by decide +kernel
theorem dX11_next_18 : decode cX11_next 18 = .ok (.if_icmp .eq 16, 3) := by decide +kernel
theorem dX11_next_21 : decode cX11_next 21 = .ok (.aload_n 0, 1) := by decide +kernel
theorem dX11_next_22 : decode cX11_next 22 = .ok (.aload_n 0, 1) := by decide +kernel
theorem dX11_next_23 : decode cX11_next 23 = .ok (.getfield 83, 3) := by decide +kernel
theorem dX11_next_26 : decode cX11_next 26 = .ok (.invokevirtual 89, 3) := by decide +kernel
theorem dX11_next_29 : decode cX11_next 29 = .ok (.bipush 32, 2) := by decide +kernel
theorem dX11_next_31 : decode cX11_next 31 = .ok (.if_icmp .ne 16, 3) := by decide +kernel
theorem dX11_next_34 : decode cX11_next 34 = .ok (.aload_n 0, 1) := by decide +kernel
theorem dX11_next_35 : decode cX11_next 35 = .ok (.dup, 1) := by decide +kernel
theorem dX11_next_36 : decode cX11_next 36 = .ok (.getfield 83, 3) := by decide +kernel
theorem dX11_next_39 : decode cX11_next 39 = .ok (.iconst 1, 1) := by decide +kernel
theorem dX11_next_40 : decode cX11_next 40 = .ok (.iadd, 1) := by decide +kernel
theorem dX11_next_41 : decode cX11_next 41 = .ok (.putfield 83, 3) := by decide +kernel
theorem dX11_next_44 : decode cX11_next 44 = .ok (.goto (-36), 3) := by decide +kernel
theorem dX11_next_47 : decode cX11_next 47 = .ok (.aload_n 0, 1) := by decide +kernel
theorem dX11_next_48 : decode cX11_next 48 = .ok (.aload_n 0, 1) := by decide +kernel
theorem dX11_next_49 : decode cX11_next 49 = .ok (.getfield 83, 3) := by decide +kernel
theorem dX11_next_52 : decode cX11_next 52 = .ok (.putfield 86, 3) := by decide +kernel
theorem dX11_next_55 : decode cX11_next 55 = .ok (.aload_n 0, 1) := by decide +kernel
theorem dX11_next_56 : decode cX11_next 56 = .ok (.getfield 83, 3) := by decide +kernel
theorem dX11_next_59 : decode cX11_next 59 = .ok (.aload_n 0, 1) := by decide +kernel
theorem dX11_next_60 : decode cX11_next 60 = .ok (.getfield 68, 3) := by decide +kernel
theorem dX11_next_63 : decode cX11_next 63 = .ok (.if_icmp .lt 12, 3) := by decide +kernel
theorem dX11_next_66 : decode cX11_next 66 = .ok (.aload_n 0, 1) := by decide +kernel
theorem dX11_next_67 : decode cX11_next 67 = .ok (.bipush 11, 2) := by decide +kernel
theorem dX11_next_69 : decode cX11_next 69 = .ok (.putfield 93, 3) := by decide +kernel
theorem dX11_next_72 : decode cX11_next 72 = .ok (.goto 198, 3) := by decide +kernel
theorem dX11_next_75 : decode cX11_next 75 = .ok (.aload_n 0, 1) := by decide +kernel
theorem dX11_next_76 : decode cX11_next 76 = .ok (.aload_n 0, 1) := by decide +kernel
theorem dX11_next_77 : decode cX11_next 77 = .ok (.getfield 83, 3) := by decide +kernel
theorem dX11_next_80 : decode cX11_next 80 = .ok (.invokevirtual 89, 3) := by decide +kernel
theorem dX11_next_83 : decode cX11_next 83 = .ok (.invokestatic 96, 3) := by decide +kernel
theorem dX11_next_86 : decode cX11_next 86 = .ok (.ifCond .eq 41, 3) := by decide +kernel
theorem dX11_next_89 : decode cX11_next 89 = .ok (.aload_n 0, 1) := by decide +kernel
theorem dX11_next_90 : decode cX11_next 90 = .ok (.aload_n 0, 1) := by decide +kernel
theorem dX11_next_91 : decode cX11_next 91 = .ok (.getfield 86, 3) := by decide +kernel
theorem dX11_next_94 : decode cX11_next 94 = .ok (.invokevirtual 89, 3) := by decide +kernel
theorem dX11_next_97 : decode cX11_next 97 = .ok (.invokestatic 96, 3) := by decide +kernel
theorem dX11_next_100 : decode cX11_next 100 = .ok (.ifCond .eq 16, 3) := by decide +kernel
theorem dX11_next_103 : decode cX11_next 103 = .ok (.aload_n 0, 1) := by decide +kernel
theorem dX11_next_104 : decode cX11_next 104 = .ok (.dup, 1) := by decide +kernel
theorem dX11_next_105 : decode cX11_next 105 = .ok (.getfield 86, 3) := by decide +kernel
theorem dX11_next_108 : decode cX11_next 108 = .ok (.iconst 1, 1) := by decide +kernel
theorem dX11_next_109 : decode cX11_next 109 = .ok (.iadd, 1) := by decide +kernel
theorem dX11_next_110 : decode cX11_next 110 = .ok (.putfield 86, 3) := by decide +kernel
theorem dX11_next_113 : decode cX11_next 113 = .ok (.goto (-24), 3) := by decide +kernel
theorem dX11_next_116 : decode cX11_next 116 = .ok (.aload_n 0, 1) := by decide +kernel
theorem dX11_next_117 : decode cX11_next 117 = .ok (.aload_n 0, 1) := by decide +kernel
theorem dX11_next_118 : decode cX11_next 118 = .ok (.invokevirtual 100, 3) := by decide +kernel
theorem dX11_next_121 : decode cX11_next 121 = .ok (.putfield 93, 3) := by decide +kernel
theorem dX11_next_124 : decode cX11_next 124 = .ok (.goto 146, 3) := by decide +kernel
theorem dX11_next_127 : decode cX11_next 127 = .ok (.aload_n 0, 1) := by decide +kernel
theorem dX11_next_128 : decode cX11_next 128 = .ok (.aload_n 0, 1) := by decide +kernel
theorem dX11_next_129 : decode cX11_next 129 = .ok (.getfield 83, 3) := by decide +kernel
theorem dX11_next_132 : decode cX11_next 132 = .ok (.invokevirtual 89, 3) := by decide +kernel
theorem dX11_next_135 : decode cX11_next 135 = .ok (.invokestatic 103, 3) := by decide +kernel
theorem dX11_next_138 : decode cX11_next 138 = .ok (.ifCond .eq 98, 3) := by decide +kernel
theorem dX11_next_141 : decode cX11_next 141 = .ok (.aload_n 0, 1) := by decide +kernel
theorem dX11_next_142 : decode cX11_next 142 = .ok (.iconst 0, 1) := by decide +kernel
theorem dX11_next_143 : decode cX11_next 143 = .ok (.putfield 106, 3) := by decide +kernel
theorem dX11_next_146 : decode cX11_next 146 = .ok (.aload_n 0, 1) := by decide +kernel
theorem dX11_next_147 : decode cX11_next 147 = .ok (.aload_n 0, 1) := by decide +kernel
theorem dX11_next_148 : decode cX11_next 148 = .ok (.getfield 86, 3) := by decide +kernel
theorem dX11_next_151 : decode cX11_next 151 = .ok (.invokevirtual 89, 3) := by decide +kernel
theorem dX11_next_154 : decode cX11_next 154 = .ok (.invokestatic 103, 3) := by decide +kernel
theorem dX11_next_157 : decode cX11_next 157 = .ok (.ifCond .eq 52, 3) := by decide +kernel
theorem dX11_next_160 : decode cX11_next 160 = .ok (.aload_n 0, 1) := by decide +kernel
theorem dX11_next_161 : decode cX11_next 161 = .ok (.getfield 86, 3) := by decide +kernel
theorem dX11_next_164 : decode cX11_next 164 = .ok (.aload_n 0, 1) := by decide +kernel
theorem dX11_next_165 : decode cX11_next 165 = .ok (.getfield 83, 3) := by decide +kernel
theorem dX11_next_168 : decode cX11_next 168 = .ok (.isub, 1) := by decide +kernel
theorem dX11_next_169 : decode cX11_next 169 = .ok (.iconst 4, 1) := by decide +kernel
theorem dX11_next_170 : decode cX11_next 170 = .ok (.if_icmp .ge 26, 3) := by decide +kernel
theorem dX11_next_173 : decode cX11_next 173 = .ok (.aload_n 0, 1) := by decide +kernel
theorem dX11_next_174 : decode cX11_next 174 = .ok (.bipush 10, 2) := by decide +kernel
theorem dX11_next_176 : decode cX11_next 176 = .ok (.aload_n 0, 1) := by decide +kernel
theorem dX11_next_177 : decode cX11_next 177 = .ok (.getfield 106, 3) := by decide +kernel
theorem dX11_next_180 : decode cX11_next 180 = .ok (.imul, 1) := by decide +kernel
theorem dX11_next_181 : decode cX11_next 181 = .ok (.aload_n 0, 1) := by decide +kernel
theorem dX11_next_182 : decode cX11_next 182 = .ok (.aload_n 0, 1) := by decide +kernel
theorem dX11_next_183 : decode cX11_next 183 = .ok (.getfield 86, 3) := by decide +kernel
theorem dX11_next_186 : decode cX11_next 186 = .ok (.invokevirtual 89, 3) := by decide +kernel
theorem dX11_next_189 : decode cX11_next 189 = .ok (.iadd, 1) := by decide +kernel
theorem dX11_next_190 : decode cX11_next 190 = .ok (.bipush 48, 2) := by decide +kernel
theorem dX11_next_192 : decode cX11_next 192 = .ok (.isub, 1) := by decide +kernel
theorem dX11_next_193 : decode cX11_next 193 = .ok (.putfield 106, 3) := by decide +kernel
theorem dX11_next_196 : decode cX11_next 196 = .ok (.aload_n 0, 1) := by decide +kernel
theorem dX11_next_197 : decode cX11_next 197 = .ok (.dup, 1) := by decide +kernel
theorem dX11_next_198 : decode cX11_next 198 = .ok (.getfield 86, 3) := by decide +kernel
theorem dX11_next_201 : decode cX11_next 201 = .ok (.iconst 1, 1) := by decide +kernel
theorem dX11_next_202 : decode cX11_next 202 = .ok (.iadd, 1) := by decide +kernel
theorem dX11_next_203 : decode cX11_next 203 = .ok (.putfield 86, 3) := by decide +kernel
theorem dX11_next_206 : decode cX11_next 206 = .ok (.goto (-60), 3) := by decide +kernel
theorem dX11_next_209 : decode cX11_next 209 = .ok (.aload_n 0, 1) := by decide +kernel
theorem dX11_next_210 : decode cX11_next 210 = .ok (.aload_n 0, 1) := by decide +kernel
theorem dX11_next_211 : decode cX11_next 211 = .ok (.getfield 86, 3) := by decide +kernel
theorem dX11_next_214 : decode cX11_next 214 = .ok (.aload_n 0, 1) := by decide +kernel
theorem dX11_next_215 : decode cX11_next 215 = .ok (.getfield 83, 3) := by decide +kernel
theorem dX11_next_218 : decode cX11_next 218 = .ok (.isub, 1) := by decide +kernel
theorem dX11_next_219 : decode cX11_next 219 = .ok (.iconst 4, 1) := by decide +kernel
theorem dX11_next_220 : decode cX11_next 220 = .ok (.if_icmp .le 8, 3) := by decide +kernel
theorem dX11_next_223 : decode cX11_next 223 = .ok (.bipush 12, 2) := by decide +kernel
theorem dX11_next_225 : decode cX11_next 225 = .ok (.goto 5, 3) := by decide +kernel
theorem dX11_next_228 : decode cX11_next 228 = .ok (.bipush 9, 2) := by decide +kernel
theorem dX11_next_230 : decode cX11_next 230 = .ok (.putfield 93, 3) := by decide +kernel
theorem dX11_next_233 : decode cX11_next 233 = .ok (.goto 37, 3) := by decide +kernel
theorem dX11_next_236 : decode cX11_next 236 = .ok (.aload_n 0, 1) := by decide +kernel
theorem dX11_next_237 : decode cX11_next 237 = .ok (.dup, 1) := by decide +kernel
theorem dX11_next_238 : decode cX11_next 238 = .ok (.getfield 86, 3) := by decide +kernel
theorem dX11_next_241 : decode cX11_next 241 = .ok (.iconst 1, 1) := by decide +kernel
theorem dX11_next_242 : decode cX11_next 242 = .ok (.iadd, 1) := by decide +kernel
theorem dX11_next_243 : decode cX11_next 243 = .ok (.putfield 86, 3) := by decide +kernel
theorem dX11_next_246 : decode cX11_next 246 = .ok (.aload_n 0, 1) := by decide +kernel
theorem dX11_next_247 : decode cX11_next 247 = .ok (.aload_n 0, 1) := by decide +kernel
theorem dX11_next_248 : decode cX11_next 248 = .ok (.aload_n 0, 1) := by decide +kernel
theorem dX11_next_249 : decode cX11_next 249 = .ok (.getfield 83, 3) := by decide +kernel
theorem dX11_next_252 : decode cX11_next 252 = .ok (.invokevirtual 89, 3) := by decide +kernel
theorem dX11_next_255 : decode cX11_next 255 = .ok (.bipush 59, 2) := by decide +kernel
theorem dX11_next_257 : decode cX11_next 257 = .ok (.if_icmp .ne 8, 3) := by decide +kernel
theorem dX11_next_260 : decode cX11_next 260 = .ok (.bipush 10, 2) := by decide +kernel
theorem dX11_next_262 : decode cX11_next 262 = .ok (.goto 5, 3) := by decide +kernel
theorem dX11_next_265 : decode cX11_next 265 = .ok (.bipush 12, 2) := by decide +kernel
theorem dX11_next_267 : decode cX11_next 267 = .ok (.putfield 93, 3) := by decide +kernel
theorem dX11_next_270 : decode cX11_next 270 = .ok (.return_, 1) := by decide +kernel
theorem dX11_fails_0 : decode cX11_fails 0 = .ok (.aload_n 0, 1) := by decide +kernel
theorem dX11_fails_1 : decode cX11_fails 1 = .ok (.getfield 109, 3) := by decide +kernel
theorem dX11_fails_4 : decode cX11_fails 4 = .ok (.ifCond .eq 4, 3) := by decide +kernel
theorem dX11_fails_7 : decode cX11_fails 7 = .ok (.return_, 1) := by decide +kernel
theorem dX11_fails_8 : decode cX11_fails 8 = .ok (.aload_n 0, 1) := by decide +kernel
theorem dX11_fails_9 : decode cX11_fails 9 = .ok (.aload_n 0, 1) := by decide +kernel
theorem dX11_fails_10 : decode cX11_fails 10 = .ok (.getfield 93, 3) := by decide +kernel
theorem dX11_fails_13 : decode cX11_fails 13 = .ok (.bipush 12, 2) := by decide +kernel
theorem dX11_fails_15 : decode cX11_fails 15 = .ok (.if_icmp .ne 7, 3) := by decide +kernel
theorem dX11_fails_18 : decode cX11_fails 18 = .ok (.iconst 1, 1) := by decide +kernel
theorem dX11_fails_19 : decode cX11_fails 19 = .ok (.goto 4, 3) := by decide +kernel
theorem dX11_fails_22 : decode cX11_fails 22 = .ok (.iload_n 1, 1) := by decide +kernel
theorem dX11_fails_23 : decode cX11_fails 23 = .ok (.putfield 109, 3) := by decide +kernel
theorem dX11_fails_26 : decode cX11_fails 26 = .ok (.aload_n 0, 1) := by decide +kernel
theorem dX11_fails_27 : decode cX11_fails 27 = .ok (.aload_n 0, 1) := by decide +kernel
theorem dX11_fails_28 : decode cX11_fails 28 = .ok (.getfield 83, 3) := by decide +kernel
theorem dX11_fails_31 : decode cX11_fails 31 = .ok (.putfield 112, 3) := by decide +kernel
theorem dX11_fails_34 : decode cX11_fails 34 = .ok (.return_, 1) := by decide +kernel
theorem dX11_is_0 : decode cX11_is 0 = .ok (.aload_n 0, 1) := by decide +kernel
theorem dX11_is_1 : decode cX11_is 1 = .ok (.getfield 109, 3) := by decide +kernel
theorem dX11_is_4 : decode cX11_is 4 = .ok (.ifCond .ne 15, 3) := by decide +kernel
theorem dX11_is_7 : decode cX11_is 7 = .ok (.aload_n 0, 1) := by decide +kernel
theorem dX11_is_8 : decode cX11_is 8 = .ok (.getfield 93, 3) := by decide +kernel
theorem dX11_is_11 : decode cX11_is 11 = .ok (.iload_n 1, 1) := by decide +kernel
theorem dX11_is_12 : decode cX11_is 12 = .ok (.if_icmp .ne 7, 3) := by decide +kernel
theorem dX11_is_15 : decode cX11_is 15 = .ok (.iconst 1, 1) := by decide +kernel
theorem dX11_is_16 : decode cX11_is 16 = .ok (.goto 4, 3) := by decide +kernel
theorem dX11_is_19 : decode cX11_is 19 = .ok (.iconst 0, 1) := by decide +kernel
theorem dX11_is_20 : decode cX11_is 20 = .ok (.ireturn, 1) := by decide +kernel
theorem dX11_eats_0 : decode cX11_eats 0 = .ok (.aload_n 0, 1) := by decide +kernel
theorem dX11_eats_1 : decode cX11_eats 1 = .ok (.iload_n 1, 1) := by decide +kernel
theorem dX11_eats_2 : decode cX11_eats 2 = .ok (.invokevirtual 115, 3) := by decide +kernel
theorem dX11_eats_5 : decode cX11_eats 5 = .ok (.ifCond .ne 5, 3) := by decide +kernel
theorem dX11_eats_8 : decode cX11_eats 8 = .ok (.iconst 0, 1) := by decide +kernel
theorem dX11_eats_9 : decode cX11_eats 9 = .ok (.ireturn, 1) := by decide +kernel
theorem dX11_eats_10 : decode cX11_eats 10 = .ok (.aload_n 0, 1) := by decide +kernel
theorem dX11_eats_11 : decode cX11_eats 11 = .ok (.invokevirtual 118, 3) := by decide +kernel
theorem dX11_eats_14 : decode cX11_eats 14 = .ok (.iconst 1, 1) := by decide +kernel
theorem dX11_eats_15 : decode cX11_eats 15 = .ok (.ireturn, 1) := by decide +kernel
theorem dX11_takes_0 : decode cX11_takes 0 = .ok (.aload_n 0, 1) := by decide +kernel
theorem dX11_takes_1 : decode cX11_takes 1 = .ok (.bipush 9, 2) := by decide +kernel
theorem dX11_takes_3 : decode cX11_takes 3 = .ok (.invokevirtual 115, 3) := by decide +kernel
theorem dX11_takes_6 : decode cX11_takes 6 = .ok (.ifCond .ne 11, 3) := by decide +kernel
theorem dX11_takes_9 : decode cX11_takes 9 = .ok (.aload_n 0, 1) := by decide +kernel
theorem dX11_takes_10 : decode cX11_takes 10 = .ok (.iconst 2, 1) := by decide +kernel
theorem dX11_takes_11 : decode cX11_takes 11 = .ok (.invokevirtual 121, 3) := by decide +kernel
theorem dX11_takes_14 : decode cX11_takes 14 = .ok (.goto 23, 3) := by decide +kernel
theorem dX11_takes_17 : decode cX11_takes 17 = .ok (.aload_n 0, 1) := by decide +kernel
theorem dX11_takes_18 : decode cX11_takes 18 = .ok (.getfield 106, 3) := by decide +kernel
theorem dX11_takes_21 : decode cX11_takes 21 = .ok (.i2l, 1) := by decide +kernel
theorem dX11_takes_22 : decode cX11_takes 22 = .ok (.iload_n 1, 1) := by decide +kernel
theorem dX11_takes_23 : decode cX11_takes 23 = .ok (.i2l, 1) := by decide +kernel
theorem dX11_takes_24 : decode cX11_takes 24 = .ok (.iload_n 2, 1) := by decide +kernel
theorem dX11_takes_25 : decode cX11_takes 25 = .ok (.i2l, 1) := by decide +kernel
theorem dX11_takes_26 : decode cX11_takes 26 = .ok (.invokestatic 125, 3) := by decide +kernel
theorem dX11_takes_29 : decode cX11_takes 29 = .ok (.ifCond .ne 8, 3) := by decide +kernel
theorem dX11_takes_32 : decode cX11_takes 32 = .ok (.aload_n 0, 1) := by decide +kernel
theorem dX11_takes_33 : decode cX11_takes 33 = .ok (.iconst 3, 1) := by decide +kernel
theorem dX11_takes_34 : decode cX11_takes 34 = .ok (.invokevirtual 121, 3) := by decide +kernel
theorem dX11_takes_37 : decode cX11_takes 37 = .ok (.aload_n 0, 1) := by decide +kernel
theorem dX11_takes_38 : decode cX11_takes 38 = .ok (.getfield 106, 3) := by decide +kernel
theorem dX11_takes_41 : decode cX11_takes 41 = .ok (.istore_n 3, 1) := by decide +kernel
theorem dX11_takes_42 : decode cX11_takes 42 = .ok (.aload_n 0, 1) := by decide +kernel
theorem dX11_takes_43 : decode cX11_takes 43 = .ok (.getfield 109, 3) := by decide +kernel
theorem dX11_takes_46 : decode cX11_takes 46 = .ok (.ifCond .ne 7, 3) := by decide +kernel
theorem dX11_takes_49 : decode cX11_takes 49 = .ok (.aload_n 0, 1) := by decide +kernel
theorem dX11_takes_50 : decode cX11_takes 50 = .ok (.invokevirtual 118, 3) := by decide +kernel
theorem dX11_takes_53 : decode cX11_takes 53 = .ok (.iload_n 3, 1) := by decide +kernel
theorem dX11_takes_54 : decode cX11_takes 54 = .ok (.ireturn, 1) := by decide +kernel
theorem dX11_readGuesser_0 : decode cX11_readGuesser 0 = .ok (.aload_n 0, 1) := by decide +kernel
theorem dX11_readGuesser_1 : decode cX11_readGuesser 1 = .ok (.getfield 24, 3) := by decide +kernel
theorem dX11_readGuesser_4 : decode cX11_readGuesser 4 = .ok (.iconst 0, 1) := by decide +kernel
theorem dX11_readGuesser_5 : decode cX11_readGuesser 5 = .ok (.iaload, 1) := by decide +kernel
theorem dX11_readGuesser_6 : decode cX11_readGuesser 6 = .ok (.istore_n 1, 1) := by decide +kernel
theorem dX11_readGuesser_7 : decode cX11_readGuesser 7 = .ok (.iload_n 1, 1) := by decide +kernel
theorem dX11_readGuesser_8 : decode cX11_readGuesser 8 = .ok (.bipush 6, 2) := by decide +kernel
theorem dX11_readGuesser_10 : decode cX11_readGuesser 10 = .ok (.if_icmp .ne 8, 3) := by decide +kernel
theorem dX11_readGuesser_13 : decode cX11_readGuesser 13 = .ok (.aload_n 0, 1) := by decide +kernel
theorem dX11_readGuesser_14 : decode cX11_readGuesser 14 = .ok (.iconst 4, 1) := by decide +kernel
theorem dX11_readGuesser_15 : decode cX11_readGuesser 15 = .ok (.invokevirtual 121, 3) := by decide +kernel
theorem dX11_readGuesser_18 : decode cX11_readGuesser 18 = .ok (.aload_n 0, 1) := by decide +kernel
theorem dX11_readGuesser_19 : decode cX11_readGuesser 19 = .ok (.getfield 109, 3) := by decide +kernel
theorem dX11_readGuesser_22 : decode cX11_readGuesser 22 = .ok (.ifCond .eq 4, 3) := by decide +kernel
theorem dX11_readGuesser_25 : decode cX11_readGuesser 25 = .ok (.return_, 1) := by decide +kernel
theorem dX11_readGuesser_26 : decode cX11_readGuesser 26 = .ok (.aload_n 0, 1) := by decide +kernel
theorem dX11_readGuesser_27 : decode cX11_readGuesser 27 = .ok (.invokevirtual 118, 3) := by decide +kernel
theorem dX11_readGuesser_30 : decode cX11_readGuesser 30 = .ok (.aload_n 0, 1) := by decide +kernel
theorem dX11_readGuesser_31 : decode cX11_readGuesser 31 = .ok (.iconst 1, 1) := by decide +kernel
theorem dX11_readGuesser_32 : decode cX11_readGuesser 32 = .ok (.sipush 200, 3) := by decide +kernel
theorem dX11_readGuesser_35 : decode cX11_readGuesser 35 = .ok (.invokevirtual 129, 3) := by decide +kernel
theorem dX11_readGuesser_38 : decode cX11_readGuesser 38 = .ok (.istore_n 2, 1) := by decide +kernel
theorem dX11_readGuesser_39 : decode cX11_readGuesser 39 = .ok (.aload_n 0, 1) := by decide +kernel
theorem dX11_readGuesser_40 : decode cX11_readGuesser 40 = .ok (.iconst 0, 1) := by decide +kernel
theorem dX11_readGuesser_41 : decode cX11_readGuesser 41 = .ok (.bipush 20, 2) := by decide +kernel
theorem dX11_readGuesser_43 : decode cX11_readGuesser 43 = .ok (.invokevirtual 129, 3) := by decide +kernel
theorem dX11_readGuesser_46 : decode cX11_readGuesser 46 = .ok (.istore_n 3, 1) := by decide +kernel
theorem dX11_readGuesser_47 : decode cX11_readGuesser 47 = .ok (.aload_n 0, 1) := by decide +kernel
theorem dX11_readGuesser_48 : decode cX11_readGuesser 48 = .ok (.iconst 3, 1) := by decide +kernel
theorem dX11_readGuesser_49 : decode cX11_readGuesser 49 = .ok (.invokevirtual 133, 3) := by decide +kernel
theorem dX11_readGuesser_52 : decode cX11_readGuesser 52 = .ok (.ifCond .eq 13, 3) := by decide +kernel
theorem dX11_readGuesser_55 : decode cX11_readGuesser 55 = .ok (.aload_n 0, 1) := by decide +kernel
theorem dX11_readGuesser_56 : decode cX11_readGuesser 56 = .ok (.iconst 0, 1) := by decide +kernel
theorem dX11_readGuesser_57 : decode cX11_readGuesser 57 = .ok (.bipush 10, 2) := by decide +kernel
theorem dX11_readGuesser_59 : decode cX11_readGuesser 59 = .ok (.invokevirtual 129, 3) := by decide +kernel
theorem dX11_readGuesser_62 : decode cX11_readGuesser 62 = .ok (.goto 4, 3) := by decide +kernel
theorem dX11_readGuesser_65 : decode cX11_readGuesser 65 = .ok (.iconst 0, 1) := by decide +kernel
theorem dX11_readGuesser_66 : decode cX11_readGuesser 66 = .ok (.istore 4, 2) := by decide +kernel
theorem dX11_readGuesser_68 : decode cX11_readGuesser 68 = .ok (.aload_n 0, 1) := by decide +kernel
theorem dX11_readGuesser_69 : decode cX11_readGuesser 69 = .ok (.getfield 109, 3) := by decide +kernel
theorem dX11_readGuesser_72 : decode cX11_readGuesser 72 = .ok (.ifCond .eq 4, 3) := by decide +kernel
theorem dX11_readGuesser_75 : decode cX11_readGuesser 75 = .ok (.return_, 1) := by decide +kernel
theorem dX11_readGuesser_76 : decode cX11_readGuesser 76 = .ok (.aload_n 0, 1) := by decide +kernel
theorem dX11_readGuesser_77 : decode cX11_readGuesser 77 = .ok (.getfield 24, 3) := by decide +kernel
theorem dX11_readGuesser_80 : decode cX11_readGuesser 80 = .ok (.bipush 11, 2) := by decide +kernel
theorem dX11_readGuesser_82 : decode cX11_readGuesser 82 = .ok (.iload_n 1, 1) := by decide +kernel
theorem dX11_readGuesser_83 : decode cX11_readGuesser 83 = .ok (.iadd, 1) := by decide +kernel
theorem dX11_readGuesser_84 : decode cX11_readGuesser 84 = .ok (.iload_n 2, 1) := by decide +kernel
theorem dX11_readGuesser_85 : decode cX11_readGuesser 85 = .ok (.iastore, 1) := by decide +kernel
theorem dX11_readGuesser_86 : decode cX11_readGuesser 86 = .ok (.aload_n 0, 1) := by decide +kernel
theorem dX11_readGuesser_87 : decode cX11_readGuesser 87 = .ok (.getfield 24, 3) := by decide +kernel
theorem dX11_readGuesser_90 : decode cX11_readGuesser 90 = .ok (.bipush 17, 2) := by decide +kernel
theorem dX11_readGuesser_92 : decode cX11_readGuesser 92 = .ok (.iload_n 1, 1) := by decide +kernel
theorem dX11_readGuesser_93 : decode cX11_readGuesser 93 = .ok (.iadd, 1) := by decide +kernel
theorem dX11_readGuesser_94 : decode cX11_readGuesser 94 = .ok (.iload_n 3, 1) := by decide +kernel
theorem dX11_readGuesser_95 : decode cX11_readGuesser 95 = .ok (.iastore, 1) := by decide +kernel
theorem dX11_readGuesser_96 : decode cX11_readGuesser 96 = .ok (.aload_n 0, 1) := by decide +kernel
theorem dX11_readGuesser_97 : decode cX11_readGuesser 97 = .ok (.getfield 24, 3) := by decide +kernel
theorem dX11_readGuesser_100 : decode cX11_readGuesser 100 = .ok (.bipush 23, 2) := by decide +kernel
theorem dX11_readGuesser_102 : decode cX11_readGuesser 102 = .ok (.iload_n 1, 1) := by decide +kernel
theorem dX11_readGuesser_103 : decode cX11_readGuesser 103 = .ok (.iadd, 1) := by decide +kernel
theorem dX11_readGuesser_104 : decode cX11_readGuesser 104 = .ok (.iload 4, 2) := by decide +kernel
theorem dX11_readGuesser_106 : decode cX11_readGuesser 106 = .ok (.iastore, 1) := by decide +kernel
theorem dX11_readGuesser_107 : decode cX11_readGuesser 107 = .ok (.aload_n 0, 1) := by decide +kernel
theorem dX11_readGuesser_108 : decode cX11_readGuesser 108 = .ok (.getfield 24, 3) := by decide +kernel
theorem dX11_readGuesser_111 : decode cX11_readGuesser 111 = .ok (.iconst 0, 1) := by decide +kernel
theorem dX11_readGuesser_112 : decode cX11_readGuesser 112 = .ok (.dup2, 1) := by decide +kernel
theorem dX11_readGuesser_113 : decode cX11_readGuesser 113 = .ok (.iaload, 1) := by decide +kernel
theorem dX11_readGuesser_114 : decode cX11_readGuesser 114 = .ok (.iconst 1, 1) := by decide +kernel
theorem dX11_readGuesser_115 : decode cX11_readGuesser 115 = .ok (.iadd, 1) := by decide +kernel
theorem dX11_readGuesser_116 : decode cX11_readGuesser 116 = .ok (.iastore, 1) := by decide +kernel
theorem dX11_readGuesser_117 : decode cX11_readGuesser 117 = .ok (.return_, 1) := by decide +kernel
theorem dX11_readLine_0 : decode cX11_readLine 0 = .ok (.aload_n 0, 1) := by decide +kernel
theorem dX11_readLine_1 : decode cX11_readLine 1 = .ok (.iconst 0, 1) := by decide +kernel
theorem dX11_readLine_2 : decode cX11_readLine 2 = .ok (.invokevirtual 133, 3) := by decide +kernel
theorem dX11_readLine_5 : decode cX11_readLine 5 = .ok (.ifCond .eq 48, 3) := by decide +kernel
theorem dX11_readLine_8 : decode cX11_readLine 8 = .ok (.aload_n 0, 1) := by decide +kernel
theorem dX11_readLine_9 : decode cX11_readLine 9 = .ok (.getfield 24, 3) := by decide +kernel
theorem dX11_readLine_12 : decode cX11_readLine 12 = .ok (.iconst 2, 1) := by decide +kernel
theorem dX11_readLine_13 : decode cX11_readLine 13 = .ok (.aload_n 0, 1) := by decide +kernel
theorem dX11_readLine_14 : decode cX11_readLine 14 = .ok (.iconst 1, 1) := by decide +kernel
theorem dX11_readLine_15 : decode cX11_readLine 15 = .ok (.sipush 999, 3) := by decide +kernel
theorem dX11_readLine_18 : decode cX11_readLine 18 = .ok (.invokevirtual 129, 3) := by decide +kernel
theorem dX11_readLine_21 : decode cX11_readLine 21 = .ok (.iastore, 1) := by decide +kernel
theorem dX11_readLine_22 : decode cX11_readLine 22 = .ok (.aload_n 0, 1) := by decide +kernel
theorem dX11_readLine_23 : decode cX11_readLine 23 = .ok (.getfield 24, 3) := by decide +kernel
theorem dX11_readLine_26 : decode cX11_readLine 26 = .ok (.iconst 3, 1) := by decide +kernel
theorem dX11_readLine_27 : decode cX11_readLine 27 = .ok (.aload_n 0, 1) := by decide +kernel
theorem dX11_readLine_28 : decode cX11_readLine 28 = .ok (.aload_n 0, 1) := by decide +kernel
theorem dX11_readLine_29 : decode cX11_readLine 29 = .ok (.getfield 24, 3) := by decide +kernel
theorem dX11_readLine_32 : decode cX11_readLine 32 = .ok (.iconst 2, 1) := by decide +kernel
theorem dX11_readLine_33 : decode cX11_readLine 33 = .ok (.iaload, 1) := by decide +kernel
theorem dX11_readLine_34 : decode cX11_readLine 34 = .ok (.aload_n 0, 1) := by decide +kernel
theorem dX11_readLine_35 : decode cX11_readLine 35 = .ok (.getfield 24, 3) := by decide +kernel
theorem dX11_readLine_38 : decode cX11_readLine 38 = .ok (.iconst 2, 1) := by decide +kernel
theorem dX11_readLine_39 : decode cX11_readLine 39 = .ok (.iaload, 1) := by decide +kernel
theorem dX11_readLine_40 : decode cX11_readLine 40 = .ok (.sipush 200, 3) := by decide +kernel
theorem dX11_readLine_43 : decode cX11_readLine 43 = .ok (.iadd, 1) := by decide +kernel
theorem dX11_readLine_44 : decode cX11_readLine 44 = .ok (.iconst 1, 1) := by decide +kernel
theorem dX11_readLine_45 : decode cX11_readLine 45 = .ok (.isub, 1) := by decide +kernel
theorem dX11_readLine_46 : decode cX11_readLine 46 = .ok (.invokevirtual 129, 3) := by decide +kernel
theorem dX11_readLine_49 : decode cX11_readLine 49 = .ok (.iastore, 1) := by decide +kernel
theorem dX11_readLine_50 : decode cX11_readLine 50 = .ok (.goto 159, 3) := by decide +kernel
theorem dX11_readLine_53 : decode cX11_readLine 53 = .ok (.aload_n 0, 1) := by decide +kernel
theorem dX11_readLine_54 : decode cX11_readLine 54 = .ok (.iconst 1, 1) := by decide +kernel
theorem dX11_readLine_55 : decode cX11_readLine 55 = .ok (.invokevirtual 133, 3) := by decide +kernel
theorem dX11_readLine_58 : decode cX11_readLine 58 = .ok (.ifCond .eq 35, 3) := by decide +kernel
theorem dX11_readLine_61 : decode cX11_readLine 61 = .ok (.aload_n 0, 1) := by decide +kernel
theorem dX11_readLine_62 : decode cX11_readLine 62 = .ok (.getfield 24, 3) := by decide +kernel
theorem dX11_readLine_65 : decode cX11_readLine 65 = .ok (.bipush 9, 2) := by decide +kernel
theorem dX11_readLine_67 : decode cX11_readLine 67 = .ok (.aload_n 0, 1) := by decide +kernel
theorem dX11_readLine_68 : decode cX11_readLine 68 = .ok (.iconst 0, 1) := by decide +kernel
theorem dX11_readLine_69 : decode cX11_readLine 69 = .ok (.sipush 999, 3) := by decide +kernel
theorem dX11_readLine_72 : decode cX11_readLine 72 = .ok (.invokevirtual 129, 3) := by decide +kernel
theorem dX11_readLine_75 : decode cX11_readLine 75 = .ok (.iastore, 1) := by decide +kernel
theorem dX11_readLine_76 : decode cX11_readLine 76 = .ok (.aload_n 0, 1) := by decide +kernel
theorem dX11_readLine_77 : decode cX11_readLine 77 = .ok (.getfield 24, 3) := by decide +kernel
theorem dX11_readLine_80 : decode cX11_readLine 80 = .ok (.bipush 10, 2) := by decide +kernel
theorem dX11_readLine_82 : decode cX11_readLine 82 = .ok (.aload_n 0, 1) := by decide +kernel
theorem dX11_readLine_83 : decode cX11_readLine 83 = .ok (.iconst 0, 1) := by decide +kernel
theorem dX11_readLine_84 : decode cX11_readLine 84 = .ok (.bipush 8, 2) := by decide +kernel
theorem dX11_readLine_86 : decode cX11_readLine 86 = .ok (.invokevirtual 129, 3) := by decide +kernel
theorem dX11_readLine_89 : decode cX11_readLine 89 = .ok (.iastore, 1) := by decide +kernel
theorem dX11_readLine_90 : decode cX11_readLine 90 = .ok (.goto 119, 3) := by decide +kernel
theorem dX11_readLine_93 : decode cX11_readLine 93 = .ok (.aload_n 0, 1) := by decide +kernel
theorem dX11_readLine_94 : decode cX11_readLine 94 = .ok (.iconst 2, 1) := by decide +kernel
theorem dX11_readLine_95 : decode cX11_readLine 95 = .ok (.invokevirtual 115, 3) := by decide +kernel
theorem dX11_readLine_98 : decode cX11_readLine 98 = .ok (.ifCond .eq 10, 3) := by decide +kernel
theorem dX11_readLine_101 : decode cX11_readLine 101 = .ok (.aload_n 0, 1) := by decide +kernel
theorem dX11_readLine_102 : decode cX11_readLine 102 = .ok (.invokevirtual 136, 3) := by decide +kernel
theorem dX11_readLine_105 : decode cX11_readLine 105 = .ok (.goto 104, 3) := by decide +kernel
theorem dX11_readLine_108 : decode cX11_readLine 108 = .ok (.aload_n 0, 1) := by decide +kernel
theorem dX11_readLine_109 : decode cX11_readLine 109 = .ok (.iconst 4, 1) := by decide +kernel
theorem dX11_readLine_110 : decode cX11_readLine 110 = .ok (.invokevirtual 133, 3) := by decide +kernel
theorem dX11_readLine_113 : decode cX11_readLine 113 = .ok (.ifCond .eq 14, 3) := by decide +kernel
theorem dX11_readLine_116 : decode cX11_readLine 116 = .ok (.aload_n 0, 1) := by decide +kernel
theorem dX11_readLine_117 : decode cX11_readLine 117 = .ok (.getfield 24, 3) := by decide +kernel
theorem dX11_readLine_120 : decode cX11_readLine 120 = .ok (.bipush 7, 2) := by decide +kernel
theorem dX11_readLine_122 : decode cX11_readLine 122 = .ok (.iconst 1, 1) := by decide +kernel
theorem dX11_readLine_123 : decode cX11_readLine 123 = .ok (.iastore, 1) := by decide +kernel
theorem dX11_readLine_124 : decode cX11_readLine 124 = .ok (.goto 85, 3) := by decide +kernel
theorem dX11_readLine_127 : decode cX11_readLine 127 = .ok (.aload_n 0, 1) := by decide +kernel
theorem dX11_readLine_128 : decode cX11_readLine 128 = .ok (.iconst 5, 1) := by decide +kernel
theorem dX11_readLine_129 : decode cX11_readLine 129 = .ok (.invokevirtual 133, 3) := by decide +kernel
theorem dX11_readLine_132 : decode cX11_readLine 132 = .ok (.ifCond .eq 19, 3) := by decide +kernel
theorem dX11_readLine_135 : decode cX11_readLine 135 = .ok (.aload_n 0, 1) := by decide +kernel
theorem dX11_readLine_136 : decode cX11_readLine 136 = .ok (.getfield 24, 3) := by decide +kernel
theorem dX11_readLine_139 : decode cX11_readLine 139 = .ok (.iconst 4, 1) := by decide +kernel
theorem dX11_readLine_140 : decode cX11_readLine 140 = .ok (.aload_n 0, 1) := by decide +kernel
theorem dX11_readLine_141 : decode cX11_readLine 141 = .ok (.iconst 0, 1) := by decide +kernel
theorem dX11_readLine_142 : decode cX11_readLine 142 = .ok (.bipush 99, 2) := by decide +kernel
theorem dX11_readLine_144 : decode cX11_readLine 144 = .ok (.invokevirtual 129, 3) := by decide +kernel
theorem dX11_readLine_147 : decode cX11_readLine 147 = .ok (.iastore, 1) := by decide +kernel
theorem dX11_readLine_148 : decode cX11_readLine 148 = .ok (.goto 61, 3) := by decide +kernel
theorem dX11_readLine_151 : decode cX11_readLine 151 = .ok (.aload_n 0, 1) := by decide +kernel
theorem dX11_readLine_152 : decode cX11_readLine 152 = .ok (.bipush 6, 2) := by decide +kernel
theorem dX11_readLine_154 : decode cX11_readLine 154 = .ok (.invokevirtual 133, 3) := by decide +kernel
theorem dX11_readLine_157 : decode cX11_readLine 157 = .ok (.ifCond .eq 20, 3) := by decide +kernel
theorem dX11_readLine_160 : decode cX11_readLine 160 = .ok (.aload_n 0, 1) := by decide +kernel
theorem dX11_readLine_161 : decode cX11_readLine 161 = .ok (.getfield 24, 3) := by decide +kernel
theorem dX11_readLine_164 : decode cX11_readLine 164 = .ok (.iconst 5, 1) := by decide +kernel
theorem dX11_readLine_165 : decode cX11_readLine 165 = .ok (.aload_n 0, 1) := by decide +kernel
theorem dX11_readLine_166 : decode cX11_readLine 166 = .ok (.iconst 0, 1) := by decide +kernel
theorem dX11_readLine_167 : decode cX11_readLine 167 = .ok (.sipush 9999, 3) := by decide +kernel
theorem dX11_readLine_170 : decode cX11_readLine 170 = .ok (.invokevirtual 129, 3) := by decide +kernel
theorem dX11_readLine_173 : decode cX11_readLine 173 = .ok (.iastore, 1) := by decide +kernel
theorem dX11_readLine_174 : decode cX11_readLine 174 = .ok (.goto 35, 3) := by decide +kernel
theorem dX11_readLine_177 : decode cX11_readLine 177 = .ok (.aload_n 0, 1) := by decide +kernel
theorem dX11_readLine_178 : decode cX11_readLine 178 = .ok (.bipush 7, 2) := by decide +kernel
theorem dX11_readLine_180 : decode cX11_readLine 180 = .ok (.invokevirtual 133, 3) := by decide +kernel
theorem dX11_readLine_183 : decode cX11_readLine 183 = .ok (.ifCond .eq 21, 3) := by decide +kernel
theorem dX11_readLine_186 : decode cX11_readLine 186 = .ok (.aload_n 0, 1) := by decide +kernel
theorem dX11_readLine_187 : decode cX11_readLine 187 = .ok (.getfield 24, 3) := by decide +kernel
theorem dX11_readLine_190 : decode cX11_readLine 190 = .ok (.bipush 6, 2) := by decide +kernel
theorem dX11_readLine_192 : decode cX11_readLine 192 = .ok (.aload_n 0, 1) := by decide +kernel
theorem dX11_readLine_193 : decode cX11_readLine 193 = .ok (.iconst 1, 1) := by decide +kernel
theorem dX11_readLine_194 : decode cX11_readLine 194 = .ok (.sipush 999, 3) := by decide +kernel
theorem dX11_readLine_197 : decode cX11_readLine 197 = .ok (.invokevirtual 129, 3) := by decide +kernel
theorem dX11_readLine_200 : decode cX11_readLine 200 = .ok (.iastore, 1) := by decide +kernel
theorem dX11_readLine_201 : decode cX11_readLine 201 = .ok (.goto 8, 3) := by decide +kernel
theorem dX11_readLine_204 : decode cX11_readLine 204 = .ok (.aload_n 0, 1) := by decide +kernel
theorem dX11_readLine_205 : decode cX11_readLine 205 = .ok (.iconst 2, 1) := by decide +kernel
theorem dX11_readLine_206 : decode cX11_readLine 206 = .ok (.invokevirtual 121, 3) := by decide +kernel
theorem dX11_readLine_209 : decode cX11_readLine 209 = .ok (.aload_n 0, 1) := by decide +kernel
theorem dX11_readLine_210 : decode cX11_readLine 210 = .ok (.bipush 10, 2) := by decide +kernel
theorem dX11_readLine_212 : decode cX11_readLine 212 = .ok (.invokevirtual 133, 3) := by decide +kernel
theorem dX11_readLine_215 : decode cX11_readLine 215 = .ok (.ifCond .ne 8, 3) := by decide +kernel
theorem dX11_readLine_218 : decode cX11_readLine 218 = .ok (.aload_n 0, 1) := by decide +kernel
theorem dX11_readLine_219 : decode cX11_readLine 219 = .ok (.iconst 2, 1) := by decide +kernel
theorem dX11_readLine_220 : decode cX11_readLine 220 = .ok (.invokevirtual 121, 3) := by decide +kernel
theorem dX11_readLine_223 : decode cX11_readLine 223 = .ok (.aload_n 0, 1) := by decide +kernel
theorem dX11_readLine_224 : decode cX11_readLine 224 = .ok (.getfield 24, 3) := by decide +kernel
theorem dX11_readLine_227 : decode cX11_readLine 227 = .ok (.bipush 8, 2) := by decide +kernel
theorem dX11_readLine_229 : decode cX11_readLine 229 = .ok (.dup2, 1) := by decide +kernel
theorem dX11_readLine_230 : decode cX11_readLine 230 = .ok (.iaload, 1) := by decide +kernel
theorem dX11_readLine_231 : decode cX11_readLine 231 = .ok (.iconst 1, 1) := by decide +kernel
theorem dX11_readLine_232 : decode cX11_readLine 232 = .ok (.iadd, 1) := by decide +kernel
theorem dX11_readLine_233 : decode cX11_readLine 233 = .ok (.iastore, 1) := by decide +kernel
theorem dX11_readLine_234 : decode cX11_readLine 234 = .ok (.return_, 1) := by decide +kernel
theorem dX11_fete_0 : decode cX11_fete 0 = .ok (.aload_n 0, 1) := by decide +kernel
theorem dX11_fete_1 : decode cX11_fete 1 = .ok (.iconst 0, 1) := by decide +kernel
theorem dX11_fete_2 : decode cX11_fete 2 = .ok (.putfield 1, 3) := by decide +kernel
theorem dX11_fete_5 : decode cX11_fete 5 = .ok (.iload_n 1, 1) := by decide +kernel
theorem dX11_fete_6 : decode cX11_fete 6 = .ok (.i2l, 1) := by decide +kernel
theorem dX11_fete_7 : decode cX11_fete 7 = .ok (.lconst 0, 1) := by decide +kernel
theorem dX11_fete_8 : decode cX11_fete 8 = .ok (.aload_n 0, 1) := by decide +kernel
theorem dX11_fete_9 : decode cX11_fete 9 = .ok (.getfield 65, 3) := by decide +kernel
theorem dX11_fete_12 : decode cX11_fete 12 = .ok (.i2l, 1) := by decide +kernel
theorem dX11_fete_13 : decode cX11_fete 13 = .ok (.invokestatic 125, 3) := by decide +kernel
theorem dX11_fete_16 : decode cX11_fete 16 = .ok (.ifCond .ne 6, 3) := by decide +kernel
theorem dX11_fete_19 : decode cX11_fete 19 = .ok (.bipush (-3), 2) := by decide +kernel
theorem dX11_fete_21 : decode cX11_fete 21 = .ok (.ireturn, 1) := by decide +kernel
theorem dX11_fete_22 : decode cX11_fete 22 = .ok (.aload_n 0, 1) := by decide +kernel
theorem dX11_fete_23 : decode cX11_fete 23 = .ok (.iload_n 1, 1) := by decide +kernel
theorem dX11_fete_24 : decode cX11_fete 24 = .ok (.putfield 68, 3) := by decide +kernel
theorem dX11_fete_27 : decode cX11_fete 27 = .ok (.aload_n 0, 1) := by decide +kernel
theorem dX11_fete_28 : decode cX11_fete 28 = .ok (.iconst 0, 1) := by decide +kernel
theorem dX11_fete_29 : decode cX11_fete 29 = .ok (.putfield 65, 3) := by decide +kernel
theorem dX11_fete_32 : decode cX11_fete 32 = .ok (.aload_n 0, 1) := by decide +kernel
theorem dX11_fete_33 : decode cX11_fete 33 = .ok (.iconst 0, 1) := by decide +kernel
theorem dX11_fete_34 : decode cX11_fete 34 = .ok (.putfield 86, 3) := by decide +kernel
theorem dX11_fete_37 : decode cX11_fete 37 = .ok (.aload_n 0, 1) := by decide +kernel
theorem dX11_fete_38 : decode cX11_fete 38 = .ok (.iconst 0, 1) := by decide +kernel
theorem dX11_fete_39 : decode cX11_fete 39 = .ok (.putfield 109, 3) := by decide +kernel
theorem dX11_fete_42 : decode cX11_fete 42 = .ok (.aload_n 0, 1) := by decide +kernel
theorem dX11_fete_43 : decode cX11_fete 43 = .ok (.getfield 24, 3) := by decide +kernel
theorem dX11_fete_46 : decode cX11_fete 46 = .ok (.invokestatic 61, 3) := by decide +kernel
theorem dX11_fete_49 : decode cX11_fete 49 = .ok (.aload_n 0, 1) := by decide +kernel
theorem dX11_fete_50 : decode cX11_fete 50 = .ok (.invokevirtual 118, 3) := by decide +kernel
theorem dX11_fete_53 : decode cX11_fete 53 = .ok (.aload_n 0, 1) := by decide +kernel
theorem dX11_fete_54 : decode cX11_fete 54 = .ok (.getfield 109, 3) := by decide +kernel
theorem dX11_fete_57 : decode cX11_fete 57 = .ok (.ifCond .ne 19, 3) := by decide +kernel
theorem dX11_fete_60 : decode cX11_fete 60 = .ok (.aload_n 0, 1) := by decide +kernel
theorem dX11_fete_61 : decode cX11_fete 61 = .ok (.getfield 93, 3) := by decide +kernel
theorem dX11_fete_64 : decode cX11_fete 64 = .ok (.bipush 11, 2) := by decide +kernel
theorem dX11_fete_66 : decode cX11_fete 66 = .ok (.if_icmp .eq 10, 3) := by decide +kernel
theorem dX11_fete_69 : decode cX11_fete 69 = .ok (.aload_n 0, 1) := by decide +kernel
theorem dX11_fete_70 : decode cX11_fete 70 = .ok (.invokevirtual 139, 3) := by decide +kernel
theorem dX11_fete_73 : decode cX11_fete 73 = .ok (.goto (-20), 3) := by decide +kernel
theorem dX11_fete_76 : decode cX11_fete 76 = .ok (.aload_n 0, 1) := by decide +kernel
theorem dX11_fete_77 : decode cX11_fete 77 = .ok (.aload_n 0, 1) := by decide +kernel
theorem dX11_fete_78 : decode cX11_fete 78 = .ok (.getfield 109, 3) := by decide +kernel
theorem dX11_fete_81 : decode cX11_fete 81 = .ok (.putfield 142, 3) := by decide +kernel
theorem dX11_fete_84 : decode cX11_fete 84 = .ok (.aload_n 0, 1) := by decide +kernel
theorem dX11_fete_85 : decode cX11_fete 85 = .ok (.aload_n 0, 1) := by decide +kernel
theorem dX11_fete_86 : decode cX11_fete 86 = .ok (.getfield 109, 3) := by decide +kernel
theorem dX11_fete_89 : decode cX11_fete 89 = .ok (.ifCond .ne 7, 3) := by decide +kernel
theorem dX11_fete_92 : decode cX11_fete 92 = .ok (.iconst (-1), 1) := by decide +kernel
theorem dX11_fete_93 : decode cX11_fete 93 = .ok (.goto 7, 3) := by decide +kernel
theorem dX11_fete_96 : decode cX11_fete 96 = .ok (.aload_n 0, 1) := by decide +kernel
theorem dX11_fete_97 : decode cX11_fete 97 = .ok (.getfield 112, 3) := by decide +kernel
theorem dX11_fete_100 : decode cX11_fete 100 = .ok (.putfield 27, 3) := by decide +kernel
theorem dX11_fete_103 : decode cX11_fete 103 = .ok (.aload_n 0, 1) := by decide +kernel
theorem dX11_fete_104 : decode cX11_fete 104 = .ok (.getfield 109, 3) := by decide +kernel
theorem dX11_fete_107 : decode cX11_fete 107 = .ok (.ifCond .eq 11, 3) := by decide +kernel
theorem dX11_fete_110 : decode cX11_fete 110 = .ok (.bipush (-30), 2) := by decide +kernel
theorem dX11_fete_112 : decode cX11_fete 112 = .ok (.aload_n 0, 1) := by decide +kernel
theorem dX11_fete_113 : decode cX11_fete 113 = .ok (.getfield 109, 3) := by decide +kernel
theorem dX11_fete_116 : decode cX11_fete 116 = .ok (.isub, 1) := by decide +kernel
theorem dX11_fete_117 : decode cX11_fete 117 = .ok (.ireturn, 1) := by decide +kernel
theorem dX11_fete_118 : decode cX11_fete 118 = .ok (.iconst 0, 1) := by decide +kernel
theorem dX11_fete_119 : decode cX11_fete 119 = .ok (.istore_n 2, 1) := by decide +kernel
theorem dX11_fete_120 : decode cX11_fete 120 = .ok (.iload_n 2, 1) := by decide +kernel
theorem dX11_fete_121 : decode cX11_fete 121 = .ok (.bipush 110, 2) := by decide +kernel
theorem dX11_fete_123 : decode cX11_fete 123 = .ok (.if_icmp .ge 21, 3) := by decide +kernel
theorem dX11_fete_126 : decode cX11_fete 126 = .ok (.aload_n 0, 1) := by decide +kernel
theorem dX11_fete_127 : decode cX11_fete 127 = .ok (.getfield 13, 3) := by decide +kernel
theorem dX11_fete_130 : decode cX11_fete 130 = .ok (.iload_n 2, 1) := by decide +kernel
theorem dX11_fete_131 : decode cX11_fete 131 = .ok (.aload_n 0, 1) := by decide +kernel
theorem dX11_fete_132 : decode cX11_fete 132 = .ok (.getfield 24, 3) := by decide +kernel
theorem dX11_fete_135 : decode cX11_fete 135 = .ok (.iload_n 2, 1) := by decide +kernel
theorem dX11_fete_136 : decode cX11_fete 136 = .ok (.iaload, 1) := by decide +kernel
theorem dX11_fete_137 : decode cX11_fete 137 = .ok (.iastore, 1) := by decide +kernel
theorem dX11_fete_138 : decode cX11_fete 138 = .ok (.iinc 2 1, 3) := by decide +kernel
theorem dX11_fete_141 : decode cX11_fete 141 = .ok (.goto (-21), 3) := by decide +kernel
theorem dX11_fete_144 : decode cX11_fete 144 = .ok (.aload_n 0, 1) := by decide +kernel
theorem dX11_fete_145 : decode cX11_fete 145 = .ok (.getfield 13, 3) := by decide +kernel
theorem dX11_fete_148 : decode cX11_fete 148 = .ok (.bipush 8, 2) := by decide +kernel
theorem dX11_fete_150 : decode cX11_fete 150 = .ok (.iaload, 1) := by decide +kernel
theorem dX11_fete_151 : decode cX11_fete 151 = .ok (.ireturn, 1) := by decide +kernel
theorem dX11_fault_0 : decode cX11_fault 0 = .ok (.aload_n 0, 1) := by decide +kernel
theorem dX11_fault_1 : decode cX11_fault 1 = .ok (.iconst 0, 1) := by decide +kernel
theorem dX11_fault_2 : decode cX11_fault 2 = .ok (.putfield 1, 3) := by decide +kernel
theorem dX11_fault_5 : decode cX11_fault 5 = .ok (.iload_n 1, 1) := by decide +kernel
theorem dX11_fault_6 : decode cX11_fault 6 = .ok (.ifCond .ne 10, 3) := by decide +kernel
theorem dX11_fault_9 : decode cX11_fault 9 = .ok (.aload_n 0, 1) := by decide +kernel
theorem dX11_fault_10 : decode cX11_fault 10 = .ok (.getfield 142, 3) := by decide +kernel
theorem dX11_fault_13 : decode cX11_fault 13 = .ok (.goto 16, 3) := by decide +kernel
theorem dX11_fault_16 : decode cX11_fault 16 = .ok (.iload_n 1, 1) := by decide +kernel
theorem dX11_fault_17 : decode cX11_fault 17 = .ok (.iconst 1, 1) := by decide +kernel
theorem dX11_fault_18 : decode cX11_fault 18 = .ok (.if_icmp .ne 10, 3) := by decide +kernel
theorem dX11_fault_21 : decode cX11_fault 21 = .ok (.aload_n 0, 1) := by decide +kernel
theorem dX11_fault_22 : decode cX11_fault 22 = .ok (.getfield 27, 3) := by decide +kernel
theorem dX11_fault_25 : decode cX11_fault 25 = .ok (.goto 4, 3) := by decide +kernel
theorem dX11_fault_28 : decode cX11_fault 28 = .ok (.iconst (-1), 1) := by decide +kernel
theorem dX11_fault_29 : decode cX11_fault 29 = .ok (.ireturn, 1) := by decide +kernel
theorem dX11_isGuesser_0 : decode cX11_isGuesser 0 = .ok (.lload_n 1, 1) := by decide +kernel
theorem dX11_isGuesser_1 : decode cX11_isGuesser 1 = .ok (.lconst 0, 1) := by decide +kernel
theorem dX11_isGuesser_2 : decode cX11_isGuesser 2 = .ok (.aload_n 0, 1) := by decide +kernel
theorem dX11_isGuesser_3 : decode cX11_isGuesser 3 = .ok (.getfield 13, 3) := by decide +kernel
theorem dX11_isGuesser_6 : decode cX11_isGuesser 6 = .ok (.iconst 0, 1) := by decide +kernel
theorem dX11_isGuesser_7 : decode cX11_isGuesser 7 = .ok (.iaload, 1) := by decide +kernel
theorem dX11_isGuesser_8 : decode cX11_isGuesser 8 = .ok (.iconst 1, 1) := by decide +kernel
theorem dX11_isGuesser_9 : decode cX11_isGuesser 9 = .ok (.isub, 1) := by decide +kernel
theorem dX11_isGuesser_10 : decode cX11_isGuesser 10 = .ok (.i2l, 1) := by decide +kernel
theorem dX11_isGuesser_11 : decode cX11_isGuesser 11 = .ok (.invokestatic 125, 3) := by decide +kernel
theorem dX11_isGuesser_14 : decode cX11_isGuesser 14 = .ok (.ireturn, 1) := by decide +kernel
theorem dX11_isGuess_0 : decode cX11_isGuess 0 = .ok (.iload_n 1, 1) := by decide +kernel
theorem dX11_isGuess_1 : decode cX11_isGuess 1 = .ok (.i2l, 1) := by decide +kernel
theorem dX11_isGuess_2 : decode cX11_isGuess 2 = .ok (.lconst 0, 1) := by decide +kernel
theorem dX11_isGuess_3 : decode cX11_isGuess 3 = .ok (.aload_n 0, 1) := by decide +kernel
theorem dX11_isGuess_4 : decode cX11_isGuess 4 = .ok (.getfield 13, 3) := by decide +kernel
theorem dX11_isGuess_7 : decode cX11_isGuess 7 = .ok (.iconst 1, 1) := by decide +kernel
theorem dX11_isGuess_8 : decode cX11_isGuess 8 = .ok (.iaload, 1) := by decide +kernel
theorem dX11_isGuess_9 : decode cX11_isGuess 9 = .ok (.iconst 1, 1) := by decide +kernel
theorem dX11_isGuess_10 : decode cX11_isGuess 10 = .ok (.isub, 1) := by decide +kernel
theorem dX11_isGuess_11 : decode cX11_isGuess 11 = .ok (.i2l, 1) := by decide +kernel
theorem dX11_isGuess_12 : decode cX11_isGuess 12 = .ok (.invokestatic 125, 3) := by decide +kernel
theorem dX11_isGuess_15 : decode cX11_isGuess 15 = .ok (.ireturn, 1) := by decide +kernel
theorem dX11_isGrid_0 : decode cX11_isGrid 0 = .ok (.iload_n 1, 1) := by decide +kernel
theorem dX11_isGrid_1 : decode cX11_isGrid 1 = .ok (.i2l, 1) := by decide +kernel
theorem dX11_isGrid_2 : decode cX11_isGrid 2 = .ok (.aload_n 0, 1) := by decide +kernel
theorem dX11_isGrid_3 : decode cX11_isGrid 3 = .ok (.getfield 13, 3) := by decide +kernel
theorem dX11_isGrid_6 : decode cX11_isGrid 6 = .ok (.iconst 2, 1) := by decide +kernel
theorem dX11_isGrid_7 : decode cX11_isGrid 7 = .ok (.iaload, 1) := by decide +kernel
theorem dX11_isGrid_8 : decode cX11_isGrid 8 = .ok (.i2l, 1) := by decide +kernel
theorem dX11_isGrid_9 : decode cX11_isGrid 9 = .ok (.aload_n 0, 1) := by decide +kernel
theorem dX11_isGrid_10 : decode cX11_isGrid 10 = .ok (.getfield 13, 3) := by decide +kernel
theorem dX11_isGrid_13 : decode cX11_isGrid 13 = .ok (.iconst 3, 1) := by decide +kernel
theorem dX11_isGrid_14 : decode cX11_isGrid 14 = .ok (.iaload, 1) := by decide +kernel
theorem dX11_isGrid_15 : decode cX11_isGrid 15 = .ok (.i2l, 1) := by decide +kernel
theorem dX11_isGrid_16 : decode cX11_isGrid 16 = .ok (.invokestatic 125, 3) := by decide +kernel
theorem dX11_isGrid_19 : decode cX11_isGrid 19 = .ok (.ireturn, 1) := by decide +kernel
theorem dX11_off_0 : decode cX11_off 0 = .ok (.iload_n 0, 1) := by decide +kernel
theorem dX11_off_1 : decode cX11_off 1 = .ok (.iload_n 1, 1) := by decide +kernel
theorem dX11_off_2 : decode cX11_off 2 = .ok (.if_icmp .le 9, 3) := by decide +kernel
theorem dX11_off_5 : decode cX11_off 5 = .ok (.iload_n 0, 1) := by decide +kernel
theorem dX11_off_6 : decode cX11_off 6 = .ok (.iload_n 1, 1) := by decide +kernel
theorem dX11_off_7 : decode cX11_off 7 = .ok (.isub, 1) := by decide +kernel
theorem dX11_off_8 : decode cX11_off 8 = .ok (.goto 6, 3) := by decide +kernel
theorem dX11_off_11 : decode cX11_off 11 = .ok (.iload_n 1, 1) := by decide +kernel
theorem dX11_off_12 : decode cX11_off 12 = .ok (.iload_n 0, 1) := by decide +kernel
theorem dX11_off_13 : decode cX11_off 13 = .ok (.isub, 1) := by decide +kernel
theorem dX11_off_14 : decode cX11_off 14 = .ok (.ireturn, 1) := by decide +kernel
theorem dX11_numberOf_0 : decode cX11_numberOf 0 = .ok (.aload_n 0, 1) := by decide +kernel
theorem dX11_numberOf_1 : decode cX11_numberOf 1 = .ok (.getfield 13, 3) := by decide +kernel
theorem dX11_numberOf_4 : decode cX11_numberOf 4 = .ok (.bipush 69, 2) := by decide +kernel
theorem dX11_numberOf_6 : decode cX11_numberOf 6 = .ok (.iload_n 1, 1) := by decide +kernel
theorem dX11_numberOf_7 : decode cX11_numberOf 7 = .ok (.iadd, 1) := by decide +kernel
theorem dX11_numberOf_8 : decode cX11_numberOf 8 = .ok (.iaload, 1) := by decide +kernel
theorem dX11_numberOf_9 : decode cX11_numberOf 9 = .ok (.ireturn, 1) := by decide +kernel
theorem dX11_guessesOf_0 : decode cX11_guessesOf 0 = .ok (.iconst 0, 1) := by decide +kernel
theorem dX11_guessesOf_1 : decode cX11_guessesOf 1 = .ok (.istore_n 2, 1) := by decide +kernel
theorem dX11_guessesOf_2 : decode cX11_guessesOf 2 = .ok (.iconst 0, 1) := by decide +kernel
theorem dX11_guessesOf_3 : decode cX11_guessesOf 3 = .ok (.istore_n 3, 1) := by decide +kernel
theorem dX11_guessesOf_4 : decode cX11_guessesOf 4 = .ok (.iload_n 3, 1) := by decide +kernel
theorem dX11_guessesOf_5 : decode cX11_guessesOf 5 = .ok (.aload_n 0, 1) := by decide +kernel
theorem dX11_guessesOf_6 : decode cX11_guessesOf 6 = .ok (.getfield 13, 3) := by decide +kernel
theorem dX11_guessesOf_9 : decode cX11_guessesOf 9 = .ok (.iconst 1, 1) := by decide +kernel
theorem dX11_guessesOf_10 : decode cX11_guessesOf 10 = .ok (.iaload, 1) := by decide +kernel
theorem dX11_guessesOf_11 : decode cX11_guessesOf 11 = .ok (.if_icmp .ge 30, 3) := by decide +kernel
theorem dX11_guessesOf_14 : decode cX11_guessesOf 14 = .ok (.iload_n 2, 1) := by decide +kernel
theorem dX11_guessesOf_15 : decode cX11_guessesOf 15 = .ok (.aload_n 0, 1) := by decide +kernel
theorem dX11_guessesOf_16 : decode cX11_guessesOf 16 = .ok (.getfield 13, 3) := by decide +kernel
theorem dX11_guessesOf_19 : decode cX11_guessesOf 19 = .ok (.bipush 29, 2) := by decide +kernel
theorem dX11_guessesOf_21 : decode cX11_guessesOf 21 = .ok (.iload_n 3, 1) := by decide +kernel
theorem dX11_guessesOf_22 : decode cX11_guessesOf 22 = .ok (.iadd, 1) := by decide +kernel
theorem dX11_guessesOf_23 : decode cX11_guessesOf 23 = .ok (.iaload, 1) := by decide +kernel
theorem dX11_guessesOf_24 : decode cX11_guessesOf 24 = .ok (.iload_n 1, 1) := by decide +kernel
theorem dX11_guessesOf_25 : decode cX11_guessesOf 25 = .ok (.if_icmp .ne 7, 3) := by decide +kernel
theorem dX11_guessesOf_28 : decode cX11_guessesOf 28 = .ok (.iconst 1, 1) := by decide +kernel
theorem dX11_guessesOf_29 : decode cX11_guessesOf 29 = .ok (.goto 4, 3) := by decide +kernel
theorem dX11_guessesOf_32 : decode cX11_guessesOf 32 = .ok (.iconst 0, 1) := by decide +kernel
theorem dX11_guessesOf_33 : decode cX11_guessesOf 33 = .ok (.iadd, 1) := by decide +kernel
theorem dX11_guessesOf_34 : decode cX11_guessesOf 34 = .ok (.istore_n 2, 1) := by decide +kernel
theorem dX11_guessesOf_35 : decode cX11_guessesOf 35 = .ok (.iinc 3 1, 3) := by decide +kernel
theorem dX11_guessesOf_38 : decode cX11_guessesOf 38 = .ok (.goto (-34), 3) := by decide +kernel
theorem dX11_guessesOf_41 : decode cX11_guessesOf 41 = .ok (.iload_n 2, 1) := by decide +kernel
theorem dX11_guessesOf_42 : decode cX11_guessesOf 42 = .ok (.ireturn, 1) := by decide +kernel
theorem dX11_latestOf_0 : decode cX11_latestOf 0 = .ok (.aload_n 0, 1) := by decide +kernel
theorem dX11_latestOf_1 : decode cX11_latestOf 1 = .ok (.getfield 13, 3) := by decide +kernel
theorem dX11_latestOf_4 : decode cX11_latestOf 4 = .ok (.iconst 1, 1) := by decide +kernel
theorem dX11_latestOf_5 : decode cX11_latestOf 5 = .ok (.iaload, 1) := by decide +kernel
theorem dX11_latestOf_6 : decode cX11_latestOf 6 = .ok (.iconst 1, 1) := by decide +kernel
theorem dX11_latestOf_7 : decode cX11_latestOf 7 = .ok (.isub, 1) := by decide +kernel
theorem dX11_latestOf_8 : decode cX11_latestOf 8 = .ok (.istore_n 2, 1) := by decide +kernel
theorem dX11_latestOf_9 : decode cX11_latestOf 9 = .ok (.iload_n 2, 1) := by decide +kernel
theorem dX11_latestOf_10 : decode cX11_latestOf 10 = .ok (.ifCond .lt 22, 3) := by decide +kernel
theorem dX11_latestOf_13 : decode cX11_latestOf 13 = .ok (.aload_n 0, 1) := by decide +kernel
theorem dX11_latestOf_14 : decode cX11_latestOf 14 = .ok (.getfield 13, 3) := by decide +kernel
theorem dX11_latestOf_17 : decode cX11_latestOf 17 = .ok (.bipush 29, 2) := by decide +kernel
theorem dX11_latestOf_19 : decode cX11_latestOf 19 = .ok (.iload_n 2, 1) := by decide +kernel
theorem dX11_latestOf_20 : decode cX11_latestOf 20 = .ok (.iadd, 1) := by decide +kernel
theorem dX11_latestOf_21 : decode cX11_latestOf 21 = .ok (.iaload, 1) := by decide +kernel
theorem dX11_latestOf_22 : decode cX11_latestOf 22 = .ok (.iload_n 1, 1) := by decide +kernel
theorem dX11_latestOf_23 : decode cX11_latestOf 23 = .ok (.if_icmp .eq 9, 3) := by decide +kernel
theorem dX11_latestOf_26 : decode cX11_latestOf 26 = .ok (.iinc 2 (-1), 3) := by decide +kernel
theorem dX11_latestOf_29 : decode cX11_latestOf 29 = .ok (.goto (-20), 3) := by decide +kernel
theorem dX11_latestOf_32 : decode cX11_latestOf 32 = .ok (.iload_n 2, 1) := by decide +kernel
theorem dX11_latestOf_33 : decode cX11_latestOf 33 = .ok (.ireturn, 1) := by decide +kernel
theorem dX11_guesser_0 : decode cX11_guesser 0 = .ok (.aload_n 0, 1) := by decide +kernel
theorem dX11_guesser_1 : decode cX11_guesser 1 = .ok (.iconst 0, 1) := by decide +kernel
theorem dX11_guesser_2 : decode cX11_guesser 2 = .ok (.putfield 1, 3) := by decide +kernel
theorem dX11_guesser_5 : decode cX11_guesser 5 = .ok (.aload_n 0, 1) := by decide +kernel
theorem dX11_guesser_6 : decode cX11_guesser 6 = .ok (.iload_n 1, 1) := by decide +kernel
theorem dX11_guesser_7 : decode cX11_guesser 7 = .ok (.i2l, 1) := by decide +kernel
theorem dX11_guesser_8 : decode cX11_guesser 8 = .ok (.invokevirtual 145, 3) := by decide +kernel
theorem dX11_guesser_11 : decode cX11_guesser 11 = .ok (.ifCond .eq 15, 3) := by decide +kernel
theorem dX11_guesser_14 : decode cX11_guesser 14 = .ok (.iload_n 2, 1) := by decide +kernel
theorem dX11_guesser_15 : decode cX11_guesser 15 = .ok (.i2l, 1) := by decide +kernel
theorem dX11_guesser_16 : decode cX11_guesser 16 = .ok (.lconst 0, 1) := by decide +kernel
theorem dX11_guesser_17 : decode cX11_guesser 17 = .ok (.ldc2_w 149, 3) := by decide +kernel
theorem dX11_guesser_20 : decode cX11_guesser 20 = .ok (.invokestatic 125, 3) := by decide +kernel
theorem dX11_guesser_23 : decode cX11_guesser 23 = .ok (.ifCond .ne 6, 3) := by decide +kernel
theorem dX11_guesser_26 : decode cX11_guesser 26 = .ok (.bipush (-2), 2) := by decide +kernel
theorem dX11_guesser_28 : decode cX11_guesser 28 = .ok (.ireturn, 1) := by decide +kernel
theorem dX11_guesser_29 : decode cX11_guesser 29 = .ok (.iload_n 2, 1) := by decide +kernel
theorem dX11_guesser_30 : decode cX11_guesser 30 = .ok (.iconst 3, 1) := by decide +kernel
theorem dX11_guesser_31 : decode cX11_guesser 31 = .ok (.if_icmp .ge 20, 3) := by decide +kernel
theorem dX11_guesser_34 : decode cX11_guesser 34 = .ok (.aload_n 0, 1) := by decide +kernel
theorem dX11_guesser_35 : decode cX11_guesser 35 = .ok (.getfield 13, 3) := by decide +kernel
theorem dX11_guesser_38 : decode cX11_guesser 38 = .ok (.bipush 11, 2) := by decide +kernel
theorem dX11_guesser_40 : decode cX11_guesser 40 = .ok (.bipush 6, 2) := by decide +kernel
theorem dX11_guesser_42 : decode cX11_guesser 42 = .ok (.iload_n 2, 1) := by decide +kernel
theorem dX11_guesser_43 : decode cX11_guesser 43 = .ok (.imul, 1) := by decide +kernel
theorem dX11_guesser_44 : decode cX11_guesser 44 = .ok (.iadd, 1) := by decide +kernel
theorem dX11_guesser_45 : decode cX11_guesser 45 = .ok (.iload_n 1, 1) := by decide +kernel
theorem dX11_guesser_46 : decode cX11_guesser 46 = .ok (.iadd, 1) := by decide +kernel
theorem dX11_guesser_47 : decode cX11_guesser 47 = .ok (.iaload, 1) := by decide +kernel
theorem dX11_guesser_48 : decode cX11_guesser 48 = .ok (.goto 21, 3) := by decide +kernel
theorem dX11_guesser_51 : decode cX11_guesser 51 = .ok (.iload_n 2, 1) := by decide +kernel
theorem dX11_guesser_52 : decode cX11_guesser 52 = .ok (.iconst 3, 1) := by decide +kernel
theorem dX11_guesser_53 : decode cX11_guesser 53 = .ok (.if_icmp .ne 11, 3) := by decide +kernel
theorem dX11_guesser_56 : decode cX11_guesser 56 = .ok (.aload_n 0, 1) := by decide +kernel
theorem dX11_guesser_57 : decode cX11_guesser 57 = .ok (.iload_n 1, 1) := by decide +kernel
theorem dX11_guesser_58 : decode cX11_guesser 58 = .ok (.invokevirtual 151, 3) := by decide +kernel
theorem dX11_guesser_61 : decode cX11_guesser 61 = .ok (.goto 8, 3) := by decide +kernel
theorem dX11_guesser_64 : decode cX11_guesser 64 = .ok (.aload_n 0, 1) := by decide +kernel
theorem dX11_guesser_65 : decode cX11_guesser 65 = .ok (.iload_n 1, 1) := by decide +kernel
theorem dX11_guesser_66 : decode cX11_guesser 66 = .ok (.invokevirtual 154, 3) := by decide +kernel
theorem dX11_guesser_69 : decode cX11_guesser 69 = .ok (.ireturn, 1) := by decide +kernel
theorem dX11_sightOf_0 : decode cX11_sightOf 0 = .ok (.iload_n 2, 1) := by decide +kernel
theorem dX11_sightOf_1 : decode cX11_sightOf 1 = .ok (.aload_n 0, 1) := by decide +kernel
theorem dX11_sightOf_2 : decode cX11_sightOf 2 = .ok (.getfield 13, 3) := by decide +kernel
theorem dX11_sightOf_5 : decode cX11_sightOf 5 = .ok (.bipush 11, 2) := by decide +kernel
theorem dX11_sightOf_7 : decode cX11_sightOf 7 = .ok (.iload_n 1, 1) := by decide +kernel
theorem dX11_sightOf_8 : decode cX11_sightOf 8 = .ok (.iadd, 1) := by decide +kernel
theorem dX11_sightOf_9 : decode cX11_sightOf 9 = .ok (.iaload, 1) := by decide +kernel
theorem dX11_sightOf_10 : decode cX11_sightOf 10 = .ok (.imul, 1) := by decide +kernel
theorem dX11_sightOf_11 : decode cX11_sightOf 11 = .ok (.bipush 100, 2) := by decide +kernel
theorem dX11_sightOf_13 : decode cX11_sightOf 13 = .ok (.idiv, 1) := by decide +kernel
theorem dX11_sightOf_14 : decode cX11_sightOf 14 = .ok (.ireturn, 1) := by decide +kernel
theorem dX11_sight_0 : decode cX11_sight 0 = .ok (.aload_n 0, 1) := by decide +kernel
theorem dX11_sight_1 : decode cX11_sight 1 = .ok (.iconst 0, 1) := by decide +kernel
theorem dX11_sight_2 : decode cX11_sight 2 = .ok (.putfield 1, 3) := by decide +kernel
theorem dX11_sight_5 : decode cX11_sight 5 = .ok (.aload_n 0, 1) := by decide +kernel
theorem dX11_sight_6 : decode cX11_sight 6 = .ok (.iload_n 1, 1) := by decide +kernel
theorem dX11_sight_7 : decode cX11_sight 7 = .ok (.i2l, 1) := by decide +kernel
theorem dX11_sight_8 : decode cX11_sight 8 = .ok (.invokevirtual 145, 3) := by decide +kernel
theorem dX11_sight_11 : decode cX11_sight 11 = .ok (.ifCond .ne 6, 3) := by decide +kernel
theorem dX11_sight_14 : decode cX11_sight 14 = .ok (.bipush (-2), 2) := by decide +kernel
theorem dX11_sight_16 : decode cX11_sight 16 = .ok (.ireturn, 1) := by decide +kernel
theorem dX11_sight_17 : decode cX11_sight 17 = .ok (.iload_n 2, 1) := by decide +kernel
theorem dX11_sight_18 : decode cX11_sight 18 = .ok (.i2l, 1) := by decide +kernel
theorem dX11_sight_19 : decode cX11_sight 19 = .ok (.lconst 1, 1) := by decide +kernel
theorem dX11_sight_20 : decode cX11_sight 20 = .ok (.ldc2_w 157, 3) := by decide +kernel
theorem dX11_sight_23 : decode cX11_sight 23 = .ok (.invokestatic 125, 3) := by decide +kernel
theorem dX11_sight_26 : decode cX11_sight 26 = .ok (.ifCond .eq 12, 3) := by decide +kernel
theorem dX11_sight_29 : decode cX11_sight 29 = .ok (.aload_n 0, 1) := by decide +kernel
theorem dX11_sight_30 : decode cX11_sight 30 = .ok (.iload_n 1, 1) := by decide +kernel
theorem dX11_sight_31 : decode cX11_sight 31 = .ok (.iload_n 2, 1) := by decide +kernel
theorem dX11_sight_32 : decode cX11_sight 32 = .ok (.invokevirtual 159, 3) := by decide +kernel
theorem dX11_sight_35 : decode cX11_sight 35 = .ok (.goto 5, 3) := by decide +kernel
theorem dX11_sight_38 : decode cX11_sight 38 = .ok (.bipush (-3), 2) := by decide +kernel
theorem dX11_sight_40 : decode cX11_sight 40 = .ok (.ireturn, 1) := by decide +kernel
theorem dX11_weightOf_0 : decode cX11_weightOf 0 = .ok (.aload_n 0, 1) := by decide +kernel
theorem dX11_weightOf_1 : decode cX11_weightOf 1 = .ok (.getfield 13, 3) := by decide +kernel
theorem dX11_weightOf_4 : decode cX11_weightOf 4 = .ok (.bipush 10, 2) := by decide +kernel
theorem dX11_weightOf_6 : decode cX11_weightOf 6 = .ok (.iaload, 1) := by decide +kernel
theorem dX11_weightOf_7 : decode cX11_weightOf 7 = .ok (.iconst (-1), 1) := by decide +kernel
theorem dX11_weightOf_8 : decode cX11_weightOf 8 = .ok (.if_icmp .ne 7, 3) := by decide +kernel
theorem dX11_weightOf_11 : decode cX11_weightOf 11 = .ok (.iconst 1, 1) := by decide +kernel
theorem dX11_weightOf_12 : decode cX11_weightOf 12 = .ok (.goto 25, 3) := by decide +kernel
theorem dX11_weightOf_15 : decode cX11_weightOf 15 = .ok (.bipush 9, 2) := by decide +kernel
theorem dX11_weightOf_17 : decode cX11_weightOf 17 = .ok (.aload_n 0, 1) := by decide +kernel
theorem dX11_weightOf_18 : decode cX11_weightOf 18 = .ok (.getfield 13, 3) := by decide +kernel
theorem dX11_weightOf_21 : decode cX11_weightOf 21 = .ok (.bipush 10, 2) := by decide +kernel
theorem dX11_weightOf_23 : decode cX11_weightOf 23 = .ok (.iaload, 1) := by decide +kernel
theorem dX11_weightOf_24 : decode cX11_weightOf 24 = .ok (.iload_n 1, 1) := by decide +kernel
theorem dX11_weightOf_25 : decode cX11_weightOf 25 = .ok (.aload_n 0, 1) := by decide +kernel
theorem dX11_weightOf_26 : decode cX11_weightOf 26 = .ok (.getfield 13, 3) := by decide +kernel
theorem dX11_weightOf_29 : decode cX11_weightOf 29 = .ok (.bipush 9, 2) := by decide +kernel
theorem dX11_weightOf_31 : decode cX11_weightOf 31 = .ok (.iaload, 1) := by decide +kernel
theorem dX11_weightOf_32 : decode cX11_weightOf 32 = .ok (.invokestatic 162, 3) := by decide +kernel
theorem dX11_weightOf_35 : decode cX11_weightOf 35 = .ok (.imul, 1) := by decide +kernel
theorem dX11_weightOf_36 : decode cX11_weightOf 36 = .ok (.isub, 1) := by decide +kernel
theorem dX11_weightOf_37 : decode cX11_weightOf 37 = .ok (.istore_n 2, 1) := by decide +kernel
theorem dX11_weightOf_38 : decode cX11_weightOf 38 = .ok (.iload_n 2, 1) := by decide +kernel
theorem dX11_weightOf_39 : decode cX11_weightOf 39 = .ok (.iconst 1, 1) := by decide +kernel
theorem dX11_weightOf_40 : decode cX11_weightOf 40 = .ok (.if_icmp .ge 7, 3) := by decide +kernel
theorem dX11_weightOf_43 : decode cX11_weightOf 43 = .ok (.iconst 1, 1) := by decide +kernel
theorem dX11_weightOf_44 : decode cX11_weightOf 44 = .ok (.goto 4, 3) := by decide +kernel
theorem dX11_weightOf_47 : decode cX11_weightOf 47 = .ok (.iload_n 2, 1) := by decide +kernel
theorem dX11_weightOf_48 : decode cX11_weightOf 48 = .ok (.ireturn, 1) := by decide +kernel
theorem dX11_weight_0 : decode cX11_weight 0 = .ok (.aload_n 0, 1) := by decide +kernel
theorem dX11_weight_1 : decode cX11_weight 1 = .ok (.iconst 0, 1) := by decide +kernel
theorem dX11_weight_2 : decode cX11_weight 2 = .ok (.putfield 1, 3) := by decide +kernel
theorem dX11_weight_5 : decode cX11_weight 5 = .ok (.aload_n 0, 1) := by decide +kernel
theorem dX11_weight_6 : decode cX11_weight 6 = .ok (.iload_n 1, 1) := by decide +kernel
theorem dX11_weight_7 : decode cX11_weight 7 = .ok (.invokevirtual 165, 3) := by decide +kernel
theorem dX11_weight_10 : decode cX11_weight 10 = .ok (.ifCond .eq 11, 3) := by decide +kernel
theorem dX11_weight_13 : decode cX11_weight 13 = .ok (.aload_n 0, 1) := by decide +kernel
theorem dX11_weight_14 : decode cX11_weight 14 = .ok (.iload_n 1, 1) := by decide +kernel
theorem dX11_weight_15 : decode cX11_weight 15 = .ok (.invokevirtual 168, 3) := by decide +kernel
theorem dX11_weight_18 : decode cX11_weight 18 = .ok (.goto 5, 3) := by decide +kernel
theorem dX11_weight_21 : decode cX11_weight 21 = .ok (.bipush (-3), 2) := by decide +kernel
theorem dX11_weight_23 : decode cX11_weight 23 = .ok (.ireturn, 1) := by decide +kernel
theorem dX11_jar_0 : decode cX11_jar 0 = .ok (.aload_n 0, 1) := by decide +kernel
theorem dX11_jar_1 : decode cX11_jar 1 = .ok (.iconst 0, 1) := by decide +kernel
theorem dX11_jar_2 : decode cX11_jar 2 = .ok (.putfield 1, 3) := by decide +kernel
theorem dX11_jar_5 : decode cX11_jar 5 = .ok (.iload_n 1, 1) := by decide +kernel
theorem dX11_jar_6 : decode cX11_jar 6 = .ok (.i2l, 1) := by decide +kernel
theorem dX11_jar_7 : decode cX11_jar 7 = .ok (.lconst 0, 1) := by decide +kernel
theorem dX11_jar_8 : decode cX11_jar 8 = .ok (.ldc2_w 157, 3) := by decide +kernel
theorem dX11_jar_11 : decode cX11_jar 11 = .ok (.invokestatic 125, 3) := by decide +kernel
theorem dX11_jar_14 : decode cX11_jar 14 = .ok (.ifCond .ne 6, 3) := by decide +kernel
theorem dX11_jar_17 : decode cX11_jar 17 = .ok (.bipush (-3), 2) := by decide +kernel
theorem dX11_jar_19 : decode cX11_jar 19 = .ok (.ireturn, 1) := by decide +kernel
theorem dX11_jar_20 : decode cX11_jar 20 = .ok (.aload_n 0, 1) := by decide +kernel
theorem dX11_jar_21 : decode cX11_jar 21 = .ok (.getfield 13, 3) := by decide +kernel
theorem dX11_jar_24 : decode cX11_jar 24 = .ok (.bipush 6, 2) := by decide +kernel
theorem dX11_jar_26 : decode cX11_jar 26 = .ok (.iaload, 1) := by decide +kernel
theorem dX11_jar_27 : decode cX11_jar 27 = .ok (.istore_n 2, 1) := by decide +kernel
theorem dX11_jar_28 : decode cX11_jar 28 = .ok (.aload_n 0, 1) := by decide +kernel
theorem dX11_jar_29 : decode cX11_jar 29 = .ok (.getfield 13, 3) := by decide +kernel
theorem dX11_jar_32 : decode cX11_jar 32 = .ok (.bipush 6, 2) := by decide +kernel
theorem dX11_jar_34 : decode cX11_jar 34 = .ok (.iload_n 1, 1) := by decide +kernel
theorem dX11_jar_35 : decode cX11_jar 35 = .ok (.iastore, 1) := by decide +kernel
theorem dX11_jar_36 : decode cX11_jar 36 = .ok (.iload_n 2, 1) := by decide +kernel
theorem dX11_jar_37 : decode cX11_jar 37 = .ok (.ireturn, 1) := by decide +kernel
theorem dX11_meanOf_0 : decode cX11_meanOf 0 = .ok (.iconst 0, 1) := by decide +kernel
theorem dX11_meanOf_1 : decode cX11_meanOf 1 = .ok (.istore_n 2, 1) := by decide +kernel
theorem dX11_meanOf_2 : decode cX11_meanOf 2 = .ok (.iconst 0, 1) := by decide +kernel
theorem dX11_meanOf_3 : decode cX11_meanOf 3 = .ok (.istore_n 3, 1) := by decide +kernel
theorem dX11_meanOf_4 : decode cX11_meanOf 4 = .ok (.iload_n 3, 1) := by decide +kernel
theorem dX11_meanOf_5 : decode cX11_meanOf 5 = .ok (.iload_n 1, 1) := by decide +kernel
theorem dX11_meanOf_6 : decode cX11_meanOf 6 = .ok (.if_icmp .ge 17, 3) := by decide +kernel
theorem dX11_meanOf_9 : decode cX11_meanOf 9 = .ok (.iload_n 2, 1) := by decide +kernel
theorem dX11_meanOf_10 : decode cX11_meanOf 10 = .ok (.aload_n 0, 1) := by decide +kernel
theorem dX11_meanOf_11 : decode cX11_meanOf 11 = .ok (.iload_n 3, 1) := by decide +kernel
theorem dX11_meanOf_12 : decode cX11_meanOf 12 = .ok (.invokevirtual 171, 3) := by decide +kernel
theorem dX11_meanOf_15 : decode cX11_meanOf 15 = .ok (.iadd, 1) := by decide +kernel
theorem dX11_meanOf_16 : decode cX11_meanOf 16 = .ok (.istore_n 2, 1) := by decide +kernel
theorem dX11_meanOf_17 : decode cX11_meanOf 17 = .ok (.iinc 3 1, 3) := by decide +kernel
theorem dX11_meanOf_20 : decode cX11_meanOf 20 = .ok (.goto (-16), 3) := by decide +kernel
theorem dX11_meanOf_23 : decode cX11_meanOf 23 = .ok (.iload_n 1, 1) := by decide +kernel
theorem dX11_meanOf_24 : decode cX11_meanOf 24 = .ok (.ifCond .ne 7, 3) := by decide +kernel
theorem dX11_meanOf_27 : decode cX11_meanOf 27 = .ok (.iconst (-1), 1) := by decide +kernel
theorem dX11_meanOf_28 : decode cX11_meanOf 28 = .ok (.goto 6, 3) := by decide +kernel
theorem dX11_meanOf_31 : decode cX11_meanOf 31 = .ok (.iload_n 2, 1) := by decide +kernel
theorem dX11_meanOf_32 : decode cX11_meanOf 32 = .ok (.iload_n 1, 1) := by decide +kernel
theorem dX11_meanOf_33 : decode cX11_meanOf 33 = .ok (.idiv, 1) := by decide +kernel
theorem dX11_meanOf_34 : decode cX11_meanOf 34 = .ok (.ireturn, 1) := by decide +kernel
theorem dX11_goalAt_0 : decode cX11_goalAt 0 = .ok (.aload_n 0, 1) := by decide +kernel
theorem dX11_goalAt_1 : decode cX11_goalAt 1 = .ok (.getfield 13, 3) := by decide +kernel
theorem dX11_goalAt_4 : decode cX11_goalAt 4 = .ok (.bipush 7, 2) := by decide +kernel
theorem dX11_goalAt_6 : decode cX11_goalAt 6 = .ok (.iaload, 1) := by decide +kernel
theorem dX11_goalAt_7 : decode cX11_goalAt 7 = .ok (.iconst 1, 1) := by decide +kernel
theorem dX11_goalAt_8 : decode cX11_goalAt 8 = .ok (.if_icmp .ne 7, 3) := by decide +kernel
theorem dX11_goalAt_11 : decode cX11_goalAt 11 = .ok (.iconst (-1), 1) := by decide +kernel
theorem dX11_goalAt_12 : decode cX11_goalAt 12 = .ok (.goto 8, 3) := by decide +kernel
theorem dX11_goalAt_15 : decode cX11_goalAt 15 = .ok (.aload_n 0, 1) := by decide +kernel
theorem dX11_goalAt_16 : decode cX11_goalAt 16 = .ok (.iload_n 1, 1) := by decide +kernel
theorem dX11_goalAt_17 : decode cX11_goalAt 17 = .ok (.invokevirtual 174, 3) := by decide +kernel
theorem dX11_goalAt_20 : decode cX11_goalAt 20 = .ok (.ireturn, 1) := by decide +kernel
theorem dX11_adds_0 : decode cX11_adds 0 = .ok (.aload_n 0, 1) := by decide +kernel
theorem dX11_adds_1 : decode cX11_adds 1 = .ok (.getfield 13, 3) := by decide +kernel
theorem dX11_adds_4 : decode cX11_adds 4 = .ok (.bipush 29, 2) := by decide +kernel
theorem dX11_adds_6 : decode cX11_adds 6 = .ok (.aload_n 0, 1) := by decide +kernel
theorem dX11_adds_7 : decode cX11_adds 7 = .ok (.getfield 13, 3) := by decide +kernel
theorem dX11_adds_10 : decode cX11_adds 10 = .ok (.iconst 1, 1) := by decide +kernel
theorem dX11_adds_11 : decode cX11_adds 11 = .ok (.iaload, 1) := by decide +kernel
theorem dX11_adds_12 : decode cX11_adds 12 = .ok (.iadd, 1) := by decide +kernel
theorem dX11_adds_13 : decode cX11_adds 13 = .ok (.iload_n 1, 1) := by decide +kernel
theorem dX11_adds_14 : decode cX11_adds 14 = .ok (.iastore, 1) := by decide +kernel
theorem dX11_adds_15 : decode cX11_adds 15 = .ok (.aload_n 0, 1) := by decide +kernel
theorem dX11_adds_16 : decode cX11_adds 16 = .ok (.getfield 13, 3) := by decide +kernel
theorem dX11_adds_19 : decode cX11_adds 19 = .ok (.bipush 69, 2) := by decide +kernel
theorem dX11_adds_21 : decode cX11_adds 21 = .ok (.aload_n 0, 1) := by decide +kernel
theorem dX11_adds_22 : decode cX11_adds 22 = .ok (.getfield 13, 3) := by decide +kernel
theorem dX11_adds_25 : decode cX11_adds 25 = .ok (.iconst 1, 1) := by decide +kernel
theorem dX11_adds_26 : decode cX11_adds 26 = .ok (.iaload, 1) := by decide +kernel
theorem dX11_adds_27 : decode cX11_adds 27 = .ok (.iadd, 1) := by decide +kernel
theorem dX11_adds_28 : decode cX11_adds 28 = .ok (.iload_n 2, 1) := by decide +kernel
theorem dX11_adds_29 : decode cX11_adds 29 = .ok (.iastore, 1) := by decide +kernel
theorem dX11_adds_30 : decode cX11_adds 30 = .ok (.aload_n 0, 1) := by decide +kernel
theorem dX11_adds_31 : decode cX11_adds 31 = .ok (.getfield 13, 3) := by decide +kernel
theorem dX11_adds_34 : decode cX11_adds 34 = .ok (.iconst 1, 1) := by decide +kernel
theorem dX11_adds_35 : decode cX11_adds 35 = .ok (.dup2, 1) := by decide +kernel
theorem dX11_adds_36 : decode cX11_adds 36 = .ok (.iaload, 1) := by decide +kernel
theorem dX11_adds_37 : decode cX11_adds 37 = .ok (.iconst 1, 1) := by decide +kernel
theorem dX11_adds_38 : decode cX11_adds 38 = .ok (.iadd, 1) := by decide +kernel
theorem dX11_adds_39 : decode cX11_adds 39 = .ok (.iastore, 1) := by decide +kernel
theorem dX11_adds_40 : decode cX11_adds 40 = .ok (.return_, 1) := by decide +kernel
theorem dX11_write_0 : decode cX11_write 0 = .ok (.aload_n 0, 1) := by decide +kernel
theorem dX11_write_1 : decode cX11_write 1 = .ok (.iconst 0, 1) := by decide +kernel
theorem dX11_write_2 : decode cX11_write 2 = .ok (.putfield 1, 3) := by decide +kernel
theorem dX11_write_5 : decode cX11_write 5 = .ok (.aload_n 0, 1) := by decide +kernel
theorem dX11_write_6 : decode cX11_write 6 = .ok (.iload_n 1, 1) := by decide +kernel
theorem dX11_write_7 : decode cX11_write 7 = .ok (.i2l, 1) := by decide +kernel
theorem dX11_write_8 : decode cX11_write 8 = .ok (.invokevirtual 145, 3) := by decide +kernel
theorem dX11_write_11 : decode cX11_write 11 = .ok (.ifCond .ne 6, 3) := by decide +kernel
theorem dX11_write_14 : decode cX11_write 14 = .ok (.bipush (-2), 2) := by decide +kernel
theorem dX11_write_16 : decode cX11_write 16 = .ok (.ireturn, 1) := by decide +kernel
theorem dX11_write_17 : decode cX11_write 17 = .ok (.iload_n 2, 1) := by decide +kernel
theorem dX11_write_18 : decode cX11_write 18 = .ok (.i2l, 1) := by decide +kernel
theorem dX11_write_19 : decode cX11_write 19 = .ok (.lconst 0, 1) := by decide +kernel
theorem dX11_write_20 : decode cX11_write 20 = .ok (.ldc2_w 177, 3) := by decide +kernel
theorem dX11_write_23 : decode cX11_write 23 = .ok (.invokestatic 125, 3) := by decide +kernel
theorem dX11_write_26 : decode cX11_write 26 = .ok (.ifCond .ne 6, 3) := by decide +kernel
theorem dX11_write_29 : decode cX11_write 29 = .ok (.bipush (-3), 2) := by decide +kernel
theorem dX11_write_31 : decode cX11_write 31 = .ok (.ireturn, 1) := by decide +kernel
theorem dX11_write_32 : decode cX11_write 32 = .ok (.aload_n 0, 1) := by decide +kernel
theorem dX11_write_33 : decode cX11_write 33 = .ok (.getfield 13, 3) := by decide +kernel
theorem dX11_write_36 : decode cX11_write 36 = .ok (.iconst 1, 1) := by decide +kernel
theorem dX11_write_37 : decode cX11_write 37 = .ok (.iaload, 1) := by decide +kernel
theorem dX11_write_38 : decode cX11_write 38 = .ok (.bipush 40, 2) := by decide +kernel
theorem dX11_write_40 : decode cX11_write 40 = .ok (.if_icmp .ne 6, 3) := by decide +kernel
theorem dX11_write_43 : decode cX11_write 43 = .ok (.bipush (-4), 2) := by decide +kernel
theorem dX11_write_45 : decode cX11_write 45 = .ok (.ireturn, 1) := by decide +kernel
theorem dX11_write_46 : decode cX11_write 46 = .ok (.aload_n 0, 1) := by decide +kernel
theorem dX11_write_47 : decode cX11_write 47 = .ok (.iload_n 1, 1) := by decide +kernel
theorem dX11_write_48 : decode cX11_write 48 = .ok (.iload_n 2, 1) := by decide +kernel
theorem dX11_write_49 : decode cX11_write 49 = .ok (.invokevirtual 179, 3) := by decide +kernel
theorem dX11_write_52 : decode cX11_write 52 = .ok (.aload_n 0, 1) := by decide +kernel
theorem dX11_write_53 : decode cX11_write 53 = .ok (.getfield 13, 3) := by decide +kernel
theorem dX11_write_56 : decode cX11_write 56 = .ok (.iconst 1, 1) := by decide +kernel
theorem dX11_write_57 : decode cX11_write 57 = .ok (.iaload, 1) := by decide +kernel
theorem dX11_write_58 : decode cX11_write 58 = .ok (.ireturn, 1) := by decide +kernel
theorem dX11_strike_0 : decode cX11_strike 0 = .ok (.aload_n 0, 1) := by decide +kernel
theorem dX11_strike_1 : decode cX11_strike 1 = .ok (.iconst 0, 1) := by decide +kernel
theorem dX11_strike_2 : decode cX11_strike 2 = .ok (.putfield 1, 3) := by decide +kernel
theorem dX11_strike_5 : decode cX11_strike 5 = .ok (.iload_n 1, 1) := by decide +kernel
theorem dX11_strike_6 : decode cX11_strike 6 = .ok (.i2l, 1) := by decide +kernel
theorem dX11_strike_7 : decode cX11_strike 7 = .ok (.lconst 0, 1) := by decide +kernel
theorem dX11_strike_8 : decode cX11_strike 8 = .ok (.aload_n 0, 1) := by decide +kernel
theorem dX11_strike_9 : decode cX11_strike 9 = .ok (.getfield 13, 3) := by decide +kernel
theorem dX11_strike_12 : decode cX11_strike 12 = .ok (.iconst 1, 1) := by decide +kernel
theorem dX11_strike_13 : decode cX11_strike 13 = .ok (.iaload, 1) := by decide +kernel
theorem dX11_strike_14 : decode cX11_strike 14 = .ok (.i2l, 1) := by decide +kernel
theorem dX11_strike_15 : decode cX11_strike 15 = .ok (.invokestatic 125, 3) := by decide +kernel
theorem dX11_strike_18 : decode cX11_strike 18 = .ok (.ifCond .ne 6, 3) := by decide +kernel
theorem dX11_strike_21 : decode cX11_strike 21 = .ok (.bipush (-3), 2) := by decide +kernel
theorem dX11_strike_23 : decode cX11_strike 23 = .ok (.ireturn, 1) := by decide +kernel
theorem dX11_strike_24 : decode cX11_strike 24 = .ok (.aload_n 0, 1) := by decide +kernel
theorem dX11_strike_25 : decode cX11_strike 25 = .ok (.getfield 13, 3) := by decide +kernel
theorem dX11_strike_28 : decode cX11_strike 28 = .ok (.iconst 1, 1) := by decide +kernel
theorem dX11_strike_29 : decode cX11_strike 29 = .ok (.dup2, 1) := by decide +kernel
theorem dX11_strike_30 : decode cX11_strike 30 = .ok (.iaload, 1) := by decide +kernel
theorem dX11_strike_31 : decode cX11_strike 31 = .ok (.iload_n 1, 1) := by decide +kernel
theorem dX11_strike_32 : decode cX11_strike 32 = .ok (.isub, 1) := by decide +kernel
theorem dX11_strike_33 : decode cX11_strike 33 = .ok (.iastore, 1) := by decide +kernel
theorem dX11_strike_34 : decode cX11_strike 34 = .ok (.aload_n 0, 1) := by decide +kernel
theorem dX11_strike_35 : decode cX11_strike 35 = .ok (.getfield 13, 3) := by decide +kernel
theorem dX11_strike_38 : decode cX11_strike 38 = .ok (.iconst 1, 1) := by decide +kernel
theorem dX11_strike_39 : decode cX11_strike 39 = .ok (.iaload, 1) := by decide +kernel
theorem dX11_strike_40 : decode cX11_strike 40 = .ok (.ireturn, 1) := by decide +kernel
theorem dX11_list_0 : decode cX11_list 0 = .ok (.aload_n 0, 1) := by decide +kernel
theorem dX11_list_1 : decode cX11_list 1 = .ok (.iconst 0, 1) := by decide +kernel
theorem dX11_list_2 : decode cX11_list 2 = .ok (.putfield 1, 3) := by decide +kernel
theorem dX11_list_5 : decode cX11_list 5 = .ok (.aload_n 0, 1) := by decide +kernel
theorem dX11_list_6 : decode cX11_list 6 = .ok (.iload_n 1, 1) := by decide +kernel
theorem dX11_list_7 : decode cX11_list 7 = .ok (.invokevirtual 183, 3) := by decide +kernel
theorem dX11_list_10 : decode cX11_list 10 = .ok (.ifCond .eq 15, 3) := by decide +kernel
theorem dX11_list_13 : decode cX11_list 13 = .ok (.iload_n 2, 1) := by decide +kernel
theorem dX11_list_14 : decode cX11_list 14 = .ok (.i2l, 1) := by decide +kernel
theorem dX11_list_15 : decode cX11_list 15 = .ok (.lconst 0, 1) := by decide +kernel
theorem dX11_list_16 : decode cX11_list 16 = .ok (.ldc2_w 149, 3) := by decide +kernel
theorem dX11_list_19 : decode cX11_list 19 = .ok (.invokestatic 125, 3) := by decide +kernel
theorem dX11_list_22 : decode cX11_list 22 = .ok (.ifCond .ne 6, 3) := by decide +kernel
theorem dX11_list_25 : decode cX11_list 25 = .ok (.bipush (-2), 2) := by decide +kernel
theorem dX11_list_27 : decode cX11_list 27 = .ok (.ireturn, 1) := by decide +kernel
theorem dX11_list_28 : decode cX11_list 28 = .ok (.iload_n 2, 1) := by decide +kernel
theorem dX11_list_29 : decode cX11_list 29 = .ok (.ifCond .ne 9, 3) := by decide +kernel
theorem dX11_list_32 : decode cX11_list 32 = .ok (.aload_n 0, 1) := by decide +kernel
theorem dX11_list_33 : decode cX11_list 33 = .ok (.iload_n 1, 1) := by decide +kernel
theorem dX11_list_34 : decode cX11_list 34 = .ok (.invokevirtual 171, 3) := by decide +kernel
theorem dX11_list_37 : decode cX11_list 37 = .ok (.ireturn, 1) := by decide +kernel
theorem dX11_list_38 : decode cX11_list 38 = .ok (.iload_n 2, 1) := by decide +kernel
theorem dX11_list_39 : decode cX11_list 39 = .ok (.iconst 1, 1) := by decide +kernel
theorem dX11_list_40 : decode cX11_list 40 = .ok (.if_icmp .ne 13, 3) := by decide +kernel
theorem dX11_list_43 : decode cX11_list 43 = .ok (.aload_n 0, 1) := by decide +kernel
