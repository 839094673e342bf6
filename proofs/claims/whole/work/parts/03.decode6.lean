theorem dX11_image_37 : decode cX11_image 37 = .ok (.iadd, 1) := by decide +kernel
theorem dX11_image_38 : decode cX11_image 38 = .ok (.aload_n 0, 1) := by decide +kernel
theorem dX11_image_39 : decode cX11_image 39 = .ok (.getfield 13, 3) := by decide +kernel
theorem dX11_image_42 : decode cX11_image 42 = .ok (.iload_n 2, 1) := by decide +kernel
theorem dX11_image_43 : decode cX11_image 43 = .ok (.iaload, 1) := by decide +kernel
theorem dX11_image_44 : decode cX11_image 44 = .ok (.iastore, 1) := by decide +kernel
theorem dX11_image_45 : decode cX11_image 45 = .ok (.iinc 2 1, 3) := by decide +kernel
theorem dX11_image_48 : decode cX11_image 48 = .ok (.goto (-28), 3) := by decide +kernel
theorem dX11_image_51 : decode cX11_image 51 = .ok (.aload_n 0, 1) := by decide +kernel
theorem dX11_image_52 : decode cX11_image 52 = .ok (.getfield 17, 3) := by decide +kernel
theorem dX11_image_55 : decode cX11_image 55 = .ok (.iload_n 1, 1) := by decide +kernel
theorem dX11_image_56 : decode cX11_image 56 = .ok (.iconst 1, 1) := by decide +kernel
theorem dX11_image_57 : decode cX11_image 57 = .ok (.bastore, 1) := by decide +kernel
theorem dX11_image_58 : decode cX11_image 58 = .ok (.iconst 0, 1) := by decide +kernel
theorem dX11_image_59 : decode cX11_image 59 = .ok (.ireturn, 1) := by decide +kernel
theorem dX11_restore_0 : decode cX11_restore 0 = .ok (.aload_n 0, 1) := by decide +kernel
theorem dX11_restore_1 : decode cX11_restore 1 = .ok (.iconst 0, 1) := by decide +kernel
theorem dX11_restore_2 : decode cX11_restore 2 = .ok (.putfield 1, 3) := by decide +kernel
theorem dX11_restore_5 : decode cX11_restore 5 = .ok (.iload_n 1, 1) := by decide +kernel
theorem dX11_restore_6 : decode cX11_restore 6 = .ok (.i2l, 1) := by decide +kernel
theorem dX11_restore_7 : decode cX11_restore 7 = .ok (.lconst 0, 1) := by decide +kernel
theorem dX11_restore_8 : decode cX11_restore 8 = .ok (.lconst 1, 1) := by decide +kernel
theorem dX11_restore_9 : decode cX11_restore 9 = .ok (.invokestatic 125, 3) := by decide +kernel
theorem dX11_restore_12 : decode cX11_restore 12 = .ok (.ifCond .ne 6, 3) := by decide +kernel
theorem dX11_restore_15 : decode cX11_restore 15 = .ok (.bipush (-2), 2) := by decide +kernel
theorem dX11_restore_17 : decode cX11_restore 17 = .ok (.ireturn, 1) := by decide +kernel
theorem dX11_restore_18 : decode cX11_restore 18 = .ok (.aload_n 0, 1) := by decide +kernel
theorem dX11_restore_19 : decode cX11_restore 19 = .ok (.getfield 17, 3) := by decide +kernel
theorem dX11_restore_22 : decode cX11_restore 22 = .ok (.iload_n 1, 1) := by decide +kernel
theorem dX11_restore_23 : decode cX11_restore 23 = .ok (.baload, 1) := by decide +kernel
theorem dX11_restore_24 : decode cX11_restore 24 = .ok (.ifCond .ne 6, 3) := by decide +kernel
theorem dX11_restore_27 : decode cX11_restore 27 = .ok (.bipush (-5), 2) := by decide +kernel
theorem dX11_restore_29 : decode cX11_restore 29 = .ok (.ireturn, 1) := by decide +kernel
theorem dX11_restore_30 : decode cX11_restore 30 = .ok (.iconst 0, 1) := by decide +kernel
theorem dX11_restore_31 : decode cX11_restore 31 = .ok (.istore_n 2, 1) := by decide +kernel
theorem dX11_restore_32 : decode cX11_restore 32 = .ok (.iload_n 2, 1) := by decide +kernel
theorem dX11_restore_33 : decode cX11_restore 33 = .ok (.bipush 110, 2) := by decide +kernel
theorem dX11_restore_35 : decode cX11_restore 35 = .ok (.if_icmp .ge 28, 3) := by decide +kernel
theorem dX11_restore_38 : decode cX11_restore 38 = .ok (.aload_n 0, 1) := by decide +kernel
theorem dX11_restore_39 : decode cX11_restore 39 = .ok (.getfield 13, 3) := by decide +kernel
theorem dX11_restore_42 : decode cX11_restore 42 = .ok (.iload_n 2, 1) := by decide +kernel
theorem dX11_restore_43 : decode cX11_restore 43 = .ok (.aload_n 0, 1) := by decide +kernel
theorem dX11_restore_44 : decode cX11_restore 44 = .ok (.getfield 13, 3) := by decide +kernel
theorem dX11_restore_47 : decode cX11_restore 47 = .ok (.bipush 110, 2) := by decide +kernel
theorem dX11_restore_49 : decode cX11_restore 49 = .ok (.iload_n 1, 1) := by decide +kernel
theorem dX11_restore_50 : decode cX11_restore 50 = .ok (.iconst 1, 1) := by decide +kernel
theorem dX11_restore_51 : decode cX11_restore 51 = .ok (.iadd, 1) := by decide +kernel
theorem dX11_restore_52 : decode cX11_restore 52 = .ok (.imul, 1) := by decide +kernel
theorem dX11_restore_53 : decode cX11_restore 53 = .ok (.iload_n 2, 1) := by decide +kernel
theorem dX11_restore_54 : decode cX11_restore 54 = .ok (.iadd, 1) := by decide +kernel
theorem dX11_restore_55 : decode cX11_restore 55 = .ok (.iaload, 1) := by decide +kernel
theorem dX11_restore_56 : decode cX11_restore 56 = .ok (.iastore, 1) := by decide +kernel
theorem dX11_restore_57 : decode cX11_restore 57 = .ok (.iinc 2 1, 3) := by decide +kernel
theorem dX11_restore_60 : decode cX11_restore 60 = .ok (.goto (-28), 3) := by decide +kernel
theorem dX11_restore_63 : decode cX11_restore 63 = .ok (.iconst 0, 1) := by decide +kernel
theorem dX11_restore_64 : decode cX11_restore 64 = .ok (.ireturn, 1) := by decide +kernel
theorem dX11_unlikeMany_0 : decode cX11_unlikeMany 0 = .ok (.iconst 0, 1) := by decide +kernel
theorem dX11_unlikeMany_1 : decode cX11_unlikeMany 1 = .ok (.istore_n 1, 1) := by decide +kernel
theorem dX11_unlikeMany_2 : decode cX11_unlikeMany 2 = .ok (.iconst 0, 1) := by decide +kernel
theorem dX11_unlikeMany_3 : decode cX11_unlikeMany 3 = .ok (.istore_n 2, 1) := by decide +kernel
theorem dX11_unlikeMany_4 : decode cX11_unlikeMany 4 = .ok (.iload_n 2, 1) := by decide +kernel
theorem dX11_unlikeMany_5 : decode cX11_unlikeMany 5 = .ok (.aload_n 0, 1) := by decide +kernel
theorem dX11_unlikeMany_6 : decode cX11_unlikeMany 6 = .ok (.getfield 13, 3) := by decide +kernel
theorem dX11_unlikeMany_9 : decode cX11_unlikeMany 9 = .ok (.iconst 1, 1) := by decide +kernel
theorem dX11_unlikeMany_10 : decode cX11_unlikeMany 10 = .ok (.iaload, 1) := by decide +kernel
theorem dX11_unlikeMany_11 : decode cX11_unlikeMany 11 = .ok (.if_icmp .ge 43, 3) := by decide +kernel
theorem dX11_unlikeMany_14 : decode cX11_unlikeMany 14 = .ok (.iconst 0, 1) := by decide +kernel
theorem dX11_unlikeMany_15 : decode cX11_unlikeMany 15 = .ok (.istore_n 3, 1) := by decide +kernel
theorem dX11_unlikeMany_16 : decode cX11_unlikeMany 16 = .ok (.aload_n 0, 1) := by decide +kernel
theorem dX11_unlikeMany_17 : decode cX11_unlikeMany 17 = .ok (.iload_n 3, 1) := by decide +kernel
theorem dX11_unlikeMany_18 : decode cX11_unlikeMany 18 = .ok (.invokevirtual 171, 3) := by decide +kernel
theorem dX11_unlikeMany_21 : decode cX11_unlikeMany 21 = .ok (.aload_n 0, 1) := by decide +kernel
theorem dX11_unlikeMany_22 : decode cX11_unlikeMany 22 = .ok (.iload_n 2, 1) := by decide +kernel
theorem dX11_unlikeMany_23 : decode cX11_unlikeMany 23 = .ok (.invokevirtual 171, 3) := by decide +kernel
theorem dX11_unlikeMany_26 : decode cX11_unlikeMany 26 = .ok (.if_icmp .eq 9, 3) := by decide +kernel
theorem dX11_unlikeMany_29 : decode cX11_unlikeMany 29 = .ok (.iinc 3 1, 3) := by decide +kernel
theorem dX11_unlikeMany_32 : decode cX11_unlikeMany 32 = .ok (.goto (-16), 3) := by decide +kernel
theorem dX11_unlikeMany_35 : decode cX11_unlikeMany 35 = .ok (.iload_n 1, 1) := by decide +kernel
theorem dX11_unlikeMany_36 : decode cX11_unlikeMany 36 = .ok (.iload_n 3, 1) := by decide +kernel
theorem dX11_unlikeMany_37 : decode cX11_unlikeMany 37 = .ok (.iload_n 2, 1) := by decide +kernel
theorem dX11_unlikeMany_38 : decode cX11_unlikeMany 38 = .ok (.if_icmp .ne 7, 3) := by decide +kernel
theorem dX11_unlikeMany_41 : decode cX11_unlikeMany 41 = .ok (.iconst 1, 1) := by decide +kernel
theorem dX11_unlikeMany_42 : decode cX11_unlikeMany 42 = .ok (.goto 4, 3) := by decide +kernel
theorem dX11_unlikeMany_45 : decode cX11_unlikeMany 45 = .ok (.iconst 0, 1) := by decide +kernel
theorem dX11_unlikeMany_46 : decode cX11_unlikeMany 46 = .ok (.iadd, 1) := by decide +kernel
theorem dX11_unlikeMany_47 : decode cX11_unlikeMany 47 = .ok (.istore_n 1, 1) := by decide +kernel
theorem dX11_unlikeMany_48 : decode cX11_unlikeMany 48 = .ok (.iinc 2 1, 3) := by decide +kernel
theorem dX11_unlikeMany_51 : decode cX11_unlikeMany 51 = .ok (.goto (-47), 3) := by decide +kernel
theorem dX11_unlikeMany_54 : decode cX11_unlikeMany 54 = .ok (.iload_n 1, 1) := by decide +kernel
theorem dX11_unlikeMany_55 : decode cX11_unlikeMany 55 = .ok (.ireturn, 1) := by decide +kernel
theorem dX11_count_0 : decode cX11_count 0 = .ok (.aload_n 0, 1) := by decide +kernel
theorem dX11_count_1 : decode cX11_count 1 = .ok (.iconst 0, 1) := by decide +kernel
theorem dX11_count_2 : decode cX11_count 2 = .ok (.putfield 1, 3) := by decide +kernel
theorem dX11_count_5 : decode cX11_count 5 = .ok (.iload_n 1, 1) := by decide +kernel
theorem dX11_count_6 : decode cX11_count 6 = .ok (.tableswitch 62 8 11 #[30, 35, 43, 48], 30) := by decide +kernel
theorem dX11_count_36 : decode cX11_count 36 = .ok (.aload_n 0, 1) := by decide +kernel
theorem dX11_count_37 : decode cX11_count 37 = .ok (.getfield 65, 3) := by decide +kernel
theorem dX11_count_40 : decode cX11_count 40 = .ok (.ireturn, 1) := by decide +kernel
theorem dX11_count_41 : decode cX11_count 41 = .ok (.aload_n 0, 1) := by decide +kernel
theorem dX11_count_42 : decode cX11_count 42 = .ok (.getfield 13, 3) := by decide +kernel
theorem dX11_count_45 : decode cX11_count 45 = .ok (.bipush 8, 2) := by decide +kernel
theorem dX11_count_47 : decode cX11_count 47 = .ok (.iaload, 1) := by decide +kernel
theorem dX11_count_48 : decode cX11_count 48 = .ok (.ireturn, 1) := by decide +kernel
theorem dX11_count_49 : decode cX11_count 49 = .ok (.aload_n 0, 1) := by decide +kernel
theorem dX11_count_50 : decode cX11_count 50 = .ok (.invokevirtual 337, 3) := by decide +kernel
theorem dX11_count_53 : decode cX11_count 53 = .ok (.ireturn, 1) := by decide +kernel
theorem dX11_count_54 : decode cX11_count 54 = .ok (.aload_n 0, 1) := by decide +kernel
theorem dX11_count_55 : decode cX11_count 55 = .ok (.getfield 13, 3) := by decide +kernel
theorem dX11_count_58 : decode cX11_count 58 = .ok (.iconst 4, 1) := by decide +kernel
theorem dX11_count_59 : decode cX11_count 59 = .ok (.iaload, 1) := by decide +kernel
theorem dX11_count_60 : decode cX11_count 60 = .ok (.aload_n 0, 1) := by decide +kernel
theorem dX11_count_61 : decode cX11_count 61 = .ok (.getfield 13, 3) := by decide +kernel
theorem dX11_count_64 : decode cX11_count 64 = .ok (.iconst 1, 1) := by decide +kernel
theorem dX11_count_65 : decode cX11_count 65 = .ok (.iaload, 1) := by decide +kernel
theorem dX11_count_66 : decode cX11_count 66 = .ok (.imul, 1) := by decide +kernel
theorem dX11_count_67 : decode cX11_count 67 = .ok (.ireturn, 1) := by decide +kernel
theorem dX11_count_68 : decode cX11_count 68 = .ok (.iload_n 1, 1) := by decide +kernel
theorem dX11_count_69 : decode cX11_count 69 = .ok (.i2l, 1) := by decide +kernel
theorem dX11_count_70 : decode cX11_count 70 = .ok (.lconst 0, 1) := by decide +kernel
theorem dX11_count_71 : decode cX11_count 71 = .ok (.ldc2_w 340, 3) := by decide +kernel
theorem dX11_count_74 : decode cX11_count 74 = .ok (.invokestatic 125, 3) := by decide +kernel
theorem dX11_count_77 : decode cX11_count 77 = .ok (.ifCond .eq 12, 3) := by decide +kernel
theorem dX11_count_80 : decode cX11_count 80 = .ok (.aload_n 0, 1) := by decide +kernel
theorem dX11_count_81 : decode cX11_count 81 = .ok (.getfield 13, 3) := by decide +kernel
theorem dX11_count_84 : decode cX11_count 84 = .ok (.iload_n 1, 1) := by decide +kernel
theorem dX11_count_85 : decode cX11_count 85 = .ok (.iaload, 1) := by decide +kernel
theorem dX11_count_86 : decode cX11_count 86 = .ok (.goto 4, 3) := by decide +kernel
theorem dX11_count_89 : decode cX11_count 89 = .ok (.iconst (-1), 1) := by decide +kernel
theorem dX11_count_90 : decode cX11_count 90 = .ok (.ireturn, 1) := by decide +kernel
theorem dJ9_abs_0f7a4_0 : decode cJ9_abs_0f7a4 0 = .ok (.iload_n 0, 1) := by decide +kernel
theorem dJ9_abs_0f7a4_1 : decode cJ9_abs_0f7a4 1 = .ok (.ifCond .ge 8, 3) := by decide +kernel
theorem dJ9_abs_0f7a4_4 : decode cJ9_abs_0f7a4 4 = .ok (.iload_n 0, 1) := by decide +kernel
theorem dJ9_abs_0f7a4_5 : decode cJ9_abs_0f7a4 5 = .ok (.ineg, 1) := by decide +kernel
theorem dJ9_abs_0f7a4_6 : decode cJ9_abs_0f7a4 6 = .ok (.goto 4, 3) := by decide +kernel
theorem dJ9_abs_0f7a4_9 : decode cJ9_abs_0f7a4 9 = .ok (.iload_n 0, 1) := by decide +kernel
theorem dJ9_abs_0f7a4_10 : decode cJ9_abs_0f7a4 10 = .ok (.ireturn, 1) := by decide +kernel
theorem dJ9_max_7cf53_0 : decode cJ9_max_7cf53 0 = .ok (.iload_n 0, 1) := by decide +kernel
theorem dJ9_max_7cf53_1 : decode cJ9_max_7cf53 1 = .ok (.iload_n 1, 1) := by decide +kernel
theorem dJ9_max_7cf53_2 : decode cJ9_max_7cf53 2 = .ok (.if_icmp .lt 7, 3) := by decide +kernel
theorem dJ9_max_7cf53_5 : decode cJ9_max_7cf53 5 = .ok (.iload_n 0, 1) := by decide +kernel
theorem dJ9_max_7cf53_6 : decode cJ9_max_7cf53 6 = .ok (.goto 4, 3) := by decide +kernel
theorem dJ9_max_7cf53_9 : decode cJ9_max_7cf53 9 = .ok (.iload_n 1, 1) := by decide +kernel
theorem dJ9_max_7cf53_10 : decode cJ9_max_7cf53 10 = .ok (.ireturn, 1) := by decide +kernel
theorem dJ9_min_7cf53_0 : decode cJ9_min_7cf53 0 = .ok (.iload_n 0, 1) := by decide +kernel
theorem dJ9_min_7cf53_1 : decode cJ9_min_7cf53 1 = .ok (.iload_n 1, 1) := by decide +kernel
theorem dJ9_min_7cf53_2 : decode cJ9_min_7cf53 2 = .ok (.if_icmp .gt 7, 3) := by decide +kernel
theorem dJ9_min_7cf53_5 : decode cJ9_min_7cf53 5 = .ok (.iload_n 0, 1) := by decide +kernel
theorem dJ9_min_7cf53_6 : decode cJ9_min_7cf53 6 = .ok (.goto 4, 3) := by decide +kernel
theorem dJ9_min_7cf53_9 : decode cJ9_min_7cf53 9 = .ok (.iload_n 1, 1) := by decide +kernel
theorem dJ9_min_7cf53_10 : decode cJ9_min_7cf53 10 = .ok (.ireturn, 1) := by decide +kernel
theorem dJ0_length_8abf5_0 : decode cJ0_length_8abf5 0 = .ok (.aload_n 0, 1) := by decide +kernel
theorem dJ0_length_8abf5_1 : decode cJ0_length_8abf5 1 = .ok (.getfield 9, 3) := by decide +kernel
theorem dJ0_length_8abf5_4 : decode cJ0_length_8abf5 4 = .ok (.arraylength, 1) := by decide +kernel
theorem dJ0_length_8abf5_5 : decode cJ0_length_8abf5 5 = .ok (.aload_n 0, 1) := by decide +kernel
theorem dJ0_length_8abf5_6 : decode cJ0_length_8abf5 6 = .ok (.invokevirtual 335, 3) := by decide +kernel
theorem dJ0_length_8abf5_9 : decode cJ0_length_8abf5 9 = .ok (.ishr, 1) := by decide +kernel
theorem dJ0_length_8abf5_10 : decode cJ0_length_8abf5 10 = .ok (.ireturn, 1) := by decide +kernel
theorem dJ0_charAt_5068e_0 : decode cJ0_charAt_5068e 0 = .ok (.aload_n 0, 1) := by decide +kernel
theorem dJ0_charAt_5068e_1 : decode cJ0_charAt_5068e 1 = .ok (.invokevirtual 492, 3) := by decide +kernel
theorem dJ0_charAt_5068e_4 : decode cJ0_charAt_5068e 4 = .ok (.ifCond .eq 12, 3) := by decide +kernel
theorem dJ0_charAt_5068e_7 : decode cJ0_charAt_5068e 7 = .ok (.aload_n 0, 1) := by decide +kernel
theorem dJ0_charAt_5068e_8 : decode cJ0_charAt_5068e 8 = .ok (.getfield 9, 3) := by decide +kernel
theorem dJ0_charAt_5068e_11 : decode cJ0_charAt_5068e 11 = .ok (.iload_n 1, 1) := by decide +kernel
theorem dJ0_charAt_5068e_12 : decode cJ0_charAt_5068e 12 = .ok (.invokestatic 495, 3) := by decide +kernel
theorem dJ0_charAt_5068e_15 : decode cJ0_charAt_5068e 15 = .ok (.ireturn, 1) := by decide +kernel
theorem dJ0_charAt_5068e_16 : decode cJ0_charAt_5068e 16 = .ok (.aload_n 0, 1) := by decide +kernel
theorem dJ0_charAt_5068e_17 : decode cJ0_charAt_5068e 17 = .ok (.getfield 9, 3) := by decide +kernel
theorem dJ0_charAt_5068e_20 : decode cJ0_charAt_5068e 20 = .ok (.iload_n 1, 1) := by decide +kernel
theorem dJ0_charAt_5068e_21 : decode cJ0_charAt_5068e 21 = .ok (.invokestatic 498, 3) := by decide +kernel
theorem dJ0_charAt_5068e_24 : decode cJ0_charAt_5068e 24 = .ok (.ireturn, 1) := by decide +kernel
theorem dJ0_coder_7d493_0 : decode cJ0_coder_7d493 0 = .ok (.getstatic 38, 3) := by decide +kernel
theorem dJ0_coder_7d493_3 : decode cJ0_coder_7d493 3 = .ok (.ifCond .eq 10, 3) := by decide +kernel
theorem dJ0_coder_7d493_6 : decode cJ0_coder_7d493 6 = .ok (.aload_n 0, 1) := by decide +kernel
theorem dJ0_coder_7d493_7 : decode cJ0_coder_7d493 7 = .ok (.getfield 15, 3) := by decide +kernel
theorem dJ0_coder_7d493_10 : decode cJ0_coder_7d493 10 = .ok (.goto 4, 3) := by decide +kernel
theorem dJ0_coder_7d493_13 : decode cJ0_coder_7d493 13 = .ok (.iconst 1, 1) := by decide +kernel
theorem dJ0_coder_7d493_14 : decode cJ0_coder_7d493 14 = .ok (.ireturn, 1) := by decide +kernel
theorem dJ0_isLatin1_aae02_0 : decode cJ0_isLatin1_aae02 0 = .ok (.getstatic 38, 3) := by decide +kernel
theorem dJ0_isLatin1_aae02_3 : decode cJ0_isLatin1_aae02 3 = .ok (.ifCond .eq 14, 3) := by decide +kernel
theorem dJ0_isLatin1_aae02_6 : decode cJ0_isLatin1_aae02 6 = .ok (.aload_n 0, 1) := by decide +kernel
theorem dJ0_isLatin1_aae02_7 : decode cJ0_isLatin1_aae02 7 = .ok (.getfield 15, 3) := by decide +kernel
theorem dJ0_isLatin1_aae02_10 : decode cJ0_isLatin1_aae02 10 = .ok (.ifCond .ne 7, 3) := by decide +kernel
theorem dJ0_isLatin1_aae02_13 : decode cJ0_isLatin1_aae02 13 = .ok (.iconst 1, 1) := by decide +kernel
theorem dJ0_isLatin1_aae02_14 : decode cJ0_isLatin1_aae02 14 = .ok (.goto 4, 3) := by decide +kernel
theorem dJ0_isLatin1_aae02_17 : decode cJ0_isLatin1_aae02 17 = .ok (.iconst 0, 1) := by decide +kernel
theorem dJ0_isLatin1_aae02_18 : decode cJ0_isLatin1_aae02 18 = .ok (.ireturn, 1) := by decide +kernel
theorem dJ0_checkIndex_df160_0 : decode cJ0_checkIndex_df160 0 = .ok (.iload_n 0, 1) := by decide +kernel
theorem dJ0_checkIndex_df160_1 : decode cJ0_checkIndex_df160 1 = .ok (.iload_n 1, 1) := by decide +kernel
theorem dJ0_checkIndex_df160_2 : decode cJ0_checkIndex_df160 2 = .ok (.getstatic 1053, 3) := by decide +kernel
theorem dJ0_checkIndex_df160_5 : decode cJ0_checkIndex_df160 5 = .ok (.invokestatic 1059, 3) := by decide +kernel
theorem dJ0_checkIndex_df160_8 : decode cJ0_checkIndex_df160 8 = .ok (.pop, 1) := by decide +kernel
theorem dJ0_checkIndex_df160_9 : decode cJ0_checkIndex_df160 9 = .ok (.return_, 1) := by decide +kernel
theorem dJ1_charAt_3b067_0 : decode cJ1_charAt_3b067 0 = .ok (.iload_n 1, 1) := by decide +kernel
theorem dJ1_charAt_3b067_1 : decode cJ1_charAt_3b067 1 = .ok (.aload_n 0, 1) := by decide +kernel
theorem dJ1_charAt_3b067_2 : decode cJ1_charAt_3b067 2 = .ok (.arraylength, 1) := by decide +kernel
theorem dJ1_charAt_3b067_3 : decode cJ1_charAt_3b067 3 = .ok (.invokestatic 9, 3) := by decide +kernel
theorem dJ1_charAt_3b067_6 : decode cJ1_charAt_3b067 6 = .ok (.aload_n 0, 1) := by decide +kernel
theorem dJ1_charAt_3b067_7 : decode cJ1_charAt_3b067 7 = .ok (.iload_n 1, 1) := by decide +kernel
theorem dJ1_charAt_3b067_8 : decode cJ1_charAt_3b067 8 = .ok (.baload, 1) := by decide +kernel
theorem dJ1_charAt_3b067_9 : decode cJ1_charAt_3b067 9 = .ok (.sipush 255, 3) := by decide +kernel
theorem dJ1_charAt_3b067_12 : decode cJ1_charAt_3b067 12 = .ok (.iand, 1) := by decide +kernel
theorem dJ1_charAt_3b067_13 : decode cJ1_charAt_3b067 13 = .ok (.i2c, 1) := by decide +kernel
theorem dJ1_charAt_3b067_14 : decode cJ1_charAt_3b067 14 = .ok (.ireturn, 1) := by decide +kernel
theorem dJ2_getChar_3b067_0 : decode cJ2_getChar_3b067 0 = .ok (.getstatic 44, 3) := by decide +kernel
theorem dJ2_getChar_3b067_3 : decode cJ2_getChar_3b067 3 = .ok (.ifCond .ne 25, 3) := by decide +kernel
theorem dJ2_getChar_3b067_6 : decode cJ2_getChar_3b067 6 = .ok (.iload_n 1, 1) := by decide +kernel
theorem dJ2_getChar_3b067_7 : decode cJ2_getChar_3b067 7 = .ok (.ifCond .lt 11, 3) := by decide +kernel
theorem dJ2_getChar_3b067_10 : decode cJ2_getChar_3b067 10 = .ok (.iload_n 1, 1) := by decide +kernel
theorem dJ2_getChar_3b067_11 : decode cJ2_getChar_3b067 11 = .ok (.aload_n 0, 1) := by decide +kernel
theorem dJ2_getChar_3b067_12 : decode cJ2_getChar_3b067 12 = .ok (.invokestatic 48, 3) := by decide +kernel
theorem dJ2_getChar_3b067_15 : decode cJ2_getChar_3b067 15 = .ok (.if_icmp .lt 13, 3) := by decide +kernel
theorem dJ2_getChar_3b067_18 : decode cJ2_getChar_3b067 18 = .ok (.new 52, 3) := by decide +kernel
theorem dJ2_getChar_3b067_21 : decode cJ2_getChar_3b067 21 = .ok (.dup, 1) := by decide +kernel
theorem dJ2_getChar_3b067_22 : decode cJ2_getChar_3b067 22 = .ok (.ldc 54, 2) := by decide +kernel
theorem dJ2_getChar_3b067_24 : decode cJ2_getChar_3b067 24 = .ok (.invokespecial 56, 3) := by decide +kernel
theorem dJ2_getChar_3b067_27 : decode cJ2_getChar_3b067 27 = .ok (.athrow, 1) := by decide +kernel
theorem dJ2_getChar_3b067_28 : decode cJ2_getChar_3b067 28 = .ok (.iload_n 1, 1) := by decide +kernel
theorem dJ2_getChar_3b067_29 : decode cJ2_getChar_3b067 29 = .ok (.iconst 1, 1) := by decide +kernel
theorem dJ2_getChar_3b067_30 : decode cJ2_getChar_3b067 30 = .ok (.ishl, 1) := by decide +kernel
theorem dJ2_getChar_3b067_31 : decode cJ2_getChar_3b067 31 = .ok (.istore_n 1, 1) := by decide +kernel
theorem dJ2_getChar_3b067_32 : decode cJ2_getChar_3b067 32 = .ok (.aload_n 0, 1) := by decide +kernel
theorem dJ2_getChar_3b067_33 : decode cJ2_getChar_3b067 33 = .ok (.iload_n 1, 1) := by decide +kernel
theorem dJ2_getChar_3b067_34 : decode cJ2_getChar_3b067 34 = .ok (.iinc 1 1, 3) := by decide +kernel
theorem dJ2_getChar_3b067_37 : decode cJ2_getChar_3b067 37 = .ok (.baload, 1) := by decide +kernel
theorem dJ2_getChar_3b067_38 : decode cJ2_getChar_3b067 38 = .ok (.sipush 255, 3) := by decide +kernel
theorem dJ2_getChar_3b067_41 : decode cJ2_getChar_3b067 41 = .ok (.iand, 1) := by decide +kernel
theorem dJ2_getChar_3b067_42 : decode cJ2_getChar_3b067 42 = .ok (.getstatic 59, 3) := by decide +kernel
theorem dJ2_getChar_3b067_45 : decode cJ2_getChar_3b067 45 = .ok (.ishl, 1) := by decide +kernel
theorem dJ2_getChar_3b067_46 : decode cJ2_getChar_3b067 46 = .ok (.aload_n 0, 1) := by decide +kernel
theorem dJ2_getChar_3b067_47 : decode cJ2_getChar_3b067 47 = .ok (.iload_n 1, 1) := by decide +kernel
theorem dJ2_getChar_3b067_48 : decode cJ2_getChar_3b067 48 = .ok (.baload, 1) := by decide +kernel
theorem dJ2_getChar_3b067_49 : decode cJ2_getChar_3b067 49 = .ok (.sipush 255, 3) := by decide +kernel
theorem dJ2_getChar_3b067_52 : decode cJ2_getChar_3b067 52 = .ok (.iand, 1) := by decide +kernel
theorem dJ2_getChar_3b067_53 : decode cJ2_getChar_3b067 53 = .ok (.getstatic 63, 3) := by decide +kernel
theorem dJ2_getChar_3b067_56 : decode cJ2_getChar_3b067 56 = .ok (.ishl, 1) := by decide +kernel
theorem dJ2_getChar_3b067_57 : decode cJ2_getChar_3b067 57 = .ok (.ior, 1) := by decide +kernel
theorem dJ2_getChar_3b067_58 : decode cJ2_getChar_3b067 58 = .ok (.i2c, 1) := by decide +kernel
theorem dJ2_getChar_3b067_59 : decode cJ2_getChar_3b067 59 = .ok (.ireturn, 1) := by decide +kernel
theorem dJ2_length_9d52b_0 : decode cJ2_length_9d52b 0 = .ok (.aload_n 0, 1) := by decide +kernel
theorem dJ2_length_9d52b_1 : decode cJ2_length_9d52b 1 = .ok (.arraylength, 1) := by decide +kernel
theorem dJ2_length_9d52b_2 : decode cJ2_length_9d52b 2 = .ok (.iconst 1, 1) := by decide +kernel
theorem dJ2_length_9d52b_3 : decode cJ2_length_9d52b 3 = .ok (.ishr, 1) := by decide +kernel
theorem dJ2_length_9d52b_4 : decode cJ2_length_9d52b 4 = .ok (.ireturn, 1) := by decide +kernel
theorem dJ2_charAt_3b067_0 : decode cJ2_charAt_3b067 0 = .ok (.iload_n 1, 1) := by decide +kernel
theorem dJ2_charAt_3b067_1 : decode cJ2_charAt_3b067 1 = .ok (.aload_n 0, 1) := by decide +kernel
theorem dJ2_charAt_3b067_2 : decode cJ2_charAt_3b067 2 = .ok (.invokestatic 67, 3) := by decide +kernel
theorem dJ2_charAt_3b067_5 : decode cJ2_charAt_3b067 5 = .ok (.aload_n 0, 1) := by decide +kernel
theorem dJ2_charAt_3b067_6 : decode cJ2_charAt_3b067 6 = .ok (.iload_n 1, 1) := by decide +kernel
theorem dJ2_charAt_3b067_7 : decode cJ2_charAt_3b067 7 = .ok (.invokestatic 71, 3) := by decide +kernel
theorem dJ2_charAt_3b067_10 : decode cJ2_charAt_3b067 10 = .ok (.ireturn, 1) := by decide +kernel
theorem dJ2_checkIndex_2214a_0 : decode cJ2_checkIndex_2214a 0 = .ok (.iload_n 0, 1) := by decide +kernel
theorem dJ2_checkIndex_2214a_1 : decode cJ2_checkIndex_2214a 1 = .ok (.aload_n 1, 1) := by decide +kernel
theorem dJ2_checkIndex_2214a_2 : decode cJ2_checkIndex_2214a 2 = .ok (.invokestatic 48, 3) := by decide +kernel
theorem dJ2_checkIndex_2214a_5 : decode cJ2_checkIndex_2214a 5 = .ok (.invokestatic 414, 3) := by decide +kernel
theorem dJ2_checkIndex_2214a_8 : decode cJ2_checkIndex_2214a 8 = .ok (.return_, 1) := by decide +kernel
theorem dJ3_checkIndex_8e157_0 : decode cJ3_checkIndex_8e157 0 = .ok (.iload_n 0, 1) := by decide +kernel
theorem dJ3_checkIndex_8e157_1 : decode cJ3_checkIndex_8e157 1 = .ok (.ifCond .lt 8, 3) := by decide +kernel
theorem dJ3_checkIndex_8e157_4 : decode cJ3_checkIndex_8e157 4 = .ok (.iload_n 0, 1) := by decide +kernel
theorem dJ3_checkIndex_8e157_5 : decode cJ3_checkIndex_8e157 5 = .ok (.iload_n 1, 1) := by decide +kernel
theorem dJ3_checkIndex_8e157_6 : decode cJ3_checkIndex_8e157 6 = .ok (.if_icmp .lt 10, 3) := by decide +kernel
theorem dJ3_checkIndex_8e157_9 : decode cJ3_checkIndex_8e157 9 = .ok (.aload_n 2, 1) := by decide +kernel
theorem dJ3_checkIndex_8e157_10 : decode cJ3_checkIndex_8e157 10 = .ok (.iload_n 0, 1) := by decide +kernel
theorem dJ3_checkIndex_8e157_11 : decode cJ3_checkIndex_8e157 11 = .ok (.iload_n 1, 1) := by decide +kernel
theorem dJ3_checkIndex_8e157_12 : decode cJ3_checkIndex_8e157 12 = .ok (.invokestatic 95, 3) := by decide +kernel
theorem dJ3_checkIndex_8e157_15 : decode cJ3_checkIndex_8e157 15 = .ok (.athrow, 1) := by decide +kernel
theorem dJ3_checkIndex_8e157_16 : decode cJ3_checkIndex_8e157 16 = .ok (.iload_n 0, 1) := by decide +kernel
theorem dJ3_checkIndex_8e157_17 : decode cJ3_checkIndex_8e157 17 = .ok (.ireturn, 1) := by decide +kernel
theorem dL_law_0 : decode cL_law 0 = .ok (.new 7, 3) := by decide +kernel
theorem dL_law_3 : decode cL_law 3 = .ok (.dup, 1) := by decide +kernel
theorem dL_law_4 : decode cL_law 4 = .ok (.invokespecial 9, 3) := by decide +kernel
theorem dL_law_7 : decode cL_law 7 = .ok (.astore_n 1, 1) := by decide +kernel
theorem dL_law_8 : decode cL_law 8 = .ok (.new 10, 3) := by decide +kernel
theorem dL_law_11 : decode cL_law 11 = .ok (.dup, 1) := by decide +kernel
theorem dL_law_12 : decode cL_law 12 = .ok (.invokespecial 12, 3) := by decide +kernel
theorem dL_law_15 : decode cL_law 15 = .ok (.astore_n 2, 1) := by decide +kernel
theorem dL_law_16 : decode cL_law 16 = .ok (.iconst 0, 1) := by decide +kernel
theorem dL_law_17 : decode cL_law 17 = .ok (.istore_n 3, 1) := by decide +kernel
theorem dL_law_18 : decode cL_law 18 = .ok (.iload_n 3, 1) := by decide +kernel
theorem dL_law_19 : decode cL_law 19 = .ok (.aload_n 0, 1) := by decide +kernel
theorem dL_law_20 : decode cL_law 20 = .ok (.arraylength, 1) := by decide +kernel
theorem dL_law_21 : decode cL_law 21 = .ok (.bipush 6, 2) := by decide +kernel
theorem dL_law_23 : decode cL_law 23 = .ok (.isub, 1) := by decide +kernel
theorem dL_law_24 : decode cL_law 24 = .ok (.if_icmp .gt 1712, 3) := by decide +kernel
theorem dL_law_27 : decode cL_law 27 = .ok (.aload_n 0, 1) := by decide +kernel
theorem dL_law_28 : decode cL_law 28 = .ok (.iload_n 3, 1) := by decide +kernel
theorem dL_law_29 : decode cL_law 29 = .ok (.iaload, 1) := by decide +kernel
theorem dL_law_30 : decode cL_law 30 = .ok (.bipush 63, 2) := by decide +kernel
theorem dL_law_32 : decode cL_law 32 = .ok (.iand, 1) := by decide +kernel
theorem dL_law_33 : decode cL_law 33 = .ok (.tableswitch 1697 0 45 #[199, 262, 285, 308, 341, 374, 397, 420, 453, 476, 509, 542, 565, 598, 621, 634, 667, 690, 703, 737, 761, 784, 817, 851, 885, 908, 942, 976, 1010, 1044, 1078, 1112, 1146, 1180, 1203, 1236, 1280, 1323, 1402, 1445, 1488, 1531, 1605, 1628, 1651, 1674], 199) := by decide +kernel
theorem dL_law_232 : decode cL_law 232 = .ok (.aload_n 1, 1) := by decide +kernel
theorem dL_law_233 : decode cL_law 233 = .ok (.aload_n 0, 1) := by decide +kernel
theorem dL_law_234 : decode cL_law 234 = .ok (.iload_n 3, 1) := by decide +kernel
theorem dL_law_235 : decode cL_law 235 = .ok (.iconst 1, 1) := by decide +kernel
theorem dL_law_236 : decode cL_law 236 = .ok (.iadd, 1) := by decide +kernel
theorem dL_law_237 : decode cL_law 237 = .ok (.iaload, 1) := by decide +kernel
theorem dL_law_238 : decode cL_law 238 = .ok (.aload_n 0, 1) := by decide +kernel
theorem dL_law_239 : decode cL_law 239 = .ok (.iload_n 3, 1) := by decide +kernel
theorem dL_law_240 : decode cL_law 240 = .ok (.iconst 2, 1) := by decide +kernel
theorem dL_law_241 : decode cL_law 241 = .ok (.iadd, 1) := by decide +kernel
theorem dL_law_242 : decode cL_law 242 = .ok (.iaload, 1) := by decide +kernel
theorem dL_law_243 : decode cL_law 243 = .ok (.aload_n 0, 1) := by decide +kernel
theorem dL_law_244 : decode cL_law 244 = .ok (.iload_n 3, 1) := by decide +kernel
theorem dL_law_245 : decode cL_law 245 = .ok (.iconst 3, 1) := by decide +kernel
theorem dL_law_246 : decode cL_law 246 = .ok (.iadd, 1) := by decide +kernel
theorem dL_law_247 : decode cL_law 247 = .ok (.iaload, 1) := by decide +kernel
theorem dL_law_248 : decode cL_law 248 = .ok (.aload_n 0, 1) := by decide +kernel
theorem dL_law_249 : decode cL_law 249 = .ok (.iload_n 3, 1) := by decide +kernel
theorem dL_law_250 : decode cL_law 250 = .ok (.iconst 4, 1) := by decide +kernel
theorem dL_law_251 : decode cL_law 251 = .ok (.iadd, 1) := by decide +kernel
theorem dL_law_252 : decode cL_law 252 = .ok (.iaload, 1) := by decide +kernel
theorem dL_law_253 : decode cL_law 253 = .ok (.aload_n 0, 1) := by decide +kernel
theorem dL_law_254 : decode cL_law 254 = .ok (.iload_n 3, 1) := by decide +kernel
theorem dL_law_255 : decode cL_law 255 = .ok (.iconst 5, 1) := by decide +kernel
theorem dL_law_256 : decode cL_law 256 = .ok (.iadd, 1) := by decide +kernel
theorem dL_law_257 : decode cL_law 257 = .ok (.iaload, 1) := by decide +kernel
theorem dL_law_258 : decode cL_law 258 = .ok (.invokevirtual 13, 3) := by decide +kernel
theorem dL_law_261 : decode cL_law 261 = .ok (.aload_n 2, 1) := by decide +kernel
theorem dL_law_262 : decode cL_law 262 = .ok (.aload_n 0, 1) := by decide +kernel
theorem dL_law_263 : decode cL_law 263 = .ok (.iload_n 3, 1) := by decide +kernel
theorem dL_law_264 : decode cL_law 264 = .ok (.iconst 1, 1) := by decide +kernel
theorem dL_law_265 : decode cL_law 265 = .ok (.iadd, 1) := by decide +kernel
theorem dL_law_266 : decode cL_law 266 = .ok (.iaload, 1) := by decide +kernel
theorem dL_law_267 : decode cL_law 267 = .ok (.aload_n 0, 1) := by decide +kernel
theorem dL_law_268 : decode cL_law 268 = .ok (.iload_n 3, 1) := by decide +kernel
theorem dL_law_269 : decode cL_law 269 = .ok (.iconst 2, 1) := by decide +kernel
theorem dL_law_270 : decode cL_law 270 = .ok (.iadd, 1) := by decide +kernel
theorem dL_law_271 : decode cL_law 271 = .ok (.iaload, 1) := by decide +kernel
theorem dL_law_272 : decode cL_law 272 = .ok (.aload_n 0, 1) := by decide +kernel
theorem dL_law_273 : decode cL_law 273 = .ok (.iload_n 3, 1) := by decide +kernel
theorem dL_law_274 : decode cL_law 274 = .ok (.iconst 3, 1) := by decide +kernel
theorem dL_law_275 : decode cL_law 275 = .ok (.iadd, 1) := by decide +kernel
theorem dL_law_276 : decode cL_law 276 = .ok (.iaload, 1) := by decide +kernel
theorem dL_law_277 : decode cL_law 277 = .ok (.aload_n 0, 1) := by decide +kernel
theorem dL_law_278 : decode cL_law 278 = .ok (.iload_n 3, 1) := by decide +kernel
theorem dL_law_279 : decode cL_law 279 = .ok (.iconst 4, 1) := by decide +kernel
theorem dL_law_280 : decode cL_law 280 = .ok (.iadd, 1) := by decide +kernel
theorem dL_law_281 : decode cL_law 281 = .ok (.iaload, 1) := by decide +kernel
theorem dL_law_282 : decode cL_law 282 = .ok (.aload_n 0, 1) := by decide +kernel
theorem dL_law_283 : decode cL_law 283 = .ok (.iload_n 3, 1) := by decide +kernel
theorem dL_law_284 : decode cL_law 284 = .ok (.iconst 5, 1) := by decide +kernel
theorem dL_law_285 : decode cL_law 285 = .ok (.iadd, 1) := by decide +kernel
theorem dL_law_286 : decode cL_law 286 = .ok (.iaload, 1) := by decide +kernel
theorem dL_law_287 : decode cL_law 287 = .ok (.invokevirtual 17, 3) := by decide +kernel
theorem dL_law_290 : decode cL_law 290 = .ok (.if_icmp .eq 1440, 3) := by decide +kernel
theorem dL_law_293 : decode cL_law 293 = .ok (.iconst 0, 1) := by decide +kernel
theorem dL_law_294 : decode cL_law 294 = .ok (.ireturn, 1) := by decide +kernel
theorem dL_law_295 : decode cL_law 295 = .ok (.aload_n 1, 1) := by decide +kernel
theorem dL_law_296 : decode cL_law 296 = .ok (.aload_n 0, 1) := by decide +kernel
theorem dL_law_297 : decode cL_law 297 = .ok (.iload_n 3, 1) := by decide +kernel
theorem dL_law_298 : decode cL_law 298 = .ok (.iconst 1, 1) := by decide +kernel
theorem dL_law_299 : decode cL_law 299 = .ok (.iadd, 1) := by decide +kernel
theorem dL_law_300 : decode cL_law 300 = .ok (.iaload, 1) := by decide +kernel
theorem dL_law_301 : decode cL_law 301 = .ok (.invokevirtual 18, 3) := by decide +kernel
theorem dL_law_304 : decode cL_law 304 = .ok (.aload_n 2, 1) := by decide +kernel
theorem dL_law_305 : decode cL_law 305 = .ok (.aload_n 0, 1) := by decide +kernel
theorem dL_law_306 : decode cL_law 306 = .ok (.iload_n 3, 1) := by decide +kernel
theorem dL_law_307 : decode cL_law 307 = .ok (.iconst 1, 1) := by decide +kernel
theorem dL_law_308 : decode cL_law 308 = .ok (.iadd, 1) := by decide +kernel
theorem dL_law_309 : decode cL_law 309 = .ok (.iaload, 1) := by decide +kernel
theorem dL_law_310 : decode cL_law 310 = .ok (.invokevirtual 22, 3) := by decide +kernel
theorem dL_law_313 : decode cL_law 313 = .ok (.if_icmp .eq 1417, 3) := by decide +kernel
theorem dL_law_316 : decode cL_law 316 = .ok (.iconst 0, 1) := by decide +kernel
theorem dL_law_317 : decode cL_law 317 = .ok (.ireturn, 1) := by decide +kernel
theorem dL_law_318 : decode cL_law 318 = .ok (.aload_n 1, 1) := by decide +kernel
theorem dL_law_319 : decode cL_law 319 = .ok (.aload_n 0, 1) := by decide +kernel
theorem dL_law_320 : decode cL_law 320 = .ok (.iload_n 3, 1) := by decide +kernel
theorem dL_law_321 : decode cL_law 321 = .ok (.iconst 1, 1) := by decide +kernel
theorem dL_law_322 : decode cL_law 322 = .ok (.iadd, 1) := by decide +kernel
theorem dL_law_323 : decode cL_law 323 = .ok (.iaload, 1) := by decide +kernel
theorem dL_law_324 : decode cL_law 324 = .ok (.invokevirtual 23, 3) := by decide +kernel
theorem dL_law_327 : decode cL_law 327 = .ok (.aload_n 2, 1) := by decide +kernel
theorem dL_law_328 : decode cL_law 328 = .ok (.aload_n 0, 1) := by decide +kernel
theorem dL_law_329 : decode cL_law 329 = .ok (.iload_n 3, 1) := by decide +kernel
theorem dL_law_330 : decode cL_law 330 = .ok (.iconst 1, 1) := by decide +kernel
theorem dL_law_331 : decode cL_law 331 = .ok (.iadd, 1) := by decide +kernel
theorem dL_law_332 : decode cL_law 332 = .ok (.iaload, 1) := by decide +kernel
theorem dL_law_333 : decode cL_law 333 = .ok (.invokevirtual 26, 3) := by decide +kernel
theorem dL_law_336 : decode cL_law 336 = .ok (.if_icmp .eq 1394, 3) := by decide +kernel
theorem dL_law_339 : decode cL_law 339 = .ok (.iconst 0, 1) := by decide +kernel
theorem dL_law_340 : decode cL_law 340 = .ok (.ireturn, 1) := by decide +kernel
theorem dL_law_341 : decode cL_law 341 = .ok (.aload_n 1, 1) := by decide +kernel
theorem dL_law_342 : decode cL_law 342 = .ok (.aload_n 0, 1) := by decide +kernel
theorem dL_law_343 : decode cL_law 343 = .ok (.iload_n 3, 1) := by decide +kernel
theorem dL_law_344 : decode cL_law 344 = .ok (.iconst 1, 1) := by decide +kernel
theorem dL_law_345 : decode cL_law 345 = .ok (.iadd, 1) := by decide +kernel
theorem dL_law_346 : decode cL_law 346 = .ok (.iaload, 1) := by decide +kernel
theorem dL_law_347 : decode cL_law 347 = .ok (.aload_n 0, 1) := by decide +kernel
theorem dL_law_348 : decode cL_law 348 = .ok (.iload_n 3, 1) := by decide +kernel
theorem dL_law_349 : decode cL_law 349 = .ok (.iconst 2, 1) := by decide +kernel
theorem dL_law_350 : decode cL_law 350 = .ok (.iadd, 1) := by decide +kernel
theorem dL_law_351 : decode cL_law 351 = .ok (.iaload, 1) := by decide +kernel
theorem dL_law_352 : decode cL_law 352 = .ok (.invokevirtual 27, 3) := by decide +kernel
theorem dL_law_355 : decode cL_law 355 = .ok (.aload_n 2, 1) := by decide +kernel
theorem dL_law_356 : decode cL_law 356 = .ok (.aload_n 0, 1) := by decide +kernel
theorem dL_law_357 : decode cL_law 357 = .ok (.iload_n 3, 1) := by decide +kernel
theorem dL_law_358 : decode cL_law 358 = .ok (.iconst 1, 1) := by decide +kernel
theorem dL_law_359 : decode cL_law 359 = .ok (.iadd, 1) := by decide +kernel
theorem dL_law_360 : decode cL_law 360 = .ok (.iaload, 1) := by decide +kernel
theorem dL_law_361 : decode cL_law 361 = .ok (.aload_n 0, 1) := by decide +kernel
theorem dL_law_362 : decode cL_law 362 = .ok (.iload_n 3, 1) := by decide +kernel
theorem dL_law_363 : decode cL_law 363 = .ok (.iconst 2, 1) := by decide +kernel
theorem dL_law_364 : decode cL_law 364 = .ok (.iadd, 1) := by decide +kernel
theorem dL_law_365 : decode cL_law 365 = .ok (.iaload, 1) := by decide +kernel
theorem dL_law_366 : decode cL_law 366 = .ok (.invokevirtual 31, 3) := by decide +kernel
theorem dL_law_369 : decode cL_law 369 = .ok (.if_icmp .eq 1361, 3) := by decide +kernel
theorem dL_law_372 : decode cL_law 372 = .ok (.iconst 0, 1) := by decide +kernel
theorem dL_law_373 : decode cL_law 373 = .ok (.ireturn, 1) := by decide +kernel
theorem dL_law_374 : decode cL_law 374 = .ok (.aload_n 1, 1) := by decide +kernel
theorem dL_law_375 : decode cL_law 375 = .ok (.aload_n 0, 1) := by decide +kernel
theorem dL_law_376 : decode cL_law 376 = .ok (.iload_n 3, 1) := by decide +kernel
theorem dL_law_377 : decode cL_law 377 = .ok (.iconst 1, 1) := by decide +kernel
theorem dL_law_378 : decode cL_law 378 = .ok (.iadd, 1) := by decide +kernel
theorem dL_law_379 : decode cL_law 379 = .ok (.iaload, 1) := by decide +kernel
theorem dL_law_380 : decode cL_law 380 = .ok (.aload_n 0, 1) := by decide +kernel
theorem dL_law_381 : decode cL_law 381 = .ok (.iload_n 3, 1) := by decide +kernel
theorem dL_law_382 : decode cL_law 382 = .ok (.iconst 2, 1) := by decide +kernel
theorem dL_law_383 : decode cL_law 383 = .ok (.iadd, 1) := by decide +kernel
theorem dL_law_384 : decode cL_law 384 = .ok (.iaload, 1) := by decide +kernel
theorem dL_law_385 : decode cL_law 385 = .ok (.invokevirtual 32, 3) := by decide +kernel
theorem dL_law_388 : decode cL_law 388 = .ok (.aload_n 2, 1) := by decide +kernel
theorem dL_law_389 : decode cL_law 389 = .ok (.aload_n 0, 1) := by decide +kernel
theorem dL_law_390 : decode cL_law 390 = .ok (.iload_n 3, 1) := by decide +kernel
theorem dL_law_391 : decode cL_law 391 = .ok (.iconst 1, 1) := by decide +kernel
theorem dL_law_392 : decode cL_law 392 = .ok (.iadd, 1) := by decide +kernel
theorem dL_law_393 : decode cL_law 393 = .ok (.iaload, 1) := by decide +kernel
theorem dL_law_394 : decode cL_law 394 = .ok (.aload_n 0, 1) := by decide +kernel
theorem dL_law_395 : decode cL_law 395 = .ok (.iload_n 3, 1) := by decide +kernel
theorem dL_law_396 : decode cL_law 396 = .ok (.iconst 2, 1) := by decide +kernel
theorem dL_law_397 : decode cL_law 397 = .ok (.iadd, 1) := by decide +kernel
theorem dL_law_398 : decode cL_law 398 = .ok (.iaload, 1) := by decide +kernel
theorem dL_law_399 : decode cL_law 399 = .ok (.invokevirtual 35, 3) := by decide +kernel
theorem dL_law_402 : decode cL_law 402 = .ok (.if_icmp .eq 1328, 3) := by decide +kernel
theorem dL_law_405 : decode cL_law 405 = .ok (.iconst 0, 1) := by decide +kernel
theorem dL_law_406 : decode cL_law 406 = .ok (.ireturn, 1) := by decide +kernel
theorem dL_law_407 : decode cL_law 407 = .ok (.aload_n 1, 1) := by decide +kernel
theorem dL_law_408 : decode cL_law 408 = .ok (.aload_n 0, 1) := by decide +kernel
theorem dL_law_409 : decode cL_law 409 = .ok (.iload_n 3, 1) := by decide +kernel
theorem dL_law_410 : decode cL_law 410 = .ok (.iconst 1, 1) := by decide +kernel
theorem dL_law_411 : decode cL_law 411 = .ok (.iadd, 1) := by decide +kernel
theorem dL_law_412 : decode cL_law 412 = .ok (.iaload, 1) := by decide +kernel
theorem dL_law_413 : decode cL_law 413 = .ok (.invokevirtual 36, 3) := by decide +kernel
theorem dL_law_416 : decode cL_law 416 = .ok (.aload_n 2, 1) := by decide +kernel
theorem dL_law_417 : decode cL_law 417 = .ok (.aload_n 0, 1) := by decide +kernel
theorem dL_law_418 : decode cL_law 418 = .ok (.iload_n 3, 1) := by decide +kernel
theorem dL_law_419 : decode cL_law 419 = .ok (.iconst 1, 1) := by decide +kernel
theorem dL_law_420 : decode cL_law 420 = .ok (.iadd, 1) := by decide +kernel
theorem dL_law_421 : decode cL_law 421 = .ok (.iaload, 1) := by decide +kernel
theorem dL_law_422 : decode cL_law 422 = .ok (.invokevirtual 39, 3) := by decide +kernel
theorem dL_law_425 : decode cL_law 425 = .ok (.if_icmp .eq 1305, 3) := by decide +kernel
theorem dL_law_428 : decode cL_law 428 = .ok (.iconst 0, 1) := by decide +kernel
theorem dL_law_429 : decode cL_law 429 = .ok (.ireturn, 1) := by decide +kernel
theorem dL_law_430 : decode cL_law 430 = .ok (.aload_n 1, 1) := by decide +kernel
theorem dL_law_431 : decode cL_law 431 = .ok (.aload_n 0, 1) := by decide +kernel
theorem dL_law_432 : decode cL_law 432 = .ok (.iload_n 3, 1) := by decide +kernel
theorem dL_law_433 : decode cL_law 433 = .ok (.iconst 1, 1) := by decide +kernel
theorem dL_law_434 : decode cL_law 434 = .ok (.iadd, 1) := by decide +kernel
theorem dL_law_435 : decode cL_law 435 = .ok (.iaload, 1) := by decide +kernel
theorem dL_law_436 : decode cL_law 436 = .ok (.invokevirtual 40, 3) := by decide +kernel
theorem dL_law_439 : decode cL_law 439 = .ok (.aload_n 2, 1) := by decide +kernel
theorem dL_law_440 : decode cL_law 440 = .ok (.aload_n 0, 1) := by decide +kernel
theorem dL_law_441 : decode cL_law 441 = .ok (.iload_n 3, 1) := by decide +kernel
theorem dL_law_442 : decode cL_law 442 = .ok (.iconst 1, 1) := by decide +kernel
theorem dL_law_443 : decode cL_law 443 = .ok (.iadd, 1) := by decide +kernel
theorem dL_law_444 : decode cL_law 444 = .ok (.iaload, 1) := by decide +kernel
theorem dL_law_445 : decode cL_law 445 = .ok (.invokevirtual 43, 3) := by decide +kernel
theorem dL_law_448 : decode cL_law 448 = .ok (.if_icmp .eq 1282, 3) := by decide +kernel
theorem dL_law_451 : decode cL_law 451 = .ok (.iconst 0, 1) := by decide +kernel
theorem dL_law_452 : decode cL_law 452 = .ok (.ireturn, 1) := by decide +kernel
theorem dL_law_453 : decode cL_law 453 = .ok (.aload_n 1, 1) := by decide +kernel
theorem dL_law_454 : decode cL_law 454 = .ok (.aload_n 0, 1) := by decide +kernel
theorem dL_law_455 : decode cL_law 455 = .ok (.iload_n 3, 1) := by decide +kernel
theorem dL_law_456 : decode cL_law 456 = .ok (.iconst 1, 1) := by decide +kernel
theorem dL_law_457 : decode cL_law 457 = .ok (.iadd, 1) := by decide +kernel
theorem dL_law_458 : decode cL_law 458 = .ok (.iaload, 1) := by decide +kernel
theorem dL_law_459 : decode cL_law 459 = .ok (.aload_n 0, 1) := by decide +kernel
theorem dL_law_460 : decode cL_law 460 = .ok (.iload_n 3, 1) := by decide +kernel
theorem dL_law_461 : decode cL_law 461 = .ok (.iconst 2, 1) := by decide +kernel
theorem dL_law_462 : decode cL_law 462 = .ok (.iadd, 1) := by decide +kernel
theorem dL_law_463 : decode cL_law 463 = .ok (.iaload, 1) := by decide +kernel
theorem dL_law_464 : decode cL_law 464 = .ok (.invokevirtual 44, 3) := by decide +kernel
theorem dL_law_467 : decode cL_law 467 = .ok (.aload_n 2, 1) := by decide +kernel
theorem dL_law_468 : decode cL_law 468 = .ok (.aload_n 0, 1) := by decide +kernel
theorem dL_law_469 : decode cL_law 469 = .ok (.iload_n 3, 1) := by decide +kernel
theorem dL_law_470 : decode cL_law 470 = .ok (.iconst 1, 1) := by decide +kernel
theorem dL_law_471 : decode cL_law 471 = .ok (.iadd, 1) := by decide +kernel
theorem dL_law_472 : decode cL_law 472 = .ok (.iaload, 1) := by decide +kernel
theorem dL_law_473 : decode cL_law 473 = .ok (.aload_n 0, 1) := by decide +kernel
theorem dL_law_474 : decode cL_law 474 = .ok (.iload_n 3, 1) := by decide +kernel
theorem dL_law_475 : decode cL_law 475 = .ok (.iconst 2, 1) := by decide +kernel
theorem dL_law_476 : decode cL_law 476 = .ok (.iadd, 1) := by decide +kernel
theorem dL_law_477 : decode cL_law 477 = .ok (.iaload, 1) := by decide +kernel
theorem dL_law_478 : decode cL_law 478 = .ok (.invokevirtual 47, 3) := by decide +kernel
theorem dL_law_481 : decode cL_law 481 = .ok (.if_icmp .eq 1249, 3) := by decide +kernel
theorem dL_law_484 : decode cL_law 484 = .ok (.iconst 0, 1) := by decide +kernel
theorem dL_law_485 : decode cL_law 485 = .ok (.ireturn, 1) := by decide +kernel
theorem dL_law_486 : decode cL_law 486 = .ok (.aload_n 1, 1) := by decide +kernel
theorem dL_law_487 : decode cL_law 487 = .ok (.aload_n 0, 1) := by decide +kernel
theorem dL_law_488 : decode cL_law 488 = .ok (.iload_n 3, 1) := by decide +kernel
theorem dL_law_489 : decode cL_law 489 = .ok (.iconst 1, 1) := by decide +kernel
theorem dL_law_490 : decode cL_law 490 = .ok (.iadd, 1) := by decide +kernel
theorem dL_law_491 : decode cL_law 491 = .ok (.iaload, 1) := by decide +kernel
theorem dL_law_492 : decode cL_law 492 = .ok (.invokevirtual 48, 3) := by decide +kernel
theorem dL_law_495 : decode cL_law 495 = .ok (.aload_n 2, 1) := by decide +kernel
theorem dL_law_496 : decode cL_law 496 = .ok (.aload_n 0, 1) := by decide +kernel
theorem dL_law_497 : decode cL_law 497 = .ok (.iload_n 3, 1) := by decide +kernel
theorem dL_law_498 : decode cL_law 498 = .ok (.iconst 1, 1) := by decide +kernel
theorem dL_law_499 : decode cL_law 499 = .ok (.iadd, 1) := by decide +kernel
theorem dL_law_500 : decode cL_law 500 = .ok (.iaload, 1) := by decide +kernel
theorem dL_law_501 : decode cL_law 501 = .ok (.invokevirtual 51, 3) := by decide +kernel
theorem dL_law_504 : decode cL_law 504 = .ok (.if_icmp .eq 1226, 3) := by decide +kernel
theorem dL_law_507 : decode cL_law 507 = .ok (.iconst 0, 1) := by decide +kernel
theorem dL_law_508 : decode cL_law 508 = .ok (.ireturn, 1) := by decide +kernel
theorem dL_law_509 : decode cL_law 509 = .ok (.aload_n 1, 1) := by decide +kernel
theorem dL_law_510 : decode cL_law 510 = .ok (.aload_n 0, 1) := by decide +kernel
theorem dL_law_511 : decode cL_law 511 = .ok (.iload_n 3, 1) := by decide +kernel
theorem dL_law_512 : decode cL_law 512 = .ok (.iconst 1, 1) := by decide +kernel
theorem dL_law_513 : decode cL_law 513 = .ok (.iadd, 1) := by decide +kernel
theorem dL_law_514 : decode cL_law 514 = .ok (.iaload, 1) := by decide +kernel
theorem dL_law_515 : decode cL_law 515 = .ok (.aload_n 0, 1) := by decide +kernel
theorem dL_law_516 : decode cL_law 516 = .ok (.iload_n 3, 1) := by decide +kernel
theorem dL_law_517 : decode cL_law 517 = .ok (.iconst 2, 1) := by decide +kernel
theorem dL_law_518 : decode cL_law 518 = .ok (.iadd, 1) := by decide +kernel
theorem dL_law_519 : decode cL_law 519 = .ok (.iaload, 1) := by decide +kernel
theorem dL_law_520 : decode cL_law 520 = .ok (.invokevirtual 52, 3) := by decide +kernel
theorem dL_law_523 : decode cL_law 523 = .ok (.aload_n 2, 1) := by decide +kernel
theorem dL_law_524 : decode cL_law 524 = .ok (.aload_n 0, 1) := by decide +kernel
theorem dL_law_525 : decode cL_law 525 = .ok (.iload_n 3, 1) := by decide +kernel
theorem dL_law_526 : decode cL_law 526 = .ok (.iconst 1, 1) := by decide +kernel
theorem dL_law_527 : decode cL_law 527 = .ok (.iadd, 1) := by decide +kernel
theorem dL_law_528 : decode cL_law 528 = .ok (.iaload, 1) := by decide +kernel
theorem dL_law_529 : decode cL_law 529 = .ok (.aload_n 0, 1) := by decide +kernel
theorem dL_law_530 : decode cL_law 530 = .ok (.iload_n 3, 1) := by decide +kernel
theorem dL_law_531 : decode cL_law 531 = .ok (.iconst 2, 1) := by decide +kernel
theorem dL_law_532 : decode cL_law 532 = .ok (.iadd, 1) := by decide +kernel
theorem dL_law_533 : decode cL_law 533 = .ok (.iaload, 1) := by decide +kernel
theorem dL_law_534 : decode cL_law 534 = .ok (.invokevirtual 55, 3) := by decide +kernel
theorem dL_law_537 : decode cL_law 537 = .ok (.if_icmp .eq 1193, 3) := by decide +kernel
theorem dL_law_540 : decode cL_law 540 = .ok (.iconst 0, 1) := by decide +kernel
theorem dL_law_541 : decode cL_law 541 = .ok (.ireturn, 1) := by decide +kernel
theorem dL_law_542 : decode cL_law 542 = .ok (.aload_n 1, 1) := by decide +kernel
theorem dL_law_543 : decode cL_law 543 = .ok (.aload_n 0, 1) := by decide +kernel
theorem dL_law_544 : decode cL_law 544 = .ok (.iload_n 3, 1) := by decide +kernel
theorem dL_law_545 : decode cL_law 545 = .ok (.iconst 1, 1) := by decide +kernel
theorem dL_law_546 : decode cL_law 546 = .ok (.iadd, 1) := by decide +kernel
theorem dL_law_547 : decode cL_law 547 = .ok (.iaload, 1) := by decide +kernel
theorem dL_law_548 : decode cL_law 548 = .ok (.aload_n 0, 1) := by decide +kernel
theorem dL_law_549 : decode cL_law 549 = .ok (.iload_n 3, 1) := by decide +kernel
theorem dL_law_550 : decode cL_law 550 = .ok (.iconst 2, 1) := by decide +kernel
theorem dL_law_551 : decode cL_law 551 = .ok (.iadd, 1) := by decide +kernel
theorem dL_law_552 : decode cL_law 552 = .ok (.iaload, 1) := by decide +kernel
theorem dL_law_553 : decode cL_law 553 = .ok (.invokevirtual 56, 3) := by decide +kernel
theorem dL_law_556 : decode cL_law 556 = .ok (.aload_n 2, 1) := by decide +kernel
theorem dL_law_557 : decode cL_law 557 = .ok (.aload_n 0, 1) := by decide +kernel
theorem dL_law_558 : decode cL_law 558 = .ok (.iload_n 3, 1) := by decide +kernel
theorem dL_law_559 : decode cL_law 559 = .ok (.iconst 1, 1) := by decide +kernel
theorem dL_law_560 : decode cL_law 560 = .ok (.iadd, 1) := by decide +kernel
theorem dL_law_561 : decode cL_law 561 = .ok (.iaload, 1) := by decide +kernel
theorem dL_law_562 : decode cL_law 562 = .ok (.aload_n 0, 1) := by decide +kernel
theorem dL_law_563 : decode cL_law 563 = .ok (.iload_n 3, 1) := by decide +kernel
theorem dL_law_564 : decode cL_law 564 = .ok (.iconst 2, 1) := by decide +kernel
theorem dL_law_565 : decode cL_law 565 = .ok (.iadd, 1) := by decide +kernel
theorem dL_law_566 : decode cL_law 566 = .ok (.iaload, 1) := by decide +kernel
theorem dL_law_567 : decode cL_law 567 = .ok (.invokevirtual 59, 3) := by decide +kernel
theorem dL_law_570 : decode cL_law 570 = .ok (.if_icmp .eq 1160, 3) := by decide +kernel
theorem dL_law_573 : decode cL_law 573 = .ok (.iconst 0, 1) := by decide +kernel
theorem dL_law_574 : decode cL_law 574 = .ok (.ireturn, 1) := by decide +kernel
theorem dL_law_575 : decode cL_law 575 = .ok (.aload_n 1, 1) := by decide +kernel
theorem dL_law_576 : decode cL_law 576 = .ok (.aload_n 0, 1) := by decide +kernel
theorem dL_law_577 : decode cL_law 577 = .ok (.iload_n 3, 1) := by decide +kernel
theorem dL_law_578 : decode cL_law 578 = .ok (.iconst 1, 1) := by decide +kernel
theorem dL_law_579 : decode cL_law 579 = .ok (.iadd, 1) := by decide +kernel
theorem dL_law_580 : decode cL_law 580 = .ok (.iaload, 1) := by decide +kernel
theorem dL_law_581 : decode cL_law 581 = .ok (.invokevirtual 60, 3) := by decide +kernel
theorem dL_law_584 : decode cL_law 584 = .ok (.aload_n 2, 1) := by decide +kernel
theorem dL_law_585 : decode cL_law 585 = .ok (.aload_n 0, 1) := by decide +kernel
theorem dL_law_586 : decode cL_law 586 = .ok (.iload_n 3, 1) := by decide +kernel
theorem dL_law_587 : decode cL_law 587 = .ok (.iconst 1, 1) := by decide +kernel
theorem dL_law_588 : decode cL_law 588 = .ok (.iadd, 1) := by decide +kernel
theorem dL_law_589 : decode cL_law 589 = .ok (.iaload, 1) := by decide +kernel
theorem dL_law_590 : decode cL_law 590 = .ok (.invokevirtual 63, 3) := by decide +kernel
theorem dL_law_593 : decode cL_law 593 = .ok (.if_icmp .eq 1137, 3) := by decide +kernel
theorem dL_law_596 : decode cL_law 596 = .ok (.iconst 0, 1) := by decide +kernel
theorem dL_law_597 : decode cL_law 597 = .ok (.ireturn, 1) := by decide +kernel
theorem dL_law_598 : decode cL_law 598 = .ok (.aload_n 1, 1) := by decide +kernel
theorem dL_law_599 : decode cL_law 599 = .ok (.aload_n 0, 1) := by decide +kernel
theorem dL_law_600 : decode cL_law 600 = .ok (.iload_n 3, 1) := by decide +kernel
theorem dL_law_601 : decode cL_law 601 = .ok (.iconst 1, 1) := by decide +kernel
theorem dL_law_602 : decode cL_law 602 = .ok (.iadd, 1) := by decide +kernel
theorem dL_law_603 : decode cL_law 603 = .ok (.iaload, 1) := by decide +kernel
theorem dL_law_604 : decode cL_law 604 = .ok (.aload_n 0, 1) := by decide +kernel
theorem dL_law_605 : decode cL_law 605 = .ok (.iload_n 3, 1) := by decide +kernel
theorem dL_law_606 : decode cL_law 606 = .ok (.iconst 2, 1) := by decide +kernel
theorem dL_law_607 : decode cL_law 607 = .ok (.iadd, 1) := by decide +kernel
theorem dL_law_608 : decode cL_law 608 = .ok (.iaload, 1) := by decide +kernel
theorem dL_law_609 : decode cL_law 609 = .ok (.invokevirtual 64, 3) := by decide +kernel
theorem dL_law_612 : decode cL_law 612 = .ok (.aload_n 2, 1) := by decide +kernel
theorem dL_law_613 : decode cL_law 613 = .ok (.aload_n 0, 1) := by decide +kernel
theorem dL_law_614 : decode cL_law 614 = .ok (.iload_n 3, 1) := by decide +kernel
theorem dL_law_615 : decode cL_law 615 = .ok (.iconst 1, 1) := by decide +kernel
theorem dL_law_616 : decode cL_law 616 = .ok (.iadd, 1) := by decide +kernel
theorem dL_law_617 : decode cL_law 617 = .ok (.iaload, 1) := by decide +kernel
theorem dL_law_618 : decode cL_law 618 = .ok (.aload_n 0, 1) := by decide +kernel
theorem dL_law_619 : decode cL_law 619 = .ok (.iload_n 3, 1) := by decide +kernel
theorem dL_law_620 : decode cL_law 620 = .ok (.iconst 2, 1) := by decide +kernel
theorem dL_law_621 : decode cL_law 621 = .ok (.iadd, 1) := by decide +kernel
theorem dL_law_622 : decode cL_law 622 = .ok (.iaload, 1) := by decide +kernel
theorem dL_law_623 : decode cL_law 623 = .ok (.invokevirtual 67, 3) := by decide +kernel
theorem dL_law_626 : decode cL_law 626 = .ok (.if_icmp .eq 1104, 3) := by decide +kernel
theorem dL_law_629 : decode cL_law 629 = .ok (.iconst 0, 1) := by decide +kernel
theorem dL_law_630 : decode cL_law 630 = .ok (.ireturn, 1) := by decide +kernel
theorem dL_law_631 : decode cL_law 631 = .ok (.aload_n 1, 1) := by decide +kernel
theorem dL_law_632 : decode cL_law 632 = .ok (.aload_n 0, 1) := by decide +kernel
theorem dL_law_633 : decode cL_law 633 = .ok (.iload_n 3, 1) := by decide +kernel
theorem dL_law_634 : decode cL_law 634 = .ok (.iconst 1, 1) := by decide +kernel
theorem dL_law_635 : decode cL_law 635 = .ok (.iadd, 1) := by decide +kernel
theorem dL_law_636 : decode cL_law 636 = .ok (.iaload, 1) := by decide +kernel
theorem dL_law_637 : decode cL_law 637 = .ok (.invokevirtual 68, 3) := by decide +kernel
theorem dL_law_640 : decode cL_law 640 = .ok (.aload_n 2, 1) := by decide +kernel
theorem dL_law_641 : decode cL_law 641 = .ok (.aload_n 0, 1) := by decide +kernel
theorem dL_law_642 : decode cL_law 642 = .ok (.iload_n 3, 1) := by decide +kernel
theorem dL_law_643 : decode cL_law 643 = .ok (.iconst 1, 1) := by decide +kernel
theorem dL_law_644 : decode cL_law 644 = .ok (.iadd, 1) := by decide +kernel
theorem dL_law_645 : decode cL_law 645 = .ok (.iaload, 1) := by decide +kernel
theorem dL_law_646 : decode cL_law 646 = .ok (.invokevirtual 71, 3) := by decide +kernel
theorem dL_law_649 : decode cL_law 649 = .ok (.if_icmp .eq 1081, 3) := by decide +kernel
theorem dL_law_652 : decode cL_law 652 = .ok (.iconst 0, 1) := by decide +kernel
theorem dL_law_653 : decode cL_law 653 = .ok (.ireturn, 1) := by decide +kernel
theorem dL_law_654 : decode cL_law 654 = .ok (.aload_n 1, 1) := by decide +kernel
theorem dL_law_655 : decode cL_law 655 = .ok (.invokevirtual 72, 3) := by decide +kernel
theorem dL_law_658 : decode cL_law 658 = .ok (.aload_n 2, 1) := by decide +kernel
theorem dL_law_659 : decode cL_law 659 = .ok (.invokevirtual 76, 3) := by decide +kernel
theorem dL_law_662 : decode cL_law 662 = .ok (.if_icmp .eq 1068, 3) := by decide +kernel
theorem dL_law_665 : decode cL_law 665 = .ok (.iconst 0, 1) := by decide +kernel
theorem dL_law_666 : decode cL_law 666 = .ok (.ireturn, 1) := by decide +kernel
theorem dL_law_667 : decode cL_law 667 = .ok (.aload_n 1, 1) := by decide +kernel
theorem dL_law_668 : decode cL_law 668 = .ok (.aload_n 0, 1) := by decide +kernel
theorem dL_law_669 : decode cL_law 669 = .ok (.iload_n 3, 1) := by decide +kernel
theorem dL_law_670 : decode cL_law 670 = .ok (.iconst 1, 1) := by decide +kernel
theorem dL_law_671 : decode cL_law 671 = .ok (.iadd, 1) := by decide +kernel
theorem dL_law_672 : decode cL_law 672 = .ok (.iaload, 1) := by decide +kernel
theorem dL_law_673 : decode cL_law 673 = .ok (.aload_n 0, 1) := by decide +kernel
theorem dL_law_674 : decode cL_law 674 = .ok (.iload_n 3, 1) := by decide +kernel
theorem dL_law_675 : decode cL_law 675 = .ok (.iconst 2, 1) := by decide +kernel
theorem dL_law_676 : decode cL_law 676 = .ok (.iadd, 1) := by decide +kernel
theorem dL_law_677 : decode cL_law 677 = .ok (.iaload, 1) := by decide +kernel
theorem dL_law_678 : decode cL_law 678 = .ok (.invokevirtual 77, 3) := by decide +kernel
theorem dL_law_681 : decode cL_law 681 = .ok (.aload_n 2, 1) := by decide +kernel
theorem dL_law_682 : decode cL_law 682 = .ok (.aload_n 0, 1) := by decide +kernel
theorem dL_law_683 : decode cL_law 683 = .ok (.iload_n 3, 1) := by decide +kernel
theorem dL_law_684 : decode cL_law 684 = .ok (.iconst 1, 1) := by decide +kernel
theorem dL_law_685 : decode cL_law 685 = .ok (.iadd, 1) := by decide +kernel
theorem dL_law_686 : decode cL_law 686 = .ok (.iaload, 1) := by decide +kernel
theorem dL_law_687 : decode cL_law 687 = .ok (.aload_n 0, 1) := by decide +kernel
theorem dL_law_688 : decode cL_law 688 = .ok (.iload_n 3, 1) := by decide +kernel
theorem dL_law_689 : decode cL_law 689 = .ok (.iconst 2, 1) := by decide +kernel
theorem dL_law_690 : decode cL_law 690 = .ok (.iadd, 1) := by decide +kernel
theorem dL_law_691 : decode cL_law 691 = .ok (.iaload, 1) := by decide +kernel
theorem dL_law_692 : decode cL_law 692 = .ok (.invokevirtual 80, 3) := by decide +kernel
theorem dL_law_695 : decode cL_law 695 = .ok (.if_icmp .eq 1035, 3) := by decide +kernel
theorem dL_law_698 : decode cL_law 698 = .ok (.iconst 0, 1) := by decide +kernel
theorem dL_law_699 : decode cL_law 699 = .ok (.ireturn, 1) := by decide +kernel
theorem dL_law_700 : decode cL_law 700 = .ok (.aload_n 1, 1) := by decide +kernel
theorem dL_law_701 : decode cL_law 701 = .ok (.aload_n 0, 1) := by decide +kernel
theorem dL_law_702 : decode cL_law 702 = .ok (.iload_n 3, 1) := by decide +kernel
theorem dL_law_703 : decode cL_law 703 = .ok (.iconst 1, 1) := by decide +kernel
theorem dL_law_704 : decode cL_law 704 = .ok (.iadd, 1) := by decide +kernel
theorem dL_law_705 : decode cL_law 705 = .ok (.iaload, 1) := by decide +kernel
theorem dL_law_706 : decode cL_law 706 = .ok (.invokevirtual 81, 3) := by decide +kernel
theorem dL_law_709 : decode cL_law 709 = .ok (.aload_n 2, 1) := by decide +kernel
theorem dL_law_710 : decode cL_law 710 = .ok (.aload_n 0, 1) := by decide +kernel
theorem dL_law_711 : decode cL_law 711 = .ok (.iload_n 3, 1) := by decide +kernel
theorem dL_law_712 : decode cL_law 712 = .ok (.iconst 1, 1) := by decide +kernel
theorem dL_law_713 : decode cL_law 713 = .ok (.iadd, 1) := by decide +kernel
theorem dL_law_714 : decode cL_law 714 = .ok (.iaload, 1) := by decide +kernel
theorem dL_law_715 : decode cL_law 715 = .ok (.invokevirtual 84, 3) := by decide +kernel
theorem dL_law_718 : decode cL_law 718 = .ok (.if_icmp .eq 1012, 3) := by decide +kernel
theorem dL_law_721 : decode cL_law 721 = .ok (.iconst 0, 1) := by decide +kernel
theorem dL_law_722 : decode cL_law 722 = .ok (.ireturn, 1) := by decide +kernel
theorem dL_law_723 : decode cL_law 723 = .ok (.aload_n 1, 1) := by decide +kernel
theorem dL_law_724 : decode cL_law 724 = .ok (.invokevirtual 85, 3) := by decide +kernel
theorem dL_law_727 : decode cL_law 727 = .ok (.aload_n 2, 1) := by decide +kernel
theorem dL_law_728 : decode cL_law 728 = .ok (.invokevirtual 88, 3) := by decide +kernel
theorem dL_law_731 : decode cL_law 731 = .ok (.if_icmp .eq 999, 3) := by decide +kernel
theorem dL_law_734 : decode cL_law 734 = .ok (.iconst 0, 1) := by decide +kernel
theorem dL_law_735 : decode cL_law 735 = .ok (.ireturn, 1) := by decide +kernel
theorem dL_law_736 : decode cL_law 736 = .ok (.aload_n 1, 1) := by decide +kernel
theorem dL_law_737 : decode cL_law 737 = .ok (.aload_n 0, 1) := by decide +kernel
theorem dL_law_738 : decode cL_law 738 = .ok (.iload_n 3, 1) := by decide +kernel
theorem dL_law_739 : decode cL_law 739 = .ok (.iconst 1, 1) := by decide +kernel
theorem dL_law_740 : decode cL_law 740 = .ok (.iadd, 1) := by decide +kernel
theorem dL_law_741 : decode cL_law 741 = .ok (.iaload, 1) := by decide +kernel
theorem dL_law_742 : decode cL_law 742 = .ok (.aload_n 0, 1) := by decide +kernel
theorem dL_law_743 : decode cL_law 743 = .ok (.iload_n 3, 1) := by decide +kernel
theorem dL_law_744 : decode cL_law 744 = .ok (.iconst 2, 1) := by decide +kernel
theorem dL_law_745 : decode cL_law 745 = .ok (.iadd, 1) := by decide +kernel
theorem dL_law_746 : decode cL_law 746 = .ok (.iaload, 1) := by decide +kernel
theorem dL_law_747 : decode cL_law 747 = .ok (.invokevirtual 89, 3) := by decide +kernel
theorem dL_law_750 : decode cL_law 750 = .ok (.aload_n 2, 1) := by decide +kernel
theorem dL_law_751 : decode cL_law 751 = .ok (.aload_n 0, 1) := by decide +kernel
theorem dL_law_752 : decode cL_law 752 = .ok (.iload_n 3, 1) := by decide +kernel
theorem dL_law_753 : decode cL_law 753 = .ok (.iconst 1, 1) := by decide +kernel
theorem dL_law_754 : decode cL_law 754 = .ok (.iadd, 1) := by decide +kernel
theorem dL_law_755 : decode cL_law 755 = .ok (.iaload, 1) := by decide +kernel
theorem dL_law_756 : decode cL_law 756 = .ok (.aload_n 0, 1) := by decide +kernel
theorem dL_law_757 : decode cL_law 757 = .ok (.iload_n 3, 1) := by decide +kernel
theorem dL_law_758 : decode cL_law 758 = .ok (.iconst 2, 1) := by decide +kernel
theorem dL_law_759 : decode cL_law 759 = .ok (.iadd, 1) := by decide +kernel
theorem dL_law_760 : decode cL_law 760 = .ok (.iaload, 1) := by decide +kernel
theorem dL_law_761 : decode cL_law 761 = .ok (.invokevirtual 93, 3) := by decide +kernel
theorem dL_law_764 : decode cL_law 764 = .ok (.lcmp, 1) := by decide +kernel
theorem dL_law_765 : decode cL_law 765 = .ok (.ifCond .eq 965, 3) := by decide +kernel
theorem dL_law_768 : decode cL_law 768 = .ok (.iconst 0, 1) := by decide +kernel
theorem dL_law_769 : decode cL_law 769 = .ok (.ireturn, 1) := by decide +kernel
theorem dL_law_770 : decode cL_law 770 = .ok (.aload_n 1, 1) := by decide +kernel
theorem dL_law_771 : decode cL_law 771 = .ok (.aload_n 0, 1) := by decide +kernel
theorem dL_law_772 : decode cL_law 772 = .ok (.iload_n 3, 1) := by decide +kernel
theorem dL_law_773 : decode cL_law 773 = .ok (.iconst 1, 1) := by decide +kernel
theorem dL_law_774 : decode cL_law 774 = .ok (.iadd, 1) := by decide +kernel
theorem dL_law_775 : decode cL_law 775 = .ok (.iaload, 1) := by decide +kernel
theorem dL_law_776 : decode cL_law 776 = .ok (.invokevirtual 94, 3) := by decide +kernel
theorem dL_law_779 : decode cL_law 779 = .ok (.aload_n 2, 1) := by decide +kernel
theorem dL_law_780 : decode cL_law 780 = .ok (.aload_n 0, 1) := by decide +kernel
theorem dL_law_781 : decode cL_law 781 = .ok (.iload_n 3, 1) := by decide +kernel
theorem dL_law_782 : decode cL_law 782 = .ok (.iconst 1, 1) := by decide +kernel
theorem dL_law_783 : decode cL_law 783 = .ok (.iadd, 1) := by decide +kernel
theorem dL_law_784 : decode cL_law 784 = .ok (.iaload, 1) := by decide +kernel
theorem dL_law_785 : decode cL_law 785 = .ok (.invokevirtual 98, 3) := by decide +kernel
theorem dL_law_788 : decode cL_law 788 = .ok (.lcmp, 1) := by decide +kernel
theorem dL_law_789 : decode cL_law 789 = .ok (.ifCond .eq 941, 3) := by decide +kernel
theorem dL_law_792 : decode cL_law 792 = .ok (.iconst 0, 1) := by decide +kernel
theorem dL_law_793 : decode cL_law 793 = .ok (.ireturn, 1) := by decide +kernel
theorem dL_law_794 : decode cL_law 794 = .ok (.aload_n 1, 1) := by decide +kernel
theorem dL_law_795 : decode cL_law 795 = .ok (.aload_n 0, 1) := by decide +kernel
theorem dL_law_796 : decode cL_law 796 = .ok (.iload_n 3, 1) := by decide +kernel
theorem dL_law_797 : decode cL_law 797 = .ok (.iconst 1, 1) := by decide +kernel
theorem dL_law_798 : decode cL_law 798 = .ok (.iadd, 1) := by decide +kernel
theorem dL_law_799 : decode cL_law 799 = .ok (.iaload, 1) := by decide +kernel
theorem dL_law_800 : decode cL_law 800 = .ok (.invokevirtual 99, 3) := by decide +kernel
theorem dL_law_803 : decode cL_law 803 = .ok (.aload_n 2, 1) := by decide +kernel
theorem dL_law_804 : decode cL_law 804 = .ok (.aload_n 0, 1) := by decide +kernel
theorem dL_law_805 : decode cL_law 805 = .ok (.iload_n 3, 1) := by decide +kernel
theorem dL_law_806 : decode cL_law 806 = .ok (.iconst 1, 1) := by decide +kernel
theorem dL_law_807 : decode cL_law 807 = .ok (.iadd, 1) := by decide +kernel
theorem dL_law_808 : decode cL_law 808 = .ok (.iaload, 1) := by decide +kernel
theorem dL_law_809 : decode cL_law 809 = .ok (.invokevirtual 102, 3) := by decide +kernel
theorem dL_law_812 : decode cL_law 812 = .ok (.if_icmp .eq 918, 3) := by decide +kernel
theorem dL_law_815 : decode cL_law 815 = .ok (.iconst 0, 1) := by decide +kernel
theorem dL_law_816 : decode cL_law 816 = .ok (.ireturn, 1) := by decide +kernel
theorem dL_law_817 : decode cL_law 817 = .ok (.aload_n 1, 1) := by decide +kernel
theorem dL_law_818 : decode cL_law 818 = .ok (.aload_n 0, 1) := by decide +kernel
theorem dL_law_819 : decode cL_law 819 = .ok (.iload_n 3, 1) := by decide +kernel
theorem dL_law_820 : decode cL_law 820 = .ok (.iconst 1, 1) := by decide +kernel
theorem dL_law_821 : decode cL_law 821 = .ok (.iadd, 1) := by decide +kernel
theorem dL_law_822 : decode cL_law 822 = .ok (.iaload, 1) := by decide +kernel
theorem dL_law_823 : decode cL_law 823 = .ok (.aload_n 0, 1) := by decide +kernel
theorem dL_law_824 : decode cL_law 824 = .ok (.iload_n 3, 1) := by decide +kernel
theorem dL_law_825 : decode cL_law 825 = .ok (.iconst 2, 1) := by decide +kernel
theorem dL_law_826 : decode cL_law 826 = .ok (.iadd, 1) := by decide +kernel
theorem dL_law_827 : decode cL_law 827 = .ok (.iaload, 1) := by decide +kernel
theorem dL_law_828 : decode cL_law 828 = .ok (.invokevirtual 103, 3) := by decide +kernel
theorem dL_law_831 : decode cL_law 831 = .ok (.aload_n 2, 1) := by decide +kernel
theorem dL_law_832 : decode cL_law 832 = .ok (.aload_n 0, 1) := by decide +kernel
theorem dL_law_833 : decode cL_law 833 = .ok (.iload_n 3, 1) := by decide +kernel
theorem dL_law_834 : decode cL_law 834 = .ok (.iconst 1, 1) := by decide +kernel
theorem dL_law_835 : decode cL_law 835 = .ok (.iadd, 1) := by decide +kernel
theorem dL_law_836 : decode cL_law 836 = .ok (.iaload, 1) := by decide +kernel
theorem dL_law_837 : decode cL_law 837 = .ok (.aload_n 0, 1) := by decide +kernel
theorem dL_law_838 : decode cL_law 838 = .ok (.iload_n 3, 1) := by decide +kernel
theorem dL_law_839 : decode cL_law 839 = .ok (.iconst 2, 1) := by decide +kernel
theorem dL_law_840 : decode cL_law 840 = .ok (.iadd, 1) := by decide +kernel
theorem dL_law_841 : decode cL_law 841 = .ok (.iaload, 1) := by decide +kernel
theorem dL_law_842 : decode cL_law 842 = .ok (.invokevirtual 106, 3) := by decide +kernel
theorem dL_law_845 : decode cL_law 845 = .ok (.if_icmp .eq 885, 3) := by decide +kernel
theorem dL_law_848 : decode cL_law 848 = .ok (.iconst 0, 1) := by decide +kernel
theorem dL_law_849 : decode cL_law 849 = .ok (.ireturn, 1) := by decide +kernel
theorem dL_law_850 : decode cL_law 850 = .ok (.aload_n 1, 1) := by decide +kernel
theorem dL_law_851 : decode cL_law 851 = .ok (.aload_n 0, 1) := by decide +kernel
theorem dL_law_852 : decode cL_law 852 = .ok (.iload_n 3, 1) := by decide +kernel
theorem dL_law_853 : decode cL_law 853 = .ok (.iconst 1, 1) := by decide +kernel
theorem dL_law_854 : decode cL_law 854 = .ok (.iadd, 1) := by decide +kernel
theorem dL_law_855 : decode cL_law 855 = .ok (.iaload, 1) := by decide +kernel
theorem dL_law_856 : decode cL_law 856 = .ok (.aload_n 0, 1) := by decide +kernel
theorem dL_law_857 : decode cL_law 857 = .ok (.iload_n 3, 1) := by decide +kernel
theorem dL_law_858 : decode cL_law 858 = .ok (.iconst 2, 1) := by decide +kernel
theorem dL_law_859 : decode cL_law 859 = .ok (.iadd, 1) := by decide +kernel
theorem dL_law_860 : decode cL_law 860 = .ok (.iaload, 1) := by decide +kernel
theorem dL_law_861 : decode cL_law 861 = .ok (.invokevirtual 107, 3) := by decide +kernel
theorem dL_law_864 : decode cL_law 864 = .ok (.aload_n 2, 1) := by decide +kernel
theorem dL_law_865 : decode cL_law 865 = .ok (.aload_n 0, 1) := by decide +kernel
theorem dL_law_866 : decode cL_law 866 = .ok (.iload_n 3, 1) := by decide +kernel
theorem dL_law_867 : decode cL_law 867 = .ok (.iconst 1, 1) := by decide +kernel
theorem dL_law_868 : decode cL_law 868 = .ok (.iadd, 1) := by decide +kernel
theorem dL_law_869 : decode cL_law 869 = .ok (.iaload, 1) := by decide +kernel
theorem dL_law_870 : decode cL_law 870 = .ok (.aload_n 0, 1) := by decide +kernel
theorem dL_law_871 : decode cL_law 871 = .ok (.iload_n 3, 1) := by decide +kernel
theorem dL_law_872 : decode cL_law 872 = .ok (.iconst 2, 1) := by decide +kernel
theorem dL_law_873 : decode cL_law 873 = .ok (.iadd, 1) := by decide +kernel
theorem dL_law_874 : decode cL_law 874 = .ok (.iaload, 1) := by decide +kernel
theorem dL_law_875 : decode cL_law 875 = .ok (.invokevirtual 110, 3) := by decide +kernel
theorem dL_law_878 : decode cL_law 878 = .ok (.lcmp, 1) := by decide +kernel
theorem dL_law_879 : decode cL_law 879 = .ok (.ifCond .eq 851, 3) := by decide +kernel
theorem dL_law_882 : decode cL_law 882 = .ok (.iconst 0, 1) := by decide +kernel
theorem dL_law_883 : decode cL_law 883 = .ok (.ireturn, 1) := by decide +kernel
theorem dL_law_884 : decode cL_law 884 = .ok (.aload_n 1, 1) := by decide +kernel
theorem dL_law_885 : decode cL_law 885 = .ok (.aload_n 0, 1) := by decide +kernel
theorem dL_law_886 : decode cL_law 886 = .ok (.iload_n 3, 1) := by decide +kernel
theorem dL_law_887 : decode cL_law 887 = .ok (.iconst 1, 1) := by decide +kernel
theorem dL_law_888 : decode cL_law 888 = .ok (.iadd, 1) := by decide +kernel
theorem dL_law_889 : decode cL_law 889 = .ok (.iaload, 1) := by decide +kernel
theorem dL_law_890 : decode cL_law 890 = .ok (.aload_n 0, 1) := by decide +kernel
theorem dL_law_891 : decode cL_law 891 = .ok (.iload_n 3, 1) := by decide +kernel
theorem dL_law_892 : decode cL_law 892 = .ok (.iconst 2, 1) := by decide +kernel
theorem dL_law_893 : decode cL_law 893 = .ok (.iadd, 1) := by decide +kernel
theorem dL_law_894 : decode cL_law 894 = .ok (.iaload, 1) := by decide +kernel
theorem dL_law_895 : decode cL_law 895 = .ok (.invokevirtual 111, 3) := by decide +kernel
theorem dL_law_898 : decode cL_law 898 = .ok (.aload_n 2, 1) := by decide +kernel
theorem dL_law_899 : decode cL_law 899 = .ok (.aload_n 0, 1) := by decide +kernel
theorem dL_law_900 : decode cL_law 900 = .ok (.iload_n 3, 1) := by decide +kernel
theorem dL_law_901 : decode cL_law 901 = .ok (.iconst 1, 1) := by decide +kernel
theorem dL_law_902 : decode cL_law 902 = .ok (.iadd, 1) := by decide +kernel
theorem dL_law_903 : decode cL_law 903 = .ok (.iaload, 1) := by decide +kernel
theorem dL_law_904 : decode cL_law 904 = .ok (.aload_n 0, 1) := by decide +kernel
theorem dL_law_905 : decode cL_law 905 = .ok (.iload_n 3, 1) := by decide +kernel
theorem dL_law_906 : decode cL_law 906 = .ok (.iconst 2, 1) := by decide +kernel
theorem dL_law_907 : decode cL_law 907 = .ok (.iadd, 1) := by decide +kernel
theorem dL_law_908 : decode cL_law 908 = .ok (.iaload, 1) := by decide +kernel
theorem dL_law_909 : decode cL_law 909 = .ok (.invokevirtual 114, 3) := by decide +kernel
theorem dL_law_912 : decode cL_law 912 = .ok (.lcmp, 1) := by decide +kernel
theorem dL_law_913 : decode cL_law 913 = .ok (.ifCond .eq 817, 3) := by decide +kernel
theorem dL_law_916 : decode cL_law 916 = .ok (.iconst 0, 1) := by decide +kernel
theorem dL_law_917 : decode cL_law 917 = .ok (.ireturn, 1) := by decide +kernel
theorem dL_law_918 : decode cL_law 918 = .ok (.aload_n 1, 1) := by decide +kernel
theorem dL_law_919 : decode cL_law 919 = .ok (.aload_n 0, 1) := by decide +kernel
theorem dL_law_920 : decode cL_law 920 = .ok (.iload_n 3, 1) := by decide +kernel
theorem dL_law_921 : decode cL_law 921 = .ok (.iconst 1, 1) := by decide +kernel
theorem dL_law_922 : decode cL_law 922 = .ok (.iadd, 1) := by decide +kernel
theorem dL_law_923 : decode cL_law 923 = .ok (.iaload, 1) := by decide +kernel
theorem dL_law_924 : decode cL_law 924 = .ok (.invokevirtual 115, 3) := by decide +kernel
theorem dL_law_927 : decode cL_law 927 = .ok (.aload_n 2, 1) := by decide +kernel
theorem dL_law_928 : decode cL_law 928 = .ok (.aload_n 0, 1) := by decide +kernel
theorem dL_law_929 : decode cL_law 929 = .ok (.iload_n 3, 1) := by decide +kernel
theorem dL_law_930 : decode cL_law 930 = .ok (.iconst 1, 1) := by decide +kernel
theorem dL_law_931 : decode cL_law 931 = .ok (.iadd, 1) := by decide +kernel
theorem dL_law_932 : decode cL_law 932 = .ok (.iaload, 1) := by decide +kernel
theorem dL_law_933 : decode cL_law 933 = .ok (.invokevirtual 118, 3) := by decide +kernel
theorem dL_law_936 : decode cL_law 936 = .ok (.if_icmp .eq 794, 3) := by decide +kernel
theorem dL_law_939 : decode cL_law 939 = .ok (.iconst 0, 1) := by decide +kernel
theorem dL_law_940 : decode cL_law 940 = .ok (.ireturn, 1) := by decide +kernel
theorem dL_law_941 : decode cL_law 941 = .ok (.aload_n 1, 1) := by decide +kernel
theorem dL_law_942 : decode cL_law 942 = .ok (.aload_n 0, 1) := by decide +kernel
theorem dL_law_943 : decode cL_law 943 = .ok (.iload_n 3, 1) := by decide +kernel
theorem dL_law_944 : decode cL_law 944 = .ok (.iconst 1, 1) := by decide +kernel
theorem dL_law_945 : decode cL_law 945 = .ok (.iadd, 1) := by decide +kernel
theorem dL_law_946 : decode cL_law 946 = .ok (.iaload, 1) := by decide +kernel
theorem dL_law_947 : decode cL_law 947 = .ok (.aload_n 0, 1) := by decide +kernel
theorem dL_law_948 : decode cL_law 948 = .ok (.iload_n 3, 1) := by decide +kernel
theorem dL_law_949 : decode cL_law 949 = .ok (.iconst 2, 1) := by decide +kernel
theorem dL_law_950 : decode cL_law 950 = .ok (.iadd, 1) := by decide +kernel
theorem dL_law_951 : decode cL_law 951 = .ok (.iaload, 1) := by decide +kernel
theorem dL_law_952 : decode cL_law 952 = .ok (.invokevirtual 119, 3) := by decide +kernel
theorem dL_law_955 : decode cL_law 955 = .ok (.aload_n 2, 1) := by decide +kernel
theorem dL_law_956 : decode cL_law 956 = .ok (.aload_n 0, 1) := by decide +kernel
theorem dL_law_957 : decode cL_law 957 = .ok (.iload_n 3, 1) := by decide +kernel
theorem dL_law_958 : decode cL_law 958 = .ok (.iconst 1, 1) := by decide +kernel
theorem dL_law_959 : decode cL_law 959 = .ok (.iadd, 1) := by decide +kernel
theorem dL_law_960 : decode cL_law 960 = .ok (.iaload, 1) := by decide +kernel
theorem dL_law_961 : decode cL_law 961 = .ok (.aload_n 0, 1) := by decide +kernel
theorem dL_law_962 : decode cL_law 962 = .ok (.iload_n 3, 1) := by decide +kernel
theorem dL_law_963 : decode cL_law 963 = .ok (.iconst 2, 1) := by decide +kernel
theorem dL_law_964 : decode cL_law 964 = .ok (.iadd, 1) := by decide +kernel
theorem dL_law_965 : decode cL_law 965 = .ok (.iaload, 1) := by decide +kernel
theorem dL_law_966 : decode cL_law 966 = .ok (.invokevirtual 122, 3) := by decide +kernel
theorem dL_law_969 : decode cL_law 969 = .ok (.lcmp, 1) := by decide +kernel
theorem dL_law_970 : decode cL_law 970 = .ok (.ifCond .eq 760, 3) := by decide +kernel
theorem dL_law_973 : decode cL_law 973 = .ok (.iconst 0, 1) := by decide +kernel
theorem dL_law_974 : decode cL_law 974 = .ok (.ireturn, 1) := by decide +kernel
theorem dL_law_975 : decode cL_law 975 = .ok (.aload_n 1, 1) := by decide +kernel
theorem dL_law_976 : decode cL_law 976 = .ok (.aload_n 0, 1) := by decide +kernel
theorem dL_law_977 : decode cL_law 977 = .ok (.iload_n 3, 1) := by decide +kernel
theorem dL_law_978 : decode cL_law 978 = .ok (.iconst 1, 1) := by decide +kernel
theorem dL_law_979 : decode cL_law 979 = .ok (.iadd, 1) := by decide +kernel
theorem dL_law_980 : decode cL_law 980 = .ok (.iaload, 1) := by decide +kernel
theorem dL_law_981 : decode cL_law 981 = .ok (.aload_n 0, 1) := by decide +kernel
theorem dL_law_982 : decode cL_law 982 = .ok (.iload_n 3, 1) := by decide +kernel
theorem dL_law_983 : decode cL_law 983 = .ok (.iconst 2, 1) := by decide +kernel
theorem dL_law_984 : decode cL_law 984 = .ok (.iadd, 1) := by decide +kernel
theorem dL_law_985 : decode cL_law 985 = .ok (.iaload, 1) := by decide +kernel
theorem dL_law_986 : decode cL_law 986 = .ok (.invokevirtual 123, 3) := by decide +kernel
theorem dL_law_989 : decode cL_law 989 = .ok (.aload_n 2, 1) := by decide +kernel
theorem dL_law_990 : decode cL_law 990 = .ok (.aload_n 0, 1) := by decide +kernel
theorem dL_law_991 : decode cL_law 991 = .ok (.iload_n 3, 1) := by decide +kernel
theorem dL_law_992 : decode cL_law 992 = .ok (.iconst 1, 1) := by decide +kernel
theorem dL_law_993 : decode cL_law 993 = .ok (.iadd, 1) := by decide +kernel
theorem dL_law_994 : decode cL_law 994 = .ok (.iaload, 1) := by decide +kernel
theorem dL_law_995 : decode cL_law 995 = .ok (.aload_n 0, 1) := by decide +kernel
theorem dL_law_996 : decode cL_law 996 = .ok (.iload_n 3, 1) := by decide +kernel
theorem dL_law_997 : decode cL_law 997 = .ok (.iconst 2, 1) := by decide +kernel
theorem dL_law_998 : decode cL_law 998 = .ok (.iadd, 1) := by decide +kernel
theorem dL_law_999 : decode cL_law 999 = .ok (.iaload, 1) := by decide +kernel
theorem dL_law_1000 : decode cL_law 1000 = .ok (.invokevirtual 126, 3) := by decide +kernel
theorem dL_law_1003 : decode cL_law 1003 = .ok (.lcmp, 1) := by decide +kernel
theorem dL_law_1004 : decode cL_law 1004 = .ok (.ifCond .eq 726, 3) := by decide +kernel
theorem dL_law_1007 : decode cL_law 1007 = .ok (.iconst 0, 1) := by decide +kernel
theorem dL_law_1008 : decode cL_law 1008 = .ok (.ireturn, 1) := by decide +kernel
theorem dL_law_1009 : decode cL_law 1009 = .ok (.aload_n 1, 1) := by decide +kernel
theorem dL_law_1010 : decode cL_law 1010 = .ok (.aload_n 0, 1) := by decide +kernel
theorem dL_law_1011 : decode cL_law 1011 = .ok (.iload_n 3, 1) := by decide +kernel
theorem dL_law_1012 : decode cL_law 1012 = .ok (.iconst 1, 1) := by decide +kernel
theorem dL_law_1013 : decode cL_law 1013 = .ok (.iadd, 1) := by decide +kernel
theorem dL_law_1014 : decode cL_law 1014 = .ok (.iaload, 1) := by decide +kernel
theorem dL_law_1015 : decode cL_law 1015 = .ok (.aload_n 0, 1) := by decide +kernel
theorem dL_law_1016 : decode cL_law 1016 = .ok (.iload_n 3, 1) := by decide +kernel
theorem dL_law_1017 : decode cL_law 1017 = .ok (.iconst 2, 1) := by decide +kernel
theorem dL_law_1018 : decode cL_law 1018 = .ok (.iadd, 1) := by decide +kernel
theorem dL_law_1019 : decode cL_law 1019 = .ok (.iaload, 1) := by decide +kernel
theorem dL_law_1020 : decode cL_law 1020 = .ok (.invokevirtual 127, 3) := by decide +kernel
theorem dL_law_1023 : decode cL_law 1023 = .ok (.aload_n 2, 1) := by decide +kernel
theorem dL_law_1024 : decode cL_law 1024 = .ok (.aload_n 0, 1) := by decide +kernel
theorem dL_law_1025 : decode cL_law 1025 = .ok (.iload_n 3, 1) := by decide +kernel
theorem dL_law_1026 : decode cL_law 1026 = .ok (.iconst 1, 1) := by decide +kernel
theorem dL_law_1027 : decode cL_law 1027 = .ok (.iadd, 1) := by decide +kernel
theorem dL_law_1028 : decode cL_law 1028 = .ok (.iaload, 1) := by decide +kernel
theorem dL_law_1029 : decode cL_law 1029 = .ok (.aload_n 0, 1) := by decide +kernel
theorem dL_law_1030 : decode cL_law 1030 = .ok (.iload_n 3, 1) := by decide +kernel
theorem dL_law_1031 : decode cL_law 1031 = .ok (.iconst 2, 1) := by decide +kernel
theorem dL_law_1032 : decode cL_law 1032 = .ok (.iadd, 1) := by decide +kernel
theorem dL_law_1033 : decode cL_law 1033 = .ok (.iaload, 1) := by decide +kernel
theorem dL_law_1034 : decode cL_law 1034 = .ok (.invokevirtual 130, 3) := by decide +kernel
theorem dL_law_1037 : decode cL_law 1037 = .ok (.lcmp, 1) := by decide +kernel
theorem dL_law_1038 : decode cL_law 1038 = .ok (.ifCond .eq 692, 3) := by decide +kernel
theorem dL_law_1041 : decode cL_law 1041 = .ok (.iconst 0, 1) := by decide +kernel
theorem dL_law_1042 : decode cL_law 1042 = .ok (.ireturn, 1) := by decide +kernel
theorem dL_law_1043 : decode cL_law 1043 = .ok (.aload_n 1, 1) := by decide +kernel
theorem dL_law_1044 : decode cL_law 1044 = .ok (.aload_n 0, 1) := by decide +kernel
theorem dL_law_1045 : decode cL_law 1045 = .ok (.iload_n 3, 1) := by decide +kernel
theorem dL_law_1046 : decode cL_law 1046 = .ok (.iconst 1, 1) := by decide +kernel
theorem dL_law_1047 : decode cL_law 1047 = .ok (.iadd, 1) := by decide +kernel
theorem dL_law_1048 : decode cL_law 1048 = .ok (.iaload, 1) := by decide +kernel
theorem dL_law_1049 : decode cL_law 1049 = .ok (.aload_n 0, 1) := by decide +kernel
theorem dL_law_1050 : decode cL_law 1050 = .ok (.iload_n 3, 1) := by decide +kernel
theorem dL_law_1051 : decode cL_law 1051 = .ok (.iconst 2, 1) := by decide +kernel
theorem dL_law_1052 : decode cL_law 1052 = .ok (.iadd, 1) := by decide +kernel
theorem dL_law_1053 : decode cL_law 1053 = .ok (.iaload, 1) := by decide +kernel
theorem dL_law_1054 : decode cL_law 1054 = .ok (.invokevirtual 131, 3) := by decide +kernel
theorem dL_law_1057 : decode cL_law 1057 = .ok (.aload_n 2, 1) := by decide +kernel
theorem dL_law_1058 : decode cL_law 1058 = .ok (.aload_n 0, 1) := by decide +kernel
theorem dL_law_1059 : decode cL_law 1059 = .ok (.iload_n 3, 1) := by decide +kernel
theorem dL_law_1060 : decode cL_law 1060 = .ok (.iconst 1, 1) := by decide +kernel
theorem dL_law_1061 : decode cL_law 1061 = .ok (.iadd, 1) := by decide +kernel
theorem dL_law_1062 : decode cL_law 1062 = .ok (.iaload, 1) := by decide +kernel
theorem dL_law_1063 : decode cL_law 1063 = .ok (.aload_n 0, 1) := by decide +kernel
theorem dL_law_1064 : decode cL_law 1064 = .ok (.iload_n 3, 1) := by decide +kernel
theorem dL_law_1065 : decode cL_law 1065 = .ok (.iconst 2, 1) := by decide +kernel
theorem dL_law_1066 : decode cL_law 1066 = .ok (.iadd, 1) := by decide +kernel
theorem dL_law_1067 : decode cL_law 1067 = .ok (.iaload, 1) := by decide +kernel
theorem dL_law_1068 : decode cL_law 1068 = .ok (.invokevirtual 134, 3) := by decide +kernel
theorem dL_law_1071 : decode cL_law 1071 = .ok (.lcmp, 1) := by decide +kernel
theorem dL_law_1072 : decode cL_law 1072 = .ok (.ifCond .eq 658, 3) := by decide +kernel
theorem dL_law_1075 : decode cL_law 1075 = .ok (.iconst 0, 1) := by decide +kernel
theorem dL_law_1076 : decode cL_law 1076 = .ok (.ireturn, 1) := by decide +kernel
theorem dL_law_1077 : decode cL_law 1077 = .ok (.aload_n 1, 1) := by decide +kernel
theorem dL_law_1078 : decode cL_law 1078 = .ok (.aload_n 0, 1) := by decide +kernel
theorem dL_law_1079 : decode cL_law 1079 = .ok (.iload_n 3, 1) := by decide +kernel
theorem dL_law_1080 : decode cL_law 1080 = .ok (.iconst 1, 1) := by decide +kernel
theorem dL_law_1081 : decode cL_law 1081 = .ok (.iadd, 1) := by decide +kernel
theorem dL_law_1082 : decode cL_law 1082 = .ok (.iaload, 1) := by decide +kernel
theorem dL_law_1083 : decode cL_law 1083 = .ok (.aload_n 0, 1) := by decide +kernel
theorem dL_law_1084 : decode cL_law 1084 = .ok (.iload_n 3, 1) := by decide +kernel
theorem dL_law_1085 : decode cL_law 1085 = .ok (.iconst 2, 1) := by decide +kernel
theorem dL_law_1086 : decode cL_law 1086 = .ok (.iadd, 1) := by decide +kernel
theorem dL_law_1087 : decode cL_law 1087 = .ok (.iaload, 1) := by decide +kernel
theorem dL_law_1088 : decode cL_law 1088 = .ok (.invokevirtual 135, 3) := by decide +kernel
theorem dL_law_1091 : decode cL_law 1091 = .ok (.aload_n 2, 1) := by decide +kernel
theorem dL_law_1092 : decode cL_law 1092 = .ok (.aload_n 0, 1) := by decide +kernel
theorem dL_law_1093 : decode cL_law 1093 = .ok (.iload_n 3, 1) := by decide +kernel
theorem dL_law_1094 : decode cL_law 1094 = .ok (.iconst 1, 1) := by decide +kernel
theorem dL_law_1095 : decode cL_law 1095 = .ok (.iadd, 1) := by decide +kernel
theorem dL_law_1096 : decode cL_law 1096 = .ok (.iaload, 1) := by decide +kernel
theorem dL_law_1097 : decode cL_law 1097 = .ok (.aload_n 0, 1) := by decide +kernel
theorem dL_law_1098 : decode cL_law 1098 = .ok (.iload_n 3, 1) := by decide +kernel
theorem dL_law_1099 : decode cL_law 1099 = .ok (.iconst 2, 1) := by decide +kernel
theorem dL_law_1100 : decode cL_law 1100 = .ok (.iadd, 1) := by decide +kernel
theorem dL_law_1101 : decode cL_law 1101 = .ok (.iaload, 1) := by decide +kernel
theorem dL_law_1102 : decode cL_law 1102 = .ok (.invokevirtual 138, 3) := by decide +kernel
theorem dL_law_1105 : decode cL_law 1105 = .ok (.lcmp, 1) := by decide +kernel
theorem dL_law_1106 : decode cL_law 1106 = .ok (.ifCond .eq 624, 3) := by decide +kernel
theorem dL_law_1109 : decode cL_law 1109 = .ok (.iconst 0, 1) := by decide +kernel
theorem dL_law_1110 : decode cL_law 1110 = .ok (.ireturn, 1) := by decide +kernel
theorem dL_law_1111 : decode cL_law 1111 = .ok (.aload_n 1, 1) := by decide +kernel
theorem dL_law_1112 : decode cL_law 1112 = .ok (.aload_n 0, 1) := by decide +kernel
theorem dL_law_1113 : decode cL_law 1113 = .ok (.iload_n 3, 1) := by decide +kernel
theorem dL_law_1114 : decode cL_law 1114 = .ok (.iconst 1, 1) := by decide +kernel
theorem dL_law_1115 : decode cL_law 1115 = .ok (.iadd, 1) := by decide +kernel
theorem dL_law_1116 : decode cL_law 1116 = .ok (.iaload, 1) := by decide +kernel
theorem dL_law_1117 : decode cL_law 1117 = .ok (.aload_n 0, 1) := by decide +kernel
theorem dL_law_1118 : decode cL_law 1118 = .ok (.iload_n 3, 1) := by decide +kernel
theorem dL_law_1119 : decode cL_law 1119 = .ok (.iconst 2, 1) := by decide +kernel
theorem dL_law_1120 : decode cL_law 1120 = .ok (.iadd, 1) := by decide +kernel
theorem dL_law_1121 : decode cL_law 1121 = .ok (.iaload, 1) := by decide +kernel
theorem dL_law_1122 : decode cL_law 1122 = .ok (.invokevirtual 139, 3) := by decide +kernel
theorem dL_law_1125 : decode cL_law 1125 = .ok (.aload_n 2, 1) := by decide +kernel
theorem dL_law_1126 : decode cL_law 1126 = .ok (.aload_n 0, 1) := by decide +kernel
theorem dL_law_1127 : decode cL_law 1127 = .ok (.iload_n 3, 1) := by decide +kernel
theorem dL_law_1128 : decode cL_law 1128 = .ok (.iconst 1, 1) := by decide +kernel
theorem dL_law_1129 : decode cL_law 1129 = .ok (.iadd, 1) := by decide +kernel
theorem dL_law_1130 : decode cL_law 1130 = .ok (.iaload, 1) := by decide +kernel
theorem dL_law_1131 : decode cL_law 1131 = .ok (.aload_n 0, 1) := by decide +kernel
theorem dL_law_1132 : decode cL_law 1132 = .ok (.iload_n 3, 1) := by decide +kernel
theorem dL_law_1133 : decode cL_law 1133 = .ok (.iconst 2, 1) := by decide +kernel
theorem dL_law_1134 : decode cL_law 1134 = .ok (.iadd, 1) := by decide +kernel
theorem dL_law_1135 : decode cL_law 1135 = .ok (.iaload, 1) := by decide +kernel
theorem dL_law_1136 : decode cL_law 1136 = .ok (.invokevirtual 142, 3) := by decide +kernel
theorem dL_law_1139 : decode cL_law 1139 = .ok (.lcmp, 1) := by decide +kernel
theorem dL_law_1140 : decode cL_law 1140 = .ok (.ifCond .eq 590, 3) := by decide +kernel
theorem dL_law_1143 : decode cL_law 1143 = .ok (.iconst 0, 1) := by decide +kernel
theorem dL_law_1144 : decode cL_law 1144 = .ok (.ireturn, 1) := by decide +kernel
theorem dL_law_1145 : decode cL_law 1145 = .ok (.aload_n 1, 1) := by decide +kernel
theorem dL_law_1146 : decode cL_law 1146 = .ok (.aload_n 0, 1) := by decide +kernel
theorem dL_law_1147 : decode cL_law 1147 = .ok (.iload_n 3, 1) := by decide +kernel
theorem dL_law_1148 : decode cL_law 1148 = .ok (.iconst 1, 1) := by decide +kernel
theorem dL_law_1149 : decode cL_law 1149 = .ok (.iadd, 1) := by decide +kernel
theorem dL_law_1150 : decode cL_law 1150 = .ok (.iaload, 1) := by decide +kernel
theorem dL_law_1151 : decode cL_law 1151 = .ok (.aload_n 0, 1) := by decide +kernel
theorem dL_law_1152 : decode cL_law 1152 = .ok (.iload_n 3, 1) := by decide +kernel
theorem dL_law_1153 : decode cL_law 1153 = .ok (.iconst 2, 1) := by decide +kernel
theorem dL_law_1154 : decode cL_law 1154 = .ok (.iadd, 1) := by decide +kernel
theorem dL_law_1155 : decode cL_law 1155 = .ok (.iaload, 1) := by decide +kernel
theorem dL_law_1156 : decode cL_law 1156 = .ok (.invokevirtual 143, 3) := by decide +kernel
theorem dL_law_1159 : decode cL_law 1159 = .ok (.aload_n 2, 1) := by decide +kernel
theorem dL_law_1160 : decode cL_law 1160 = .ok (.aload_n 0, 1) := by decide +kernel
theorem dL_law_1161 : decode cL_law 1161 = .ok (.iload_n 3, 1) := by decide +kernel
theorem dL_law_1162 : decode cL_law 1162 = .ok (.iconst 1, 1) := by decide +kernel
theorem dL_law_1163 : decode cL_law 1163 = .ok (.iadd, 1) := by decide +kernel
theorem dL_law_1164 : decode cL_law 1164 = .ok (.iaload, 1) := by decide +kernel
theorem dL_law_1165 : decode cL_law 1165 = .ok (.aload_n 0, 1) := by decide +kernel
theorem dL_law_1166 : decode cL_law 1166 = .ok (.iload_n 3, 1) := by decide +kernel
theorem dL_law_1167 : decode cL_law 1167 = .ok (.iconst 2, 1) := by decide +kernel
theorem dL_law_1168 : decode cL_law 1168 = .ok (.iadd, 1) := by decide +kernel
theorem dL_law_1169 : decode cL_law 1169 = .ok (.iaload, 1) := by decide +kernel
theorem dL_law_1170 : decode cL_law 1170 = .ok (.invokevirtual 146, 3) := by decide +kernel
theorem dL_law_1173 : decode cL_law 1173 = .ok (.lcmp, 1) := by decide +kernel
theorem dL_law_1174 : decode cL_law 1174 = .ok (.ifCond .eq 556, 3) := by decide +kernel
theorem dL_law_1177 : decode cL_law 1177 = .ok (.iconst 0, 1) := by decide +kernel
theorem dL_law_1178 : decode cL_law 1178 = .ok (.ireturn, 1) := by decide +kernel
theorem dL_law_1179 : decode cL_law 1179 = .ok (.aload_n 1, 1) := by decide +kernel
theorem dL_law_1180 : decode cL_law 1180 = .ok (.aload_n 0, 1) := by decide +kernel
theorem dL_law_1181 : decode cL_law 1181 = .ok (.iload_n 3, 1) := by decide +kernel
theorem dL_law_1182 : decode cL_law 1182 = .ok (.iconst 1, 1) := by decide +kernel
theorem dL_law_1183 : decode cL_law 1183 = .ok (.iadd, 1) := by decide +kernel
theorem dL_law_1184 : decode cL_law 1184 = .ok (.iaload, 1) := by decide +kernel
theorem dL_law_1185 : decode cL_law 1185 = .ok (.aload_n 0, 1) := by decide +kernel
theorem dL_law_1186 : decode cL_law 1186 = .ok (.iload_n 3, 1) := by decide +kernel
theorem dL_law_1187 : decode cL_law 1187 = .ok (.iconst 2, 1) := by decide +kernel
theorem dL_law_1188 : decode cL_law 1188 = .ok (.iadd, 1) := by decide +kernel
theorem dL_law_1189 : decode cL_law 1189 = .ok (.iaload, 1) := by decide +kernel
theorem dL_law_1190 : decode cL_law 1190 = .ok (.invokevirtual 147, 3) := by decide +kernel
theorem dL_law_1193 : decode cL_law 1193 = .ok (.aload_n 2, 1) := by decide +kernel
theorem dL_law_1194 : decode cL_law 1194 = .ok (.aload_n 0, 1) := by decide +kernel
theorem dL_law_1195 : decode cL_law 1195 = .ok (.iload_n 3, 1) := by decide +kernel
theorem dL_law_1196 : decode cL_law 1196 = .ok (.iconst 1, 1) := by decide +kernel
theorem dL_law_1197 : decode cL_law 1197 = .ok (.iadd, 1) := by decide +kernel
theorem dL_law_1198 : decode cL_law 1198 = .ok (.iaload, 1) := by decide +kernel
theorem dL_law_1199 : decode cL_law 1199 = .ok (.aload_n 0, 1) := by decide +kernel
theorem dL_law_1200 : decode cL_law 1200 = .ok (.iload_n 3, 1) := by decide +kernel
theorem dL_law_1201 : decode cL_law 1201 = .ok (.iconst 2, 1) := by decide +kernel
theorem dL_law_1202 : decode cL_law 1202 = .ok (.iadd, 1) := by decide +kernel
theorem dL_law_1203 : decode cL_law 1203 = .ok (.iaload, 1) := by decide +kernel
theorem dL_law_1204 : decode cL_law 1204 = .ok (.invokevirtual 150, 3) := by decide +kernel
theorem dL_law_1207 : decode cL_law 1207 = .ok (.lcmp, 1) := by decide +kernel
theorem dL_law_1208 : decode cL_law 1208 = .ok (.ifCond .eq 522, 3) := by decide +kernel
theorem dL_law_1211 : decode cL_law 1211 = .ok (.iconst 0, 1) := by decide +kernel
theorem dL_law_1212 : decode cL_law 1212 = .ok (.ireturn, 1) := by decide +kernel
theorem dL_law_1213 : decode cL_law 1213 = .ok (.aload_n 1, 1) := by decide +kernel
theorem dL_law_1214 : decode cL_law 1214 = .ok (.aload_n 0, 1) := by decide +kernel
theorem dL_law_1215 : decode cL_law 1215 = .ok (.iload_n 3, 1) := by decide +kernel
theorem dL_law_1216 : decode cL_law 1216 = .ok (.iconst 1, 1) := by decide +kernel
theorem dL_law_1217 : decode cL_law 1217 = .ok (.iadd, 1) := by decide +kernel
theorem dL_law_1218 : decode cL_law 1218 = .ok (.iaload, 1) := by decide +kernel
theorem dL_law_1219 : decode cL_law 1219 = .ok (.invokevirtual 151, 3) := by decide +kernel
theorem dL_law_1222 : decode cL_law 1222 = .ok (.aload_n 2, 1) := by decide +kernel
theorem dL_law_1223 : decode cL_law 1223 = .ok (.aload_n 0, 1) := by decide +kernel
theorem dL_law_1224 : decode cL_law 1224 = .ok (.iload_n 3, 1) := by decide +kernel
theorem dL_law_1225 : decode cL_law 1225 = .ok (.iconst 1, 1) := by decide +kernel
theorem dL_law_1226 : decode cL_law 1226 = .ok (.iadd, 1) := by decide +kernel
theorem dL_law_1227 : decode cL_law 1227 = .ok (.iaload, 1) := by decide +kernel
theorem dL_law_1228 : decode cL_law 1228 = .ok (.invokevirtual 154, 3) := by decide +kernel
theorem dL_law_1231 : decode cL_law 1231 = .ok (.if_icmp .eq 499, 3) := by decide +kernel
theorem dL_law_1234 : decode cL_law 1234 = .ok (.iconst 0, 1) := by decide +kernel
theorem dL_law_1235 : decode cL_law 1235 = .ok (.ireturn, 1) := by decide +kernel
theorem dL_law_1236 : decode cL_law 1236 = .ok (.aload_n 1, 1) := by decide +kernel
theorem dL_law_1237 : decode cL_law 1237 = .ok (.aload_n 0, 1) := by decide +kernel
theorem dL_law_1238 : decode cL_law 1238 = .ok (.iload_n 3, 1) := by decide +kernel
theorem dL_law_1239 : decode cL_law 1239 = .ok (.iconst 1, 1) := by decide +kernel
theorem dL_law_1240 : decode cL_law 1240 = .ok (.iadd, 1) := by decide +kernel
theorem dL_law_1241 : decode cL_law 1241 = .ok (.iaload, 1) := by decide +kernel
theorem dL_law_1242 : decode cL_law 1242 = .ok (.aload_n 0, 1) := by decide +kernel
theorem dL_law_1243 : decode cL_law 1243 = .ok (.iload_n 3, 1) := by decide +kernel
theorem dL_law_1244 : decode cL_law 1244 = .ok (.iconst 2, 1) := by decide +kernel
theorem dL_law_1245 : decode cL_law 1245 = .ok (.iadd, 1) := by decide +kernel
theorem dL_law_1246 : decode cL_law 1246 = .ok (.iaload, 1) := by decide +kernel
theorem dL_law_1247 : decode cL_law 1247 = .ok (.invokevirtual 155, 3) := by decide +kernel
theorem dL_law_1250 : decode cL_law 1250 = .ok (.aload_n 2, 1) := by decide +kernel
theorem dL_law_1251 : decode cL_law 1251 = .ok (.aload_n 0, 1) := by decide +kernel
theorem dL_law_1252 : decode cL_law 1252 = .ok (.iload_n 3, 1) := by decide +kernel
theorem dL_law_1253 : decode cL_law 1253 = .ok (.iconst 1, 1) := by decide +kernel
theorem dL_law_1254 : decode cL_law 1254 = .ok (.iadd, 1) := by decide +kernel
theorem dL_law_1255 : decode cL_law 1255 = .ok (.iaload, 1) := by decide +kernel
theorem dL_law_1256 : decode cL_law 1256 = .ok (.aload_n 0, 1) := by decide +kernel
theorem dL_law_1257 : decode cL_law 1257 = .ok (.iload_n 3, 1) := by decide +kernel
theorem dL_law_1258 : decode cL_law 1258 = .ok (.iconst 2, 1) := by decide +kernel
theorem dL_law_1259 : decode cL_law 1259 = .ok (.iadd, 1) := by decide +kernel
theorem dL_law_1260 : decode cL_law 1260 = .ok (.iaload, 1) := by decide +kernel
theorem dL_law_1261 : decode cL_law 1261 = .ok (.invokevirtual 158, 3) := by decide +kernel
theorem dL_law_1264 : decode cL_law 1264 = .ok (.if_icmp .eq 466, 3) := by decide +kernel
theorem dL_law_1267 : decode cL_law 1267 = .ok (.iconst 0, 1) := by decide +kernel
theorem dL_law_1268 : decode cL_law 1268 = .ok (.ireturn, 1) := by decide +kernel
theorem dL_law_1269 : decode cL_law 1269 = .ok (.aload_n 1, 1) := by decide +kernel
theorem dL_law_1270 : decode cL_law 1270 = .ok (.aload_n 0, 1) := by decide +kernel
theorem dL_law_1271 : decode cL_law 1271 = .ok (.iload_n 3, 1) := by decide +kernel
theorem dL_law_1272 : decode cL_law 1272 = .ok (.iconst 1, 1) := by decide +kernel
theorem dL_law_1273 : decode cL_law 1273 = .ok (.iadd, 1) := by decide +kernel
theorem dL_law_1274 : decode cL_law 1274 = .ok (.iaload, 1) := by decide +kernel
theorem dL_law_1275 : decode cL_law 1275 = .ok (.aload_n 0, 1) := by decide +kernel
theorem dL_law_1276 : decode cL_law 1276 = .ok (.iload_n 3, 1) := by decide +kernel
theorem dL_law_1277 : decode cL_law 1277 = .ok (.iconst 2, 1) := by decide +kernel
theorem dL_law_1278 : decode cL_law 1278 = .ok (.iadd, 1) := by decide +kernel
theorem dL_law_1279 : decode cL_law 1279 = .ok (.iaload, 1) := by decide +kernel
theorem dL_law_1280 : decode cL_law 1280 = .ok (.aload_n 0, 1) := by decide +kernel
theorem dL_law_1281 : decode cL_law 1281 = .ok (.iload_n 3, 1) := by decide +kernel
theorem dL_law_1282 : decode cL_law 1282 = .ok (.iconst 3, 1) := by decide +kernel
theorem dL_law_1283 : decode cL_law 1283 = .ok (.iadd, 1) := by decide +kernel
theorem dL_law_1284 : decode cL_law 1284 = .ok (.iaload, 1) := by decide +kernel
theorem dL_law_1285 : decode cL_law 1285 = .ok (.invokevirtual 159, 3) := by decide +kernel
theorem dL_law_1288 : decode cL_law 1288 = .ok (.aload_n 2, 1) := by decide +kernel
theorem dL_law_1289 : decode cL_law 1289 = .ok (.aload_n 0, 1) := by decide +kernel
theorem dL_law_1290 : decode cL_law 1290 = .ok (.iload_n 3, 1) := by decide +kernel
theorem dL_law_1291 : decode cL_law 1291 = .ok (.iconst 1, 1) := by decide +kernel
theorem dL_law_1292 : decode cL_law 1292 = .ok (.iadd, 1) := by decide +kernel
theorem dL_law_1293 : decode cL_law 1293 = .ok (.iaload, 1) := by decide +kernel
theorem dL_law_1294 : decode cL_law 1294 = .ok (.aload_n 0, 1) := by decide +kernel
theorem dL_law_1295 : decode cL_law 1295 = .ok (.iload_n 3, 1) := by decide +kernel
theorem dL_law_1296 : decode cL_law 1296 = .ok (.iconst 2, 1) := by decide +kernel
theorem dL_law_1297 : decode cL_law 1297 = .ok (.iadd, 1) := by decide +kernel
theorem dL_law_1298 : decode cL_law 1298 = .ok (.iaload, 1) := by decide +kernel
theorem dL_law_1299 : decode cL_law 1299 = .ok (.aload_n 0, 1) := by decide +kernel
theorem dL_law_1300 : decode cL_law 1300 = .ok (.iload_n 3, 1) := by decide +kernel
theorem dL_law_1301 : decode cL_law 1301 = .ok (.iconst 3, 1) := by decide +kernel
theorem dL_law_1302 : decode cL_law 1302 = .ok (.iadd, 1) := by decide +kernel
theorem dL_law_1303 : decode cL_law 1303 = .ok (.iaload, 1) := by decide +kernel
theorem dL_law_1304 : decode cL_law 1304 = .ok (.invokevirtual 163, 3) := by decide +kernel
theorem dL_law_1307 : decode cL_law 1307 = .ok (.lcmp, 1) := by decide +kernel
theorem dL_law_1308 : decode cL_law 1308 = .ok (.ifCond .eq 422, 3) := by decide +kernel
theorem dL_law_1311 : decode cL_law 1311 = .ok (.iconst 0, 1) := by decide +kernel
theorem dL_law_1312 : decode cL_law 1312 = .ok (.ireturn, 1) := by decide +kernel
theorem dL_law_1313 : decode cL_law 1313 = .ok (.aload_n 1, 1) := by decide +kernel
theorem dL_law_1314 : decode cL_law 1314 = .ok (.aload_n 0, 1) := by decide +kernel
theorem dL_law_1315 : decode cL_law 1315 = .ok (.iload_n 3, 1) := by decide +kernel
theorem dL_law_1316 : decode cL_law 1316 = .ok (.iconst 1, 1) := by decide +kernel
theorem dL_law_1317 : decode cL_law 1317 = .ok (.iadd, 1) := by decide +kernel
theorem dL_law_1318 : decode cL_law 1318 = .ok (.iaload, 1) := by decide +kernel
theorem dL_law_1319 : decode cL_law 1319 = .ok (.aload_n 0, 1) := by decide +kernel
theorem dL_law_1320 : decode cL_law 1320 = .ok (.iload_n 3, 1) := by decide +kernel
theorem dL_law_1321 : decode cL_law 1321 = .ok (.iconst 2, 1) := by decide +kernel
theorem dL_law_1322 : decode cL_law 1322 = .ok (.iadd, 1) := by decide +kernel
theorem dL_law_1323 : decode cL_law 1323 = .ok (.iaload, 1) := by decide +kernel
theorem dL_law_1324 : decode cL_law 1324 = .ok (.aload_n 0, 1) := by decide +kernel
theorem dL_law_1325 : decode cL_law 1325 = .ok (.iload_n 3, 1) := by decide +kernel
theorem dL_law_1326 : decode cL_law 1326 = .ok (.iconst 3, 1) := by decide +kernel
theorem dL_law_1327 : decode cL_law 1327 = .ok (.iadd, 1) := by decide +kernel
theorem dL_law_1328 : decode cL_law 1328 = .ok (.iaload, 1) := by decide +kernel
theorem dL_law_1329 : decode cL_law 1329 = .ok (.invokevirtual 164, 3) := by decide +kernel
theorem dL_law_1332 : decode cL_law 1332 = .ok (.aload_n 2, 1) := by decide +kernel
theorem dL_law_1333 : decode cL_law 1333 = .ok (.aload_n 0, 1) := by decide +kernel
theorem dL_law_1334 : decode cL_law 1334 = .ok (.iload_n 3, 1) := by decide +kernel
theorem dL_law_1335 : decode cL_law 1335 = .ok (.iconst 1, 1) := by decide +kernel
theorem dL_law_1336 : decode cL_law 1336 = .ok (.iadd, 1) := by decide +kernel
theorem dL_law_1337 : decode cL_law 1337 = .ok (.iaload, 1) := by decide +kernel
theorem dL_law_1338 : decode cL_law 1338 = .ok (.aload_n 0, 1) := by decide +kernel
theorem dL_law_1339 : decode cL_law 1339 = .ok (.iload_n 3, 1) := by decide +kernel
theorem dL_law_1340 : decode cL_law 1340 = .ok (.iconst 2, 1) := by decide +kernel
theorem dL_law_1341 : decode cL_law 1341 = .ok (.iadd, 1) := by decide +kernel
theorem dL_law_1342 : decode cL_law 1342 = .ok (.iaload, 1) := by decide +kernel
theorem dL_law_1343 : decode cL_law 1343 = .ok (.aload_n 0, 1) := by decide +kernel
theorem dL_law_1344 : decode cL_law 1344 = .ok (.iload_n 3, 1) := by decide +kernel
theorem dL_law_1345 : decode cL_law 1345 = .ok (.iconst 3, 1) := by decide +kernel
theorem dL_law_1346 : decode cL_law 1346 = .ok (.iadd, 1) := by decide +kernel
theorem dL_law_1347 : decode cL_law 1347 = .ok (.iaload, 1) := by decide +kernel
theorem dL_law_1348 : decode cL_law 1348 = .ok (.invokevirtual 168, 3) := by decide +kernel
theorem dL_law_1351 : decode cL_law 1351 = .ok (.if_icmp .eq 379, 3) := by decide +kernel
theorem dL_law_1354 : decode cL_law 1354 = .ok (.iconst 0, 1) := by decide +kernel
theorem dL_law_1355 : decode cL_law 1355 = .ok (.ireturn, 1) := by decide +kernel
theorem dL_law_1356 : decode cL_law 1356 = .ok (.aload_n 1, 1) := by decide +kernel
theorem dL_law_1357 : decode cL_law 1357 = .ok (.aload_n 0, 1) := by decide +kernel
theorem dL_law_1358 : decode cL_law 1358 = .ok (.iload_n 3, 1) := by decide +kernel
theorem dL_law_1359 : decode cL_law 1359 = .ok (.iconst 1, 1) := by decide +kernel
theorem dL_law_1360 : decode cL_law 1360 = .ok (.iadd, 1) := by decide +kernel
theorem dL_law_1361 : decode cL_law 1361 = .ok (.iaload, 1) := by decide +kernel
theorem dL_law_1362 : decode cL_law 1362 = .ok (.aload_n 0, 1) := by decide +kernel
theorem dL_law_1363 : decode cL_law 1363 = .ok (.iload_n 3, 1) := by decide +kernel
theorem dL_law_1364 : decode cL_law 1364 = .ok (.iconst 2, 1) := by decide +kernel
theorem dL_law_1365 : decode cL_law 1365 = .ok (.iadd, 1) := by decide +kernel
theorem dL_law_1366 : decode cL_law 1366 = .ok (.iaload, 1) := by decide +kernel
theorem dL_law_1367 : decode cL_law 1367 = .ok (.aload_n 0, 1) := by decide +kernel
theorem dL_law_1368 : decode cL_law 1368 = .ok (.iload_n 3, 1) := by decide +kernel
theorem dL_law_1369 : decode cL_law 1369 = .ok (.iconst 3, 1) := by decide +kernel
theorem dL_law_1370 : decode cL_law 1370 = .ok (.iadd, 1) := by decide +kernel
theorem dL_law_1371 : decode cL_law 1371 = .ok (.iaload, 1) := by decide +kernel
theorem dL_law_1372 : decode cL_law 1372 = .ok (.aload_n 0, 1) := by decide +kernel
theorem dL_law_1373 : decode cL_law 1373 = .ok (.iload_n 3, 1) := by decide +kernel
theorem dL_law_1374 : decode cL_law 1374 = .ok (.iconst 4, 1) := by decide +kernel
theorem dL_law_1375 : decode cL_law 1375 = .ok (.iadd, 1) := by decide +kernel
theorem dL_law_1376 : decode cL_law 1376 = .ok (.iaload, 1) := by decide +kernel
theorem dL_law_1377 : decode cL_law 1377 = .ok (.ifCond .eq 7, 3) := by decide +kernel
theorem dL_law_1380 : decode cL_law 1380 = .ok (.iconst 1, 1) := by decide +kernel
theorem dL_law_1381 : decode cL_law 1381 = .ok (.goto 4, 3) := by decide +kernel
theorem dL_law_1384 : decode cL_law 1384 = .ok (.iconst 0, 1) := by decide +kernel
theorem dL_law_1385 : decode cL_law 1385 = .ok (.aload_n 0, 1) := by decide +kernel
theorem dL_law_1386 : decode cL_law 1386 = .ok (.iload_n 3, 1) := by decide +kernel
theorem dL_law_1387 : decode cL_law 1387 = .ok (.iconst 5, 1) := by decide +kernel
theorem dL_law_1388 : decode cL_law 1388 = .ok (.iadd, 1) := by decide +kernel
theorem dL_law_1389 : decode cL_law 1389 = .ok (.iaload, 1) := by decide +kernel
theorem dL_law_1390 : decode cL_law 1390 = .ok (.invokevirtual 169, 3) := by decide +kernel
theorem dL_law_1393 : decode cL_law 1393 = .ok (.aload_n 2, 1) := by decide +kernel
theorem dL_law_1394 : decode cL_law 1394 = .ok (.aload_n 0, 1) := by decide +kernel
theorem dL_law_1395 : decode cL_law 1395 = .ok (.iload_n 3, 1) := by decide +kernel
theorem dL_law_1396 : decode cL_law 1396 = .ok (.iconst 1, 1) := by decide +kernel
theorem dL_law_1397 : decode cL_law 1397 = .ok (.iadd, 1) := by decide +kernel
theorem dL_law_1398 : decode cL_law 1398 = .ok (.iaload, 1) := by decide +kernel
theorem dL_law_1399 : decode cL_law 1399 = .ok (.aload_n 0, 1) := by decide +kernel
theorem dL_law_1400 : decode cL_law 1400 = .ok (.iload_n 3, 1) := by decide +kernel
theorem dL_law_1401 : decode cL_law 1401 = .ok (.iconst 2, 1) := by decide +kernel
theorem dL_law_1402 : decode cL_law 1402 = .ok (.iadd, 1) := by decide +kernel
theorem dL_law_1403 : decode cL_law 1403 = .ok (.iaload, 1) := by decide +kernel
theorem dL_law_1404 : decode cL_law 1404 = .ok (.aload_n 0, 1) := by decide +kernel
theorem dL_law_1405 : decode cL_law 1405 = .ok (.iload_n 3, 1) := by decide +kernel
theorem dL_law_1406 : decode cL_law 1406 = .ok (.iconst 3, 1) := by decide +kernel
theorem dL_law_1407 : decode cL_law 1407 = .ok (.iadd, 1) := by decide +kernel
theorem dL_law_1408 : decode cL_law 1408 = .ok (.iaload, 1) := by decide +kernel
theorem dL_law_1409 : decode cL_law 1409 = .ok (.aload_n 0, 1) := by decide +kernel
theorem dL_law_1410 : decode cL_law 1410 = .ok (.iload_n 3, 1) := by decide +kernel
theorem dL_law_1411 : decode cL_law 1411 = .ok (.iconst 4, 1) := by decide +kernel
theorem dL_law_1412 : decode cL_law 1412 = .ok (.iadd, 1) := by decide +kernel
theorem dL_law_1413 : decode cL_law 1413 = .ok (.iaload, 1) := by decide +kernel
theorem dL_law_1414 : decode cL_law 1414 = .ok (.ifCond .eq 7, 3) := by decide +kernel
theorem dL_law_1417 : decode cL_law 1417 = .ok (.iconst 1, 1) := by decide +kernel
theorem dL_law_1418 : decode cL_law 1418 = .ok (.goto 4, 3) := by decide +kernel
theorem dL_law_1421 : decode cL_law 1421 = .ok (.iconst 0, 1) := by decide +kernel
theorem dL_law_1422 : decode cL_law 1422 = .ok (.aload_n 0, 1) := by decide +kernel
theorem dL_law_1423 : decode cL_law 1423 = .ok (.iload_n 3, 1) := by decide +kernel
theorem dL_law_1424 : decode cL_law 1424 = .ok (.iconst 5, 1) := by decide +kernel
theorem dL_law_1425 : decode cL_law 1425 = .ok (.iadd, 1) := by decide +kernel
theorem dL_law_1426 : decode cL_law 1426 = .ok (.iaload, 1) := by decide +kernel
theorem dL_law_1427 : decode cL_law 1427 = .ok (.invokevirtual 173, 3) := by decide +kernel
theorem dL_law_1430 : decode cL_law 1430 = .ok (.if_icmp .eq 300, 3) := by decide +kernel
theorem dL_law_1433 : decode cL_law 1433 = .ok (.iconst 0, 1) := by decide +kernel
theorem dL_law_1434 : decode cL_law 1434 = .ok (.ireturn, 1) := by decide +kernel
theorem dL_law_1435 : decode cL_law 1435 = .ok (.aload_n 1, 1) := by decide +kernel
theorem dL_law_1436 : decode cL_law 1436 = .ok (.aload_n 0, 1) := by decide +kernel
theorem dL_law_1437 : decode cL_law 1437 = .ok (.iload_n 3, 1) := by decide +kernel
theorem dL_law_1438 : decode cL_law 1438 = .ok (.iconst 1, 1) := by decide +kernel
theorem dL_law_1439 : decode cL_law 1439 = .ok (.iadd, 1) := by decide +kernel
theorem dL_law_1440 : decode cL_law 1440 = .ok (.iaload, 1) := by decide +kernel
theorem dL_law_1441 : decode cL_law 1441 = .ok (.aload_n 0, 1) := by decide +kernel
theorem dL_law_1442 : decode cL_law 1442 = .ok (.iload_n 3, 1) := by decide +kernel
theorem dL_law_1443 : decode cL_law 1443 = .ok (.iconst 2, 1) := by decide +kernel
theorem dL_law_1444 : decode cL_law 1444 = .ok (.iadd, 1) := by decide +kernel
theorem dL_law_1445 : decode cL_law 1445 = .ok (.iaload, 1) := by decide +kernel
theorem dL_law_1446 : decode cL_law 1446 = .ok (.aload_n 0, 1) := by decide +kernel
theorem dL_law_1447 : decode cL_law 1447 = .ok (.iload_n 3, 1) := by decide +kernel
theorem dL_law_1448 : decode cL_law 1448 = .ok (.iconst 3, 1) := by decide +kernel
theorem dL_law_1449 : decode cL_law 1449 = .ok (.iadd, 1) := by decide +kernel
theorem dL_law_1450 : decode cL_law 1450 = .ok (.iaload, 1) := by decide +kernel
theorem dL_law_1451 : decode cL_law 1451 = .ok (.invokevirtual 174, 3) := by decide +kernel
theorem dL_law_1454 : decode cL_law 1454 = .ok (.aload_n 2, 1) := by decide +kernel
theorem dL_law_1455 : decode cL_law 1455 = .ok (.aload_n 0, 1) := by decide +kernel
theorem dL_law_1456 : decode cL_law 1456 = .ok (.iload_n 3, 1) := by decide +kernel
theorem dL_law_1457 : decode cL_law 1457 = .ok (.iconst 1, 1) := by decide +kernel
theorem dL_law_1458 : decode cL_law 1458 = .ok (.iadd, 1) := by decide +kernel
theorem dL_law_1459 : decode cL_law 1459 = .ok (.iaload, 1) := by decide +kernel
theorem dL_law_1460 : decode cL_law 1460 = .ok (.aload_n 0, 1) := by decide +kernel
theorem dL_law_1461 : decode cL_law 1461 = .ok (.iload_n 3, 1) := by decide +kernel
theorem dL_law_1462 : decode cL_law 1462 = .ok (.iconst 2, 1) := by decide +kernel
theorem dL_law_1463 : decode cL_law 1463 = .ok (.iadd, 1) := by decide +kernel
theorem dL_law_1464 : decode cL_law 1464 = .ok (.iaload, 1) := by decide +kernel
theorem dL_law_1465 : decode cL_law 1465 = .ok (.aload_n 0, 1) := by decide +kernel
theorem dL_law_1466 : decode cL_law 1466 = .ok (.iload_n 3, 1) := by decide +kernel
theorem dL_law_1467 : decode cL_law 1467 = .ok (.iconst 3, 1) := by decide +kernel
theorem dL_law_1468 : decode cL_law 1468 = .ok (.iadd, 1) := by decide +kernel
theorem dL_law_1469 : decode cL_law 1469 = .ok (.iaload, 1) := by decide +kernel
theorem dL_law_1470 : decode cL_law 1470 = .ok (.invokevirtual 177, 3) := by decide +kernel
theorem dL_law_1473 : decode cL_law 1473 = .ok (.if_icmp .eq 257, 3) := by decide +kernel
theorem dL_law_1476 : decode cL_law 1476 = .ok (.iconst 0, 1) := by decide +kernel
theorem dL_law_1477 : decode cL_law 1477 = .ok (.ireturn, 1) := by decide +kernel
theorem dL_law_1478 : decode cL_law 1478 = .ok (.aload_n 1, 1) := by decide +kernel
theorem dL_law_1479 : decode cL_law 1479 = .ok (.aload_n 0, 1) := by decide +kernel
theorem dL_law_1480 : decode cL_law 1480 = .ok (.iload_n 3, 1) := by decide +kernel
theorem dL_law_1481 : decode cL_law 1481 = .ok (.iconst 1, 1) := by decide +kernel
theorem dL_law_1482 : decode cL_law 1482 = .ok (.iadd, 1) := by decide +kernel
theorem dL_law_1483 : decode cL_law 1483 = .ok (.iaload, 1) := by decide +kernel
theorem dL_law_1484 : decode cL_law 1484 = .ok (.aload_n 0, 1) := by decide +kernel
theorem dL_law_1485 : decode cL_law 1485 = .ok (.iload_n 3, 1) := by decide +kernel
theorem dL_law_1486 : decode cL_law 1486 = .ok (.iconst 2, 1) := by decide +kernel
theorem dL_law_1487 : decode cL_law 1487 = .ok (.iadd, 1) := by decide +kernel
theorem dL_law_1488 : decode cL_law 1488 = .ok (.iaload, 1) := by decide +kernel
theorem dL_law_1489 : decode cL_law 1489 = .ok (.aload_n 0, 1) := by decide +kernel
theorem dL_law_1490 : decode cL_law 1490 = .ok (.iload_n 3, 1) := by decide +kernel
theorem dL_law_1491 : decode cL_law 1491 = .ok (.iconst 3, 1) := by decide +kernel
theorem dL_law_1492 : decode cL_law 1492 = .ok (.iadd, 1) := by decide +kernel
theorem dL_law_1493 : decode cL_law 1493 = .ok (.iaload, 1) := by decide +kernel
theorem dL_law_1494 : decode cL_law 1494 = .ok (.invokevirtual 178, 3) := by decide +kernel
theorem dL_law_1497 : decode cL_law 1497 = .ok (.aload_n 2, 1) := by decide +kernel
theorem dL_law_1498 : decode cL_law 1498 = .ok (.aload_n 0, 1) := by decide +kernel
theorem dL_law_1499 : decode cL_law 1499 = .ok (.iload_n 3, 1) := by decide +kernel
theorem dL_law_1500 : decode cL_law 1500 = .ok (.iconst 1, 1) := by decide +kernel
theorem dL_law_1501 : decode cL_law 1501 = .ok (.iadd, 1) := by decide +kernel
theorem dL_law_1502 : decode cL_law 1502 = .ok (.iaload, 1) := by decide +kernel
theorem dL_law_1503 : decode cL_law 1503 = .ok (.aload_n 0, 1) := by decide +kernel
theorem dL_law_1504 : decode cL_law 1504 = .ok (.iload_n 3, 1) := by decide +kernel
theorem dL_law_1505 : decode cL_law 1505 = .ok (.iconst 2, 1) := by decide +kernel
theorem dL_law_1506 : decode cL_law 1506 = .ok (.iadd, 1) := by decide +kernel
theorem dL_law_1507 : decode cL_law 1507 = .ok (.iaload, 1) := by decide +kernel
theorem dL_law_1508 : decode cL_law 1508 = .ok (.aload_n 0, 1) := by decide +kernel
theorem dL_law_1509 : decode cL_law 1509 = .ok (.iload_n 3, 1) := by decide +kernel
theorem dL_law_1510 : decode cL_law 1510 = .ok (.iconst 3, 1) := by decide +kernel
theorem dL_law_1511 : decode cL_law 1511 = .ok (.iadd, 1) := by decide +kernel
theorem dL_law_1512 : decode cL_law 1512 = .ok (.iaload, 1) := by decide +kernel
theorem dL_law_1513 : decode cL_law 1513 = .ok (.invokevirtual 181, 3) := by decide +kernel
theorem dL_law_1516 : decode cL_law 1516 = .ok (.if_icmp .eq 214, 3) := by decide +kernel
theorem dL_law_1519 : decode cL_law 1519 = .ok (.iconst 0, 1) := by decide +kernel
theorem dL_law_1520 : decode cL_law 1520 = .ok (.ireturn, 1) := by decide +kernel
theorem dL_law_1521 : decode cL_law 1521 = .ok (.aload_n 1, 1) := by decide +kernel
theorem dL_law_1522 : decode cL_law 1522 = .ok (.aload_n 0, 1) := by decide +kernel
theorem dL_law_1523 : decode cL_law 1523 = .ok (.iload_n 3, 1) := by decide +kernel
theorem dL_law_1524 : decode cL_law 1524 = .ok (.iconst 1, 1) := by decide +kernel
theorem dL_law_1525 : decode cL_law 1525 = .ok (.iadd, 1) := by decide +kernel
theorem dL_law_1526 : decode cL_law 1526 = .ok (.iaload, 1) := by decide +kernel
theorem dL_law_1527 : decode cL_law 1527 = .ok (.aload_n 0, 1) := by decide +kernel
theorem dL_law_1528 : decode cL_law 1528 = .ok (.iload_n 3, 1) := by decide +kernel
theorem dL_law_1529 : decode cL_law 1529 = .ok (.iconst 2, 1) := by decide +kernel
theorem dL_law_1530 : decode cL_law 1530 = .ok (.iadd, 1) := by decide +kernel
theorem dL_law_1531 : decode cL_law 1531 = .ok (.iaload, 1) := by decide +kernel
theorem dL_law_1532 : decode cL_law 1532 = .ok (.aload_n 0, 1) := by decide +kernel
theorem dL_law_1533 : decode cL_law 1533 = .ok (.iload_n 3, 1) := by decide +kernel
theorem dL_law_1534 : decode cL_law 1534 = .ok (.iconst 3, 1) := by decide +kernel
theorem dL_law_1535 : decode cL_law 1535 = .ok (.iadd, 1) := by decide +kernel
theorem dL_law_1536 : decode cL_law 1536 = .ok (.iaload, 1) := by decide +kernel
theorem dL_law_1537 : decode cL_law 1537 = .ok (.invokevirtual 182, 3) := by decide +kernel
theorem dL_law_1540 : decode cL_law 1540 = .ok (.aload_n 2, 1) := by decide +kernel
theorem dL_law_1541 : decode cL_law 1541 = .ok (.aload_n 0, 1) := by decide +kernel
theorem dL_law_1542 : decode cL_law 1542 = .ok (.iload_n 3, 1) := by decide +kernel
theorem dL_law_1543 : decode cL_law 1543 = .ok (.iconst 1, 1) := by decide +kernel
theorem dL_law_1544 : decode cL_law 1544 = .ok (.iadd, 1) := by decide +kernel
theorem dL_law_1545 : decode cL_law 1545 = .ok (.iaload, 1) := by decide +kernel
theorem dL_law_1546 : decode cL_law 1546 = .ok (.aload_n 0, 1) := by decide +kernel
theorem dL_law_1547 : decode cL_law 1547 = .ok (.iload_n 3, 1) := by decide +kernel
theorem dL_law_1548 : decode cL_law 1548 = .ok (.iconst 2, 1) := by decide +kernel
theorem dL_law_1549 : decode cL_law 1549 = .ok (.iadd, 1) := by decide +kernel
theorem dL_law_1550 : decode cL_law 1550 = .ok (.iaload, 1) := by decide +kernel
theorem dL_law_1551 : decode cL_law 1551 = .ok (.aload_n 0, 1) := by decide +kernel
theorem dL_law_1552 : decode cL_law 1552 = .ok (.iload_n 3, 1) := by decide +kernel
theorem dL_law_1553 : decode cL_law 1553 = .ok (.iconst 3, 1) := by decide +kernel
theorem dL_law_1554 : decode cL_law 1554 = .ok (.iadd, 1) := by decide +kernel
theorem dL_law_1555 : decode cL_law 1555 = .ok (.iaload, 1) := by decide +kernel
theorem dL_law_1556 : decode cL_law 1556 = .ok (.invokevirtual 185, 3) := by decide +kernel
theorem dL_law_1559 : decode cL_law 1559 = .ok (.if_icmp .eq 171, 3) := by decide +kernel
theorem dL_law_1562 : decode cL_law 1562 = .ok (.iconst 0, 1) := by decide +kernel
theorem dL_law_1563 : decode cL_law 1563 = .ok (.ireturn, 1) := by decide +kernel
theorem dL_law_1564 : decode cL_law 1564 = .ok (.aload_n 1, 1) := by decide +kernel
theorem dL_law_1565 : decode cL_law 1565 = .ok (.aload_n 0, 1) := by decide +kernel
theorem dL_law_1566 : decode cL_law 1566 = .ok (.iload_n 3, 1) := by decide +kernel
theorem dL_law_1567 : decode cL_law 1567 = .ok (.iconst 1, 1) := by decide +kernel
theorem dL_law_1568 : decode cL_law 1568 = .ok (.iadd, 1) := by decide +kernel
theorem dL_law_1569 : decode cL_law 1569 = .ok (.iaload, 1) := by decide +kernel
theorem dL_law_1570 : decode cL_law 1570 = .ok (.aload_n 0, 1) := by decide +kernel
theorem dL_law_1571 : decode cL_law 1571 = .ok (.iload_n 3, 1) := by decide +kernel
theorem dL_law_1572 : decode cL_law 1572 = .ok (.iconst 2, 1) := by decide +kernel
theorem dL_law_1573 : decode cL_law 1573 = .ok (.iadd, 1) := by decide +kernel
theorem dL_law_1574 : decode cL_law 1574 = .ok (.iaload, 1) := by decide +kernel
theorem dL_law_1575 : decode cL_law 1575 = .ok (.aload_n 0, 1) := by decide +kernel
theorem dL_law_1576 : decode cL_law 1576 = .ok (.iload_n 3, 1) := by decide +kernel
theorem dL_law_1577 : decode cL_law 1577 = .ok (.iconst 3, 1) := by decide +kernel
theorem dL_law_1578 : decode cL_law 1578 = .ok (.iadd, 1) := by decide +kernel
theorem dL_law_1579 : decode cL_law 1579 = .ok (.iaload, 1) := by decide +kernel
theorem dL_law_1580 : decode cL_law 1580 = .ok (.i2l, 1) := by decide +kernel
theorem dL_law_1581 : decode cL_law 1581 = .ok (.bipush 32, 2) := by decide +kernel
theorem dL_law_1583 : decode cL_law 1583 = .ok (.lshl, 1) := by decide +kernel
theorem dL_law_1584 : decode cL_law 1584 = .ok (.aload_n 0, 1) := by decide +kernel
theorem dL_law_1585 : decode cL_law 1585 = .ok (.iload_n 3, 1) := by decide +kernel
theorem dL_law_1586 : decode cL_law 1586 = .ok (.iconst 4, 1) := by decide +kernel
theorem dL_law_1587 : decode cL_law 1587 = .ok (.iadd, 1) := by decide +kernel
theorem dL_law_1588 : decode cL_law 1588 = .ok (.iaload, 1) := by decide +kernel
theorem dL_law_1589 : decode cL_law 1589 = .ok (.i2l, 1) := by decide +kernel
theorem dL_law_1590 : decode cL_law 1590 = .ok (.ldc2_w 186, 3) := by decide +kernel
theorem dL_law_1593 : decode cL_law 1593 = .ok (.land, 1) := by decide +kernel
theorem dL_law_1594 : decode cL_law 1594 = .ok (.lor, 1) := by decide +kernel
theorem dL_law_1595 : decode cL_law 1595 = .ok (.invokevirtual 188, 3) := by decide +kernel
theorem dL_law_1598 : decode cL_law 1598 = .ok (.aload_n 2, 1) := by decide +kernel
theorem dL_law_1599 : decode cL_law 1599 = .ok (.aload_n 0, 1) := by decide +kernel
theorem dL_law_1600 : decode cL_law 1600 = .ok (.iload_n 3, 1) := by decide +kernel
theorem dL_law_1601 : decode cL_law 1601 = .ok (.iconst 1, 1) := by decide +kernel
