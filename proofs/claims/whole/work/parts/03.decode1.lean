theorem dX7_weigh_33 : decode cX7_weigh 33 = .ok (.iload_n 2, 1) := by decide +kernel
theorem dX7_weigh_34 : decode cX7_weigh 34 = .ok (.aload_n 0, 1) := by decide +kernel
theorem dX7_weigh_35 : decode cX7_weigh 35 = .ok (.getfield 105, 3) := by decide +kernel
theorem dX7_weigh_38 : decode cX7_weigh 38 = .ok (.if_icmp .ge 39, 3) := by decide +kernel
theorem dX7_weigh_41 : decode cX7_weigh 41 = .ok (.aload_n 0, 1) := by decide +kernel
theorem dX7_weigh_42 : decode cX7_weigh 42 = .ok (.getfield 18, 3) := by decide +kernel
theorem dX7_weigh_45 : decode cX7_weigh 45 = .ok (.iload_n 2, 1) := by decide +kernel
theorem dX7_weigh_46 : decode cX7_weigh 46 = .ok (.iconst 1, 1) := by decide +kernel
theorem dX7_weigh_47 : decode cX7_weigh 47 = .ok (.iadd, 1) := by decide +kernel
theorem dX7_weigh_48 : decode cX7_weigh 48 = .ok (.aload_n 0, 1) := by decide +kernel
theorem dX7_weigh_49 : decode cX7_weigh 49 = .ok (.getfield 18, 3) := by decide +kernel
theorem dX7_weigh_52 : decode cX7_weigh 52 = .ok (.iload_n 2, 1) := by decide +kernel
theorem dX7_weigh_53 : decode cX7_weigh 53 = .ok (.laload, 1) := by decide +kernel
theorem dX7_weigh_54 : decode cX7_weigh 54 = .ok (.aload_n 0, 1) := by decide +kernel
theorem dX7_weigh_55 : decode cX7_weigh 55 = .ok (.aload_n 0, 1) := by decide +kernel
theorem dX7_weigh_56 : decode cX7_weigh 56 = .ok (.getfield 32, 3) := by decide +kernel
theorem dX7_weigh_59 : decode cX7_weigh 59 = .ok (.getfield 40, 3) := by decide +kernel
theorem dX7_weigh_62 : decode cX7_weigh 62 = .ok (.iload_n 2, 1) := by decide +kernel
theorem dX7_weigh_63 : decode cX7_weigh 63 = .ok (.iadd, 1) := by decide +kernel
theorem dX7_weigh_64 : decode cX7_weigh 64 = .ok (.iload_n 1, 1) := by decide +kernel
theorem dX7_weigh_65 : decode cX7_weigh 65 = .ok (.iconst (-1), 1) := by decide +kernel
theorem dX7_weigh_66 : decode cX7_weigh 66 = .ok (.invokevirtual 108, 3) := by decide +kernel
theorem dX7_weigh_69 : decode cX7_weigh 69 = .ok (.ladd, 1) := by decide +kernel
theorem dX7_weigh_70 : decode cX7_weigh 70 = .ok (.lastore, 1) := by decide +kernel
theorem dX7_weigh_71 : decode cX7_weigh 71 = .ok (.iinc 2 1, 3) := by decide +kernel
theorem dX7_weigh_74 : decode cX7_weigh 74 = .ok (.goto (-41), 3) := by decide +kernel
theorem dX7_weigh_77 : decode cX7_weigh 77 = .ok (.return_, 1) := by decide +kernel
theorem dX7_total_0 : decode cX7_total 0 = .ok (.aload_n 0, 1) := by decide +kernel
theorem dX7_total_1 : decode cX7_total 1 = .ok (.getfield 18, 3) := by decide +kernel
theorem dX7_total_4 : decode cX7_total 4 = .ok (.aload_n 0, 1) := by decide +kernel
theorem dX7_total_5 : decode cX7_total 5 = .ok (.getfield 105, 3) := by decide +kernel
theorem dX7_total_8 : decode cX7_total 8 = .ok (.laload, 1) := by decide +kernel
theorem dX7_total_9 : decode cX7_total 9 = .ok (.lreturn, 1) := by decide +kernel
theorem dX7_sum_0 : decode cX7_sum 0 = .ok (.iload_n 1, 1) := by decide +kernel
theorem dX7_sum_1 : decode cX7_sum 1 = .ok (.aload_n 0, 1) := by decide +kernel
theorem dX7_sum_2 : decode cX7_sum 2 = .ok (.getfield 32, 3) := by decide +kernel
theorem dX7_sum_5 : decode cX7_sum 5 = .ok (.getfield 40, 3) := by decide +kernel
theorem dX7_sum_8 : decode cX7_sum 8 = .ok (.isub, 1) := by decide +kernel
theorem dX7_sum_9 : decode cX7_sum 9 = .ok (.istore_n 3, 1) := by decide +kernel
theorem dX7_sum_10 : decode cX7_sum 10 = .ok (.iload_n 2, 1) := by decide +kernel
theorem dX7_sum_11 : decode cX7_sum 11 = .ok (.aload_n 0, 1) := by decide +kernel
theorem dX7_sum_12 : decode cX7_sum 12 = .ok (.getfield 32, 3) := by decide +kernel
theorem dX7_sum_15 : decode cX7_sum 15 = .ok (.getfield 40, 3) := by decide +kernel
theorem dX7_sum_18 : decode cX7_sum 18 = .ok (.isub, 1) := by decide +kernel
theorem dX7_sum_19 : decode cX7_sum 19 = .ok (.iconst 1, 1) := by decide +kernel
theorem dX7_sum_20 : decode cX7_sum 20 = .ok (.iadd, 1) := by decide +kernel
theorem dX7_sum_21 : decode cX7_sum 21 = .ok (.istore 4, 2) := by decide +kernel
theorem dX7_sum_23 : decode cX7_sum 23 = .ok (.iload_n 3, 1) := by decide +kernel
theorem dX7_sum_24 : decode cX7_sum 24 = .ok (.ifCond .lt 35, 3) := by decide +kernel
theorem dX7_sum_27 : decode cX7_sum 27 = .ok (.iload_n 3, 1) := by decide +kernel
theorem dX7_sum_28 : decode cX7_sum 28 = .ok (.iload 4, 2) := by decide +kernel
theorem dX7_sum_30 : decode cX7_sum 30 = .ok (.if_icmp .ge 29, 3) := by decide +kernel
theorem dX7_sum_33 : decode cX7_sum 33 = .ok (.iload 4, 2) := by decide +kernel
theorem dX7_sum_35 : decode cX7_sum 35 = .ok (.aload_n 0, 1) := by decide +kernel
theorem dX7_sum_36 : decode cX7_sum 36 = .ok (.getfield 105, 3) := by decide +kernel
theorem dX7_sum_39 : decode cX7_sum 39 = .ok (.if_icmp .gt 20, 3) := by decide +kernel
theorem dX7_sum_42 : decode cX7_sum 42 = .ok (.aload_n 0, 1) := by decide +kernel
theorem dX7_sum_43 : decode cX7_sum 43 = .ok (.getfield 18, 3) := by decide +kernel
theorem dX7_sum_46 : decode cX7_sum 46 = .ok (.iload 4, 2) := by decide +kernel
theorem dX7_sum_48 : decode cX7_sum 48 = .ok (.laload, 1) := by decide +kernel
theorem dX7_sum_49 : decode cX7_sum 49 = .ok (.aload_n 0, 1) := by decide +kernel
theorem dX7_sum_50 : decode cX7_sum 50 = .ok (.getfield 18, 3) := by decide +kernel
theorem dX7_sum_53 : decode cX7_sum 53 = .ok (.iload_n 3, 1) := by decide +kernel
theorem dX7_sum_54 : decode cX7_sum 54 = .ok (.laload, 1) := by decide +kernel
theorem dX7_sum_55 : decode cX7_sum 55 = .ok (.lsub, 1) := by decide +kernel
theorem dX7_sum_56 : decode cX7_sum 56 = .ok (.goto 4, 3) := by decide +kernel
theorem dX7_sum_59 : decode cX7_sum 59 = .ok (.lconst 0, 1) := by decide +kernel
theorem dX7_sum_60 : decode cX7_sum 60 = .ok (.lreturn, 1) := by decide +kernel
theorem dX7_weightedSum_0 : decode cX7_weightedSum 0 = .ok (.lconst 0, 1) := by decide +kernel
theorem dX7_weightedSum_1 : decode cX7_weightedSum 1 = .ok (.lstore_n 1, 1) := by decide +kernel
theorem dX7_weightedSum_2 : decode cX7_weightedSum 2 = .ok (.iconst 0, 1) := by decide +kernel
theorem dX7_weightedSum_3 : decode cX7_weightedSum 3 = .ok (.istore_n 3, 1) := by decide +kernel
theorem dX7_weightedSum_4 : decode cX7_weightedSum 4 = .ok (.iload_n 3, 1) := by decide +kernel
theorem dX7_weightedSum_5 : decode cX7_weightedSum 5 = .ok (.aload_n 0, 1) := by decide +kernel
theorem dX7_weightedSum_6 : decode cX7_weightedSum 6 = .ok (.getfield 105, 3) := by decide +kernel
theorem dX7_weightedSum_9 : decode cX7_weightedSum 9 = .ok (.if_icmp .ge 38, 3) := by decide +kernel
theorem dX7_weightedSum_12 : decode cX7_weightedSum 12 = .ok (.lload_n 1, 1) := by decide +kernel
theorem dX7_weightedSum_13 : decode cX7_weightedSum 13 = .ok (.aload_n 0, 1) := by decide +kernel
theorem dX7_weightedSum_14 : decode cX7_weightedSum 14 = .ok (.getfield 18, 3) := by decide +kernel
theorem dX7_weightedSum_17 : decode cX7_weightedSum 17 = .ok (.iload_n 3, 1) := by decide +kernel
theorem dX7_weightedSum_18 : decode cX7_weightedSum 18 = .ok (.iconst 1, 1) := by decide +kernel
theorem dX7_weightedSum_19 : decode cX7_weightedSum 19 = .ok (.iadd, 1) := by decide +kernel
theorem dX7_weightedSum_20 : decode cX7_weightedSum 20 = .ok (.laload, 1) := by decide +kernel
theorem dX7_weightedSum_21 : decode cX7_weightedSum 21 = .ok (.aload_n 0, 1) := by decide +kernel
theorem dX7_weightedSum_22 : decode cX7_weightedSum 22 = .ok (.getfield 18, 3) := by decide +kernel
theorem dX7_weightedSum_25 : decode cX7_weightedSum 25 = .ok (.iload_n 3, 1) := by decide +kernel
theorem dX7_weightedSum_26 : decode cX7_weightedSum 26 = .ok (.laload, 1) := by decide +kernel
theorem dX7_weightedSum_27 : decode cX7_weightedSum 27 = .ok (.lsub, 1) := by decide +kernel
theorem dX7_weightedSum_28 : decode cX7_weightedSum 28 = .ok (.aload_n 0, 1) := by decide +kernel
theorem dX7_weightedSum_29 : decode cX7_weightedSum 29 = .ok (.getfield 32, 3) := by decide +kernel
theorem dX7_weightedSum_32 : decode cX7_weightedSum 32 = .ok (.getfield 40, 3) := by decide +kernel
theorem dX7_weightedSum_35 : decode cX7_weightedSum 35 = .ok (.iload_n 3, 1) := by decide +kernel
theorem dX7_weightedSum_36 : decode cX7_weightedSum 36 = .ok (.iadd, 1) := by decide +kernel
theorem dX7_weightedSum_37 : decode cX7_weightedSum 37 = .ok (.i2l, 1) := by decide +kernel
theorem dX7_weightedSum_38 : decode cX7_weightedSum 38 = .ok (.lmul, 1) := by decide +kernel
theorem dX7_weightedSum_39 : decode cX7_weightedSum 39 = .ok (.ladd, 1) := by decide +kernel
theorem dX7_weightedSum_40 : decode cX7_weightedSum 40 = .ok (.lstore_n 1, 1) := by decide +kernel
theorem dX7_weightedSum_41 : decode cX7_weightedSum 41 = .ok (.iinc 3 1, 3) := by decide +kernel
theorem dX7_weightedSum_44 : decode cX7_weightedSum 44 = .ok (.goto (-40), 3) := by decide +kernel
theorem dX7_weightedSum_47 : decode cX7_weightedSum 47 = .ok (.lload_n 1, 1) := by decide +kernel
theorem dX7_weightedSum_48 : decode cX7_weightedSum 48 = .ok (.lreturn, 1) := by decide +kernel
theorem dX7_halfway_0 : decode cX7_halfway 0 = .ok (.iconst 0, 1) := by decide +kernel
theorem dX7_halfway_1 : decode cX7_halfway 1 = .ok (.istore_n 1, 1) := by decide +kernel
theorem dX7_halfway_2 : decode cX7_halfway 2 = .ok (.iload_n 1, 1) := by decide +kernel
theorem dX7_halfway_3 : decode cX7_halfway 3 = .ok (.aload_n 0, 1) := by decide +kernel
theorem dX7_halfway_4 : decode cX7_halfway 4 = .ok (.getfield 105, 3) := by decide +kernel
theorem dX7_halfway_7 : decode cX7_halfway 7 = .ok (.if_icmp .ge 39, 3) := by decide +kernel
theorem dX7_halfway_10 : decode cX7_halfway 10 = .ok (.ldc2_w 112, 3) := by decide +kernel
theorem dX7_halfway_13 : decode cX7_halfway 13 = .ok (.aload_n 0, 1) := by decide +kernel
theorem dX7_halfway_14 : decode cX7_halfway 14 = .ok (.getfield 18, 3) := by decide +kernel
theorem dX7_halfway_17 : decode cX7_halfway 17 = .ok (.iload_n 1, 1) := by decide +kernel
theorem dX7_halfway_18 : decode cX7_halfway 18 = .ok (.iconst 1, 1) := by decide +kernel
theorem dX7_halfway_19 : decode cX7_halfway 19 = .ok (.iadd, 1) := by decide +kernel
theorem dX7_halfway_20 : decode cX7_halfway 20 = .ok (.laload, 1) := by decide +kernel
theorem dX7_halfway_21 : decode cX7_halfway 21 = .ok (.lmul, 1) := by decide +kernel
theorem dX7_halfway_22 : decode cX7_halfway 22 = .ok (.aload_n 0, 1) := by decide +kernel
theorem dX7_halfway_23 : decode cX7_halfway 23 = .ok (.invokevirtual 114, 3) := by decide +kernel
theorem dX7_halfway_26 : decode cX7_halfway 26 = .ok (.lcmp, 1) := by decide +kernel
theorem dX7_halfway_27 : decode cX7_halfway 27 = .ok (.ifCond .lt 13, 3) := by decide +kernel
theorem dX7_halfway_30 : decode cX7_halfway 30 = .ok (.aload_n 0, 1) := by decide +kernel
theorem dX7_halfway_31 : decode cX7_halfway 31 = .ok (.getfield 32, 3) := by decide +kernel
theorem dX7_halfway_34 : decode cX7_halfway 34 = .ok (.getfield 40, 3) := by decide +kernel
theorem dX7_halfway_37 : decode cX7_halfway 37 = .ok (.iload_n 1, 1) := by decide +kernel
theorem dX7_halfway_38 : decode cX7_halfway 38 = .ok (.iadd, 1) := by decide +kernel
theorem dX7_halfway_39 : decode cX7_halfway 39 = .ok (.ireturn, 1) := by decide +kernel
theorem dX7_halfway_40 : decode cX7_halfway 40 = .ok (.iinc 1 1, 3) := by decide +kernel
theorem dX7_halfway_43 : decode cX7_halfway 43 = .ok (.goto (-41), 3) := by decide +kernel
theorem dX7_halfway_46 : decode cX7_halfway 46 = .ok (.iconst (-1), 1) := by decide +kernel
theorem dX7_halfway_47 : decode cX7_halfway 47 = .ok (.ireturn, 1) := by decide +kernel
theorem dX7_copiedWays_0 : decode cX7_copiedWays 0 = .ok (.lconst 0, 1) := by decide +kernel
theorem dX7_copiedWays_1 : decode cX7_copiedWays 1 = .ok (.lstore_n 3, 1) := by decide +kernel
theorem dX7_copiedWays_2 : decode cX7_copiedWays 2 = .ok (.aload_n 0, 1) := by decide +kernel
theorem dX7_copiedWays_3 : decode cX7_copiedWays 3 = .ok (.getfield 32, 3) := by decide +kernel
theorem dX7_copiedWays_6 : decode cX7_copiedWays 6 = .ok (.getfield 40, 3) := by decide +kernel
theorem dX7_copiedWays_9 : decode cX7_copiedWays 9 = .ok (.istore 5, 2) := by decide +kernel
theorem dX7_copiedWays_11 : decode cX7_copiedWays 11 = .ok (.iload 5, 2) := by decide +kernel
theorem dX7_copiedWays_13 : decode cX7_copiedWays 13 = .ok (.aload_n 0, 1) := by decide +kernel
theorem dX7_copiedWays_14 : decode cX7_copiedWays 14 = .ok (.getfield 32, 3) := by decide +kernel
theorem dX7_copiedWays_17 : decode cX7_copiedWays 17 = .ok (.getfield 96, 3) := by decide +kernel
theorem dX7_copiedWays_20 : decode cX7_copiedWays 20 = .ok (.if_icmp .gt 20, 3) := by decide +kernel
theorem dX7_copiedWays_23 : decode cX7_copiedWays 23 = .ok (.lload_n 3, 1) := by decide +kernel
theorem dX7_copiedWays_24 : decode cX7_copiedWays 24 = .ok (.aload_n 0, 1) := by decide +kernel
theorem dX7_copiedWays_25 : decode cX7_copiedWays 25 = .ok (.iload 5, 2) := by decide +kernel
theorem dX7_copiedWays_27 : decode cX7_copiedWays 27 = .ok (.iload_n 2, 1) := by decide +kernel
theorem dX7_copiedWays_28 : decode cX7_copiedWays 28 = .ok (.iload_n 1, 1) := by decide +kernel
theorem dX7_copiedWays_29 : decode cX7_copiedWays 29 = .ok (.invokevirtual 108, 3) := by decide +kernel
theorem dX7_copiedWays_32 : decode cX7_copiedWays 32 = .ok (.ladd, 1) := by decide +kernel
theorem dX7_copiedWays_33 : decode cX7_copiedWays 33 = .ok (.lstore_n 3, 1) := by decide +kernel
theorem dX7_copiedWays_34 : decode cX7_copiedWays 34 = .ok (.iinc 5 1, 3) := by decide +kernel
theorem dX7_copiedWays_37 : decode cX7_copiedWays 37 = .ok (.goto (-26), 3) := by decide +kernel
theorem dX7_copiedWays_40 : decode cX7_copiedWays 40 = .ok (.lload_n 3, 1) := by decide +kernel
theorem dX7_copiedWays_41 : decode cX7_copiedWays 41 = .ok (.lreturn, 1) := by decide +kernel
theorem dX7_reachBehind_0 : decode cX7_reachBehind 0 = .ok (.aload_n 0, 1) := by decide +kernel
theorem dX7_reachBehind_1 : decode cX7_reachBehind 1 = .ok (.getfield 12, 3) := by decide +kernel
theorem dX7_reachBehind_4 : decode cX7_reachBehind 4 = .ok (.iload_n 1, 1) := by decide +kernel
theorem dX7_reachBehind_5 : decode cX7_reachBehind 5 = .ok (.aload_n 0, 1) := by decide +kernel
theorem dX7_reachBehind_6 : decode cX7_reachBehind 6 = .ok (.getfield 32, 3) := by decide +kernel
theorem dX7_reachBehind_9 : decode cX7_reachBehind 9 = .ok (.getfield 40, 3) := by decide +kernel
theorem dX7_reachBehind_12 : decode cX7_reachBehind 12 = .ok (.aload_n 0, 1) := by decide +kernel
theorem dX7_reachBehind_13 : decode cX7_reachBehind 13 = .ok (.getfield 32, 3) := by decide +kernel
theorem dX7_reachBehind_16 : decode cX7_reachBehind 16 = .ok (.getfield 96, 3) := by decide +kernel
theorem dX7_reachBehind_19 : decode cX7_reachBehind 19 = .ok (.invokevirtual 118, 3) := by decide +kernel
theorem dX7_reachBehind_22 : decode cX7_reachBehind 22 = .ok (.iconst 0, 1) := by decide +kernel
theorem dX7_reachBehind_23 : decode cX7_reachBehind 23 = .ok (.istore_n 3, 1) := by decide +kernel
theorem dX7_reachBehind_24 : decode cX7_reachBehind 24 = .ok (.iload_n 3, 1) := by decide +kernel
theorem dX7_reachBehind_25 : decode cX7_reachBehind 25 = .ok (.iload_n 2, 1) := by decide +kernel
theorem dX7_reachBehind_26 : decode cX7_reachBehind 26 = .ok (.if_icmp .ge 36, 3) := by decide +kernel
theorem dX7_reachBehind_29 : decode cX7_reachBehind 29 = .ok (.aload_n 0, 1) := by decide +kernel
theorem dX7_reachBehind_30 : decode cX7_reachBehind 30 = .ok (.getfield 36, 3) := by decide +kernel
theorem dX7_reachBehind_33 : decode cX7_reachBehind 33 = .ok (.iload_n 3, 1) := by decide +kernel
theorem dX7_reachBehind_34 : decode cX7_reachBehind 34 = .ok (.invokevirtual 58, 3) := by decide +kernel
theorem dX7_reachBehind_37 : decode cX7_reachBehind 37 = .ok (.ifCond .eq 25, 3) := by decide +kernel
theorem dX7_reachBehind_40 : decode cX7_reachBehind 40 = .ok (.aload_n 0, 1) := by decide +kernel
theorem dX7_reachBehind_41 : decode cX7_reachBehind 41 = .ok (.getfield 12, 3) := by decide +kernel
theorem dX7_reachBehind_44 : decode cX7_reachBehind 44 = .ok (.aload_n 0, 1) := by decide +kernel
theorem dX7_reachBehind_45 : decode cX7_reachBehind 45 = .ok (.getfield 36, 3) := by decide +kernel
theorem dX7_reachBehind_48 : decode cX7_reachBehind 48 = .ok (.getfield 68, 3) := by decide +kernel
theorem dX7_reachBehind_51 : decode cX7_reachBehind 51 = .ok (.iload_n 3, 1) := by decide +kernel
theorem dX7_reachBehind_52 : decode cX7_reachBehind 52 = .ok (.iaload, 1) := by decide +kernel
theorem dX7_reachBehind_53 : decode cX7_reachBehind 53 = .ok (.invokevirtual 122, 3) := by decide +kernel
theorem dX7_reachBehind_56 : decode cX7_reachBehind 56 = .ok (.iinc 3 1, 3) := by decide +kernel
theorem dX7_reachBehind_59 : decode cX7_reachBehind 59 = .ok (.goto (-35), 3) := by decide +kernel
theorem dX7_reachBehind_62 : decode cX7_reachBehind 62 = .ok (.aload_n 0, 1) := by decide +kernel
theorem dX7_reachBehind_63 : decode cX7_reachBehind 63 = .ok (.getfield 12, 3) := by decide +kernel
theorem dX7_reachBehind_66 : decode cX7_reachBehind 66 = .ok (.areturn, 1) := by decide +kernel
theorem dX7_reachOf_0 : decode cX7_reachOf 0 = .ok (.aload_n 0, 1) := by decide +kernel
theorem dX7_reachOf_1 : decode cX7_reachOf 1 = .ok (.getfield 36, 3) := by decide +kernel
theorem dX7_reachOf_4 : decode cX7_reachOf 4 = .ok (.iload_n 1, 1) := by decide +kernel
theorem dX7_reachOf_5 : decode cX7_reachOf 5 = .ok (.invokevirtual 58, 3) := by decide +kernel
theorem dX7_reachOf_8 : decode cX7_reachOf 8 = .ok (.ifCond .eq 18, 3) := by decide +kernel
theorem dX7_reachOf_11 : decode cX7_reachOf 11 = .ok (.aload_n 0, 1) := by decide +kernel
theorem dX7_reachOf_12 : decode cX7_reachOf 12 = .ok (.aload_n 0, 1) := by decide +kernel
theorem dX7_reachOf_13 : decode cX7_reachOf 13 = .ok (.getfield 36, 3) := by decide +kernel
theorem dX7_reachOf_16 : decode cX7_reachOf 16 = .ok (.getfield 68, 3) := by decide +kernel
theorem dX7_reachOf_19 : decode cX7_reachOf 19 = .ok (.iload_n 1, 1) := by decide +kernel
theorem dX7_reachOf_20 : decode cX7_reachOf 20 = .ok (.iaload, 1) := by decide +kernel
theorem dX7_reachOf_21 : decode cX7_reachOf 21 = .ok (.iload_n 1, 1) := by decide +kernel
theorem dX7_reachOf_22 : decode cX7_reachOf 22 = .ok (.invokevirtual 126, 3) := by decide +kernel
theorem dX7_reachOf_25 : decode cX7_reachOf 25 = .ok (.pop, 1) := by decide +kernel
theorem dX7_reachOf_26 : decode cX7_reachOf 26 = .ok (.iload_n 1, 1) := by decide +kernel
theorem dX7_reachOf_27 : decode cX7_reachOf 27 = .ok (.iconst 1, 1) := by decide +kernel
theorem dX7_reachOf_28 : decode cX7_reachOf 28 = .ok (.iadd, 1) := by decide +kernel
theorem dX7_reachOf_29 : decode cX7_reachOf 29 = .ok (.istore_n 2, 1) := by decide +kernel
theorem dX7_reachOf_30 : decode cX7_reachOf 30 = .ok (.iload_n 2, 1) := by decide +kernel
theorem dX7_reachOf_31 : decode cX7_reachOf 31 = .ok (.aload_n 0, 1) := by decide +kernel
theorem dX7_reachOf_32 : decode cX7_reachOf 32 = .ok (.getfield 36, 3) := by decide +kernel
theorem dX7_reachOf_35 : decode cX7_reachOf 35 = .ok (.getfield 130, 3) := by decide +kernel
theorem dX7_reachOf_38 : decode cX7_reachOf 38 = .ok (.if_icmp .ge 25, 3) := by decide +kernel
theorem dX7_reachOf_41 : decode cX7_reachOf 41 = .ok (.aload_n 0, 1) := by decide +kernel
theorem dX7_reachOf_42 : decode cX7_reachOf 42 = .ok (.getfield 12, 3) := by decide +kernel
theorem dX7_reachOf_45 : decode cX7_reachOf 45 = .ok (.aload_n 0, 1) := by decide +kernel
theorem dX7_reachOf_46 : decode cX7_reachOf 46 = .ok (.getfield 36, 3) := by decide +kernel
theorem dX7_reachOf_49 : decode cX7_reachOf 49 = .ok (.getfield 68, 3) := by decide +kernel
theorem dX7_reachOf_52 : decode cX7_reachOf 52 = .ok (.iload_n 2, 1) := by decide +kernel
theorem dX7_reachOf_53 : decode cX7_reachOf 53 = .ok (.iaload, 1) := by decide +kernel
theorem dX7_reachOf_54 : decode cX7_reachOf 54 = .ok (.invokevirtual 133, 3) := by decide +kernel
theorem dX7_reachOf_57 : decode cX7_reachOf 57 = .ok (.iinc 2 1, 3) := by decide +kernel
theorem dX7_reachOf_60 : decode cX7_reachOf 60 = .ok (.goto (-30), 3) := by decide +kernel
theorem dX7_reachOf_63 : decode cX7_reachOf 63 = .ok (.aload_n 0, 1) := by decide +kernel
theorem dX7_reachOf_64 : decode cX7_reachOf 64 = .ok (.getfield 12, 3) := by decide +kernel
theorem dX7_reachOf_67 : decode cX7_reachOf 67 = .ok (.areturn, 1) := by decide +kernel
theorem dX7_lay_0 : decode cX7_lay 0 = .ok (.aload_n 0, 1) := by decide +kernel
theorem dX7_lay_1 : decode cX7_lay 1 = .ok (.iload_n 1, 1) := by decide +kernel
theorem dX7_lay_2 : decode cX7_lay 2 = .ok (.invokevirtual 136, 3) := by decide +kernel
theorem dX7_lay_5 : decode cX7_lay 5 = .ok (.iconst 0, 1) := by decide +kernel
theorem dX7_lay_6 : decode cX7_lay 6 = .ok (.istore_n 3, 1) := by decide +kernel
theorem dX7_lay_7 : decode cX7_lay 7 = .ok (.iload_n 3, 1) := by decide +kernel
theorem dX7_lay_8 : decode cX7_lay 8 = .ok (.aload_n 0, 1) := by decide +kernel
theorem dX7_lay_9 : decode cX7_lay 9 = .ok (.getfield 105, 3) := by decide +kernel
theorem dX7_lay_12 : decode cX7_lay 12 = .ok (.if_icmp .ge 74, 3) := by decide +kernel
theorem dX7_lay_15 : decode cX7_lay 15 = .ok (.aload_n 0, 1) := by decide +kernel
theorem dX7_lay_16 : decode cX7_lay 16 = .ok (.aload_n 0, 1) := by decide +kernel
theorem dX7_lay_17 : decode cX7_lay 17 = .ok (.getfield 32, 3) := by decide +kernel
theorem dX7_lay_20 : decode cX7_lay 20 = .ok (.getfield 40, 3) := by decide +kernel
theorem dX7_lay_23 : decode cX7_lay 23 = .ok (.iload_n 3, 1) := by decide +kernel
theorem dX7_lay_24 : decode cX7_lay 24 = .ok (.iadd, 1) := by decide +kernel
theorem dX7_lay_25 : decode cX7_lay 25 = .ok (.iload_n 2, 1) := by decide +kernel
theorem dX7_lay_26 : decode cX7_lay 26 = .ok (.invokevirtual 126, 3) := by decide +kernel
theorem dX7_lay_29 : decode cX7_lay 29 = .ok (.pop, 1) := by decide +kernel
theorem dX7_lay_30 : decode cX7_lay 30 = .ok (.aload_n 0, 1) := by decide +kernel
theorem dX7_lay_31 : decode cX7_lay 31 = .ok (.getfield 22, 3) := by decide +kernel
theorem dX7_lay_34 : decode cX7_lay 34 = .ok (.iload_n 3, 1) := by decide +kernel
theorem dX7_lay_35 : decode cX7_lay 35 = .ok (.aload_n 0, 1) := by decide +kernel
theorem dX7_lay_36 : decode cX7_lay 36 = .ok (.getfield 12, 3) := by decide +kernel
theorem dX7_lay_39 : decode cX7_lay 39 = .ok (.getfield 139, 3) := by decide +kernel
theorem dX7_lay_42 : decode cX7_lay 42 = .ok (.iastore, 1) := by decide +kernel
theorem dX7_lay_43 : decode cX7_lay 43 = .ok (.aload_n 0, 1) := by decide +kernel
theorem dX7_lay_44 : decode cX7_lay 44 = .ok (.getfield 26, 3) := by decide +kernel
theorem dX7_lay_47 : decode cX7_lay 47 = .ok (.iload_n 3, 1) := by decide +kernel
theorem dX7_lay_48 : decode cX7_lay 48 = .ok (.aload_n 0, 1) := by decide +kernel
theorem dX7_lay_49 : decode cX7_lay 49 = .ok (.getfield 12, 3) := by decide +kernel
theorem dX7_lay_52 : decode cX7_lay 52 = .ok (.getfield 142, 3) := by decide +kernel
theorem dX7_lay_55 : decode cX7_lay 55 = .ok (.iastore, 1) := by decide +kernel
theorem dX7_lay_56 : decode cX7_lay 56 = .ok (.aload_n 0, 1) := by decide +kernel
theorem dX7_lay_57 : decode cX7_lay 57 = .ok (.getfield 29, 3) := by decide +kernel
theorem dX7_lay_60 : decode cX7_lay 60 = .ok (.iload_n 3, 1) := by decide +kernel
theorem dX7_lay_61 : decode cX7_lay 61 = .ok (.aload_n 0, 1) := by decide +kernel
theorem dX7_lay_62 : decode cX7_lay 62 = .ok (.aload_n 0, 1) := by decide +kernel
theorem dX7_lay_63 : decode cX7_lay 63 = .ok (.getfield 12, 3) := by decide +kernel
theorem dX7_lay_66 : decode cX7_lay 66 = .ok (.getfield 139, 3) := by decide +kernel
theorem dX7_lay_69 : decode cX7_lay 69 = .ok (.aload_n 0, 1) := by decide +kernel
theorem dX7_lay_70 : decode cX7_lay 70 = .ok (.getfield 12, 3) := by decide +kernel
theorem dX7_lay_73 : decode cX7_lay 73 = .ok (.getfield 142, 3) := by decide +kernel
theorem dX7_lay_76 : decode cX7_lay 76 = .ok (.invokevirtual 145, 3) := by decide +kernel
theorem dX7_lay_79 : decode cX7_lay 79 = .ok (.lastore, 1) := by decide +kernel
theorem dX7_lay_80 : decode cX7_lay 80 = .ok (.iinc 3 1, 3) := by decide +kernel
theorem dX7_lay_83 : decode cX7_lay 83 = .ok (.goto (-76), 3) := by decide +kernel
theorem dX7_lay_86 : decode cX7_lay 86 = .ok (.return_, 1) := by decide +kernel
theorem dX7_wholeOf_0 : decode cX7_wholeOf 0 = .ok (.iload_n 1, 1) := by decide +kernel
theorem dX7_wholeOf_1 : decode cX7_wholeOf 1 = .ok (.aload_n 0, 1) := by decide +kernel
theorem dX7_wholeOf_2 : decode cX7_wholeOf 2 = .ok (.getfield 32, 3) := by decide +kernel
theorem dX7_wholeOf_5 : decode cX7_wholeOf 5 = .ok (.getfield 40, 3) := by decide +kernel
theorem dX7_wholeOf_8 : decode cX7_wholeOf 8 = .ok (.isub, 1) := by decide +kernel
theorem dX7_wholeOf_9 : decode cX7_wholeOf 9 = .ok (.istore_n 2, 1) := by decide +kernel
theorem dX7_wholeOf_10 : decode cX7_wholeOf 10 = .ok (.iload_n 2, 1) := by decide +kernel
theorem dX7_wholeOf_11 : decode cX7_wholeOf 11 = .ok (.ifCond .lt 20, 3) := by decide +kernel
theorem dX7_wholeOf_14 : decode cX7_wholeOf 14 = .ok (.iload_n 2, 1) := by decide +kernel
theorem dX7_wholeOf_15 : decode cX7_wholeOf 15 = .ok (.aload_n 0, 1) := by decide +kernel
theorem dX7_wholeOf_16 : decode cX7_wholeOf 16 = .ok (.getfield 105, 3) := by decide +kernel
theorem dX7_wholeOf_19 : decode cX7_wholeOf 19 = .ok (.if_icmp .ge 12, 3) := by decide +kernel
theorem dX7_wholeOf_22 : decode cX7_wholeOf 22 = .ok (.aload_n 0, 1) := by decide +kernel
theorem dX7_wholeOf_23 : decode cX7_wholeOf 23 = .ok (.getfield 29, 3) := by decide +kernel
theorem dX7_wholeOf_26 : decode cX7_wholeOf 26 = .ok (.iload_n 2, 1) := by decide +kernel
theorem dX7_wholeOf_27 : decode cX7_wholeOf 27 = .ok (.laload, 1) := by decide +kernel
theorem dX7_wholeOf_28 : decode cX7_wholeOf 28 = .ok (.goto 4, 3) := by decide +kernel
theorem dX7_wholeOf_31 : decode cX7_wholeOf 31 = .ok (.lconst 0, 1) := by decide +kernel
theorem dX7_wholeOf_32 : decode cX7_wholeOf 32 = .ok (.lreturn, 1) := by decide +kernel
theorem dX7_laidReach_0 : decode cX7_laidReach 0 = .ok (.iload_n 1, 1) := by decide +kernel
theorem dX7_laidReach_1 : decode cX7_laidReach 1 = .ok (.aload_n 0, 1) := by decide +kernel
theorem dX7_laidReach_2 : decode cX7_laidReach 2 = .ok (.getfield 32, 3) := by decide +kernel
theorem dX7_laidReach_5 : decode cX7_laidReach 5 = .ok (.getfield 40, 3) := by decide +kernel
theorem dX7_laidReach_8 : decode cX7_laidReach 8 = .ok (.isub, 1) := by decide +kernel
theorem dX7_laidReach_9 : decode cX7_laidReach 9 = .ok (.istore_n 2, 1) := by decide +kernel
theorem dX7_laidReach_10 : decode cX7_laidReach 10 = .ok (.iload_n 2, 1) := by decide +kernel
theorem dX7_laidReach_11 : decode cX7_laidReach 11 = .ok (.ifCond .lt 31, 3) := by decide +kernel
theorem dX7_laidReach_14 : decode cX7_laidReach 14 = .ok (.iload_n 2, 1) := by decide +kernel
theorem dX7_laidReach_15 : decode cX7_laidReach 15 = .ok (.aload_n 0, 1) := by decide +kernel
theorem dX7_laidReach_16 : decode cX7_laidReach 16 = .ok (.getfield 105, 3) := by decide +kernel
theorem dX7_laidReach_19 : decode cX7_laidReach 19 = .ok (.if_icmp .ge 23, 3) := by decide +kernel
theorem dX7_laidReach_22 : decode cX7_laidReach 22 = .ok (.aload_n 0, 1) := by decide +kernel
theorem dX7_laidReach_23 : decode cX7_laidReach 23 = .ok (.getfield 12, 3) := by decide +kernel
theorem dX7_laidReach_26 : decode cX7_laidReach 26 = .ok (.iload_n 1, 1) := by decide +kernel
theorem dX7_laidReach_27 : decode cX7_laidReach 27 = .ok (.aload_n 0, 1) := by decide +kernel
theorem dX7_laidReach_28 : decode cX7_laidReach 28 = .ok (.getfield 22, 3) := by decide +kernel
theorem dX7_laidReach_31 : decode cX7_laidReach 31 = .ok (.iload_n 2, 1) := by decide +kernel
theorem dX7_laidReach_32 : decode cX7_laidReach 32 = .ok (.iaload, 1) := by decide +kernel
theorem dX7_laidReach_33 : decode cX7_laidReach 33 = .ok (.aload_n 0, 1) := by decide +kernel
theorem dX7_laidReach_34 : decode cX7_laidReach 34 = .ok (.getfield 26, 3) := by decide +kernel
theorem dX7_laidReach_37 : decode cX7_laidReach 37 = .ok (.iload_n 2, 1) := by decide +kernel
theorem dX7_laidReach_38 : decode cX7_laidReach 38 = .ok (.iaload, 1) := by decide +kernel
theorem dX7_laidReach_39 : decode cX7_laidReach 39 = .ok (.invokevirtual 118, 3) := by decide +kernel
theorem dX7_laidReach_42 : decode cX7_laidReach 42 = .ok (.aload_n 0, 1) := by decide +kernel
theorem dX7_laidReach_43 : decode cX7_laidReach 43 = .ok (.getfield 12, 3) := by decide +kernel
theorem dX7_laidReach_46 : decode cX7_laidReach 46 = .ok (.areturn, 1) := by decide +kernel
theorem dX7_chooseTwo_0 : decode cX7_chooseTwo 0 = .ok (.aload_n 0, 1) := by decide +kernel
theorem dX7_chooseTwo_1 : decode cX7_chooseTwo 1 = .ok (.ldc2_w 148, 3) := by decide +kernel
theorem dX7_chooseTwo_4 : decode cX7_chooseTwo 4 = .ok (.putfield 150, 3) := by decide +kernel
theorem dX7_chooseTwo_7 : decode cX7_chooseTwo 7 = .ok (.iconst 0, 1) := by decide +kernel
theorem dX7_chooseTwo_8 : decode cX7_chooseTwo 8 = .ok (.istore_n 1, 1) := by decide +kernel
theorem dX7_chooseTwo_9 : decode cX7_chooseTwo 9 = .ok (.iload_n 1, 1) := by decide +kernel
theorem dX7_chooseTwo_10 : decode cX7_chooseTwo 10 = .ok (.aload_n 0, 1) := by decide +kernel
theorem dX7_chooseTwo_11 : decode cX7_chooseTwo 11 = .ok (.getfield 105, 3) := by decide +kernel
theorem dX7_chooseTwo_14 : decode cX7_chooseTwo 14 = .ok (.if_icmp .ge 112, 3) := by decide +kernel
theorem dX7_chooseTwo_17 : decode cX7_chooseTwo 17 = .ok (.iload_n 1, 1) := by decide +kernel
theorem dX7_chooseTwo_18 : decode cX7_chooseTwo 18 = .ok (.iconst 1, 1) := by decide +kernel
theorem dX7_chooseTwo_19 : decode cX7_chooseTwo 19 = .ok (.iadd, 1) := by decide +kernel
theorem dX7_chooseTwo_20 : decode cX7_chooseTwo 20 = .ok (.istore_n 2, 1) := by decide +kernel
theorem dX7_chooseTwo_21 : decode cX7_chooseTwo 21 = .ok (.iload_n 2, 1) := by decide +kernel
theorem dX7_chooseTwo_22 : decode cX7_chooseTwo 22 = .ok (.aload_n 0, 1) := by decide +kernel
theorem dX7_chooseTwo_23 : decode cX7_chooseTwo 23 = .ok (.getfield 105, 3) := by decide +kernel
theorem dX7_chooseTwo_26 : decode cX7_chooseTwo 26 = .ok (.if_icmp .ge 94, 3) := by decide +kernel
theorem dX7_chooseTwo_29 : decode cX7_chooseTwo 29 = .ok (.aload_n 0, 1) := by decide +kernel
theorem dX7_chooseTwo_30 : decode cX7_chooseTwo 30 = .ok (.getfield 29, 3) := by decide +kernel
theorem dX7_chooseTwo_33 : decode cX7_chooseTwo 33 = .ok (.iload_n 1, 1) := by decide +kernel
theorem dX7_chooseTwo_34 : decode cX7_chooseTwo 34 = .ok (.laload, 1) := by decide +kernel
theorem dX7_chooseTwo_35 : decode cX7_chooseTwo 35 = .ok (.aload_n 0, 1) := by decide +kernel
theorem dX7_chooseTwo_36 : decode cX7_chooseTwo 36 = .ok (.getfield 29, 3) := by decide +kernel
theorem dX7_chooseTwo_39 : decode cX7_chooseTwo 39 = .ok (.iload_n 2, 1) := by decide +kernel
theorem dX7_chooseTwo_40 : decode cX7_chooseTwo 40 = .ok (.laload, 1) := by decide +kernel
theorem dX7_chooseTwo_41 : decode cX7_chooseTwo 41 = .ok (.ladd, 1) := by decide +kernel
theorem dX7_chooseTwo_42 : decode cX7_chooseTwo 42 = .ok (.lstore_n 3, 1) := by decide +kernel
theorem dX7_chooseTwo_43 : decode cX7_chooseTwo 43 = .ok (.lload_n 3, 1) := by decide +kernel
theorem dX7_chooseTwo_44 : decode cX7_chooseTwo 44 = .ok (.aload_n 0, 1) := by decide +kernel
theorem dX7_chooseTwo_45 : decode cX7_chooseTwo 45 = .ok (.getfield 150, 3) := by decide +kernel
theorem dX7_chooseTwo_48 : decode cX7_chooseTwo 48 = .ok (.lcmp, 1) := by decide +kernel
theorem dX7_chooseTwo_49 : decode cX7_chooseTwo 49 = .ok (.ifCond .le 65, 3) := by decide +kernel
theorem dX7_chooseTwo_52 : decode cX7_chooseTwo 52 = .ok (.lload_n 3, 1) := by decide +kernel
theorem dX7_chooseTwo_53 : decode cX7_chooseTwo 53 = .ok (.aload_n 0, 1) := by decide +kernel
theorem dX7_chooseTwo_54 : decode cX7_chooseTwo 54 = .ok (.aload_n 0, 1) := by decide +kernel
theorem dX7_chooseTwo_55 : decode cX7_chooseTwo 55 = .ok (.getfield 22, 3) := by decide +kernel
theorem dX7_chooseTwo_58 : decode cX7_chooseTwo 58 = .ok (.iload_n 1, 1) := by decide +kernel
theorem dX7_chooseTwo_59 : decode cX7_chooseTwo 59 = .ok (.iaload, 1) := by decide +kernel
theorem dX7_chooseTwo_60 : decode cX7_chooseTwo 60 = .ok (.aload_n 0, 1) := by decide +kernel
theorem dX7_chooseTwo_61 : decode cX7_chooseTwo 61 = .ok (.getfield 22, 3) := by decide +kernel
theorem dX7_chooseTwo_64 : decode cX7_chooseTwo 64 = .ok (.iload_n 2, 1) := by decide +kernel
theorem dX7_chooseTwo_65 : decode cX7_chooseTwo 65 = .ok (.iaload, 1) := by decide +kernel
theorem dX7_chooseTwo_66 : decode cX7_chooseTwo 66 = .ok (.invokestatic 102, 3) := by decide +kernel
theorem dX7_chooseTwo_69 : decode cX7_chooseTwo 69 = .ok (.aload_n 0, 1) := by decide +kernel
theorem dX7_chooseTwo_70 : decode cX7_chooseTwo 70 = .ok (.getfield 26, 3) := by decide +kernel
theorem dX7_chooseTwo_73 : decode cX7_chooseTwo 73 = .ok (.iload_n 1, 1) := by decide +kernel
theorem dX7_chooseTwo_74 : decode cX7_chooseTwo 74 = .ok (.iaload, 1) := by decide +kernel
theorem dX7_chooseTwo_75 : decode cX7_chooseTwo 75 = .ok (.aload_n 0, 1) := by decide +kernel
theorem dX7_chooseTwo_76 : decode cX7_chooseTwo 76 = .ok (.getfield 26, 3) := by decide +kernel
theorem dX7_chooseTwo_79 : decode cX7_chooseTwo 79 = .ok (.iload_n 2, 1) := by decide +kernel
theorem dX7_chooseTwo_80 : decode cX7_chooseTwo 80 = .ok (.iaload, 1) := by decide +kernel
theorem dX7_chooseTwo_81 : decode cX7_chooseTwo 81 = .ok (.invokestatic 99, 3) := by decide +kernel
theorem dX7_chooseTwo_84 : decode cX7_chooseTwo 84 = .ok (.invokevirtual 145, 3) := by decide +kernel
theorem dX7_chooseTwo_87 : decode cX7_chooseTwo 87 = .ok (.lsub, 1) := by decide +kernel
theorem dX7_chooseTwo_88 : decode cX7_chooseTwo 88 = .ok (.lstore 5, 2) := by decide +kernel
theorem dX7_chooseTwo_90 : decode cX7_chooseTwo 90 = .ok (.aload_n 0, 1) := by decide +kernel
theorem dX7_chooseTwo_91 : decode cX7_chooseTwo 91 = .ok (.aload_n 0, 1) := by decide +kernel
theorem dX7_chooseTwo_92 : decode cX7_chooseTwo 92 = .ok (.getfield 32, 3) := by decide +kernel
theorem dX7_chooseTwo_95 : decode cX7_chooseTwo 95 = .ok (.getfield 40, 3) := by decide +kernel
theorem dX7_chooseTwo_98 : decode cX7_chooseTwo 98 = .ok (.iload_n 1, 1) := by decide +kernel
theorem dX7_chooseTwo_99 : decode cX7_chooseTwo 99 = .ok (.iadd, 1) := by decide +kernel
theorem dX7_chooseTwo_100 : decode cX7_chooseTwo 100 = .ok (.aload_n 0, 1) := by decide +kernel
theorem dX7_chooseTwo_101 : decode cX7_chooseTwo 101 = .ok (.getfield 32, 3) := by decide +kernel
theorem dX7_chooseTwo_104 : decode cX7_chooseTwo 104 = .ok (.getfield 40, 3) := by decide +kernel
theorem dX7_chooseTwo_107 : decode cX7_chooseTwo 107 = .ok (.iload_n 2, 1) := by decide +kernel
theorem dX7_chooseTwo_108 : decode cX7_chooseTwo 108 = .ok (.iadd, 1) := by decide +kernel
theorem dX7_chooseTwo_109 : decode cX7_chooseTwo 109 = .ok (.lload 5, 2) := by decide +kernel
theorem dX7_chooseTwo_111 : decode cX7_chooseTwo 111 = .ok (.invokevirtual 154, 3) := by decide +kernel
theorem dX7_chooseTwo_114 : decode cX7_chooseTwo 114 = .ok (.iinc 2 1, 3) := by decide +kernel
theorem dX7_chooseTwo_117 : decode cX7_chooseTwo 117 = .ok (.goto (-96), 3) := by decide +kernel
theorem dX7_chooseTwo_120 : decode cX7_chooseTwo 120 = .ok (.iinc 1 1, 3) := by decide +kernel
theorem dX7_chooseTwo_123 : decode cX7_chooseTwo 123 = .ok (.goto (-114), 3) := by decide +kernel
theorem dX7_chooseTwo_126 : decode cX7_chooseTwo 126 = .ok (.return_, 1) := by decide +kernel
theorem dX7_keepTwo_0 : decode cX7_keepTwo 0 = .ok (.lload_n 3, 1) := by decide +kernel
theorem dX7_keepTwo_1 : decode cX7_keepTwo 1 = .ok (.aload_n 0, 1) := by decide +kernel
theorem dX7_keepTwo_2 : decode cX7_keepTwo 2 = .ok (.getfield 150, 3) := by decide +kernel
theorem dX7_keepTwo_5 : decode cX7_keepTwo 5 = .ok (.lcmp, 1) := by decide +kernel
theorem dX7_keepTwo_6 : decode cX7_keepTwo 6 = .ok (.ifCond .le 18, 3) := by decide +kernel
theorem dX7_keepTwo_9 : decode cX7_keepTwo 9 = .ok (.aload_n 0, 1) := by decide +kernel
theorem dX7_keepTwo_10 : decode cX7_keepTwo 10 = .ok (.iload_n 1, 1) := by decide +kernel
theorem dX7_keepTwo_11 : decode cX7_keepTwo 11 = .ok (.putfield 158, 3) := by decide +kernel
theorem dX7_keepTwo_14 : decode cX7_keepTwo 14 = .ok (.aload_n 0, 1) := by decide +kernel
theorem dX7_keepTwo_15 : decode cX7_keepTwo 15 = .ok (.iload_n 2, 1) := by decide +kernel
theorem dX7_keepTwo_16 : decode cX7_keepTwo 16 = .ok (.putfield 161, 3) := by decide +kernel
theorem dX7_keepTwo_19 : decode cX7_keepTwo 19 = .ok (.aload_n 0, 1) := by decide +kernel
theorem dX7_keepTwo_20 : decode cX7_keepTwo 20 = .ok (.lload_n 3, 1) := by decide +kernel
theorem dX7_keepTwo_21 : decode cX7_keepTwo 21 = .ok (.putfield 150, 3) := by decide +kernel
theorem dX7_keepTwo_24 : decode cX7_keepTwo 24 = .ok (.return_, 1) := by decide +kernel
theorem dX8_init_0 : decode cX8_init 0 = .ok (.aload_n 0, 1) := by decide +kernel
theorem dX8_init_1 : decode cX8_init 1 = .ok (.invokespecial 3, 3) := by decide +kernel
theorem dX8_init_4 : decode cX8_init 4 = .ok (.aload_n 0, 1) := by decide +kernel
theorem dX8_init_5 : decode cX8_init 5 = .ok (.bipush 40, 2) := by decide +kernel
theorem dX8_init_7 : decode cX8_init 7 = .ok (.newarray .int, 2) := by decide +kernel
theorem dX8_init_9 : decode cX8_init 9 = .ok (.putfield 9, 3) := by decide +kernel
theorem dX8_init_12 : decode cX8_init 12 = .ok (.aload_n 0, 1) := by decide +kernel
theorem dX8_init_13 : decode cX8_init 13 = .ok (.bipush 40, 2) := by decide +kernel
theorem dX8_init_15 : decode cX8_init 15 = .ok (.newarray .int, 2) := by decide +kernel
theorem dX8_init_17 : decode cX8_init 17 = .ok (.putfield 15, 3) := by decide +kernel
theorem dX8_init_20 : decode cX8_init 20 = .ok (.return_, 1) := by decide +kernel
theorem dX8_takeFrom_0 : decode cX8_takeFrom 0 = .ok (.aload_n 1, 1) := by decide +kernel
theorem dX8_takeFrom_1 : decode cX8_takeFrom 1 = .ok (.getfield 9, 3) := by decide +kernel
theorem dX8_takeFrom_4 : decode cX8_takeFrom 4 = .ok (.iconst 0, 1) := by decide +kernel
theorem dX8_takeFrom_5 : decode cX8_takeFrom 5 = .ok (.aload_n 0, 1) := by decide +kernel
theorem dX8_takeFrom_6 : decode cX8_takeFrom 6 = .ok (.getfield 9, 3) := by decide +kernel
theorem dX8_takeFrom_9 : decode cX8_takeFrom 9 = .ok (.iconst 0, 1) := by decide +kernel
theorem dX8_takeFrom_10 : decode cX8_takeFrom 10 = .ok (.bipush 40, 2) := by decide +kernel
theorem dX8_takeFrom_12 : decode cX8_takeFrom 12 = .ok (.invokestatic 18, 3) := by decide +kernel
theorem dX8_takeFrom_15 : decode cX8_takeFrom 15 = .ok (.aload_n 1, 1) := by decide +kernel
theorem dX8_takeFrom_16 : decode cX8_takeFrom 16 = .ok (.getfield 15, 3) := by decide +kernel
theorem dX8_takeFrom_19 : decode cX8_takeFrom 19 = .ok (.iconst 0, 1) := by decide +kernel
theorem dX8_takeFrom_20 : decode cX8_takeFrom 20 = .ok (.aload_n 0, 1) := by decide +kernel
theorem dX8_takeFrom_21 : decode cX8_takeFrom 21 = .ok (.getfield 15, 3) := by decide +kernel
theorem dX8_takeFrom_24 : decode cX8_takeFrom 24 = .ok (.iconst 0, 1) := by decide +kernel
theorem dX8_takeFrom_25 : decode cX8_takeFrom 25 = .ok (.bipush 40, 2) := by decide +kernel
theorem dX8_takeFrom_27 : decode cX8_takeFrom 27 = .ok (.invokestatic 18, 3) := by decide +kernel
theorem dX8_takeFrom_30 : decode cX8_takeFrom 30 = .ok (.aload_n 0, 1) := by decide +kernel
theorem dX8_takeFrom_31 : decode cX8_takeFrom 31 = .ok (.aload_n 1, 1) := by decide +kernel
theorem dX8_takeFrom_32 : decode cX8_takeFrom 32 = .ok (.getfield 24, 3) := by decide +kernel
theorem dX8_takeFrom_35 : decode cX8_takeFrom 35 = .ok (.putfield 24, 3) := by decide +kernel
theorem dX8_takeFrom_38 : decode cX8_takeFrom 38 = .ok (.return_, 1) := by decide +kernel
theorem dX8_has_0 : decode cX8_has 0 = .ok (.iload_n 1, 1) := by decide +kernel
theorem dX8_has_1 : decode cX8_has 1 = .ok (.ifCond .lt 21, 3) := by decide +kernel
theorem dX8_has_4 : decode cX8_has 4 = .ok (.iload_n 1, 1) := by decide +kernel
theorem dX8_has_5 : decode cX8_has 5 = .ok (.aload_n 0, 1) := by decide +kernel
theorem dX8_has_6 : decode cX8_has 6 = .ok (.getfield 24, 3) := by decide +kernel
theorem dX8_has_9 : decode cX8_has 9 = .ok (.if_icmp .ge 13, 3) := by decide +kernel
theorem dX8_has_12 : decode cX8_has 12 = .ok (.iload_n 1, 1) := by decide +kernel
theorem dX8_has_13 : decode cX8_has 13 = .ok (.bipush 40, 2) := by decide +kernel
theorem dX8_has_15 : decode cX8_has 15 = .ok (.if_icmp .ge 7, 3) := by decide +kernel
theorem dX8_has_18 : decode cX8_has 18 = .ok (.iconst 1, 1) := by decide +kernel
theorem dX8_has_19 : decode cX8_has 19 = .ok (.goto 4, 3) := by decide +kernel
theorem dX8_has_22 : decode cX8_has 22 = .ok (.iconst 0, 1) := by decide +kernel
theorem dX8_has_23 : decode cX8_has 23 = .ok (.ireturn, 1) := by decide +kernel
theorem dX8_add_0 : decode cX8_add 0 = .ok (.aload_n 0, 1) := by decide +kernel
theorem dX8_add_1 : decode cX8_add 1 = .ok (.getfield 24, 3) := by decide +kernel
theorem dX8_add_4 : decode cX8_add 4 = .ok (.bipush 40, 2) := by decide +kernel
theorem dX8_add_6 : decode cX8_add 6 = .ok (.if_icmp .ge 33, 3) := by decide +kernel
theorem dX8_add_9 : decode cX8_add 9 = .ok (.aload_n 0, 1) := by decide +kernel
theorem dX8_add_10 : decode cX8_add 10 = .ok (.getfield 9, 3) := by decide +kernel
theorem dX8_add_13 : decode cX8_add 13 = .ok (.aload_n 0, 1) := by decide +kernel
theorem dX8_add_14 : decode cX8_add 14 = .ok (.getfield 24, 3) := by decide +kernel
theorem dX8_add_17 : decode cX8_add 17 = .ok (.iload_n 2, 1) := by decide +kernel
theorem dX8_add_18 : decode cX8_add 18 = .ok (.iastore, 1) := by decide +kernel
theorem dX8_add_19 : decode cX8_add 19 = .ok (.aload_n 0, 1) := by decide +kernel
theorem dX8_add_20 : decode cX8_add 20 = .ok (.getfield 15, 3) := by decide +kernel
theorem dX8_add_23 : decode cX8_add 23 = .ok (.aload_n 0, 1) := by decide +kernel
theorem dX8_add_24 : decode cX8_add 24 = .ok (.getfield 24, 3) := by decide +kernel
theorem dX8_add_27 : decode cX8_add 27 = .ok (.iload_n 1, 1) := by decide +kernel
theorem dX8_add_28 : decode cX8_add 28 = .ok (.iastore, 1) := by decide +kernel
theorem dX8_add_29 : decode cX8_add 29 = .ok (.aload_n 0, 1) := by decide +kernel
theorem dX8_add_30 : decode cX8_add 30 = .ok (.dup, 1) := by decide +kernel
theorem dX8_add_31 : decode cX8_add 31 = .ok (.getfield 24, 3) := by decide +kernel
theorem dX8_add_34 : decode cX8_add 34 = .ok (.iconst 1, 1) := by decide +kernel
theorem dX8_add_35 : decode cX8_add 35 = .ok (.iadd, 1) := by decide +kernel
theorem dX8_add_36 : decode cX8_add 36 = .ok (.putfield 24, 3) := by decide +kernel
theorem dX8_add_39 : decode cX8_add 39 = .ok (.return_, 1) := by decide +kernel
theorem dX8_cutTo_0 : decode cX8_cutTo 0 = .ok (.iload_n 1, 1) := by decide +kernel
theorem dX8_cutTo_1 : decode cX8_cutTo 1 = .ok (.ifCond .lt 16, 3) := by decide +kernel
theorem dX8_cutTo_4 : decode cX8_cutTo 4 = .ok (.iload_n 1, 1) := by decide +kernel
theorem dX8_cutTo_5 : decode cX8_cutTo 5 = .ok (.aload_n 0, 1) := by decide +kernel
theorem dX8_cutTo_6 : decode cX8_cutTo 6 = .ok (.getfield 24, 3) := by decide +kernel
theorem dX8_cutTo_9 : decode cX8_cutTo 9 = .ok (.if_icmp .ge 8, 3) := by decide +kernel
theorem dX8_cutTo_12 : decode cX8_cutTo 12 = .ok (.aload_n 0, 1) := by decide +kernel
theorem dX8_cutTo_13 : decode cX8_cutTo 13 = .ok (.iload_n 1, 1) := by decide +kernel
theorem dX8_cutTo_14 : decode cX8_cutTo 14 = .ok (.putfield 24, 3) := by decide +kernel
theorem dX8_cutTo_17 : decode cX8_cutTo 17 = .ok (.return_, 1) := by decide +kernel
theorem dX8_sumOf_0 : decode cX8_sumOf 0 = .ok (.iconst 0, 1) := by decide +kernel
theorem dX8_sumOf_1 : decode cX8_sumOf 1 = .ok (.istore_n 2, 1) := by decide +kernel
theorem dX8_sumOf_2 : decode cX8_sumOf 2 = .ok (.iconst 0, 1) := by decide +kernel
theorem dX8_sumOf_3 : decode cX8_sumOf 3 = .ok (.istore_n 3, 1) := by decide +kernel
theorem dX8_sumOf_4 : decode cX8_sumOf 4 = .ok (.iload_n 3, 1) := by decide +kernel
theorem dX8_sumOf_5 : decode cX8_sumOf 5 = .ok (.iload_n 1, 1) := by decide +kernel
theorem dX8_sumOf_6 : decode cX8_sumOf 6 = .ok (.if_icmp .ge 26, 3) := by decide +kernel
theorem dX8_sumOf_9 : decode cX8_sumOf 9 = .ok (.iload_n 3, 1) := by decide +kernel
theorem dX8_sumOf_10 : decode cX8_sumOf 10 = .ok (.aload_n 0, 1) := by decide +kernel
theorem dX8_sumOf_11 : decode cX8_sumOf 11 = .ok (.getfield 24, 3) := by decide +kernel
theorem dX8_sumOf_14 : decode cX8_sumOf 14 = .ok (.if_icmp .ge 18, 3) := by decide +kernel
theorem dX8_sumOf_17 : decode cX8_sumOf 17 = .ok (.iload_n 2, 1) := by decide +kernel
theorem dX8_sumOf_18 : decode cX8_sumOf 18 = .ok (.aload_n 0, 1) := by decide +kernel
theorem dX8_sumOf_19 : decode cX8_sumOf 19 = .ok (.getfield 9, 3) := by decide +kernel
theorem dX8_sumOf_22 : decode cX8_sumOf 22 = .ok (.iload_n 3, 1) := by decide +kernel
theorem dX8_sumOf_23 : decode cX8_sumOf 23 = .ok (.iaload, 1) := by decide +kernel
theorem dX8_sumOf_24 : decode cX8_sumOf 24 = .ok (.iadd, 1) := by decide +kernel
theorem dX8_sumOf_25 : decode cX8_sumOf 25 = .ok (.istore_n 2, 1) := by decide +kernel
theorem dX8_sumOf_26 : decode cX8_sumOf 26 = .ok (.iinc 3 1, 3) := by decide +kernel
theorem dX8_sumOf_29 : decode cX8_sumOf 29 = .ok (.goto (-25), 3) := by decide +kernel
theorem dX8_sumOf_32 : decode cX8_sumOf 32 = .ok (.iload_n 2, 1) := by decide +kernel
theorem dX8_sumOf_33 : decode cX8_sumOf 33 = .ok (.ireturn, 1) := by decide +kernel
theorem dX8_meanOf_0 : decode cX8_meanOf 0 = .ok (.iload_n 1, 1) := by decide +kernel
theorem dX8_meanOf_1 : decode cX8_meanOf 1 = .ok (.ifCond .le 13, 3) := by decide +kernel
theorem dX8_meanOf_4 : decode cX8_meanOf 4 = .ok (.aload_n 0, 1) := by decide +kernel
theorem dX8_meanOf_5 : decode cX8_meanOf 5 = .ok (.iload_n 1, 1) := by decide +kernel
theorem dX8_meanOf_6 : decode cX8_meanOf 6 = .ok (.invokevirtual 28, 3) := by decide +kernel
theorem dX8_meanOf_9 : decode cX8_meanOf 9 = .ok (.iload_n 1, 1) := by decide +kernel
theorem dX8_meanOf_10 : decode cX8_meanOf 10 = .ok (.idiv, 1) := by decide +kernel
theorem dX8_meanOf_11 : decode cX8_meanOf 11 = .ok (.goto 4, 3) := by decide +kernel
theorem dX8_meanOf_14 : decode cX8_meanOf 14 = .ok (.iconst (-1), 1) := by decide +kernel
theorem dX8_meanOf_15 : decode cX8_meanOf 15 = .ok (.ireturn, 1) := by decide +kernel
theorem dX8_goalAt_0 : decode cX8_goalAt 0 = .ok (.iload_n 2, 1) := by decide +kernel
theorem dX8_goalAt_1 : decode cX8_goalAt 1 = .ok (.ifCond .ne 7, 3) := by decide +kernel
theorem dX8_goalAt_4 : decode cX8_goalAt 4 = .ok (.iload_n 1, 1) := by decide +kernel
theorem dX8_goalAt_5 : decode cX8_goalAt 5 = .ok (.ifCond .gt 7, 3) := by decide +kernel
theorem dX8_goalAt_8 : decode cX8_goalAt 8 = .ok (.iconst (-1), 1) := by decide +kernel
theorem dX8_goalAt_9 : decode cX8_goalAt 9 = .ok (.goto 10, 3) := by decide +kernel
theorem dX8_goalAt_12 : decode cX8_goalAt 12 = .ok (.aload_n 0, 1) := by decide +kernel
theorem dX8_goalAt_13 : decode cX8_goalAt 13 = .ok (.iload_n 1, 1) := by decide +kernel
theorem dX8_goalAt_14 : decode cX8_goalAt 14 = .ok (.invokevirtual 28, 3) := by decide +kernel
theorem dX8_goalAt_17 : decode cX8_goalAt 17 = .ok (.iload_n 1, 1) := by decide +kernel
theorem dX8_goalAt_18 : decode cX8_goalAt 18 = .ok (.idiv, 1) := by decide +kernel
theorem dX8_goalAt_19 : decode cX8_goalAt 19 = .ok (.ireturn, 1) := by decide +kernel
theorem dX8_writtenBy_0 : decode cX8_writtenBy 0 = .ok (.iconst 0, 1) := by decide +kernel
theorem dX8_writtenBy_1 : decode cX8_writtenBy 1 = .ok (.istore_n 2, 1) := by decide +kernel
theorem dX8_writtenBy_2 : decode cX8_writtenBy 2 = .ok (.iconst 0, 1) := by decide +kernel
theorem dX8_writtenBy_3 : decode cX8_writtenBy 3 = .ok (.istore_n 3, 1) := by decide +kernel
theorem dX8_writtenBy_4 : decode cX8_writtenBy 4 = .ok (.iload_n 3, 1) := by decide +kernel
theorem dX8_writtenBy_5 : decode cX8_writtenBy 5 = .ok (.aload_n 0, 1) := by decide +kernel
theorem dX8_writtenBy_6 : decode cX8_writtenBy 6 = .ok (.getfield 24, 3) := by decide +kernel
theorem dX8_writtenBy_9 : decode cX8_writtenBy 9 = .ok (.if_icmp .ge 22, 3) := by decide +kernel
theorem dX8_writtenBy_12 : decode cX8_writtenBy 12 = .ok (.aload_n 0, 1) := by decide +kernel
theorem dX8_writtenBy_13 : decode cX8_writtenBy 13 = .ok (.getfield 15, 3) := by decide +kernel
theorem dX8_writtenBy_16 : decode cX8_writtenBy 16 = .ok (.iload_n 3, 1) := by decide +kernel
theorem dX8_writtenBy_17 : decode cX8_writtenBy 17 = .ok (.iaload, 1) := by decide +kernel
theorem dX8_writtenBy_18 : decode cX8_writtenBy 18 = .ok (.iload_n 1, 1) := by decide +kernel
theorem dX8_writtenBy_19 : decode cX8_writtenBy 19 = .ok (.if_icmp .ne 6, 3) := by decide +kernel
theorem dX8_writtenBy_22 : decode cX8_writtenBy 22 = .ok (.iinc 2 1, 3) := by decide +kernel
theorem dX8_writtenBy_25 : decode cX8_writtenBy 25 = .ok (.iinc 3 1, 3) := by decide +kernel
theorem dX8_writtenBy_28 : decode cX8_writtenBy 28 = .ok (.goto (-24), 3) := by decide +kernel
theorem dX8_writtenBy_31 : decode cX8_writtenBy 31 = .ok (.iload_n 2, 1) := by decide +kernel
theorem dX8_writtenBy_32 : decode cX8_writtenBy 32 = .ok (.ireturn, 1) := by decide +kernel
theorem dX8_latestBy_0 : decode cX8_latestBy 0 = .ok (.aload_n 0, 1) := by decide +kernel
theorem dX8_latestBy_1 : decode cX8_latestBy 1 = .ok (.getfield 24, 3) := by decide +kernel
theorem dX8_latestBy_4 : decode cX8_latestBy 4 = .ok (.iconst 1, 1) := by decide +kernel
theorem dX8_latestBy_5 : decode cX8_latestBy 5 = .ok (.isub, 1) := by decide +kernel
theorem dX8_latestBy_6 : decode cX8_latestBy 6 = .ok (.istore_n 2, 1) := by decide +kernel
theorem dX8_latestBy_7 : decode cX8_latestBy 7 = .ok (.iload_n 2, 1) := by decide +kernel
theorem dX8_latestBy_8 : decode cX8_latestBy 8 = .ok (.ifCond .lt 21, 3) := by decide +kernel
theorem dX8_latestBy_11 : decode cX8_latestBy 11 = .ok (.aload_n 0, 1) := by decide +kernel
theorem dX8_latestBy_12 : decode cX8_latestBy 12 = .ok (.getfield 15, 3) := by decide +kernel
theorem dX8_latestBy_15 : decode cX8_latestBy 15 = .ok (.iload_n 2, 1) := by decide +kernel
theorem dX8_latestBy_16 : decode cX8_latestBy 16 = .ok (.iaload, 1) := by decide +kernel
theorem dX8_latestBy_17 : decode cX8_latestBy 17 = .ok (.iload_n 1, 1) := by decide +kernel
theorem dX8_latestBy_18 : decode cX8_latestBy 18 = .ok (.if_icmp .ne 5, 3) := by decide +kernel
theorem dX8_latestBy_21 : decode cX8_latestBy 21 = .ok (.iload_n 2, 1) := by decide +kernel
theorem dX8_latestBy_22 : decode cX8_latestBy 22 = .ok (.ireturn, 1) := by decide +kernel
theorem dX8_latestBy_23 : decode cX8_latestBy 23 = .ok (.iinc 2 (-1), 3) := by decide +kernel
theorem dX8_latestBy_26 : decode cX8_latestBy 26 = .ok (.goto (-19), 3) := by decide +kernel
theorem dX8_latestBy_29 : decode cX8_latestBy 29 = .ok (.iconst (-1), 1) := by decide +kernel
theorem dX8_latestBy_30 : decode cX8_latestBy 30 = .ok (.ireturn, 1) := by decide +kernel
theorem dX8_firstOf_0 : decode cX8_firstOf 0 = .ok (.iconst 0, 1) := by decide +kernel
theorem dX8_firstOf_1 : decode cX8_firstOf 1 = .ok (.istore_n 2, 1) := by decide +kernel
theorem dX8_firstOf_2 : decode cX8_firstOf 2 = .ok (.iload_n 2, 1) := by decide +kernel
theorem dX8_firstOf_3 : decode cX8_firstOf 3 = .ok (.aload_n 0, 1) := by decide +kernel
theorem dX8_firstOf_4 : decode cX8_firstOf 4 = .ok (.getfield 24, 3) := by decide +kernel
theorem dX8_firstOf_7 : decode cX8_firstOf 7 = .ok (.if_icmp .ge 21, 3) := by decide +kernel
theorem dX8_firstOf_10 : decode cX8_firstOf 10 = .ok (.aload_n 0, 1) := by decide +kernel
theorem dX8_firstOf_11 : decode cX8_firstOf 11 = .ok (.getfield 9, 3) := by decide +kernel
theorem dX8_firstOf_14 : decode cX8_firstOf 14 = .ok (.iload_n 2, 1) := by decide +kernel
theorem dX8_firstOf_15 : decode cX8_firstOf 15 = .ok (.iaload, 1) := by decide +kernel
theorem dX8_firstOf_16 : decode cX8_firstOf 16 = .ok (.iload_n 1, 1) := by decide +kernel
theorem dX8_firstOf_17 : decode cX8_firstOf 17 = .ok (.if_icmp .ne 5, 3) := by decide +kernel
theorem dX8_firstOf_20 : decode cX8_firstOf 20 = .ok (.iload_n 2, 1) := by decide +kernel
theorem dX8_firstOf_21 : decode cX8_firstOf 21 = .ok (.ireturn, 1) := by decide +kernel
theorem dX8_firstOf_22 : decode cX8_firstOf 22 = .ok (.iinc 2 1, 3) := by decide +kernel
theorem dX8_firstOf_25 : decode cX8_firstOf 25 = .ok (.goto (-23), 3) := by decide +kernel
theorem dX8_firstOf_28 : decode cX8_firstOf 28 = .ok (.iconst (-1), 1) := by decide +kernel
theorem dX8_firstOf_29 : decode cX8_firstOf 29 = .ok (.ireturn, 1) := by decide +kernel
theorem dX8_nearestTo_0 : decode cX8_nearestTo 0 = .ok (.iconst (-1), 1) := by decide +kernel
theorem dX8_nearestTo_1 : decode cX8_nearestTo 1 = .ok (.istore_n 2, 1) := by decide +kernel
theorem dX8_nearestTo_2 : decode cX8_nearestTo 2 = .ok (.iconst 0, 1) := by decide +kernel
theorem dX8_nearestTo_3 : decode cX8_nearestTo 3 = .ok (.istore_n 3, 1) := by decide +kernel
theorem dX8_nearestTo_4 : decode cX8_nearestTo 4 = .ok (.iconst 0, 1) := by decide +kernel
theorem dX8_nearestTo_5 : decode cX8_nearestTo 5 = .ok (.istore 4, 2) := by decide +kernel
theorem dX8_nearestTo_7 : decode cX8_nearestTo 7 = .ok (.iload 4, 2) := by decide +kernel
theorem dX8_nearestTo_9 : decode cX8_nearestTo 9 = .ok (.aload_n 0, 1) := by decide +kernel
theorem dX8_nearestTo_10 : decode cX8_nearestTo 10 = .ok (.getfield 24, 3) := by decide +kernel
theorem dX8_nearestTo_13 : decode cX8_nearestTo 13 = .ok (.if_icmp .ge 40, 3) := by decide +kernel
theorem dX8_nearestTo_16 : decode cX8_nearestTo 16 = .ok (.aload_n 0, 1) := by decide +kernel
theorem dX8_nearestTo_17 : decode cX8_nearestTo 17 = .ok (.getfield 9, 3) := by decide +kernel
theorem dX8_nearestTo_20 : decode cX8_nearestTo 20 = .ok (.iload 4, 2) := by decide +kernel
theorem dX8_nearestTo_22 : decode cX8_nearestTo 22 = .ok (.iaload, 1) := by decide +kernel
theorem dX8_nearestTo_23 : decode cX8_nearestTo 23 = .ok (.iload_n 1, 1) := by decide +kernel
theorem dX8_nearestTo_24 : decode cX8_nearestTo 24 = .ok (.isub, 1) := by decide +kernel
theorem dX8_nearestTo_25 : decode cX8_nearestTo 25 = .ok (.invokestatic 32, 3) := by decide +kernel
theorem dX8_nearestTo_28 : decode cX8_nearestTo 28 = .ok (.istore 5, 2) := by decide +kernel
theorem dX8_nearestTo_30 : decode cX8_nearestTo 30 = .ok (.iload_n 2, 1) := by decide +kernel
theorem dX8_nearestTo_31 : decode cX8_nearestTo 31 = .ok (.iconst (-1), 1) := by decide +kernel
theorem dX8_nearestTo_32 : decode cX8_nearestTo 32 = .ok (.if_icmp .eq 9, 3) := by decide +kernel
theorem dX8_nearestTo_35 : decode cX8_nearestTo 35 = .ok (.iload 5, 2) := by decide +kernel
theorem dX8_nearestTo_37 : decode cX8_nearestTo 37 = .ok (.iload_n 3, 1) := by decide +kernel
theorem dX8_nearestTo_38 : decode cX8_nearestTo 38 = .ok (.if_icmp .ge 9, 3) := by decide +kernel
theorem dX8_nearestTo_41 : decode cX8_nearestTo 41 = .ok (.iload 5, 2) := by decide +kernel
theorem dX8_nearestTo_43 : decode cX8_nearestTo 43 = .ok (.istore_n 3, 1) := by decide +kernel
theorem dX8_nearestTo_44 : decode cX8_nearestTo 44 = .ok (.iload 4, 2) := by decide +kernel
theorem dX8_nearestTo_46 : decode cX8_nearestTo 46 = .ok (.istore_n 2, 1) := by decide +kernel
theorem dX8_nearestTo_47 : decode cX8_nearestTo 47 = .ok (.iinc 4 1, 3) := by decide +kernel
theorem dX8_nearestTo_50 : decode cX8_nearestTo 50 = .ok (.goto (-43), 3) := by decide +kernel
theorem dX8_nearestTo_53 : decode cX8_nearestTo 53 = .ok (.iload_n 2, 1) := by decide +kernel
theorem dX8_nearestTo_54 : decode cX8_nearestTo 54 = .ok (.ireturn, 1) := by decide +kernel
theorem dX8_middle_0 : decode cX8_middle 0 = .ok (.aload_n 0, 1) := by decide +kernel
theorem dX8_middle_1 : decode cX8_middle 1 = .ok (.getfield 24, 3) := by decide +kernel
theorem dX8_middle_4 : decode cX8_middle 4 = .ok (.iconst 1, 1) := by decide +kernel
theorem dX8_middle_5 : decode cX8_middle 5 = .ok (.isub, 1) := by decide +kernel
theorem dX8_middle_6 : decode cX8_middle 6 = .ok (.iconst 2, 1) := by decide +kernel
theorem dX8_middle_7 : decode cX8_middle 7 = .ok (.idiv, 1) := by decide +kernel
theorem dX8_middle_8 : decode cX8_middle 8 = .ok (.istore_n 1, 1) := by decide +kernel
theorem dX8_middle_9 : decode cX8_middle 9 = .ok (.iconst 0, 1) := by decide +kernel
theorem dX8_middle_10 : decode cX8_middle 10 = .ok (.istore_n 2, 1) := by decide +kernel
theorem dX8_middle_11 : decode cX8_middle 11 = .ok (.iload_n 2, 1) := by decide +kernel
theorem dX8_middle_12 : decode cX8_middle 12 = .ok (.aload_n 0, 1) := by decide +kernel
theorem dX8_middle_13 : decode cX8_middle 13 = .ok (.getfield 24, 3) := by decide +kernel
theorem dX8_middle_16 : decode cX8_middle 16 = .ok (.if_icmp .ge 93, 3) := by decide +kernel
theorem dX8_middle_19 : decode cX8_middle 19 = .ok (.iconst 0, 1) := by decide +kernel
theorem dX8_middle_20 : decode cX8_middle 20 = .ok (.istore_n 3, 1) := by decide +kernel
theorem dX8_middle_21 : decode cX8_middle 21 = .ok (.iconst 0, 1) := by decide +kernel
theorem dX8_middle_22 : decode cX8_middle 22 = .ok (.istore 4, 2) := by decide +kernel
theorem dX8_middle_24 : decode cX8_middle 24 = .ok (.iconst 0, 1) := by decide +kernel
theorem dX8_middle_25 : decode cX8_middle 25 = .ok (.istore 5, 2) := by decide +kernel
theorem dX8_middle_27 : decode cX8_middle 27 = .ok (.iload 5, 2) := by decide +kernel
theorem dX8_middle_29 : decode cX8_middle 29 = .ok (.aload_n 0, 1) := by decide +kernel
theorem dX8_middle_30 : decode cX8_middle 30 = .ok (.getfield 24, 3) := by decide +kernel
theorem dX8_middle_33 : decode cX8_middle 33 = .ok (.if_icmp .ge 50, 3) := by decide +kernel
theorem dX8_middle_36 : decode cX8_middle 36 = .ok (.aload_n 0, 1) := by decide +kernel
theorem dX8_middle_37 : decode cX8_middle 37 = .ok (.getfield 9, 3) := by decide +kernel
theorem dX8_middle_40 : decode cX8_middle 40 = .ok (.iload 5, 2) := by decide +kernel
theorem dX8_middle_42 : decode cX8_middle 42 = .ok (.iaload, 1) := by decide +kernel
theorem dX8_middle_43 : decode cX8_middle 43 = .ok (.aload_n 0, 1) := by decide +kernel
theorem dX8_middle_44 : decode cX8_middle 44 = .ok (.getfield 9, 3) := by decide +kernel
theorem dX8_middle_47 : decode cX8_middle 47 = .ok (.iload_n 2, 1) := by decide +kernel
theorem dX8_middle_48 : decode cX8_middle 48 = .ok (.iaload, 1) := by decide +kernel
theorem dX8_middle_49 : decode cX8_middle 49 = .ok (.if_icmp .ge 9, 3) := by decide +kernel
theorem dX8_middle_52 : decode cX8_middle 52 = .ok (.iinc 3 1, 3) := by decide +kernel
theorem dX8_middle_55 : decode cX8_middle 55 = .ok (.goto 22, 3) := by decide +kernel
theorem dX8_middle_58 : decode cX8_middle 58 = .ok (.aload_n 0, 1) := by decide +kernel
theorem dX8_middle_59 : decode cX8_middle 59 = .ok (.getfield 9, 3) := by decide +kernel
theorem dX8_middle_62 : decode cX8_middle 62 = .ok (.iload 5, 2) := by decide +kernel
theorem dX8_middle_64 : decode cX8_middle 64 = .ok (.iaload, 1) := by decide +kernel
theorem dX8_middle_65 : decode cX8_middle 65 = .ok (.aload_n 0, 1) := by decide +kernel
theorem dX8_middle_66 : decode cX8_middle 66 = .ok (.getfield 9, 3) := by decide +kernel
theorem dX8_middle_69 : decode cX8_middle 69 = .ok (.iload_n 2, 1) := by decide +kernel
theorem dX8_middle_70 : decode cX8_middle 70 = .ok (.iaload, 1) := by decide +kernel
theorem dX8_middle_71 : decode cX8_middle 71 = .ok (.if_icmp .ne 6, 3) := by decide +kernel
theorem dX8_middle_74 : decode cX8_middle 74 = .ok (.iinc 4 1, 3) := by decide +kernel
theorem dX8_middle_77 : decode cX8_middle 77 = .ok (.iinc 5 1, 3) := by decide +kernel
theorem dX8_middle_80 : decode cX8_middle 80 = .ok (.goto (-53), 3) := by decide +kernel
theorem dX8_middle_83 : decode cX8_middle 83 = .ok (.iload_n 3, 1) := by decide +kernel
theorem dX8_middle_84 : decode cX8_middle 84 = .ok (.iload_n 1, 1) := by decide +kernel
theorem dX8_middle_85 : decode cX8_middle 85 = .ok (.if_icmp .gt 18, 3) := by decide +kernel
theorem dX8_middle_88 : decode cX8_middle 88 = .ok (.iload_n 1, 1) := by decide +kernel
theorem dX8_middle_89 : decode cX8_middle 89 = .ok (.iload_n 3, 1) := by decide +kernel
theorem dX8_middle_90 : decode cX8_middle 90 = .ok (.iload 4, 2) := by decide +kernel
theorem dX8_middle_92 : decode cX8_middle 92 = .ok (.iadd, 1) := by decide +kernel
theorem dX8_middle_93 : decode cX8_middle 93 = .ok (.if_icmp .ge 10, 3) := by decide +kernel
theorem dX8_middle_96 : decode cX8_middle 96 = .ok (.aload_n 0, 1) := by decide +kernel
theorem dX8_middle_97 : decode cX8_middle 97 = .ok (.getfield 9, 3) := by decide +kernel
theorem dX8_middle_100 : decode cX8_middle 100 = .ok (.iload_n 2, 1) := by decide +kernel
theorem dX8_middle_101 : decode cX8_middle 101 = .ok (.iaload, 1) := by decide +kernel
theorem dX8_middle_102 : decode cX8_middle 102 = .ok (.ireturn, 1) := by decide +kernel
theorem dX8_middle_103 : decode cX8_middle 103 = .ok (.iinc 2 1, 3) := by decide +kernel
theorem dX8_middle_106 : decode cX8_middle 106 = .ok (.goto (-95), 3) := by decide +kernel
theorem dX8_middle_109 : decode cX8_middle 109 = .ok (.iconst (-1), 1) := by decide +kernel
theorem dX8_middle_110 : decode cX8_middle 110 = .ok (.ireturn, 1) := by decide +kernel
theorem dX8_least_0 : decode cX8_least 0 = .ok (.aload_n 0, 1) := by decide +kernel
theorem dX8_least_1 : decode cX8_least 1 = .ok (.getfield 24, 3) := by decide +kernel
theorem dX8_least_4 : decode cX8_least 4 = .ok (.ifCond .le 12, 3) := by decide +kernel
theorem dX8_least_7 : decode cX8_least 7 = .ok (.aload_n 0, 1) := by decide +kernel
theorem dX8_least_8 : decode cX8_least 8 = .ok (.getfield 9, 3) := by decide +kernel
theorem dX8_least_11 : decode cX8_least 11 = .ok (.iconst 0, 1) := by decide +kernel
theorem dX8_least_12 : decode cX8_least 12 = .ok (.iaload, 1) := by decide +kernel
theorem dX8_least_13 : decode cX8_least 13 = .ok (.goto 4, 3) := by decide +kernel
theorem dX8_least_16 : decode cX8_least 16 = .ok (.iconst (-1), 1) := by decide +kernel
theorem dX8_least_17 : decode cX8_least 17 = .ok (.istore_n 1, 1) := by decide +kernel
theorem dX8_least_18 : decode cX8_least 18 = .ok (.iconst 1, 1) := by decide +kernel
theorem dX8_least_19 : decode cX8_least 19 = .ok (.istore_n 2, 1) := by decide +kernel
theorem dX8_least_20 : decode cX8_least 20 = .ok (.iload_n 2, 1) := by decide +kernel
theorem dX8_least_21 : decode cX8_least 21 = .ok (.aload_n 0, 1) := by decide +kernel
theorem dX8_least_22 : decode cX8_least 22 = .ok (.getfield 24, 3) := by decide +kernel
theorem dX8_least_25 : decode cX8_least 25 = .ok (.if_icmp .ge 20, 3) := by decide +kernel
theorem dX8_least_28 : decode cX8_least 28 = .ok (.iload_n 1, 1) := by decide +kernel
theorem dX8_least_29 : decode cX8_least 29 = .ok (.aload_n 0, 1) := by decide +kernel
theorem dX8_least_30 : decode cX8_least 30 = .ok (.getfield 9, 3) := by decide +kernel
theorem dX8_least_33 : decode cX8_least 33 = .ok (.iload_n 2, 1) := by decide +kernel
theorem dX8_least_34 : decode cX8_least 34 = .ok (.iaload, 1) := by decide +kernel
theorem dX8_least_35 : decode cX8_least 35 = .ok (.invokestatic 37, 3) := by decide +kernel
theorem dX8_least_38 : decode cX8_least 38 = .ok (.istore_n 1, 1) := by decide +kernel
theorem dX8_least_39 : decode cX8_least 39 = .ok (.iinc 2 1, 3) := by decide +kernel
theorem dX8_least_42 : decode cX8_least 42 = .ok (.goto (-22), 3) := by decide +kernel
theorem dX8_least_45 : decode cX8_least 45 = .ok (.iload_n 1, 1) := by decide +kernel
theorem dX8_least_46 : decode cX8_least 46 = .ok (.ireturn, 1) := by decide +kernel
theorem dX8_greatest_0 : decode cX8_greatest 0 = .ok (.iconst (-1), 1) := by decide +kernel
theorem dX8_greatest_1 : decode cX8_greatest 1 = .ok (.istore_n 1, 1) := by decide +kernel
theorem dX8_greatest_2 : decode cX8_greatest 2 = .ok (.iconst 0, 1) := by decide +kernel
theorem dX8_greatest_3 : decode cX8_greatest 3 = .ok (.istore_n 2, 1) := by decide +kernel
theorem dX8_greatest_4 : decode cX8_greatest 4 = .ok (.iload_n 2, 1) := by decide +kernel
theorem dX8_greatest_5 : decode cX8_greatest 5 = .ok (.aload_n 0, 1) := by decide +kernel
theorem dX8_greatest_6 : decode cX8_greatest 6 = .ok (.getfield 24, 3) := by decide +kernel
theorem dX8_greatest_9 : decode cX8_greatest 9 = .ok (.if_icmp .ge 20, 3) := by decide +kernel
theorem dX8_greatest_12 : decode cX8_greatest 12 = .ok (.iload_n 1, 1) := by decide +kernel
theorem dX8_greatest_13 : decode cX8_greatest 13 = .ok (.aload_n 0, 1) := by decide +kernel
theorem dX8_greatest_14 : decode cX8_greatest 14 = .ok (.getfield 9, 3) := by decide +kernel
theorem dX8_greatest_17 : decode cX8_greatest 17 = .ok (.iload_n 2, 1) := by decide +kernel
theorem dX8_greatest_18 : decode cX8_greatest 18 = .ok (.iaload, 1) := by decide +kernel
theorem dX8_greatest_19 : decode cX8_greatest 19 = .ok (.invokestatic 41, 3) := by decide +kernel
theorem dX8_greatest_22 : decode cX8_greatest 22 = .ok (.istore_n 1, 1) := by decide +kernel
theorem dX8_greatest_23 : decode cX8_greatest 23 = .ok (.iinc 2 1, 3) := by decide +kernel
theorem dX8_greatest_26 : decode cX8_greatest 26 = .ok (.goto (-22), 3) := by decide +kernel
theorem dX8_greatest_29 : decode cX8_greatest 29 = .ok (.iload_n 1, 1) := by decide +kernel
theorem dX8_greatest_30 : decode cX8_greatest 30 = .ok (.ireturn, 1) := by decide +kernel
theorem dX8_unlike_0 : decode cX8_unlike 0 = .ok (.iconst 0, 1) := by decide +kernel
theorem dX8_unlike_1 : decode cX8_unlike 1 = .ok (.istore_n 1, 1) := by decide +kernel
theorem dX8_unlike_2 : decode cX8_unlike 2 = .ok (.iconst 0, 1) := by decide +kernel
theorem dX8_unlike_3 : decode cX8_unlike 3 = .ok (.istore_n 2, 1) := by decide +kernel
theorem dX8_unlike_4 : decode cX8_unlike 4 = .ok (.iload_n 2, 1) := by decide +kernel
theorem dX8_unlike_5 : decode cX8_unlike 5 = .ok (.aload_n 0, 1) := by decide +kernel
theorem dX8_unlike_6 : decode cX8_unlike 6 = .ok (.getfield 24, 3) := by decide +kernel
theorem dX8_unlike_9 : decode cX8_unlike 9 = .ok (.if_icmp .ge 26, 3) := by decide +kernel
theorem dX8_unlike_12 : decode cX8_unlike 12 = .ok (.aload_n 0, 1) := by decide +kernel
theorem dX8_unlike_13 : decode cX8_unlike 13 = .ok (.aload_n 0, 1) := by decide +kernel
theorem dX8_unlike_14 : decode cX8_unlike 14 = .ok (.getfield 9, 3) := by decide +kernel
theorem dX8_unlike_17 : decode cX8_unlike 17 = .ok (.iload_n 2, 1) := by decide +kernel
theorem dX8_unlike_18 : decode cX8_unlike 18 = .ok (.iaload, 1) := by decide +kernel
theorem dX8_unlike_19 : decode cX8_unlike 19 = .ok (.invokevirtual 44, 3) := by decide +kernel
theorem dX8_unlike_22 : decode cX8_unlike 22 = .ok (.iload_n 2, 1) := by decide +kernel
theorem dX8_unlike_23 : decode cX8_unlike 23 = .ok (.if_icmp .ne 6, 3) := by decide +kernel
theorem dX8_unlike_26 : decode cX8_unlike 26 = .ok (.iinc 1 1, 3) := by decide +kernel
theorem dX8_unlike_29 : decode cX8_unlike 29 = .ok (.iinc 2 1, 3) := by decide +kernel
theorem dX8_unlike_32 : decode cX8_unlike 32 = .ok (.goto (-28), 3) := by decide +kernel
theorem dX8_unlike_35 : decode cX8_unlike 35 = .ok (.iload_n 1, 1) := by decide +kernel
theorem dX8_unlike_36 : decode cX8_unlike 36 = .ok (.ireturn, 1) := by decide +kernel
theorem dX9_init_0 : decode cX9_init 0 = .ok (.aload_n 0, 1) := by decide +kernel
theorem dX9_init_1 : decode cX9_init 1 = .ok (.invokespecial 3, 3) := by decide +kernel
theorem dX9_init_4 : decode cX9_init 4 = .ok (.aload_n 0, 1) := by decide +kernel
theorem dX9_init_5 : decode cX9_init 5 = .ok (.iconst 3, 1) := by decide +kernel
theorem dX9_init_6 : decode cX9_init 6 = .ok (.newarray .int, 2) := by decide +kernel
theorem dX9_init_8 : decode cX9_init 8 = .ok (.putfield 9, 3) := by decide +kernel
theorem dX9_init_11 : decode cX9_init 11 = .ok (.aload_n 0, 1) := by decide +kernel
theorem dX9_init_12 : decode cX9_init 12 = .ok (.iconst 3, 1) := by decide +kernel
theorem dX9_init_13 : decode cX9_init 13 = .ok (.iconst 3, 1) := by decide +kernel
theorem dX9_init_14 : decode cX9_init 14 = .ok (.multianewarray 15 2, 4) := by decide +kernel
theorem dX9_init_18 : decode cX9_init 18 = .ok (.putfield 17, 3) := by decide +kernel
theorem dX9_init_21 : decode cX9_init 21 = .ok (.aload_n 0, 1) := by decide +kernel
theorem dX9_init_22 : decode cX9_init 22 = .ok (.aload_n 1, 1) := by decide +kernel
theorem dX9_init_23 : decode cX9_init 23 = .ok (.putfield 20, 3) := by decide +kernel
theorem dX9_init_26 : decode cX9_init 26 = .ok (.return_, 1) := by decide +kernel
theorem dX9_play_0 : decode cX9_play 0 = .ok (.aload_n 0, 1) := by decide +kernel
theorem dX9_play_1 : decode cX9_play 1 = .ok (.iload_n 1, 1) := by decide +kernel
theorem dX9_play_2 : decode cX9_play 2 = .ok (.iload_n 2, 1) := by decide +kernel
theorem dX9_play_3 : decode cX9_play 3 = .ok (.invokestatic 24, 3) := by decide +kernel
theorem dX9_play_6 : decode cX9_play 6 = .ok (.return_, 1) := by decide +kernel
theorem dX9_choose_0 : decode cX9_choose 0 = .ok (.iload_n 1, 1) := by decide +kernel
theorem dX9_choose_1 : decode cX9_choose 1 = .ok (.ifCond .lt 13, 3) := by decide +kernel
theorem dX9_choose_4 : decode cX9_choose 4 = .ok (.iload_n 1, 1) := by decide +kernel
theorem dX9_choose_5 : decode cX9_choose 5 = .ok (.iload_n 2, 1) := by decide +kernel
theorem dX9_choose_6 : decode cX9_choose 6 = .ok (.if_icmp .ge 8, 3) := by decide +kernel
theorem dX9_choose_9 : decode cX9_choose 9 = .ok (.iload_n 2, 1) := by decide +kernel
theorem dX9_choose_10 : decode cX9_choose 10 = .ok (.iconst 3, 1) := by decide +kernel
theorem dX9_choose_11 : decode cX9_choose 11 = .ok (.if_icmp .le 4, 3) := by decide +kernel
theorem dX9_choose_14 : decode cX9_choose 14 = .ok (.return_, 1) := by decide +kernel
theorem dX9_choose_15 : decode cX9_choose 15 = .ok (.ldc2_w 28, 3) := by decide +kernel
theorem dX9_choose_18 : decode cX9_choose 18 = .ok (.lstore_n 3, 1) := by decide +kernel
theorem dX9_choose_19 : decode cX9_choose 19 = .ok (.iconst 0, 1) := by decide +kernel
theorem dX9_choose_20 : decode cX9_choose 20 = .ok (.istore 5, 2) := by decide +kernel
theorem dX9_choose_22 : decode cX9_choose 22 = .ok (.iload 5, 2) := by decide +kernel
theorem dX9_choose_24 : decode cX9_choose 24 = .ok (.aload_n 0, 1) := by decide +kernel
theorem dX9_choose_25 : decode cX9_choose 25 = .ok (.getfield 20, 3) := by decide +kernel
theorem dX9_choose_28 : decode cX9_choose 28 = .ok (.getfield 30, 3) := by decide +kernel
theorem dX9_choose_31 : decode cX9_choose 31 = .ok (.if_icmp .ge 94, 3) := by decide +kernel
theorem dX9_choose_34 : decode cX9_choose 34 = .ok (.aload_n 0, 1) := by decide +kernel
theorem dX9_choose_35 : decode cX9_choose 35 = .ok (.getfield 20, 3) := by decide +kernel
theorem dX9_choose_38 : decode cX9_choose 38 = .ok (.invokevirtual 36, 3) := by decide +kernel
theorem dX9_choose_41 : decode cX9_choose 41 = .ok (.iload 5, 2) := by decide +kernel
theorem dX9_choose_43 : decode cX9_choose 43 = .ok (.iadd, 1) := by decide +kernel
theorem dX9_choose_44 : decode cX9_choose 44 = .ok (.istore 6, 2) := by decide +kernel
theorem dX9_choose_46 : decode cX9_choose 46 = .ok (.aload_n 0, 1) := by decide +kernel
theorem dX9_choose_47 : decode cX9_choose 47 = .ok (.getfield 20, 3) := by decide +kernel
theorem dX9_choose_50 : decode cX9_choose 50 = .ok (.iload 6, 2) := by decide +kernel
theorem dX9_choose_52 : decode cX9_choose 52 = .ok (.invokevirtual 40, 3) := by decide +kernel
theorem dX9_choose_55 : decode cX9_choose 55 = .ok (.lload_n 3, 1) := by decide +kernel
theorem dX9_choose_56 : decode cX9_choose 56 = .ok (.lcmp, 1) := by decide +kernel
theorem dX9_choose_57 : decode cX9_choose 57 = .ok (.ifCond .le 62, 3) := by decide +kernel
theorem dX9_choose_60 : decode cX9_choose 60 = .ok (.aload_n 0, 1) := by decide +kernel
theorem dX9_choose_61 : decode cX9_choose 61 = .ok (.getfield 9, 3) := by decide +kernel
theorem dX9_choose_64 : decode cX9_choose 64 = .ok (.iload_n 1, 1) := by decide +kernel
theorem dX9_choose_65 : decode cX9_choose 65 = .ok (.iload 6, 2) := by decide +kernel
theorem dX9_choose_67 : decode cX9_choose 67 = .ok (.iastore, 1) := by decide +kernel
theorem dX9_choose_68 : decode cX9_choose 68 = .ok (.iload_n 1, 1) := by decide +kernel
theorem dX9_choose_69 : decode cX9_choose 69 = .ok (.iconst 1, 1) := by decide +kernel
theorem dX9_choose_70 : decode cX9_choose 70 = .ok (.iadd, 1) := by decide +kernel
theorem dX9_choose_71 : decode cX9_choose 71 = .ok (.iload_n 2, 1) := by decide +kernel
theorem dX9_choose_72 : decode cX9_choose 72 = .ok (.if_icmp .ge 11, 3) := by decide +kernel
theorem dX9_choose_75 : decode cX9_choose 75 = .ok (.aload_n 0, 1) := by decide +kernel
theorem dX9_choose_76 : decode cX9_choose 76 = .ok (.iload_n 1, 1) := by decide +kernel
theorem dX9_choose_77 : decode cX9_choose 77 = .ok (.iconst 1, 1) := by decide +kernel
theorem dX9_choose_78 : decode cX9_choose 78 = .ok (.iadd, 1) := by decide +kernel
theorem dX9_choose_79 : decode cX9_choose 79 = .ok (.iload_n 2, 1) := by decide +kernel
theorem dX9_choose_80 : decode cX9_choose 80 = .ok (.invokestatic 24, 3) := by decide +kernel
theorem dX9_choose_83 : decode cX9_choose 83 = .ok (.aload_n 0, 1) := by decide +kernel
theorem dX9_choose_84 : decode cX9_choose 84 = .ok (.iload_n 1, 1) := by decide +kernel
theorem dX9_choose_85 : decode cX9_choose 85 = .ok (.iload_n 2, 1) := by decide +kernel
theorem dX9_choose_86 : decode cX9_choose 86 = .ok (.invokevirtual 44, 3) := by decide +kernel
theorem dX9_choose_89 : decode cX9_choose 89 = .ok (.lstore 7, 2) := by decide +kernel
theorem dX9_choose_91 : decode cX9_choose 91 = .ok (.lload 7, 2) := by decide +kernel
theorem dX9_choose_93 : decode cX9_choose 93 = .ok (.lload_n 3, 1) := by decide +kernel
theorem dX9_choose_94 : decode cX9_choose 94 = .ok (.lcmp, 1) := by decide +kernel
theorem dX9_choose_95 : decode cX9_choose 95 = .ok (.ifCond .le 24, 3) := by decide +kernel
theorem dX9_choose_98 : decode cX9_choose 98 = .ok (.lload 7, 2) := by decide +kernel
theorem dX9_choose_100 : decode cX9_choose 100 = .ok (.lstore_n 3, 1) := by decide +kernel
theorem dX9_choose_101 : decode cX9_choose 101 = .ok (.aload_n 0, 1) := by decide +kernel
theorem dX9_choose_102 : decode cX9_choose 102 = .ok (.getfield 9, 3) := by decide +kernel
theorem dX9_choose_105 : decode cX9_choose 105 = .ok (.iload_n 1, 1) := by decide +kernel
theorem dX9_choose_106 : decode cX9_choose 106 = .ok (.aload_n 0, 1) := by decide +kernel
theorem dX9_choose_107 : decode cX9_choose 107 = .ok (.getfield 17, 3) := by decide +kernel
theorem dX9_choose_110 : decode cX9_choose 110 = .ok (.iload_n 1, 1) := by decide +kernel
theorem dX9_choose_111 : decode cX9_choose 111 = .ok (.aaload, 1) := by decide +kernel
theorem dX9_choose_112 : decode cX9_choose 112 = .ok (.iload_n 1, 1) := by decide +kernel
theorem dX9_choose_113 : decode cX9_choose 113 = .ok (.iload_n 2, 1) := by decide +kernel
theorem dX9_choose_114 : decode cX9_choose 114 = .ok (.iload_n 1, 1) := by decide +kernel
theorem dX9_choose_115 : decode cX9_choose 115 = .ok (.isub, 1) := by decide +kernel
theorem dX9_choose_116 : decode cX9_choose 116 = .ok (.invokestatic 48, 3) := by decide +kernel
theorem dX9_choose_119 : decode cX9_choose 119 = .ok (.iinc 5 1, 3) := by decide +kernel
theorem dX9_choose_122 : decode cX9_choose 122 = .ok (.goto (-100), 3) := by decide +kernel
theorem dX9_choose_125 : decode cX9_choose 125 = .ok (.aload_n 0, 1) := by decide +kernel
theorem dX9_choose_126 : decode cX9_choose 126 = .ok (.getfield 17, 3) := by decide +kernel
theorem dX9_choose_129 : decode cX9_choose 129 = .ok (.iload_n 1, 1) := by decide +kernel
theorem dX9_choose_130 : decode cX9_choose 130 = .ok (.aaload, 1) := by decide +kernel
theorem dX9_choose_131 : decode cX9_choose 131 = .ok (.iload_n 1, 1) := by decide +kernel
theorem dX9_choose_132 : decode cX9_choose 132 = .ok (.aload_n 0, 1) := by decide +kernel
theorem dX9_choose_133 : decode cX9_choose 133 = .ok (.getfield 9, 3) := by decide +kernel
theorem dX9_choose_136 : decode cX9_choose 136 = .ok (.iload_n 1, 1) := by decide +kernel
theorem dX9_choose_137 : decode cX9_choose 137 = .ok (.iload_n 2, 1) := by decide +kernel
theorem dX9_choose_138 : decode cX9_choose 138 = .ok (.iload_n 1, 1) := by decide +kernel
theorem dX9_choose_139 : decode cX9_choose 139 = .ok (.isub, 1) := by decide +kernel
theorem dX9_choose_140 : decode cX9_choose 140 = .ok (.invokestatic 48, 3) := by decide +kernel
theorem dX9_choose_143 : decode cX9_choose 143 = .ok (.return_, 1) := by decide +kernel
theorem dX9_shareOf_0 : decode cX9_shareOf 0 = .ok (.iload_n 1, 1) := by decide +kernel
theorem dX9_shareOf_1 : decode cX9_shareOf 1 = .ok (.ifCond .lt 13, 3) := by decide +kernel
theorem dX9_shareOf_4 : decode cX9_shareOf 4 = .ok (.iload_n 1, 1) := by decide +kernel
theorem dX9_shareOf_5 : decode cX9_shareOf 5 = .ok (.iload_n 2, 1) := by decide +kernel
theorem dX9_shareOf_6 : decode cX9_shareOf 6 = .ok (.if_icmp .ge 8, 3) := by decide +kernel
theorem dX9_shareOf_9 : decode cX9_shareOf 9 = .ok (.iload_n 2, 1) := by decide +kernel
theorem dX9_shareOf_10 : decode cX9_shareOf 10 = .ok (.iconst 3, 1) := by decide +kernel
theorem dX9_shareOf_11 : decode cX9_shareOf 11 = .ok (.if_icmp .le 5, 3) := by decide +kernel
theorem dX9_shareOf_14 : decode cX9_shareOf 14 = .ok (.lconst 0, 1) := by decide +kernel
theorem dX9_shareOf_15 : decode cX9_shareOf 15 = .ok (.lreturn, 1) := by decide +kernel
theorem dX9_shareOf_16 : decode cX9_shareOf 16 = .ok (.aload_n 0, 1) := by decide +kernel
theorem dX9_shareOf_17 : decode cX9_shareOf 17 = .ok (.getfield 20, 3) := by decide +kernel
theorem dX9_shareOf_20 : decode cX9_shareOf 20 = .ok (.aload_n 0, 1) := by decide +kernel
theorem dX9_shareOf_21 : decode cX9_shareOf 21 = .ok (.getfield 9, 3) := by decide +kernel
theorem dX9_shareOf_24 : decode cX9_shareOf 24 = .ok (.iload_n 1, 1) := by decide +kernel
theorem dX9_shareOf_25 : decode cX9_shareOf 25 = .ok (.iaload, 1) := by decide +kernel
theorem dX9_shareOf_26 : decode cX9_shareOf 26 = .ok (.invokevirtual 54, 3) := by decide +kernel
theorem dX9_shareOf_29 : decode cX9_shareOf 29 = .ok (.astore_n 3, 1) := by decide +kernel
theorem dX9_shareOf_30 : decode cX9_shareOf 30 = .ok (.iconst 0, 1) := by decide +kernel
theorem dX9_shareOf_31 : decode cX9_shareOf 31 = .ok (.istore 4, 2) := by decide +kernel
theorem dX9_shareOf_33 : decode cX9_shareOf 33 = .ok (.iload 4, 2) := by decide +kernel
theorem dX9_shareOf_35 : decode cX9_shareOf 35 = .ok (.iload_n 1, 1) := by decide +kernel
theorem dX9_shareOf_36 : decode cX9_shareOf 36 = .ok (.if_icmp .ge 20, 3) := by decide +kernel
theorem dX9_shareOf_39 : decode cX9_shareOf 39 = .ok (.aload_n 3, 1) := by decide +kernel
theorem dX9_shareOf_40 : decode cX9_shareOf 40 = .ok (.aload_n 0, 1) := by decide +kernel
theorem dX9_shareOf_41 : decode cX9_shareOf 41 = .ok (.getfield 9, 3) := by decide +kernel
theorem dX9_shareOf_44 : decode cX9_shareOf 44 = .ok (.iload 4, 2) := by decide +kernel
theorem dX9_shareOf_46 : decode cX9_shareOf 46 = .ok (.iaload, 1) := by decide +kernel
theorem dX9_shareOf_47 : decode cX9_shareOf 47 = .ok (.invokevirtual 58, 3) := by decide +kernel
theorem dX9_shareOf_50 : decode cX9_shareOf 50 = .ok (.iinc 4 1, 3) := by decide +kernel
theorem dX9_shareOf_53 : decode cX9_shareOf 53 = .ok (.goto (-20), 3) := by decide +kernel
theorem dX9_shareOf_56 : decode cX9_shareOf 56 = .ok (.iload_n 1, 1) := by decide +kernel
theorem dX9_shareOf_57 : decode cX9_shareOf 57 = .ok (.iconst 1, 1) := by decide +kernel
theorem dX9_shareOf_58 : decode cX9_shareOf 58 = .ok (.iadd, 1) := by decide +kernel
theorem dX9_shareOf_59 : decode cX9_shareOf 59 = .ok (.istore 4, 2) := by decide +kernel
theorem dX9_shareOf_61 : decode cX9_shareOf 61 = .ok (.iload 4, 2) := by decide +kernel
theorem dX9_shareOf_63 : decode cX9_shareOf 63 = .ok (.iload_n 2, 1) := by decide +kernel
theorem dX9_shareOf_64 : decode cX9_shareOf 64 = .ok (.if_icmp .ge 20, 3) := by decide +kernel
theorem dX9_shareOf_67 : decode cX9_shareOf 67 = .ok (.aload_n 3, 1) := by decide +kernel
theorem dX9_shareOf_68 : decode cX9_shareOf 68 = .ok (.aload_n 0, 1) := by decide +kernel
theorem dX9_shareOf_69 : decode cX9_shareOf 69 = .ok (.getfield 9, 3) := by decide +kernel
theorem dX9_shareOf_72 : decode cX9_shareOf 72 = .ok (.iload 4, 2) := by decide +kernel
theorem dX9_shareOf_74 : decode cX9_shareOf 74 = .ok (.iaload, 1) := by decide +kernel
theorem dX9_shareOf_75 : decode cX9_shareOf 75 = .ok (.invokevirtual 64, 3) := by decide +kernel
theorem dX9_shareOf_78 : decode cX9_shareOf 78 = .ok (.iinc 4 1, 3) := by decide +kernel
theorem dX9_shareOf_81 : decode cX9_shareOf 81 = .ok (.goto (-20), 3) := by decide +kernel
theorem dX9_shareOf_84 : decode cX9_shareOf 84 = .ok (.aload_n 0, 1) := by decide +kernel
theorem dX9_shareOf_85 : decode cX9_shareOf 85 = .ok (.getfield 20, 3) := by decide +kernel
theorem dX9_shareOf_88 : decode cX9_shareOf 88 = .ok (.aload_n 3, 1) := by decide +kernel
theorem dX9_shareOf_89 : decode cX9_shareOf 89 = .ok (.getfield 67, 3) := by decide +kernel
theorem dX9_shareOf_92 : decode cX9_shareOf 92 = .ok (.aload_n 3, 1) := by decide +kernel
theorem dX9_shareOf_93 : decode cX9_shareOf 93 = .ok (.getfield 70, 3) := by decide +kernel
theorem dX9_shareOf_96 : decode cX9_shareOf 96 = .ok (.invokevirtual 73, 3) := by decide +kernel
theorem dX9_shareOf_99 : decode cX9_shareOf 99 = .ok (.lreturn, 1) := by decide +kernel
theorem dX10_init_0 : decode cX10_init 0 = .ok (.aload_n 0, 1) := by decide +kernel
theorem dX10_init_1 : decode cX10_init 1 = .ok (.invokespecial 1, 3) := by decide +kernel
theorem dX10_init_4 : decode cX10_init 4 = .ok (.aload_n 0, 1) := by decide +kernel
theorem dX10_init_5 : decode cX10_init 5 = .ok (.sipush 700, 3) := by decide +kernel
theorem dX10_init_8 : decode cX10_init 8 = .ok (.newarray .byte, 2) := by decide +kernel
theorem dX10_init_10 : decode cX10_init 10 = .ok (.putfield 9, 3) := by decide +kernel
theorem dX10_init_13 : decode cX10_init 13 = .ok (.aload_n 0, 1) := by decide +kernel
theorem dX10_init_14 : decode cX10_init 14 = .ok (.new 13, 3) := by decide +kernel
theorem dX10_init_17 : decode cX10_init 17 = .ok (.dup, 1) := by decide +kernel
theorem dX10_init_18 : decode cX10_init 18 = .ok (.invokespecial 15, 3) := by decide +kernel
theorem dX10_init_21 : decode cX10_init 21 = .ok (.putfield 16, 3) := by decide +kernel
theorem dX10_init_24 : decode cX10_init 24 = .ok (.aload_n 0, 1) := by decide +kernel
theorem dX10_init_25 : decode cX10_init 25 = .ok (.new 20, 3) := by decide +kernel
theorem dX10_init_28 : decode cX10_init 28 = .ok (.dup, 1) := by decide +kernel
theorem dX10_init_29 : decode cX10_init 29 = .ok (.invokespecial 22, 3) := by decide +kernel
theorem dX10_init_32 : decode cX10_init 32 = .ok (.putfield 23, 3) := by decide +kernel
theorem dX10_init_35 : decode cX10_init 35 = .ok (.aload_n 0, 1) := by decide +kernel
theorem dX10_init_36 : decode cX10_init 36 = .ok (.new 27, 3) := by decide +kernel
theorem dX10_init_39 : decode cX10_init 39 = .ok (.dup, 1) := by decide +kernel
theorem dX10_init_40 : decode cX10_init 40 = .ok (.invokespecial 29, 3) := by decide +kernel
theorem dX10_init_43 : decode cX10_init 43 = .ok (.putfield 30, 3) := by decide +kernel
theorem dX10_init_46 : decode cX10_init 46 = .ok (.aload_n 0, 1) := by decide +kernel
theorem dX10_init_47 : decode cX10_init 47 = .ok (.new 34, 3) := by decide +kernel
theorem dX10_init_50 : decode cX10_init 50 = .ok (.dup, 1) := by decide +kernel
theorem dX10_init_51 : decode cX10_init 51 = .ok (.invokespecial 36, 3) := by decide +kernel
theorem dX10_init_54 : decode cX10_init 54 = .ok (.putfield 37, 3) := by decide +kernel
theorem dX10_init_57 : decode cX10_init 57 = .ok (.aload_n 0, 1) := by decide +kernel
theorem dX10_init_58 : decode cX10_init 58 = .ok (.new 41, 3) := by decide +kernel
theorem dX10_init_61 : decode cX10_init 61 = .ok (.dup, 1) := by decide +kernel
theorem dX10_init_62 : decode cX10_init 62 = .ok (.invokespecial 43, 3) := by decide +kernel
theorem dX10_init_65 : decode cX10_init 65 = .ok (.putfield 44, 3) := by decide +kernel
theorem dX10_init_68 : decode cX10_init 68 = .ok (.aload_n 0, 1) := by decide +kernel
theorem dX10_init_69 : decode cX10_init 69 = .ok (.iconst 4, 1) := by decide +kernel
theorem dX10_init_70 : decode cX10_init 70 = .ok (.anewarray 48, 3) := by decide +kernel
theorem dX10_init_73 : decode cX10_init 73 = .ok (.putfield 50, 3) := by decide +kernel
theorem dX10_init_76 : decode cX10_init 76 = .ok (.aload_n 0, 1) := by decide +kernel
theorem dX10_init_77 : decode cX10_init 77 = .ok (.iconst 2, 1) := by decide +kernel
theorem dX10_init_78 : decode cX10_init 78 = .ok (.anewarray 54, 3) := by decide +kernel
theorem dX10_init_81 : decode cX10_init 81 = .ok (.putfield 56, 3) := by decide +kernel
theorem dX10_init_84 : decode cX10_init 84 = .ok (.new 13, 3) := by decide +kernel
theorem dX10_init_87 : decode cX10_init 87 = .ok (.dup, 1) := by decide +kernel
theorem dX10_init_88 : decode cX10_init 88 = .ok (.invokespecial 15, 3) := by decide +kernel
theorem dX10_init_91 : decode cX10_init 91 = .ok (.astore_n 1, 1) := by decide +kernel
theorem dX10_init_92 : decode cX10_init 92 = .ok (.new 27, 3) := by decide +kernel
theorem dX10_init_95 : decode cX10_init 95 = .ok (.dup, 1) := by decide +kernel
theorem dX10_init_96 : decode cX10_init 96 = .ok (.invokespecial 29, 3) := by decide +kernel
theorem dX10_init_99 : decode cX10_init 99 = .ok (.astore_n 2, 1) := by decide +kernel
theorem dX10_init_100 : decode cX10_init 100 = .ok (.new 60, 3) := by decide +kernel
theorem dX10_init_103 : decode cX10_init 103 = .ok (.dup, 1) := by decide +kernel
theorem dX10_init_104 : decode cX10_init 104 = .ok (.aload_n 1, 1) := by decide +kernel
theorem dX10_init_105 : decode cX10_init 105 = .ok (.aload_n 2, 1) := by decide +kernel
theorem dX10_init_106 : decode cX10_init 106 = .ok (.invokespecial 62, 3) := by decide +kernel
theorem dX10_init_109 : decode cX10_init 109 = .ok (.astore_n 3, 1) := by decide +kernel
theorem dX10_init_110 : decode cX10_init 110 = .ok (.aload_n 0, 1) := by decide +kernel
theorem dX10_init_111 : decode cX10_init 111 = .ok (.aload_n 1, 1) := by decide +kernel
theorem dX10_init_112 : decode cX10_init 112 = .ok (.putfield 65, 3) := by decide +kernel
theorem dX10_init_115 : decode cX10_init 115 = .ok (.aload_n 0, 1) := by decide +kernel
theorem dX10_init_116 : decode cX10_init 116 = .ok (.aload_n 2, 1) := by decide +kernel
theorem dX10_init_117 : decode cX10_init 117 = .ok (.putfield 68, 3) := by decide +kernel
theorem dX10_init_120 : decode cX10_init 120 = .ok (.aload_n 0, 1) := by decide +kernel
theorem dX10_init_121 : decode cX10_init 121 = .ok (.aload_n 3, 1) := by decide +kernel
theorem dX10_init_122 : decode cX10_init 122 = .ok (.putfield 71, 3) := by decide +kernel
theorem dX10_init_125 : decode cX10_init 125 = .ok (.aload_n 0, 1) := by decide +kernel
theorem dX10_init_126 : decode cX10_init 126 = .ok (.new 75, 3) := by decide +kernel
theorem dX10_init_129 : decode cX10_init 129 = .ok (.dup, 1) := by decide +kernel
theorem dX10_init_130 : decode cX10_init 130 = .ok (.aload_n 3, 1) := by decide +kernel
theorem dX10_init_131 : decode cX10_init 131 = .ok (.invokespecial 77, 3) := by decide +kernel
theorem dX10_init_134 : decode cX10_init 134 = .ok (.putfield 80, 3) := by decide +kernel
theorem dX10_init_137 : decode cX10_init 137 = .ok (.iconst 0, 1) := by decide +kernel
theorem dX10_init_138 : decode cX10_init 138 = .ok (.istore 4, 2) := by decide +kernel
theorem dX10_init_140 : decode cX10_init 140 = .ok (.iload 4, 2) := by decide +kernel
theorem dX10_init_142 : decode cX10_init 142 = .ok (.iconst 4, 1) := by decide +kernel
theorem dX10_init_143 : decode cX10_init 143 = .ok (.if_icmp .ge 23, 3) := by decide +kernel
theorem dX10_init_146 : decode cX10_init 146 = .ok (.aload_n 0, 1) := by decide +kernel
theorem dX10_init_147 : decode cX10_init 147 = .ok (.getfield 50, 3) := by decide +kernel
theorem dX10_init_150 : decode cX10_init 150 = .ok (.iload 4, 2) := by decide +kernel
theorem dX10_init_152 : decode cX10_init 152 = .ok (.new 48, 3) := by decide +kernel
theorem dX10_init_155 : decode cX10_init 155 = .ok (.dup, 1) := by decide +kernel
theorem dX10_init_156 : decode cX10_init 156 = .ok (.invokespecial 84, 3) := by decide +kernel
theorem dX10_init_159 : decode cX10_init 159 = .ok (.aastore, 1) := by decide +kernel
theorem dX10_init_160 : decode cX10_init 160 = .ok (.iinc 4 1, 3) := by decide +kernel
theorem dX10_init_163 : decode cX10_init 163 = .ok (.goto (-23), 3) := by decide +kernel
theorem dX10_init_166 : decode cX10_init 166 = .ok (.iconst 0, 1) := by decide +kernel
theorem dX10_init_167 : decode cX10_init 167 = .ok (.istore 4, 2) := by decide +kernel
theorem dX10_init_169 : decode cX10_init 169 = .ok (.iload 4, 2) := by decide +kernel
theorem dX10_init_171 : decode cX10_init 171 = .ok (.iconst 2, 1) := by decide +kernel
theorem dX10_init_172 : decode cX10_init 172 = .ok (.if_icmp .ge 23, 3) := by decide +kernel
theorem dX10_init_175 : decode cX10_init 175 = .ok (.aload_n 0, 1) := by decide +kernel
theorem dX10_init_176 : decode cX10_init 176 = .ok (.getfield 56, 3) := by decide +kernel
theorem dX10_init_179 : decode cX10_init 179 = .ok (.iload 4, 2) := by decide +kernel
theorem dX10_init_181 : decode cX10_init 181 = .ok (.new 54, 3) := by decide +kernel
theorem dX10_init_184 : decode cX10_init 184 = .ok (.dup, 1) := by decide +kernel
theorem dX10_init_185 : decode cX10_init 185 = .ok (.invokespecial 85, 3) := by decide +kernel
theorem dX10_init_188 : decode cX10_init 188 = .ok (.aastore, 1) := by decide +kernel
theorem dX10_init_189 : decode cX10_init 189 = .ok (.iinc 4 1, 3) := by decide +kernel
theorem dX10_init_192 : decode cX10_init 192 = .ok (.goto (-23), 3) := by decide +kernel
theorem dX10_init_195 : decode cX10_init 195 = .ok (.return_, 1) := by decide +kernel
theorem dX10_feed_0 : decode cX10_feed 0 = .ok (.aload_n 0, 1) := by decide +kernel
theorem dX10_feed_1 : decode cX10_feed 1 = .ok (.getfield 86, 3) := by decide +kernel
theorem dX10_feed_4 : decode cX10_feed 4 = .ok (.bipush 20, 2) := by decide +kernel
theorem dX10_feed_6 : decode cX10_feed 6 = .ok (.iadd, 1) := by decide +kernel
theorem dX10_feed_7 : decode cX10_feed 7 = .ok (.sipush 700, 3) := by decide +kernel
theorem dX10_feed_10 : decode cX10_feed 10 = .ok (.if_icmp .le 6, 3) := by decide +kernel
theorem dX10_feed_13 : decode cX10_feed 13 = .ok (.bipush (-5), 2) := by decide +kernel
theorem dX10_feed_15 : decode cX10_feed 15 = .ok (.ireturn, 1) := by decide +kernel
theorem dX10_feed_16 : decode cX10_feed 16 = .ok (.aload_n 0, 1) := by decide +kernel
theorem dX10_feed_17 : decode cX10_feed 17 = .ok (.iload_n 1, 1) := by decide +kernel
theorem dX10_feed_18 : decode cX10_feed 18 = .ok (.invokevirtual 90, 3) := by decide +kernel
theorem dX10_feed_21 : decode cX10_feed 21 = .ok (.aload_n 0, 1) := by decide +kernel
theorem dX10_feed_22 : decode cX10_feed 22 = .ok (.iload_n 2, 1) := by decide +kernel
theorem dX10_feed_23 : decode cX10_feed 23 = .ok (.invokevirtual 90, 3) := by decide +kernel
theorem dX10_feed_26 : decode cX10_feed 26 = .ok (.aload_n 0, 1) := by decide +kernel
theorem dX10_feed_27 : decode cX10_feed 27 = .ok (.iload_n 3, 1) := by decide +kernel
theorem dX10_feed_28 : decode cX10_feed 28 = .ok (.invokevirtual 90, 3) := by decide +kernel
theorem dX10_feed_31 : decode cX10_feed 31 = .ok (.aload_n 0, 1) := by decide +kernel
theorem dX10_feed_32 : decode cX10_feed 32 = .ok (.iload 4, 2) := by decide +kernel
theorem dX10_feed_34 : decode cX10_feed 34 = .ok (.invokevirtual 90, 3) := by decide +kernel
theorem dX10_feed_37 : decode cX10_feed 37 = .ok (.aload_n 0, 1) := by decide +kernel
theorem dX10_feed_38 : decode cX10_feed 38 = .ok (.iload 5, 2) := by decide +kernel
theorem dX10_feed_40 : decode cX10_feed 40 = .ok (.invokevirtual 90, 3) := by decide +kernel
theorem dX10_feed_43 : decode cX10_feed 43 = .ok (.aload_n 0, 1) := by decide +kernel
theorem dX10_feed_44 : decode cX10_feed 44 = .ok (.getfield 86, 3) := by decide +kernel
theorem dX10_feed_47 : decode cX10_feed 47 = .ok (.ireturn, 1) := by decide +kernel
theorem dX10_tapeInt_0 : decode cX10_tapeInt 0 = .ok (.bipush 24, 2) := by decide +kernel
theorem dX10_tapeInt_2 : decode cX10_tapeInt 2 = .ok (.istore_n 2, 1) := by decide +kernel
theorem dX10_tapeInt_3 : decode cX10_tapeInt 3 = .ok (.iload_n 2, 1) := by decide +kernel
theorem dX10_tapeInt_4 : decode cX10_tapeInt 4 = .ok (.ifCond .lt 42, 3) := by decide +kernel
theorem dX10_tapeInt_7 : decode cX10_tapeInt 7 = .ok (.aload_n 0, 1) := by decide +kernel
theorem dX10_tapeInt_8 : decode cX10_tapeInt 8 = .ok (.getfield 86, 3) := by decide +kernel
theorem dX10_tapeInt_11 : decode cX10_tapeInt 11 = .ok (.sipush 700, 3) := by decide +kernel
theorem dX10_tapeInt_14 : decode cX10_tapeInt 14 = .ok (.if_icmp .ge 32, 3) := by decide +kernel
theorem dX10_tapeInt_17 : decode cX10_tapeInt 17 = .ok (.aload_n 0, 1) := by decide +kernel
theorem dX10_tapeInt_18 : decode cX10_tapeInt 18 = .ok (.getfield 9, 3) := by decide +kernel
theorem dX10_tapeInt_21 : decode cX10_tapeInt 21 = .ok (.aload_n 0, 1) := by decide +kernel
theorem dX10_tapeInt_22 : decode cX10_tapeInt 22 = .ok (.getfield 86, 3) := by decide +kernel
theorem dX10_tapeInt_25 : decode cX10_tapeInt 25 = .ok (.iload_n 1, 1) := by decide +kernel
theorem dX10_tapeInt_26 : decode cX10_tapeInt 26 = .ok (.iload_n 2, 1) := by decide +kernel
theorem dX10_tapeInt_27 : decode cX10_tapeInt 27 = .ok (.iushr, 1) := by decide +kernel
theorem dX10_tapeInt_28 : decode cX10_tapeInt 28 = .ok (.i2b, 1) := by decide +kernel
theorem dX10_tapeInt_29 : decode cX10_tapeInt 29 = .ok (.bastore, 1) := by decide +kernel
theorem dX10_tapeInt_30 : decode cX10_tapeInt 30 = .ok (.aload_n 0, 1) := by decide +kernel
theorem dX10_tapeInt_31 : decode cX10_tapeInt 31 = .ok (.dup, 1) := by decide +kernel
theorem dX10_tapeInt_32 : decode cX10_tapeInt 32 = .ok (.getfield 86, 3) := by decide +kernel
theorem dX10_tapeInt_35 : decode cX10_tapeInt 35 = .ok (.iconst 1, 1) := by decide +kernel
theorem dX10_tapeInt_36 : decode cX10_tapeInt 36 = .ok (.iadd, 1) := by decide +kernel
theorem dX10_tapeInt_37 : decode cX10_tapeInt 37 = .ok (.putfield 86, 3) := by decide +kernel
theorem dX10_tapeInt_40 : decode cX10_tapeInt 40 = .ok (.iinc 2 (-8), 3) := by decide +kernel
theorem dX10_tapeInt_43 : decode cX10_tapeInt 43 = .ok (.goto (-40), 3) := by decide +kernel
theorem dX10_tapeInt_46 : decode cX10_tapeInt 46 = .ok (.return_, 1) := by decide +kernel
theorem dX10_fete_0 : decode cX10_fete 0 = .ok (.iload_n 1, 1) := by decide +kernel
theorem dX10_fete_1 : decode cX10_fete 1 = .ok (.ifCond .lt 11, 3) := by decide +kernel
theorem dX10_fete_4 : decode cX10_fete 4 = .ok (.iload_n 1, 1) := by decide +kernel
theorem dX10_fete_5 : decode cX10_fete 5 = .ok (.aload_n 0, 1) := by decide +kernel
theorem dX10_fete_6 : decode cX10_fete 6 = .ok (.getfield 86, 3) := by decide +kernel
theorem dX10_fete_9 : decode cX10_fete 9 = .ok (.if_icmp .le 6, 3) := by decide +kernel
theorem dX10_fete_12 : decode cX10_fete 12 = .ok (.bipush (-3), 2) := by decide +kernel
theorem dX10_fete_14 : decode cX10_fete 14 = .ok (.ireturn, 1) := by decide +kernel
theorem dX10_fete_15 : decode cX10_fete 15 = .ok (.aload_n 0, 1) := by decide +kernel
theorem dX10_fete_16 : decode cX10_fete 16 = .ok (.iconst 0, 1) := by decide +kernel
theorem dX10_fete_17 : decode cX10_fete 17 = .ok (.putfield 86, 3) := by decide +kernel
theorem dX10_fete_20 : decode cX10_fete 20 = .ok (.aload_n 0, 1) := by decide +kernel
theorem dX10_fete_21 : decode cX10_fete 21 = .ok (.getfield 23, 3) := by decide +kernel
theorem dX10_fete_24 : decode cX10_fete 24 = .ok (.aload_n 0, 1) := by decide +kernel
theorem dX10_fete_25 : decode cX10_fete 25 = .ok (.getfield 9, 3) := by decide +kernel
theorem dX10_fete_28 : decode cX10_fete 28 = .ok (.iload_n 1, 1) := by decide +kernel
theorem dX10_fete_29 : decode cX10_fete 29 = .ok (.aload_n 0, 1) := by decide +kernel
theorem dX10_fete_30 : decode cX10_fete 30 = .ok (.getfield 16, 3) := by decide +kernel
theorem dX10_fete_33 : decode cX10_fete 33 = .ok (.invokevirtual 94, 3) := by decide +kernel
theorem dX10_fete_36 : decode cX10_fete 36 = .ok (.aload_n 0, 1) := by decide +kernel
theorem dX10_fete_37 : decode cX10_fete 37 = .ok (.getfield 23, 3) := by decide +kernel
theorem dX10_fete_40 : decode cX10_fete 40 = .ok (.getfield 98, 3) := by decide +kernel
theorem dX10_fete_43 : decode cX10_fete 43 = .ok (.ifCond .eq 14, 3) := by decide +kernel
theorem dX10_fete_46 : decode cX10_fete 46 = .ok (.bipush (-30), 2) := by decide +kernel
theorem dX10_fete_48 : decode cX10_fete 48 = .ok (.aload_n 0, 1) := by decide +kernel
theorem dX10_fete_49 : decode cX10_fete 49 = .ok (.getfield 23, 3) := by decide +kernel
theorem dX10_fete_52 : decode cX10_fete 52 = .ok (.getfield 98, 3) := by decide +kernel
theorem dX10_fete_55 : decode cX10_fete 55 = .ok (.isub, 1) := by decide +kernel
theorem dX10_fete_56 : decode cX10_fete 56 = .ok (.ireturn, 1) := by decide +kernel
theorem dX10_fete_57 : decode cX10_fete 57 = .ok (.aload_n 0, 1) := by decide +kernel
theorem dX10_fete_58 : decode cX10_fete 58 = .ok (.getfield 65, 3) := by decide +kernel
theorem dX10_fete_61 : decode cX10_fete 61 = .ok (.aload_n 0, 1) := by decide +kernel
theorem dX10_fete_62 : decode cX10_fete 62 = .ok (.getfield 16, 3) := by decide +kernel
theorem dX10_fete_65 : decode cX10_fete 65 = .ok (.invokevirtual 101, 3) := by decide +kernel
theorem dX10_fete_68 : decode cX10_fete 68 = .ok (.aload_n 0, 1) := by decide +kernel
theorem dX10_fete_69 : decode cX10_fete 69 = .ok (.getfield 68, 3) := by decide +kernel
theorem dX10_fete_72 : decode cX10_fete 72 = .ok (.iconst 0, 1) := by decide +kernel
theorem dX10_fete_73 : decode cX10_fete 73 = .ok (.invokevirtual 105, 3) := by decide +kernel
theorem dX10_fete_76 : decode cX10_fete 76 = .ok (.aload_n 0, 1) := by decide +kernel
theorem dX10_fete_77 : decode cX10_fete 77 = .ok (.getfield 65, 3) := by decide +kernel
theorem dX10_fete_80 : decode cX10_fete 80 = .ok (.getfield 108, 3) := by decide +kernel
theorem dX10_fete_83 : decode cX10_fete 83 = .ok (.ireturn, 1) := by decide +kernel
theorem dX10_fault_0 : decode cX10_fault 0 = .ok (.iload_n 1, 1) := by decide +kernel
theorem dX10_fault_1 : decode cX10_fault 1 = .ok (.lookupswitch 43 #[(0, 27), (1, 35)], 27) := by decide +kernel
theorem dX10_fault_28 : decode cX10_fault 28 = .ok (.aload_n 0, 1) := by decide +kernel
theorem dX10_fault_29 : decode cX10_fault 29 = .ok (.getfield 23, 3) := by decide +kernel
theorem dX10_fault_32 : decode cX10_fault 32 = .ok (.getfield 98, 3) := by decide +kernel
theorem dX10_fault_35 : decode cX10_fault 35 = .ok (.ireturn, 1) := by decide +kernel
theorem dX10_fault_36 : decode cX10_fault 36 = .ok (.aload_n 0, 1) := by decide +kernel
theorem dX10_fault_37 : decode cX10_fault 37 = .ok (.getfield 23, 3) := by decide +kernel
theorem dX10_fault_40 : decode cX10_fault 40 = .ok (.getfield 111, 3) := by decide +kernel
theorem dX10_fault_43 : decode cX10_fault 43 = .ok (.ireturn, 1) := by decide +kernel
theorem dX10_fault_44 : decode cX10_fault 44 = .ok (.iconst (-1), 1) := by decide +kernel
theorem dX10_fault_45 : decode cX10_fault 45 = .ok (.ireturn, 1) := by decide +kernel
theorem dX10_guesser_0 : decode cX10_guesser 0 = .ok (.aload_n 0, 1) := by decide +kernel
theorem dX10_guesser_1 : decode cX10_guesser 1 = .ok (.getfield 65, 3) := by decide +kernel
theorem dX10_guesser_4 : decode cX10_guesser 4 = .ok (.iload_n 1, 1) := by decide +kernel
theorem dX10_guesser_5 : decode cX10_guesser 5 = .ok (.invokevirtual 114, 3) := by decide +kernel
theorem dX10_guesser_8 : decode cX10_guesser 8 = .ok (.ifCond .ne 6, 3) := by decide +kernel
theorem dX10_guesser_11 : decode cX10_guesser 11 = .ok (.bipush (-2), 2) := by decide +kernel
theorem dX10_guesser_13 : decode cX10_guesser 13 = .ok (.ireturn, 1) := by decide +kernel
theorem dX10_guesser_14 : decode cX10_guesser 14 = .ok (.iload_n 2, 1) := by decide +kernel
theorem dX10_guesser_15 : decode cX10_guesser 15 = .ok (.tableswitch 81 0 4 #[33, 43, 53, 63, 72], 33) := by decide +kernel
theorem dX10_guesser_48 : decode cX10_guesser 48 = .ok (.aload_n 0, 1) := by decide +kernel
theorem dX10_guesser_49 : decode cX10_guesser 49 = .ok (.getfield 65, 3) := by decide +kernel
theorem dX10_guesser_52 : decode cX10_guesser 52 = .ok (.getfield 118, 3) := by decide +kernel
theorem dX10_guesser_55 : decode cX10_guesser 55 = .ok (.iload_n 1, 1) := by decide +kernel
theorem dX10_guesser_56 : decode cX10_guesser 56 = .ok (.iaload, 1) := by decide +kernel
theorem dX10_guesser_57 : decode cX10_guesser 57 = .ok (.ireturn, 1) := by decide +kernel
theorem dX10_guesser_58 : decode cX10_guesser 58 = .ok (.aload_n 0, 1) := by decide +kernel
theorem dX10_guesser_59 : decode cX10_guesser 59 = .ok (.getfield 65, 3) := by decide +kernel
theorem dX10_guesser_62 : decode cX10_guesser 62 = .ok (.getfield 122, 3) := by decide +kernel
theorem dX10_guesser_65 : decode cX10_guesser 65 = .ok (.iload_n 1, 1) := by decide +kernel
theorem dX10_guesser_66 : decode cX10_guesser 66 = .ok (.iaload, 1) := by decide +kernel
theorem dX10_guesser_67 : decode cX10_guesser 67 = .ok (.ireturn, 1) := by decide +kernel
theorem dX10_guesser_68 : decode cX10_guesser 68 = .ok (.aload_n 0, 1) := by decide +kernel
theorem dX10_guesser_69 : decode cX10_guesser 69 = .ok (.getfield 65, 3) := by decide +kernel
theorem dX10_guesser_72 : decode cX10_guesser 72 = .ok (.getfield 125, 3) := by decide +kernel
theorem dX10_guesser_75 : decode cX10_guesser 75 = .ok (.iload_n 1, 1) := by decide +kernel
theorem dX10_guesser_76 : decode cX10_guesser 76 = .ok (.iaload, 1) := by decide +kernel
theorem dX10_guesser_77 : decode cX10_guesser 77 = .ok (.ireturn, 1) := by decide +kernel
theorem dX10_guesser_78 : decode cX10_guesser 78 = .ok (.aload_n 0, 1) := by decide +kernel
theorem dX10_guesser_79 : decode cX10_guesser 79 = .ok (.getfield 68, 3) := by decide +kernel
theorem dX10_guesser_82 : decode cX10_guesser 82 = .ok (.iload_n 1, 1) := by decide +kernel
theorem dX10_guesser_83 : decode cX10_guesser 83 = .ok (.invokevirtual 128, 3) := by decide +kernel
theorem dX10_guesser_86 : decode cX10_guesser 86 = .ok (.ireturn, 1) := by decide +kernel
theorem dX10_guesser_87 : decode cX10_guesser 87 = .ok (.aload_n 0, 1) := by decide +kernel
theorem dX10_guesser_88 : decode cX10_guesser 88 = .ok (.getfield 68, 3) := by decide +kernel
theorem dX10_guesser_91 : decode cX10_guesser 91 = .ok (.iload_n 1, 1) := by decide +kernel
theorem dX10_guesser_92 : decode cX10_guesser 92 = .ok (.invokevirtual 132, 3) := by decide +kernel
theorem dX10_guesser_95 : decode cX10_guesser 95 = .ok (.ireturn, 1) := by decide +kernel
theorem dX10_guesser_96 : decode cX10_guesser 96 = .ok (.bipush (-2), 2) := by decide +kernel
theorem dX10_guesser_98 : decode cX10_guesser 98 = .ok (.ireturn, 1) := by decide +kernel
theorem dX10_sight_0 : decode cX10_sight 0 = .ok (.aload_n 0, 1) := by decide +kernel
theorem dX10_sight_1 : decode cX10_sight 1 = .ok (.getfield 65, 3) := by decide +kernel
theorem dX10_sight_4 : decode cX10_sight 4 = .ok (.iload_n 1, 1) := by decide +kernel
theorem dX10_sight_5 : decode cX10_sight 5 = .ok (.invokevirtual 114, 3) := by decide +kernel
theorem dX10_sight_8 : decode cX10_sight 8 = .ok (.ifCond .ne 6, 3) := by decide +kernel
theorem dX10_sight_11 : decode cX10_sight 11 = .ok (.bipush (-2), 2) := by decide +kernel
theorem dX10_sight_13 : decode cX10_sight 13 = .ok (.ireturn, 1) := by decide +kernel
theorem dX10_sight_14 : decode cX10_sight 14 = .ok (.iload_n 2, 1) := by decide +kernel
theorem dX10_sight_15 : decode cX10_sight 15 = .ok (.invokestatic 135, 3) := by decide +kernel
theorem dX10_sight_18 : decode cX10_sight 18 = .ok (.ifCond .eq 15, 3) := by decide +kernel
theorem dX10_sight_21 : decode cX10_sight 21 = .ok (.aload_n 0, 1) := by decide +kernel
theorem dX10_sight_22 : decode cX10_sight 22 = .ok (.getfield 65, 3) := by decide +kernel
theorem dX10_sight_25 : decode cX10_sight 25 = .ok (.iload_n 1, 1) := by decide +kernel
theorem dX10_sight_26 : decode cX10_sight 26 = .ok (.iload_n 2, 1) := by decide +kernel
theorem dX10_sight_27 : decode cX10_sight 27 = .ok (.invokevirtual 138, 3) := by decide +kernel
theorem dX10_sight_30 : decode cX10_sight 30 = .ok (.goto 5, 3) := by decide +kernel
theorem dX10_sight_33 : decode cX10_sight 33 = .ok (.bipush (-3), 2) := by decide +kernel
theorem dX10_sight_35 : decode cX10_sight 35 = .ok (.ireturn, 1) := by decide +kernel
theorem dX10_weight_0 : decode cX10_weight 0 = .ok (.aload_n 0, 1) := by decide +kernel
theorem dX10_weight_1 : decode cX10_weight 1 = .ok (.getfield 65, 3) := by decide +kernel
theorem dX10_weight_4 : decode cX10_weight 4 = .ok (.iload_n 1, 1) := by decide +kernel
theorem dX10_weight_5 : decode cX10_weight 5 = .ok (.invokevirtual 142, 3) := by decide +kernel
theorem dX10_weight_8 : decode cX10_weight 8 = .ok (.ifCond .eq 14, 3) := by decide +kernel
theorem dX10_weight_11 : decode cX10_weight 11 = .ok (.aload_n 0, 1) := by decide +kernel
theorem dX10_weight_12 : decode cX10_weight 12 = .ok (.getfield 65, 3) := by decide +kernel
theorem dX10_weight_15 : decode cX10_weight 15 = .ok (.iload_n 1, 1) := by decide +kernel
theorem dX10_weight_16 : decode cX10_weight 16 = .ok (.invokevirtual 145, 3) := by decide +kernel
theorem dX10_weight_19 : decode cX10_weight 19 = .ok (.goto 5, 3) := by decide +kernel
theorem dX10_weight_22 : decode cX10_weight 22 = .ok (.bipush (-3), 2) := by decide +kernel
theorem dX10_weight_24 : decode cX10_weight 24 = .ok (.ireturn, 1) := by decide +kernel
theorem dX10_jar_0 : decode cX10_jar 0 = .ok (.iload_n 1, 1) := by decide +kernel
theorem dX10_jar_1 : decode cX10_jar 1 = .ok (.ifCond .eq 13, 3) := by decide +kernel
theorem dX10_jar_4 : decode cX10_jar 4 = .ok (.iload_n 1, 1) := by decide +kernel
theorem dX10_jar_5 : decode cX10_jar 5 = .ok (.invokestatic 135, 3) := by decide +kernel
theorem dX10_jar_8 : decode cX10_jar 8 = .ok (.ifCond .ne 6, 3) := by decide +kernel
theorem dX10_jar_11 : decode cX10_jar 11 = .ok (.bipush (-3), 2) := by decide +kernel
theorem dX10_jar_13 : decode cX10_jar 13 = .ok (.ireturn, 1) := by decide +kernel
theorem dX10_jar_14 : decode cX10_jar 14 = .ok (.aload_n 0, 1) := by decide +kernel
theorem dX10_jar_15 : decode cX10_jar 15 = .ok (.getfield 65, 3) := by decide +kernel
theorem dX10_jar_18 : decode cX10_jar 18 = .ok (.getfield 148, 3) := by decide +kernel
theorem dX10_jar_21 : decode cX10_jar 21 = .ok (.istore_n 2, 1) := by decide +kernel
theorem dX10_jar_22 : decode cX10_jar 22 = .ok (.aload_n 0, 1) := by decide +kernel
theorem dX10_jar_23 : decode cX10_jar 23 = .ok (.getfield 65, 3) := by decide +kernel
theorem dX10_jar_26 : decode cX10_jar 26 = .ok (.iload_n 1, 1) := by decide +kernel
theorem dX10_jar_27 : decode cX10_jar 27 = .ok (.putfield 148, 3) := by decide +kernel
theorem dX10_jar_30 : decode cX10_jar 30 = .ok (.iload_n 2, 1) := by decide +kernel
theorem dX10_jar_31 : decode cX10_jar 31 = .ok (.ireturn, 1) := by decide +kernel
theorem dX10_isJar_0 : decode cX10_isJar 0 = .ok (.iload_n 0, 1) := by decide +kernel
theorem dX10_isJar_1 : decode cX10_isJar 1 = .ok (.iconst 1, 1) := by decide +kernel
theorem dX10_isJar_2 : decode cX10_isJar 2 = .ok (.if_icmp .lt 14, 3) := by decide +kernel
theorem dX10_isJar_5 : decode cX10_isJar 5 = .ok (.iload_n 0, 1) := by decide +kernel
theorem dX10_isJar_6 : decode cX10_isJar 6 = .ok (.sipush 999, 3) := by decide +kernel
theorem dX10_isJar_9 : decode cX10_isJar 9 = .ok (.if_icmp .gt 7, 3) := by decide +kernel
theorem dX10_isJar_12 : decode cX10_isJar 12 = .ok (.iconst 1, 1) := by decide +kernel
theorem dX10_isJar_13 : decode cX10_isJar 13 = .ok (.goto 4, 3) := by decide +kernel
theorem dX10_isJar_16 : decode cX10_isJar 16 = .ok (.iconst 0, 1) := by decide +kernel
theorem dX10_isJar_17 : decode cX10_isJar 17 = .ok (.ireturn, 1) := by decide +kernel
theorem dX10_isNumber_0 : decode cX10_isNumber 0 = .ok (.iload_n 0, 1) := by decide +kernel
theorem dX10_isNumber_1 : decode cX10_isNumber 1 = .ok (.ifCond .lt 14, 3) := by decide +kernel
theorem dX10_isNumber_4 : decode cX10_isNumber 4 = .ok (.iload_n 0, 1) := by decide +kernel
theorem dX10_isNumber_5 : decode cX10_isNumber 5 = .ok (.sipush 2000, 3) := by decide +kernel
theorem dX10_isNumber_8 : decode cX10_isNumber 8 = .ok (.if_icmp .gt 7, 3) := by decide +kernel
theorem dX10_isNumber_11 : decode cX10_isNumber 11 = .ok (.iconst 1, 1) := by decide +kernel
theorem dX10_isNumber_12 : decode cX10_isNumber 12 = .ok (.goto 4, 3) := by decide +kernel
theorem dX10_isNumber_15 : decode cX10_isNumber 15 = .ok (.iconst 0, 1) := by decide +kernel
theorem dX10_isNumber_16 : decode cX10_isNumber 16 = .ok (.ireturn, 1) := by decide +kernel
theorem dX10_write_0 : decode cX10_write 0 = .ok (.aload_n 0, 1) := by decide +kernel
theorem dX10_write_1 : decode cX10_write 1 = .ok (.getfield 65, 3) := by decide +kernel
theorem dX10_write_4 : decode cX10_write 4 = .ok (.iload_n 1, 1) := by decide +kernel
theorem dX10_write_5 : decode cX10_write 5 = .ok (.invokevirtual 114, 3) := by decide +kernel
theorem dX10_write_8 : decode cX10_write 8 = .ok (.ifCond .ne 6, 3) := by decide +kernel
theorem dX10_write_11 : decode cX10_write 11 = .ok (.bipush (-2), 2) := by decide +kernel
theorem dX10_write_13 : decode cX10_write 13 = .ok (.ireturn, 1) := by decide +kernel
theorem dX10_write_14 : decode cX10_write 14 = .ok (.iload_n 2, 1) := by decide +kernel
theorem dX10_write_15 : decode cX10_write 15 = .ok (.invokestatic 151, 3) := by decide +kernel
theorem dX10_write_18 : decode cX10_write 18 = .ok (.ifCond .ne 6, 3) := by decide +kernel
theorem dX10_write_21 : decode cX10_write 21 = .ok (.bipush (-3), 2) := by decide +kernel
theorem dX10_write_23 : decode cX10_write 23 = .ok (.ireturn, 1) := by decide +kernel
theorem dX10_write_24 : decode cX10_write 24 = .ok (.aload_n 0, 1) := by decide +kernel
theorem dX10_write_25 : decode cX10_write 25 = .ok (.getfield 68, 3) := by decide +kernel
theorem dX10_write_28 : decode cX10_write 28 = .ok (.getfield 154, 3) := by decide +kernel
theorem dX10_write_31 : decode cX10_write 31 = .ok (.bipush 40, 2) := by decide +kernel
theorem dX10_write_33 : decode cX10_write 33 = .ok (.if_icmp .lt 6, 3) := by decide +kernel
theorem dX10_write_36 : decode cX10_write 36 = .ok (.bipush (-4), 2) := by decide +kernel
theorem dX10_write_38 : decode cX10_write 38 = .ok (.ireturn, 1) := by decide +kernel
theorem dX10_write_39 : decode cX10_write 39 = .ok (.aload_n 0, 1) := by decide +kernel
theorem dX10_write_40 : decode cX10_write 40 = .ok (.getfield 68, 3) := by decide +kernel
theorem dX10_write_43 : decode cX10_write 43 = .ok (.iload_n 1, 1) := by decide +kernel
theorem dX10_write_44 : decode cX10_write 44 = .ok (.iload_n 2, 1) := by decide +kernel
theorem dX10_write_45 : decode cX10_write 45 = .ok (.invokevirtual 157, 3) := by decide +kernel
theorem dX10_write_48 : decode cX10_write 48 = .ok (.aload_n 0, 1) := by decide +kernel
theorem dX10_write_49 : decode cX10_write 49 = .ok (.getfield 68, 3) := by decide +kernel
theorem dX10_write_52 : decode cX10_write 52 = .ok (.getfield 154, 3) := by decide +kernel
theorem dX10_write_55 : decode cX10_write 55 = .ok (.ireturn, 1) := by decide +kernel
theorem dX10_strike_0 : decode cX10_strike 0 = .ok (.iload_n 1, 1) := by decide +kernel
theorem dX10_strike_1 : decode cX10_strike 1 = .ok (.ifCond .lt 14, 3) := by decide +kernel
theorem dX10_strike_4 : decode cX10_strike 4 = .ok (.iload_n 1, 1) := by decide +kernel
theorem dX10_strike_5 : decode cX10_strike 5 = .ok (.aload_n 0, 1) := by decide +kernel
theorem dX10_strike_6 : decode cX10_strike 6 = .ok (.getfield 68, 3) := by decide +kernel
theorem dX10_strike_9 : decode cX10_strike 9 = .ok (.getfield 154, 3) := by decide +kernel
theorem dX10_strike_12 : decode cX10_strike 12 = .ok (.if_icmp .le 6, 3) := by decide +kernel
theorem dX10_strike_15 : decode cX10_strike 15 = .ok (.bipush (-3), 2) := by decide +kernel
theorem dX10_strike_17 : decode cX10_strike 17 = .ok (.ireturn, 1) := by decide +kernel
theorem dX10_strike_18 : decode cX10_strike 18 = .ok (.aload_n 0, 1) := by decide +kernel
theorem dX10_strike_19 : decode cX10_strike 19 = .ok (.getfield 68, 3) := by decide +kernel
theorem dX10_strike_22 : decode cX10_strike 22 = .ok (.aload_n 0, 1) := by decide +kernel
theorem dX10_strike_23 : decode cX10_strike 23 = .ok (.getfield 68, 3) := by decide +kernel
theorem dX10_strike_26 : decode cX10_strike 26 = .ok (.getfield 154, 3) := by decide +kernel
theorem dX10_strike_29 : decode cX10_strike 29 = .ok (.iload_n 1, 1) := by decide +kernel
theorem dX10_strike_30 : decode cX10_strike 30 = .ok (.isub, 1) := by decide +kernel
theorem dX10_strike_31 : decode cX10_strike 31 = .ok (.invokevirtual 105, 3) := by decide +kernel
theorem dX10_strike_34 : decode cX10_strike 34 = .ok (.aload_n 0, 1) := by decide +kernel
theorem dX10_strike_35 : decode cX10_strike 35 = .ok (.getfield 68, 3) := by decide +kernel
theorem dX10_strike_38 : decode cX10_strike 38 = .ok (.getfield 154, 3) := by decide +kernel
theorem dX10_strike_41 : decode cX10_strike 41 = .ok (.ireturn, 1) := by decide +kernel
theorem dX10_list_0 : decode cX10_list 0 = .ok (.aload_n 0, 1) := by decide +kernel
theorem dX10_list_1 : decode cX10_list 1 = .ok (.getfield 68, 3) := by decide +kernel
theorem dX10_list_4 : decode cX10_list 4 = .ok (.iload_n 1, 1) := by decide +kernel
theorem dX10_list_5 : decode cX10_list 5 = .ok (.invokevirtual 161, 3) := by decide +kernel
theorem dX10_list_8 : decode cX10_list 8 = .ok (.ifCond .ne 6, 3) := by decide +kernel
theorem dX10_list_11 : decode cX10_list 11 = .ok (.bipush (-2), 2) := by decide +kernel
theorem dX10_list_13 : decode cX10_list 13 = .ok (.ireturn, 1) := by decide +kernel
theorem dX10_list_14 : decode cX10_list 14 = .ok (.iload_n 2, 1) := by decide +kernel
theorem dX10_list_15 : decode cX10_list 15 = .ok (.tableswitch 114 0 4 #[33, 43, 53, 69, 97], 33) := by decide +kernel
theorem dX10_list_48 : decode cX10_list 48 = .ok (.aload_n 0, 1) := by decide +kernel
theorem dX10_list_49 : decode cX10_list 49 = .ok (.getfield 68, 3) := by decide +kernel
theorem dX10_list_52 : decode cX10_list 52 = .ok (.getfield 162, 3) := by decide +kernel
theorem dX10_list_55 : decode cX10_list 55 = .ok (.iload_n 1, 1) := by decide +kernel
theorem dX10_list_56 : decode cX10_list 56 = .ok (.iaload, 1) := by decide +kernel
theorem dX10_list_57 : decode cX10_list 57 = .ok (.ireturn, 1) := by decide +kernel
theorem dX10_list_58 : decode cX10_list 58 = .ok (.aload_n 0, 1) := by decide +kernel
theorem dX10_list_59 : decode cX10_list 59 = .ok (.getfield 68, 3) := by decide +kernel
theorem dX10_list_62 : decode cX10_list 62 = .ok (.getfield 165, 3) := by decide +kernel
theorem dX10_list_65 : decode cX10_list 65 = .ok (.iload_n 1, 1) := by decide +kernel
theorem dX10_list_66 : decode cX10_list 66 = .ok (.iaload, 1) := by decide +kernel
theorem dX10_list_67 : decode cX10_list 67 = .ok (.ireturn, 1) := by decide +kernel
theorem dX10_list_68 : decode cX10_list 68 = .ok (.aload_n 0, 1) := by decide +kernel
theorem dX10_list_69 : decode cX10_list 69 = .ok (.getfield 68, 3) := by decide +kernel
theorem dX10_list_72 : decode cX10_list 72 = .ok (.iload_n 1, 1) := by decide +kernel
theorem dX10_list_73 : decode cX10_list 73 = .ok (.aload_n 0, 1) := by decide +kernel
theorem dX10_list_74 : decode cX10_list 74 = .ok (.getfield 65, 3) := by decide +kernel
theorem dX10_list_77 : decode cX10_list 77 = .ok (.getfield 168, 3) := by decide +kernel
theorem dX10_list_80 : decode cX10_list 80 = .ok (.invokevirtual 172, 3) := by decide +kernel
theorem dX10_list_83 : decode cX10_list 83 = .ok (.ireturn, 1) := by decide +kernel
theorem dX10_list_84 : decode cX10_list 84 = .ok (.aload_n 0, 1) := by decide +kernel
theorem dX10_list_85 : decode cX10_list 85 = .ok (.getfield 65, 3) := by decide +kernel
theorem dX10_list_88 : decode cX10_list 88 = .ok (.getfield 148, 3) := by decide +kernel
theorem dX10_list_91 : decode cX10_list 91 = .ok (.ifCond .ne 7, 3) := by decide +kernel
theorem dX10_list_94 : decode cX10_list 94 = .ok (.iconst (-1), 1) := by decide +kernel
theorem dX10_list_95 : decode cX10_list 95 = .ok (.goto 16, 3) := by decide +kernel
theorem dX10_list_98 : decode cX10_list 98 = .ok (.aload_n 0, 1) := by decide +kernel
theorem dX10_list_99 : decode cX10_list 99 = .ok (.aload_n 0, 1) := by decide +kernel
theorem dX10_list_100 : decode cX10_list 100 = .ok (.getfield 68, 3) := by decide +kernel
theorem dX10_list_103 : decode cX10_list 103 = .ok (.getfield 162, 3) := by decide +kernel
theorem dX10_list_106 : decode cX10_list 106 = .ok (.iload_n 1, 1) := by decide +kernel
theorem dX10_list_107 : decode cX10_list 107 = .ok (.iaload, 1) := by decide +kernel
theorem dX10_list_108 : decode cX10_list 108 = .ok (.invokevirtual 176, 3) := by decide +kernel
theorem dX10_list_111 : decode cX10_list 111 = .ok (.ireturn, 1) := by decide +kernel
theorem dX10_list_112 : decode cX10_list 112 = .ok (.aload_n 0, 1) := by decide +kernel
theorem dX10_list_113 : decode cX10_list 113 = .ok (.getfield 68, 3) := by decide +kernel
theorem dX10_list_116 : decode cX10_list 116 = .ok (.aload_n 0, 1) := by decide +kernel
theorem dX10_list_117 : decode cX10_list 117 = .ok (.getfield 68, 3) := by decide +kernel
theorem dX10_list_120 : decode cX10_list 120 = .ok (.getfield 162, 3) := by decide +kernel
theorem dX10_list_123 : decode cX10_list 123 = .ok (.iload_n 1, 1) := by decide +kernel
theorem dX10_list_124 : decode cX10_list 124 = .ok (.iaload, 1) := by decide +kernel
theorem dX10_list_125 : decode cX10_list 125 = .ok (.invokevirtual 179, 3) := by decide +kernel
theorem dX10_list_128 : decode cX10_list 128 = .ok (.ireturn, 1) := by decide +kernel
theorem dX10_list_129 : decode cX10_list 129 = .ok (.bipush (-2), 2) := by decide +kernel
theorem dX10_list_131 : decode cX10_list 131 = .ok (.ireturn, 1) := by decide +kernel
theorem dX10_offJar_0 : decode cX10_offJar 0 = .ok (.iload_n 1, 1) := by decide +kernel
theorem dX10_offJar_1 : decode cX10_offJar 1 = .ok (.aload_n 0, 1) := by decide +kernel
theorem dX10_offJar_2 : decode cX10_offJar 2 = .ok (.getfield 65, 3) := by decide +kernel
theorem dX10_offJar_5 : decode cX10_offJar 5 = .ok (.getfield 148, 3) := by decide +kernel
theorem dX10_offJar_8 : decode cX10_offJar 8 = .ok (.isub, 1) := by decide +kernel
theorem dX10_offJar_9 : decode cX10_offJar 9 = .ok (.invokestatic 182, 3) := by decide +kernel
theorem dX10_offJar_12 : decode cX10_offJar 12 = .ok (.ireturn, 1) := by decide +kernel
theorem dX10_judge_0 : decode cX10_judge 0 = .ok (.iload_n 1, 1) := by decide +kernel
theorem dX10_judge_1 : decode cX10_judge 1 = .ok (.invokestatic 187, 3) := by decide +kernel
theorem dX10_judge_4 : decode cX10_judge 4 = .ok (.ifCond .eq 12, 3) := by decide +kernel
theorem dX10_judge_7 : decode cX10_judge 7 = .ok (.iload_n 2, 1) := by decide +kernel
theorem dX10_judge_8 : decode cX10_judge 8 = .ok (.ifCond .lt 8, 3) := by decide +kernel
theorem dX10_judge_11 : decode cX10_judge 11 = .ok (.iload_n 2, 1) := by decide +kernel
theorem dX10_judge_12 : decode cX10_judge 12 = .ok (.iconst 2, 1) := by decide +kernel
theorem dX10_judge_13 : decode cX10_judge 13 = .ok (.if_icmp .le 6, 3) := by decide +kernel
theorem dX10_judge_16 : decode cX10_judge 16 = .ok (.bipush (-2), 2) := by decide +kernel
theorem dX10_judge_18 : decode cX10_judge 18 = .ok (.ireturn, 1) := by decide +kernel
theorem dX10_judge_19 : decode cX10_judge 19 = .ok (.aload_n 0, 1) := by decide +kernel
theorem dX10_judge_20 : decode cX10_judge 20 = .ok (.getfield 50, 3) := by decide +kernel
theorem dX10_judge_23 : decode cX10_judge 23 = .ok (.iload_n 1, 1) := by decide +kernel
theorem dX10_judge_24 : decode cX10_judge 24 = .ok (.aaload, 1) := by decide +kernel
theorem dX10_judge_25 : decode cX10_judge 25 = .ok (.astore_n 3, 1) := by decide +kernel
theorem dX10_judge_26 : decode cX10_judge 26 = .ok (.aload_n 3, 1) := by decide +kernel
theorem dX10_judge_27 : decode cX10_judge 27 = .ok (.invokevirtual 190, 3) := by decide +kernel
theorem dX10_judge_30 : decode cX10_judge 30 = .ok (.ifCond .eq 6, 3) := by decide +kernel
theorem dX10_judge_33 : decode cX10_judge 33 = .ok (.bipush (-6), 2) := by decide +kernel
theorem dX10_judge_35 : decode cX10_judge 35 = .ok (.ireturn, 1) := by decide +kernel
theorem dX10_judge_36 : decode cX10_judge 36 = .ok (.aload_n 0, 1) := by decide +kernel
theorem dX10_judge_37 : decode cX10_judge 37 = .ok (.aload_n 3, 1) := by decide +kernel
theorem dX10_judge_38 : decode cX10_judge 38 = .ok (.invokevirtual 194, 3) := by decide +kernel
theorem dX10_judge_41 : decode cX10_judge 41 = .ok (.istore 4, 2) := by decide +kernel
theorem dX10_judge_43 : decode cX10_judge 43 = .ok (.iload_n 2, 1) := by decide +kernel
theorem dX10_judge_44 : decode cX10_judge 44 = .ok (.ifCond .ne 19, 3) := by decide +kernel
theorem dX10_judge_47 : decode cX10_judge 47 = .ok (.iload 4, 2) := by decide +kernel
theorem dX10_judge_49 : decode cX10_judge 49 = .ok (.aload_n 3, 1) := by decide +kernel
theorem dX10_judge_50 : decode cX10_judge 50 = .ok (.getfield 198, 3) := by decide +kernel
theorem dX10_judge_53 : decode cX10_judge 53 = .ok (.if_icmp .ge 8, 3) := by decide +kernel
theorem dX10_judge_56 : decode cX10_judge 56 = .ok (.iload 4, 2) := by decide +kernel
theorem dX10_judge_58 : decode cX10_judge 58 = .ok (.goto 4, 3) := by decide +kernel
theorem dX10_judge_61 : decode cX10_judge 61 = .ok (.iconst (-1), 1) := by decide +kernel
theorem dX10_judge_62 : decode cX10_judge 62 = .ok (.ireturn, 1) := by decide +kernel
theorem dX10_judge_63 : decode cX10_judge 63 = .ok (.iload_n 2, 1) := by decide +kernel
theorem dX10_judge_64 : decode cX10_judge 64 = .ok (.iconst 1, 1) := by decide +kernel
theorem dX10_judge_65 : decode cX10_judge 65 = .ok (.if_icmp .ne 38, 3) := by decide +kernel
theorem dX10_judge_68 : decode cX10_judge 68 = .ok (.iload 4, 2) := by decide +kernel
theorem dX10_judge_70 : decode cX10_judge 70 = .ok (.aload_n 3, 1) := by decide +kernel
theorem dX10_judge_71 : decode cX10_judge 71 = .ok (.getfield 198, 3) := by decide +kernel
theorem dX10_judge_74 : decode cX10_judge 74 = .ok (.if_icmp .ge 27, 3) := by decide +kernel
theorem dX10_judge_77 : decode cX10_judge 77 = .ok (.aload_n 0, 1) := by decide +kernel
theorem dX10_judge_78 : decode cX10_judge 78 = .ok (.aload_n 3, 1) := by decide +kernel
theorem dX10_judge_79 : decode cX10_judge 79 = .ok (.getfield 199, 3) := by decide +kernel
theorem dX10_judge_82 : decode cX10_judge 82 = .ok (.iload 4, 2) := by decide +kernel
theorem dX10_judge_84 : decode cX10_judge 84 = .ok (.laload, 1) := by decide +kernel
theorem dX10_judge_85 : decode cX10_judge 85 = .ok (.aload_n 0, 1) := by decide +kernel
theorem dX10_judge_86 : decode cX10_judge 86 = .ok (.getfield 68, 3) := by decide +kernel
theorem dX10_judge_89 : decode cX10_judge 89 = .ok (.getfield 154, 3) := by decide +kernel
theorem dX10_judge_92 : decode cX10_judge 92 = .ok (.iload 4, 2) := by decide +kernel
theorem dX10_judge_94 : decode cX10_judge 94 = .ok (.iadd, 1) := by decide +kernel
theorem dX10_judge_95 : decode cX10_judge 95 = .ok (.invokevirtual 203, 3) := by decide +kernel
theorem dX10_judge_98 : decode cX10_judge 98 = .ok (.goto 4, 3) := by decide +kernel
theorem dX10_judge_101 : decode cX10_judge 101 = .ok (.iconst 0, 1) := by decide +kernel
theorem dX10_judge_102 : decode cX10_judge 102 = .ok (.ireturn, 1) := by decide +kernel
theorem dX10_judge_103 : decode cX10_judge 103 = .ok (.aload_n 0, 1) := by decide +kernel
theorem dX10_judge_104 : decode cX10_judge 104 = .ok (.aload_n 3, 1) := by decide +kernel
theorem dX10_judge_105 : decode cX10_judge 105 = .ok (.iload 4, 2) := by decide +kernel
theorem dX10_judge_107 : decode cX10_judge 107 = .ok (.invokevirtual 207, 3) := by decide +kernel
theorem dX10_judge_110 : decode cX10_judge 110 = .ok (.ireturn, 1) := by decide +kernel
theorem dX10_perform_0 : decode cX10_perform 0 = .ok (.iload_n 1, 1) := by decide +kernel
theorem dX10_perform_1 : decode cX10_perform 1 = .ok (.invokestatic 187, 3) := by decide +kernel
theorem dX10_perform_4 : decode cX10_perform 4 = .ok (.ifCond .ne 6, 3) := by decide +kernel
theorem dX10_perform_7 : decode cX10_perform 7 = .ok (.bipush (-2), 2) := by decide +kernel
theorem dX10_perform_9 : decode cX10_perform 9 = .ok (.ireturn, 1) := by decide +kernel
theorem dX10_perform_10 : decode cX10_perform 10 = .ok (.aload_n 0, 1) := by decide +kernel
theorem dX10_perform_11 : decode cX10_perform 11 = .ok (.getfield 50, 3) := by decide +kernel
theorem dX10_perform_14 : decode cX10_perform 14 = .ok (.iload_n 1, 1) := by decide +kernel
theorem dX10_perform_15 : decode cX10_perform 15 = .ok (.aaload, 1) := by decide +kernel
theorem dX10_perform_16 : decode cX10_perform 16 = .ok (.astore_n 2, 1) := by decide +kernel
theorem dX10_perform_17 : decode cX10_perform 17 = .ok (.aload_n 2, 1) := by decide +kernel
theorem dX10_perform_18 : decode cX10_perform 18 = .ok (.invokevirtual 190, 3) := by decide +kernel
theorem dX10_perform_21 : decode cX10_perform 21 = .ok (.ifCond .eq 6, 3) := by decide +kernel
theorem dX10_perform_24 : decode cX10_perform 24 = .ok (.bipush (-6), 2) := by decide +kernel
theorem dX10_perform_26 : decode cX10_perform 26 = .ok (.ireturn, 1) := by decide +kernel
theorem dX10_perform_27 : decode cX10_perform 27 = .ok (.aload_n 0, 1) := by decide +kernel
theorem dX10_perform_28 : decode cX10_perform 28 = .ok (.aload_n 2, 1) := by decide +kernel
theorem dX10_perform_29 : decode cX10_perform 29 = .ok (.invokevirtual 194, 3) := by decide +kernel
theorem dX10_perform_32 : decode cX10_perform 32 = .ok (.istore_n 3, 1) := by decide +kernel
theorem dX10_perform_33 : decode cX10_perform 33 = .ok (.iconst 0, 1) := by decide +kernel
theorem dX10_perform_34 : decode cX10_perform 34 = .ok (.istore 4, 2) := by decide +kernel
