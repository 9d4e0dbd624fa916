theorem dX0_init_0 : decode cX0_init 0 = .ok (.aload_n 0, 1) := by decide +kernel
theorem dX0_init_1 : decode cX0_init 1 = .ok (.invokespecial 3, 3) := by decide +kernel
theorem dX0_init_4 : decode cX0_init 4 = .ok (.aload_n 0, 1) := by decide +kernel
theorem dX0_init_5 : decode cX0_init 5 = .ok (.bipush 6, 2) := by decide +kernel
theorem dX0_init_7 : decode cX0_init 7 = .ok (.newarray .long, 2) := by decide +kernel
theorem dX0_init_9 : decode cX0_init 9 = .ok (.putfield 9, 3) := by decide +kernel
theorem dX0_init_12 : decode cX0_init 12 = .ok (.aload_n 0, 1) := by decide +kernel
theorem dX0_init_13 : decode cX0_init 13 = .ok (.aload_n 1, 1) := by decide +kernel
theorem dX0_init_14 : decode cX0_init 14 = .ok (.putfield 15, 3) := by decide +kernel
theorem dX0_init_17 : decode cX0_init 17 = .ok (.return_, 1) := by decide +kernel
theorem dX0_weigh_0 : decode cX0_weigh 0 = .ok (.aload_n 0, 1) := by decide +kernel
theorem dX0_weigh_1 : decode cX0_weigh 1 = .ok (.getfield 15, 3) := by decide +kernel
theorem dX0_weigh_4 : decode cX0_weigh 4 = .ok (.iload_n 3, 1) := by decide +kernel
theorem dX0_weigh_5 : decode cX0_weigh 5 = .ok (.invokevirtual 19, 3) := by decide +kernel
theorem dX0_weigh_8 : decode cX0_weigh 8 = .ok (.ifCond .eq 17, 3) := by decide +kernel
theorem dX0_weigh_11 : decode cX0_weigh 11 = .ok (.aload_n 0, 1) := by decide +kernel
theorem dX0_weigh_12 : decode cX0_weigh 12 = .ok (.aload_n 0, 1) := by decide +kernel
theorem dX0_weigh_13 : decode cX0_weigh 13 = .ok (.getfield 15, 3) := by decide +kernel
theorem dX0_weigh_16 : decode cX0_weigh 16 = .ok (.iconst 4, 1) := by decide +kernel
theorem dX0_weigh_17 : decode cX0_weigh 17 = .ok (.iload_n 3, 1) := by decide +kernel
theorem dX0_weigh_18 : decode cX0_weigh 18 = .ok (.invokevirtual 25, 3) := by decide +kernel
theorem dX0_weigh_21 : decode cX0_weigh 21 = .ok (.invokevirtual 29, 3) := by decide +kernel
theorem dX0_weigh_24 : decode cX0_weigh 24 = .ok (.return_, 1) := by decide +kernel
theorem dX0_weigh_25 : decode cX0_weigh 25 = .ok (.aload_n 0, 1) := by decide +kernel
theorem dX0_weigh_26 : decode cX0_weigh 26 = .ok (.getfield 9, 3) := by decide +kernel
theorem dX0_weigh_29 : decode cX0_weigh 29 = .ok (.lconst 1, 1) := by decide +kernel
theorem dX0_weigh_30 : decode cX0_weigh 30 = .ok (.invokestatic 33, 3) := by decide +kernel
theorem dX0_weigh_33 : decode cX0_weigh 33 = .ok (.iconst 0, 1) := by decide +kernel
theorem dX0_weigh_34 : decode cX0_weigh 34 = .ok (.istore 4, 2) := by decide +kernel
theorem dX0_weigh_36 : decode cX0_weigh 36 = .ok (.iload 4, 2) := by decide +kernel
theorem dX0_weigh_38 : decode cX0_weigh 38 = .ok (.bipush 6, 2) := by decide +kernel
theorem dX0_weigh_40 : decode cX0_weigh 40 = .ok (.if_icmp .ge 96, 3) := by decide +kernel
theorem dX0_weigh_43 : decode cX0_weigh 43 = .ok (.aload_n 1, 1) := by decide +kernel
theorem dX0_weigh_44 : decode cX0_weigh 44 = .ok (.iconst 3, 1) := by decide +kernel
theorem dX0_weigh_45 : decode cX0_weigh 45 = .ok (.iload 4, 2) := by decide +kernel
theorem dX0_weigh_47 : decode cX0_weigh 47 = .ok (.imul, 1) := by decide +kernel
theorem dX0_weigh_48 : decode cX0_weigh 48 = .ok (.invokevirtual 39, 3) := by decide +kernel
theorem dX0_weigh_51 : decode cX0_weigh 51 = .ok (.istore 5, 2) := by decide +kernel
theorem dX0_weigh_53 : decode cX0_weigh 53 = .ok (.aload_n 1, 1) := by decide +kernel
theorem dX0_weigh_54 : decode cX0_weigh 54 = .ok (.iconst 3, 1) := by decide +kernel
theorem dX0_weigh_55 : decode cX0_weigh 55 = .ok (.iload 4, 2) := by decide +kernel
theorem dX0_weigh_57 : decode cX0_weigh 57 = .ok (.imul, 1) := by decide +kernel
theorem dX0_weigh_58 : decode cX0_weigh 58 = .ok (.iconst 1, 1) := by decide +kernel
theorem dX0_weigh_59 : decode cX0_weigh 59 = .ok (.iadd, 1) := by decide +kernel
theorem dX0_weigh_60 : decode cX0_weigh 60 = .ok (.invokevirtual 39, 3) := by decide +kernel
theorem dX0_weigh_63 : decode cX0_weigh 63 = .ok (.istore 6, 2) := by decide +kernel
theorem dX0_weigh_65 : decode cX0_weigh 65 = .ok (.aload_n 1, 1) := by decide +kernel
theorem dX0_weigh_66 : decode cX0_weigh 66 = .ok (.iconst 3, 1) := by decide +kernel
theorem dX0_weigh_67 : decode cX0_weigh 67 = .ok (.iload 4, 2) := by decide +kernel
theorem dX0_weigh_69 : decode cX0_weigh 69 = .ok (.imul, 1) := by decide +kernel
theorem dX0_weigh_70 : decode cX0_weigh 70 = .ok (.iconst 2, 1) := by decide +kernel
theorem dX0_weigh_71 : decode cX0_weigh 71 = .ok (.iadd, 1) := by decide +kernel
theorem dX0_weigh_72 : decode cX0_weigh 72 = .ok (.invokevirtual 39, 3) := by decide +kernel
theorem dX0_weigh_75 : decode cX0_weigh 75 = .ok (.istore 7, 2) := by decide +kernel
theorem dX0_weigh_77 : decode cX0_weigh 77 = .ok (.aload_n 0, 1) := by decide +kernel
theorem dX0_weigh_78 : decode cX0_weigh 78 = .ok (.getfield 15, 3) := by decide +kernel
theorem dX0_weigh_81 : decode cX0_weigh 81 = .ok (.iconst 4, 1) := by decide +kernel
theorem dX0_weigh_82 : decode cX0_weigh 82 = .ok (.iload 5, 2) := by decide +kernel
theorem dX0_weigh_84 : decode cX0_weigh 84 = .ok (.invokevirtual 45, 3) := by decide +kernel
theorem dX0_weigh_87 : decode cX0_weigh 87 = .ok (.ifCond .eq 49, 3) := by decide +kernel
theorem dX0_weigh_90 : decode cX0_weigh 90 = .ok (.iload 6, 2) := by decide +kernel
theorem dX0_weigh_92 : decode cX0_weigh 92 = .ok (.ifCond .lt 44, 3) := by decide +kernel
theorem dX0_weigh_95 : decode cX0_weigh 95 = .ok (.iload 6, 2) := by decide +kernel
theorem dX0_weigh_97 : decode cX0_weigh 97 = .ok (.iconst 3, 1) := by decide +kernel
theorem dX0_weigh_98 : decode cX0_weigh 98 = .ok (.if_icmp .ge 38, 3) := by decide +kernel
theorem dX0_weigh_101 : decode cX0_weigh 101 = .ok (.iload 7, 2) := by decide +kernel
theorem dX0_weigh_103 : decode cX0_weigh 103 = .ok (.ifCond .lt 33, 3) := by decide +kernel
theorem dX0_weigh_106 : decode cX0_weigh 106 = .ok (.iload 7, 2) := by decide +kernel
theorem dX0_weigh_108 : decode cX0_weigh 108 = .ok (.iconst 4, 1) := by decide +kernel
theorem dX0_weigh_109 : decode cX0_weigh 109 = .ok (.if_icmp .lt 6, 3) := by decide +kernel
theorem dX0_weigh_112 : decode cX0_weigh 112 = .ok (.goto 24, 3) := by decide +kernel
theorem dX0_weigh_115 : decode cX0_weigh 115 = .ok (.iload 5, 2) := by decide +kernel
theorem dX0_weigh_117 : decode cX0_weigh 117 = .ok (.iload_n 3, 1) := by decide +kernel
theorem dX0_weigh_118 : decode cX0_weigh 118 = .ok (.if_icmp .ne 12, 3) := by decide +kernel
theorem dX0_weigh_121 : decode cX0_weigh 121 = .ok (.aload_n 0, 1) := by decide +kernel
theorem dX0_weigh_122 : decode cX0_weigh 122 = .ok (.iload_n 2, 1) := by decide +kernel
theorem dX0_weigh_123 : decode cX0_weigh 123 = .ok (.iload 6, 2) := by decide +kernel
theorem dX0_weigh_125 : decode cX0_weigh 125 = .ok (.iload 7, 2) := by decide +kernel
theorem dX0_weigh_127 : decode cX0_weigh 127 = .ok (.invokevirtual 49, 3) := by decide +kernel
theorem dX0_weigh_130 : decode cX0_weigh 130 = .ok (.iinc 4 1, 3) := by decide +kernel
theorem dX0_weigh_133 : decode cX0_weigh 133 = .ok (.goto (-97), 3) := by decide +kernel
theorem dX0_weigh_136 : decode cX0_weigh 136 = .ok (.return_, 1) := by decide +kernel
theorem dX0_know_0 : decode cX0_know 0 = .ok (.iconst 0, 1) := by decide +kernel
theorem dX0_know_1 : decode cX0_know 1 = .ok (.istore_n 2, 1) := by decide +kernel
theorem dX0_know_2 : decode cX0_know 2 = .ok (.iload_n 2, 1) := by decide +kernel
theorem dX0_know_3 : decode cX0_know 3 = .ok (.bipush 6, 2) := by decide +kernel
theorem dX0_know_5 : decode cX0_know 5 = .ok (.if_icmp .ge 25, 3) := by decide +kernel
theorem dX0_know_8 : decode cX0_know 8 = .ok (.aload_n 0, 1) := by decide +kernel
theorem dX0_know_9 : decode cX0_know 9 = .ok (.getfield 9, 3) := by decide +kernel
theorem dX0_know_12 : decode cX0_know 12 = .ok (.iload_n 2, 1) := by decide +kernel
theorem dX0_know_13 : decode cX0_know 13 = .ok (.iload_n 2, 1) := by decide +kernel
theorem dX0_know_14 : decode cX0_know 14 = .ok (.iload_n 1, 1) := by decide +kernel
theorem dX0_know_15 : decode cX0_know 15 = .ok (.if_icmp .ne 7, 3) := by decide +kernel
theorem dX0_know_18 : decode cX0_know 18 = .ok (.lconst 1, 1) := by decide +kernel
theorem dX0_know_19 : decode cX0_know 19 = .ok (.goto 4, 3) := by decide +kernel
theorem dX0_know_22 : decode cX0_know 22 = .ok (.lconst 0, 1) := by decide +kernel
theorem dX0_know_23 : decode cX0_know 23 = .ok (.lastore, 1) := by decide +kernel
theorem dX0_know_24 : decode cX0_know 24 = .ok (.iinc 2 1, 3) := by decide +kernel
theorem dX0_know_27 : decode cX0_know 27 = .ok (.goto (-25), 3) := by decide +kernel
theorem dX0_know_30 : decode cX0_know 30 = .ok (.return_, 1) := by decide +kernel
theorem dX0_learn_0 : decode cX0_learn 0 = .ok (.iconst 0, 1) := by decide +kernel
theorem dX0_learn_1 : decode cX0_learn 1 = .ok (.istore 4, 2) := by decide +kernel
theorem dX0_learn_3 : decode cX0_learn 3 = .ok (.iload 4, 2) := by decide +kernel
theorem dX0_learn_5 : decode cX0_learn 5 = .ok (.bipush 6, 2) := by decide +kernel
theorem dX0_learn_7 : decode cX0_learn 7 = .ok (.if_icmp .ge 29, 3) := by decide +kernel
theorem dX0_learn_10 : decode cX0_learn 10 = .ok (.aload_n 0, 1) := by decide +kernel
theorem dX0_learn_11 : decode cX0_learn 11 = .ok (.getfield 9, 3) := by decide +kernel
theorem dX0_learn_14 : decode cX0_learn 14 = .ok (.iload 4, 2) := by decide +kernel
theorem dX0_learn_16 : decode cX0_learn 16 = .ok (.dup2, 1) := by decide +kernel
theorem dX0_learn_17 : decode cX0_learn 17 = .ok (.laload, 1) := by decide +kernel
theorem dX0_learn_18 : decode cX0_learn 18 = .ok (.aload_n 0, 1) := by decide +kernel
theorem dX0_learn_19 : decode cX0_learn 19 = .ok (.iload_n 1, 1) := by decide +kernel
theorem dX0_learn_20 : decode cX0_learn 20 = .ok (.iload 4, 2) := by decide +kernel
theorem dX0_learn_22 : decode cX0_learn 22 = .ok (.iload_n 2, 1) := by decide +kernel
theorem dX0_learn_23 : decode cX0_learn 23 = .ok (.iload_n 3, 1) := by decide +kernel
theorem dX0_learn_24 : decode cX0_learn 24 = .ok (.invokevirtual 53, 3) := by decide +kernel
theorem dX0_learn_27 : decode cX0_learn 27 = .ok (.i2l, 1) := by decide +kernel
theorem dX0_learn_28 : decode cX0_learn 28 = .ok (.lmul, 1) := by decide +kernel
theorem dX0_learn_29 : decode cX0_learn 29 = .ok (.lastore, 1) := by decide +kernel
theorem dX0_learn_30 : decode cX0_learn 30 = .ok (.iinc 4 1, 3) := by decide +kernel
theorem dX0_learn_33 : decode cX0_learn 33 = .ok (.goto (-30), 3) := by decide +kernel
theorem dX0_learn_36 : decode cX0_learn 36 = .ok (.return_, 1) := by decide +kernel
theorem dX0_seeming_0 : decode cX0_seeming 0 = .ok (.aload_n 0, 1) := by decide +kernel
theorem dX0_seeming_1 : decode cX0_seeming 1 = .ok (.getfield 15, 3) := by decide +kernel
theorem dX0_seeming_4 : decode cX0_seeming 4 = .ok (.bipush 8, 2) := by decide +kernel
theorem dX0_seeming_6 : decode cX0_seeming 6 = .ok (.iload_n 1, 1) := by decide +kernel
theorem dX0_seeming_7 : decode cX0_seeming 7 = .ok (.invokevirtual 25, 3) := by decide +kernel
theorem dX0_seeming_10 : decode cX0_seeming 10 = .ok (.istore 5, 2) := by decide +kernel
theorem dX0_seeming_12 : decode cX0_seeming 12 = .ok (.aload_n 0, 1) := by decide +kernel
theorem dX0_seeming_13 : decode cX0_seeming 13 = .ok (.getfield 15, 3) := by decide +kernel
theorem dX0_seeming_16 : decode cX0_seeming 16 = .ok (.iconst 1, 1) := by decide +kernel
theorem dX0_seeming_17 : decode cX0_seeming 17 = .ok (.iload_n 3, 1) := by decide +kernel
theorem dX0_seeming_18 : decode cX0_seeming 18 = .ok (.iadd, 1) := by decide +kernel
theorem dX0_seeming_19 : decode cX0_seeming 19 = .ok (.iload_n 2, 1) := by decide +kernel
theorem dX0_seeming_20 : decode cX0_seeming 20 = .ok (.invokevirtual 25, 3) := by decide +kernel
theorem dX0_seeming_23 : decode cX0_seeming 23 = .ok (.iload 4, 2) := by decide +kernel
theorem dX0_seeming_25 : decode cX0_seeming 25 = .ok (.if_icmp .ne 10, 3) := by decide +kernel
theorem dX0_seeming_28 : decode cX0_seeming 28 = .ok (.iconst 3, 1) := by decide +kernel
theorem dX0_seeming_29 : decode cX0_seeming 29 = .ok (.iload 5, 2) := by decide +kernel
theorem dX0_seeming_31 : decode cX0_seeming 31 = .ok (.imul, 1) := by decide +kernel
theorem dX0_seeming_32 : decode cX0_seeming 32 = .ok (.goto 8, 3) := by decide +kernel
theorem dX0_seeming_35 : decode cX0_seeming 35 = .ok (.bipush 12, 2) := by decide +kernel
theorem dX0_seeming_37 : decode cX0_seeming 37 = .ok (.iload 5, 2) := by decide +kernel
theorem dX0_seeming_39 : decode cX0_seeming 39 = .ok (.isub, 1) := by decide +kernel
theorem dX0_seeming_40 : decode cX0_seeming 40 = .ok (.ireturn, 1) := by decide +kernel
theorem dX0_weight_0 : decode cX0_weight 0 = .ok (.aload_n 0, 1) := by decide +kernel
theorem dX0_weight_1 : decode cX0_weight 1 = .ok (.getfield 9, 3) := by decide +kernel
theorem dX0_weight_4 : decode cX0_weight 4 = .ok (.iload_n 1, 1) := by decide +kernel
theorem dX0_weight_5 : decode cX0_weight 5 = .ok (.laload, 1) := by decide +kernel
theorem dX0_weight_6 : decode cX0_weight 6 = .ok (.lreturn, 1) := by decide +kernel
theorem dX0_total_0 : decode cX0_total 0 = .ok (.lconst 0, 1) := by decide +kernel
theorem dX0_total_1 : decode cX0_total 1 = .ok (.lstore_n 1, 1) := by decide +kernel
theorem dX0_total_2 : decode cX0_total 2 = .ok (.iconst 0, 1) := by decide +kernel
theorem dX0_total_3 : decode cX0_total 3 = .ok (.istore_n 3, 1) := by decide +kernel
theorem dX0_total_4 : decode cX0_total 4 = .ok (.iload_n 3, 1) := by decide +kernel
theorem dX0_total_5 : decode cX0_total 5 = .ok (.bipush 6, 2) := by decide +kernel
theorem dX0_total_7 : decode cX0_total 7 = .ok (.if_icmp .ge 18, 3) := by decide +kernel
theorem dX0_total_10 : decode cX0_total 10 = .ok (.lload_n 1, 1) := by decide +kernel
theorem dX0_total_11 : decode cX0_total 11 = .ok (.aload_n 0, 1) := by decide +kernel
theorem dX0_total_12 : decode cX0_total 12 = .ok (.getfield 9, 3) := by decide +kernel
theorem dX0_total_15 : decode cX0_total 15 = .ok (.iload_n 3, 1) := by decide +kernel
theorem dX0_total_16 : decode cX0_total 16 = .ok (.laload, 1) := by decide +kernel
theorem dX0_total_17 : decode cX0_total 17 = .ok (.ladd, 1) := by decide +kernel
theorem dX0_total_18 : decode cX0_total 18 = .ok (.lstore_n 1, 1) := by decide +kernel
theorem dX0_total_19 : decode cX0_total 19 = .ok (.iinc 3 1, 3) := by decide +kernel
theorem dX0_total_22 : decode cX0_total 22 = .ok (.goto (-18), 3) := by decide +kernel
theorem dX0_total_25 : decode cX0_total 25 = .ok (.lload_n 1, 1) := by decide +kernel
theorem dX0_total_26 : decode cX0_total 26 = .ok (.lreturn, 1) := by decide +kernel
theorem dX0_mostLikely_0 : decode cX0_mostLikely 0 = .ok (.iconst 0, 1) := by decide +kernel
theorem dX0_mostLikely_1 : decode cX0_mostLikely 1 = .ok (.istore_n 1, 1) := by decide +kernel
theorem dX0_mostLikely_2 : decode cX0_mostLikely 2 = .ok (.iconst 1, 1) := by decide +kernel
theorem dX0_mostLikely_3 : decode cX0_mostLikely 3 = .ok (.istore_n 2, 1) := by decide +kernel
theorem dX0_mostLikely_4 : decode cX0_mostLikely 4 = .ok (.iload_n 2, 1) := by decide +kernel
theorem dX0_mostLikely_5 : decode cX0_mostLikely 5 = .ok (.bipush 6, 2) := by decide +kernel
theorem dX0_mostLikely_7 : decode cX0_mostLikely 7 = .ok (.if_icmp .ge 31, 3) := by decide +kernel
theorem dX0_mostLikely_10 : decode cX0_mostLikely 10 = .ok (.aload_n 0, 1) := by decide +kernel
theorem dX0_mostLikely_11 : decode cX0_mostLikely 11 = .ok (.getfield 9, 3) := by decide +kernel
theorem dX0_mostLikely_14 : decode cX0_mostLikely 14 = .ok (.iload_n 2, 1) := by decide +kernel
theorem dX0_mostLikely_15 : decode cX0_mostLikely 15 = .ok (.laload, 1) := by decide +kernel
theorem dX0_mostLikely_16 : decode cX0_mostLikely 16 = .ok (.aload_n 0, 1) := by decide +kernel
theorem dX0_mostLikely_17 : decode cX0_mostLikely 17 = .ok (.getfield 9, 3) := by decide +kernel
theorem dX0_mostLikely_20 : decode cX0_mostLikely 20 = .ok (.iload_n 1, 1) := by decide +kernel
theorem dX0_mostLikely_21 : decode cX0_mostLikely 21 = .ok (.laload, 1) := by decide +kernel
theorem dX0_mostLikely_22 : decode cX0_mostLikely 22 = .ok (.lcmp, 1) := by decide +kernel
theorem dX0_mostLikely_23 : decode cX0_mostLikely 23 = .ok (.ifCond .le 7, 3) := by decide +kernel
theorem dX0_mostLikely_26 : decode cX0_mostLikely 26 = .ok (.iload_n 2, 1) := by decide +kernel
theorem dX0_mostLikely_27 : decode cX0_mostLikely 27 = .ok (.goto 4, 3) := by decide +kernel
theorem dX0_mostLikely_30 : decode cX0_mostLikely 30 = .ok (.iload_n 1, 1) := by decide +kernel
theorem dX0_mostLikely_31 : decode cX0_mostLikely 31 = .ok (.istore_n 1, 1) := by decide +kernel
theorem dX0_mostLikely_32 : decode cX0_mostLikely 32 = .ok (.iinc 2 1, 3) := by decide +kernel
theorem dX0_mostLikely_35 : decode cX0_mostLikely 35 = .ok (.goto (-31), 3) := by decide +kernel
theorem dX0_mostLikely_38 : decode cX0_mostLikely 38 = .ok (.iload_n 1, 1) := by decide +kernel
theorem dX0_mostLikely_39 : decode cX0_mostLikely 39 = .ok (.ireturn, 1) := by decide +kernel
theorem dX0_worthSum_0 : decode cX0_worthSum 0 = .ok (.lconst 0, 1) := by decide +kernel
theorem dX0_worthSum_1 : decode cX0_worthSum 1 = .ok (.lstore_n 3, 1) := by decide +kernel
theorem dX0_worthSum_2 : decode cX0_worthSum 2 = .ok (.aload_n 0, 1) := by decide +kernel
theorem dX0_worthSum_3 : decode cX0_worthSum 3 = .ok (.getfield 15, 3) := by decide +kernel
theorem dX0_worthSum_6 : decode cX0_worthSum 6 = .ok (.iconst 5, 1) := by decide +kernel
theorem dX0_worthSum_7 : decode cX0_worthSum 7 = .ok (.iload_n 2, 1) := by decide +kernel
theorem dX0_worthSum_8 : decode cX0_worthSum 8 = .ok (.invokevirtual 25, 3) := by decide +kernel
theorem dX0_worthSum_11 : decode cX0_worthSum 11 = .ok (.istore 5, 2) := by decide +kernel
theorem dX0_worthSum_13 : decode cX0_worthSum 13 = .ok (.iconst 0, 1) := by decide +kernel
theorem dX0_worthSum_14 : decode cX0_worthSum 14 = .ok (.istore 6, 2) := by decide +kernel
theorem dX0_worthSum_16 : decode cX0_worthSum 16 = .ok (.iload 6, 2) := by decide +kernel
theorem dX0_worthSum_18 : decode cX0_worthSum 18 = .ok (.bipush 6, 2) := by decide +kernel
theorem dX0_worthSum_20 : decode cX0_worthSum 20 = .ok (.if_icmp .ge 33, 3) := by decide +kernel
theorem dX0_worthSum_23 : decode cX0_worthSum 23 = .ok (.lload_n 3, 1) := by decide +kernel
theorem dX0_worthSum_24 : decode cX0_worthSum 24 = .ok (.aload_n 0, 1) := by decide +kernel
theorem dX0_worthSum_25 : decode cX0_worthSum 25 = .ok (.getfield 9, 3) := by decide +kernel
theorem dX0_worthSum_28 : decode cX0_worthSum 28 = .ok (.iload 6, 2) := by decide +kernel
theorem dX0_worthSum_30 : decode cX0_worthSum 30 = .ok (.laload, 1) := by decide +kernel
theorem dX0_worthSum_31 : decode cX0_worthSum 31 = .ok (.aload_n 0, 1) := by decide +kernel
theorem dX0_worthSum_32 : decode cX0_worthSum 32 = .ok (.getfield 15, 3) := by decide +kernel
theorem dX0_worthSum_35 : decode cX0_worthSum 35 = .ok (.iload_n 1, 1) := by decide +kernel
theorem dX0_worthSum_36 : decode cX0_worthSum 36 = .ok (.iload 6, 2) := by decide +kernel
theorem dX0_worthSum_38 : decode cX0_worthSum 38 = .ok (.iload 5, 2) := by decide +kernel
theorem dX0_worthSum_40 : decode cX0_worthSum 40 = .ok (.invokevirtual 57, 3) := by decide +kernel
theorem dX0_worthSum_43 : decode cX0_worthSum 43 = .ok (.i2l, 1) := by decide +kernel
theorem dX0_worthSum_44 : decode cX0_worthSum 44 = .ok (.lmul, 1) := by decide +kernel
theorem dX0_worthSum_45 : decode cX0_worthSum 45 = .ok (.ladd, 1) := by decide +kernel
theorem dX0_worthSum_46 : decode cX0_worthSum 46 = .ok (.lstore_n 3, 1) := by decide +kernel
theorem dX0_worthSum_47 : decode cX0_worthSum 47 = .ok (.iinc 6 1, 3) := by decide +kernel
theorem dX0_worthSum_50 : decode cX0_worthSum 50 = .ok (.goto (-34), 3) := by decide +kernel
theorem dX0_worthSum_53 : decode cX0_worthSum 53 = .ok (.lload_n 3, 1) := by decide +kernel
theorem dX0_worthSum_54 : decode cX0_worthSum 54 = .ok (.lreturn, 1) := by decide +kernel
theorem dX0_cutWorth_0 : decode cX0_cutWorth 0 = .ok (.aload_n 0, 1) := by decide +kernel
theorem dX0_cutWorth_1 : decode cX0_cutWorth 1 = .ok (.invokevirtual 61, 3) := by decide +kernel
theorem dX0_cutWorth_4 : decode cX0_cutWorth 4 = .ok (.lstore_n 3, 1) := by decide +kernel
theorem dX0_cutWorth_5 : decode cX0_cutWorth 5 = .ok (.lload_n 3, 1) := by decide +kernel
theorem dX0_cutWorth_6 : decode cX0_cutWorth 6 = .ok (.lconst 0, 1) := by decide +kernel
theorem dX0_cutWorth_7 : decode cX0_cutWorth 7 = .ok (.lcmp, 1) := by decide +kernel
theorem dX0_cutWorth_8 : decode cX0_cutWorth 8 = .ok (.ifCond .ne 7, 3) := by decide +kernel
theorem dX0_cutWorth_11 : decode cX0_cutWorth 11 = .ok (.iconst 0, 1) := by decide +kernel
theorem dX0_cutWorth_12 : decode cX0_cutWorth 12 = .ok (.goto 12, 3) := by decide +kernel
theorem dX0_cutWorth_15 : decode cX0_cutWorth 15 = .ok (.aload_n 0, 1) := by decide +kernel
theorem dX0_cutWorth_16 : decode cX0_cutWorth 16 = .ok (.iload_n 1, 1) := by decide +kernel
theorem dX0_cutWorth_17 : decode cX0_cutWorth 17 = .ok (.iload_n 2, 1) := by decide +kernel
theorem dX0_cutWorth_18 : decode cX0_cutWorth 18 = .ok (.invokevirtual 65, 3) := by decide +kernel
theorem dX0_cutWorth_21 : decode cX0_cutWorth 21 = .ok (.lload_n 3, 1) := by decide +kernel
theorem dX0_cutWorth_22 : decode cX0_cutWorth 22 = .ok (.ldiv, 1) := by decide +kernel
theorem dX0_cutWorth_23 : decode cX0_cutWorth 23 = .ok (.l2i, 1) := by decide +kernel
theorem dX0_cutWorth_24 : decode cX0_cutWorth 24 = .ok (.ireturn, 1) := by decide +kernel
theorem dX0_bestLook_0 : decode cX0_bestLook 0 = .ok (.iconst 3, 1) := by decide +kernel
theorem dX0_bestLook_1 : decode cX0_bestLook 1 = .ok (.istore_n 2, 1) := by decide +kernel
theorem dX0_bestLook_2 : decode cX0_bestLook 2 = .ok (.iconst 0, 1) := by decide +kernel
theorem dX0_bestLook_3 : decode cX0_bestLook 3 = .ok (.istore_n 3, 1) := by decide +kernel
theorem dX0_bestLook_4 : decode cX0_bestLook 4 = .ok (.iload_n 3, 1) := by decide +kernel
theorem dX0_bestLook_5 : decode cX0_bestLook 5 = .ok (.iconst 3, 1) := by decide +kernel
theorem dX0_bestLook_6 : decode cX0_bestLook 6 = .ok (.if_icmp .ge 31, 3) := by decide +kernel
theorem dX0_bestLook_9 : decode cX0_bestLook 9 = .ok (.aload_n 0, 1) := by decide +kernel
theorem dX0_bestLook_10 : decode cX0_bestLook 10 = .ok (.iload_n 1, 1) := by decide +kernel
theorem dX0_bestLook_11 : decode cX0_bestLook 11 = .ok (.iload_n 3, 1) := by decide +kernel
theorem dX0_bestLook_12 : decode cX0_bestLook 12 = .ok (.invokevirtual 69, 3) := by decide +kernel
theorem dX0_bestLook_15 : decode cX0_bestLook 15 = .ok (.aload_n 0, 1) := by decide +kernel
theorem dX0_bestLook_16 : decode cX0_bestLook 16 = .ok (.iload_n 1, 1) := by decide +kernel
theorem dX0_bestLook_17 : decode cX0_bestLook 17 = .ok (.iload_n 2, 1) := by decide +kernel
theorem dX0_bestLook_18 : decode cX0_bestLook 18 = .ok (.invokevirtual 69, 3) := by decide +kernel
theorem dX0_bestLook_21 : decode cX0_bestLook 21 = .ok (.lcmp, 1) := by decide +kernel
theorem dX0_bestLook_22 : decode cX0_bestLook 22 = .ok (.ifCond .le 7, 3) := by decide +kernel
theorem dX0_bestLook_25 : decode cX0_bestLook 25 = .ok (.iload_n 3, 1) := by decide +kernel
theorem dX0_bestLook_26 : decode cX0_bestLook 26 = .ok (.goto 4, 3) := by decide +kernel
theorem dX0_bestLook_29 : decode cX0_bestLook 29 = .ok (.iload_n 2, 1) := by decide +kernel
theorem dX0_bestLook_30 : decode cX0_bestLook 30 = .ok (.istore_n 2, 1) := by decide +kernel
theorem dX0_bestLook_31 : decode cX0_bestLook 31 = .ok (.iinc 3 1, 3) := by decide +kernel
theorem dX0_bestLook_34 : decode cX0_bestLook 34 = .ok (.goto (-30), 3) := by decide +kernel
theorem dX0_bestLook_37 : decode cX0_bestLook 37 = .ok (.iload_n 2, 1) := by decide +kernel
theorem dX0_bestLook_38 : decode cX0_bestLook 38 = .ok (.ireturn, 1) := by decide +kernel
theorem dX0_followed_0 : decode cX0_followed 0 = .ok (.iload_n 2, 1) := by decide +kernel
theorem dX0_followed_1 : decode cX0_followed 1 = .ok (.iconst 3, 1) := by decide +kernel
theorem dX0_followed_2 : decode cX0_followed 2 = .ok (.if_icmp .ne 17, 3) := by decide +kernel
theorem dX0_followed_5 : decode cX0_followed 5 = .ok (.ldc2_w 72, 3) := by decide +kernel
theorem dX0_followed_8 : decode cX0_followed 8 = .ok (.aload_n 0, 1) := by decide +kernel
theorem dX0_followed_9 : decode cX0_followed 9 = .ok (.getfield 9, 3) := by decide +kernel
theorem dX0_followed_12 : decode cX0_followed 12 = .ok (.aload_n 0, 1) := by decide +kernel
theorem dX0_followed_13 : decode cX0_followed 13 = .ok (.invokevirtual 74, 3) := by decide +kernel
theorem dX0_followed_16 : decode cX0_followed 16 = .ok (.laload, 1) := by decide +kernel
theorem dX0_followed_17 : decode cX0_followed 17 = .ok (.lmul, 1) := by decide +kernel
theorem dX0_followed_18 : decode cX0_followed 18 = .ok (.lreturn, 1) := by decide +kernel
theorem dX0_followed_19 : decode cX0_followed 19 = .ok (.lconst 0, 1) := by decide +kernel
theorem dX0_followed_20 : decode cX0_followed 20 = .ok (.lstore_n 3, 1) := by decide +kernel
theorem dX0_followed_21 : decode cX0_followed 21 = .ok (.iconst 0, 1) := by decide +kernel
theorem dX0_followed_22 : decode cX0_followed 22 = .ok (.istore 5, 2) := by decide +kernel
theorem dX0_followed_24 : decode cX0_followed 24 = .ok (.iload 5, 2) := by decide +kernel
theorem dX0_followed_26 : decode cX0_followed 26 = .ok (.iconst 4, 1) := by decide +kernel
theorem dX0_followed_27 : decode cX0_followed 27 = .ok (.if_icmp .ge 59, 3) := by decide +kernel
theorem dX0_followed_30 : decode cX0_followed 30 = .ok (.lconst 0, 1) := by decide +kernel
theorem dX0_followed_31 : decode cX0_followed 31 = .ok (.lstore 6, 2) := by decide +kernel
theorem dX0_followed_33 : decode cX0_followed 33 = .ok (.iconst 0, 1) := by decide +kernel
theorem dX0_followed_34 : decode cX0_followed 34 = .ok (.istore 8, 2) := by decide +kernel
theorem dX0_followed_36 : decode cX0_followed 36 = .ok (.iload 8, 2) := by decide +kernel
theorem dX0_followed_38 : decode cX0_followed 38 = .ok (.bipush 6, 2) := by decide +kernel
theorem dX0_followed_40 : decode cX0_followed 40 = .ok (.if_icmp .ge 35, 3) := by decide +kernel
theorem dX0_followed_43 : decode cX0_followed 43 = .ok (.lload 6, 2) := by decide +kernel
theorem dX0_followed_45 : decode cX0_followed 45 = .ok (.aload_n 0, 1) := by decide +kernel
theorem dX0_followed_46 : decode cX0_followed 46 = .ok (.getfield 9, 3) := by decide +kernel
theorem dX0_followed_49 : decode cX0_followed 49 = .ok (.iload 8, 2) := by decide +kernel
theorem dX0_followed_51 : decode cX0_followed 51 = .ok (.laload, 1) := by decide +kernel
theorem dX0_followed_52 : decode cX0_followed 52 = .ok (.aload_n 0, 1) := by decide +kernel
theorem dX0_followed_53 : decode cX0_followed 53 = .ok (.iload_n 1, 1) := by decide +kernel
theorem dX0_followed_54 : decode cX0_followed 54 = .ok (.iload 8, 2) := by decide +kernel
theorem dX0_followed_56 : decode cX0_followed 56 = .ok (.iload_n 2, 1) := by decide +kernel
theorem dX0_followed_57 : decode cX0_followed 57 = .ok (.iload 5, 2) := by decide +kernel
theorem dX0_followed_59 : decode cX0_followed 59 = .ok (.invokevirtual 53, 3) := by decide +kernel
theorem dX0_followed_62 : decode cX0_followed 62 = .ok (.i2l, 1) := by decide +kernel
theorem dX0_followed_63 : decode cX0_followed 63 = .ok (.lmul, 1) := by decide +kernel
theorem dX0_followed_64 : decode cX0_followed 64 = .ok (.invokestatic 78, 3) := by decide +kernel
theorem dX0_followed_67 : decode cX0_followed 67 = .ok (.lstore 6, 2) := by decide +kernel
theorem dX0_followed_69 : decode cX0_followed 69 = .ok (.iinc 8 1, 3) := by decide +kernel
theorem dX0_followed_72 : decode cX0_followed 72 = .ok (.goto (-36), 3) := by decide +kernel
theorem dX0_followed_75 : decode cX0_followed 75 = .ok (.lload_n 3, 1) := by decide +kernel
theorem dX0_followed_76 : decode cX0_followed 76 = .ok (.lload 6, 2) := by decide +kernel
theorem dX0_followed_78 : decode cX0_followed 78 = .ok (.ladd, 1) := by decide +kernel
theorem dX0_followed_79 : decode cX0_followed 79 = .ok (.lstore_n 3, 1) := by decide +kernel
theorem dX0_followed_80 : decode cX0_followed 80 = .ok (.iinc 5 1, 3) := by decide +kernel
theorem dX0_followed_83 : decode cX0_followed 83 = .ok (.goto (-59), 3) := by decide +kernel
theorem dX0_followed_86 : decode cX0_followed 86 = .ok (.lload_n 3, 1) := by decide +kernel
theorem dX0_followed_87 : decode cX0_followed 87 = .ok (.lreturn, 1) := by decide +kernel
theorem dX1_init_0 : decode cX1_init 0 = .ok (.aload_n 0, 1) := by decide +kernel
theorem dX1_init_1 : decode cX1_init 1 = .ok (.invokespecial 1, 3) := by decide +kernel
theorem dX1_init_4 : decode cX1_init 4 = .ok (.aload_n 0, 1) := by decide +kernel
theorem dX1_init_5 : decode cX1_init 5 = .ok (.bipush 40, 2) := by decide +kernel
theorem dX1_init_7 : decode cX1_init 7 = .ok (.newarray .int, 2) := by decide +kernel
theorem dX1_init_9 : decode cX1_init 9 = .ok (.putfield 9, 3) := by decide +kernel
theorem dX1_init_12 : decode cX1_init 12 = .ok (.aload_n 0, 1) := by decide +kernel
theorem dX1_init_13 : decode cX1_init 13 = .ok (.bipush 40, 2) := by decide +kernel
theorem dX1_init_15 : decode cX1_init 15 = .ok (.newarray .int, 2) := by decide +kernel
theorem dX1_init_17 : decode cX1_init 17 = .ok (.putfield 13, 3) := by decide +kernel
theorem dX1_init_20 : decode cX1_init 20 = .ok (.aload_n 0, 1) := by decide +kernel
theorem dX1_init_21 : decode cX1_init 21 = .ok (.bipush 40, 2) := by decide +kernel
theorem dX1_init_23 : decode cX1_init 23 = .ok (.newarray .int, 2) := by decide +kernel
theorem dX1_init_25 : decode cX1_init 25 = .ok (.putfield 16, 3) := by decide +kernel
theorem dX1_init_28 : decode cX1_init 28 = .ok (.aload_n 0, 1) := by decide +kernel
theorem dX1_init_29 : decode cX1_init 29 = .ok (.bipush 40, 2) := by decide +kernel
theorem dX1_init_31 : decode cX1_init 31 = .ok (.newarray .int, 2) := by decide +kernel
theorem dX1_init_33 : decode cX1_init 33 = .ok (.putfield 19, 3) := by decide +kernel
theorem dX1_init_36 : decode cX1_init 36 = .ok (.return_, 1) := by decide +kernel
theorem dX1_note_0 : decode cX1_note 0 = .ok (.aload_n 0, 1) := by decide +kernel
theorem dX1_note_1 : decode cX1_note 1 = .ok (.getfield 22, 3) := by decide +kernel
theorem dX1_note_4 : decode cX1_note 4 = .ok (.bipush 40, 2) := by decide +kernel
theorem dX1_note_6 : decode cX1_note 6 = .ok (.if_icmp .lt 7, 3) := by decide +kernel
theorem dX1_note_9 : decode cX1_note 9 = .ok (.aload_n 0, 1) := by decide +kernel
theorem dX1_note_10 : decode cX1_note 10 = .ok (.invokevirtual 26, 3) := by decide +kernel
theorem dX1_note_13 : decode cX1_note 13 = .ok (.aload_n 0, 1) := by decide +kernel
theorem dX1_note_14 : decode cX1_note 14 = .ok (.getfield 9, 3) := by decide +kernel
theorem dX1_note_17 : decode cX1_note 17 = .ok (.aload_n 0, 1) := by decide +kernel
theorem dX1_note_18 : decode cX1_note 18 = .ok (.getfield 22, 3) := by decide +kernel
theorem dX1_note_21 : decode cX1_note 21 = .ok (.iload_n 1, 1) := by decide +kernel
theorem dX1_note_22 : decode cX1_note 22 = .ok (.iastore, 1) := by decide +kernel
theorem dX1_note_23 : decode cX1_note 23 = .ok (.aload_n 0, 1) := by decide +kernel
theorem dX1_note_24 : decode cX1_note 24 = .ok (.getfield 13, 3) := by decide +kernel
theorem dX1_note_27 : decode cX1_note 27 = .ok (.aload_n 0, 1) := by decide +kernel
theorem dX1_note_28 : decode cX1_note 28 = .ok (.getfield 22, 3) := by decide +kernel
theorem dX1_note_31 : decode cX1_note 31 = .ok (.iload_n 2, 1) := by decide +kernel
theorem dX1_note_32 : decode cX1_note 32 = .ok (.iastore, 1) := by decide +kernel
theorem dX1_note_33 : decode cX1_note 33 = .ok (.aload_n 0, 1) := by decide +kernel
theorem dX1_note_34 : decode cX1_note 34 = .ok (.getfield 16, 3) := by decide +kernel
theorem dX1_note_37 : decode cX1_note 37 = .ok (.aload_n 0, 1) := by decide +kernel
theorem dX1_note_38 : decode cX1_note 38 = .ok (.getfield 22, 3) := by decide +kernel
theorem dX1_note_41 : decode cX1_note 41 = .ok (.iload_n 3, 1) := by decide +kernel
theorem dX1_note_42 : decode cX1_note 42 = .ok (.iastore, 1) := by decide +kernel
theorem dX1_note_43 : decode cX1_note 43 = .ok (.aload_n 0, 1) := by decide +kernel
theorem dX1_note_44 : decode cX1_note 44 = .ok (.getfield 19, 3) := by decide +kernel
theorem dX1_note_47 : decode cX1_note 47 = .ok (.aload_n 0, 1) := by decide +kernel
theorem dX1_note_48 : decode cX1_note 48 = .ok (.getfield 22, 3) := by decide +kernel
theorem dX1_note_51 : decode cX1_note 51 = .ok (.iload 4, 2) := by decide +kernel
theorem dX1_note_53 : decode cX1_note 53 = .ok (.iastore, 1) := by decide +kernel
theorem dX1_note_54 : decode cX1_note 54 = .ok (.aload_n 0, 1) := by decide +kernel
theorem dX1_note_55 : decode cX1_note 55 = .ok (.dup, 1) := by decide +kernel
theorem dX1_note_56 : decode cX1_note 56 = .ok (.getfield 22, 3) := by decide +kernel
theorem dX1_note_59 : decode cX1_note 59 = .ok (.iconst 1, 1) := by decide +kernel
theorem dX1_note_60 : decode cX1_note 60 = .ok (.iadd, 1) := by decide +kernel
theorem dX1_note_61 : decode cX1_note 61 = .ok (.putfield 22, 3) := by decide +kernel
theorem dX1_note_64 : decode cX1_note 64 = .ok (.aload_n 0, 1) := by decide +kernel
theorem dX1_note_65 : decode cX1_note 65 = .ok (.aload_n 0, 1) := by decide +kernel
theorem dX1_note_66 : decode cX1_note 66 = .ok (.getfield 22, 3) := by decide +kernel
theorem dX1_note_69 : decode cX1_note 69 = .ok (.putfield 29, 3) := by decide +kernel
theorem dX1_note_72 : decode cX1_note 72 = .ok (.return_, 1) := by decide +kernel
theorem dX1_forgetFirst_0 : decode cX1_forgetFirst 0 = .ok (.aload_n 0, 1) := by decide +kernel
theorem dX1_forgetFirst_1 : decode cX1_forgetFirst 1 = .ok (.getfield 9, 3) := by decide +kernel
theorem dX1_forgetFirst_4 : decode cX1_forgetFirst 4 = .ok (.iconst 1, 1) := by decide +kernel
theorem dX1_forgetFirst_5 : decode cX1_forgetFirst 5 = .ok (.aload_n 0, 1) := by decide +kernel
theorem dX1_forgetFirst_6 : decode cX1_forgetFirst 6 = .ok (.getfield 9, 3) := by decide +kernel
theorem dX1_forgetFirst_9 : decode cX1_forgetFirst 9 = .ok (.iconst 0, 1) := by decide +kernel
theorem dX1_forgetFirst_10 : decode cX1_forgetFirst 10 = .ok (.bipush 39, 2) := by decide +kernel
theorem dX1_forgetFirst_12 : decode cX1_forgetFirst 12 = .ok (.invokestatic 32, 3) := by decide +kernel
theorem dX1_forgetFirst_15 : decode cX1_forgetFirst 15 = .ok (.aload_n 0, 1) := by decide +kernel
theorem dX1_forgetFirst_16 : decode cX1_forgetFirst 16 = .ok (.getfield 13, 3) := by decide +kernel
theorem dX1_forgetFirst_19 : decode cX1_forgetFirst 19 = .ok (.iconst 1, 1) := by decide +kernel
theorem dX1_forgetFirst_20 : decode cX1_forgetFirst 20 = .ok (.aload_n 0, 1) := by decide +kernel
theorem dX1_forgetFirst_21 : decode cX1_forgetFirst 21 = .ok (.getfield 13, 3) := by decide +kernel
theorem dX1_forgetFirst_24 : decode cX1_forgetFirst 24 = .ok (.iconst 0, 1) := by decide +kernel
theorem dX1_forgetFirst_25 : decode cX1_forgetFirst 25 = .ok (.bipush 39, 2) := by decide +kernel
theorem dX1_forgetFirst_27 : decode cX1_forgetFirst 27 = .ok (.invokestatic 32, 3) := by decide +kernel
theorem dX1_forgetFirst_30 : decode cX1_forgetFirst 30 = .ok (.aload_n 0, 1) := by decide +kernel
theorem dX1_forgetFirst_31 : decode cX1_forgetFirst 31 = .ok (.getfield 16, 3) := by decide +kernel
theorem dX1_forgetFirst_34 : decode cX1_forgetFirst 34 = .ok (.iconst 1, 1) := by decide +kernel
theorem dX1_forgetFirst_35 : decode cX1_forgetFirst 35 = .ok (.aload_n 0, 1) := by decide +kernel
theorem dX1_forgetFirst_36 : decode cX1_forgetFirst 36 = .ok (.getfield 16, 3) := by decide +kernel
theorem dX1_forgetFirst_39 : decode cX1_forgetFirst 39 = .ok (.iconst 0, 1) := by decide +kernel
theorem dX1_forgetFirst_40 : decode cX1_forgetFirst 40 = .ok (.bipush 39, 2) := by decide +kernel
theorem dX1_forgetFirst_42 : decode cX1_forgetFirst 42 = .ok (.invokestatic 32, 3) := by decide +kernel
theorem dX1_forgetFirst_45 : decode cX1_forgetFirst 45 = .ok (.aload_n 0, 1) := by decide +kernel
theorem dX1_forgetFirst_46 : decode cX1_forgetFirst 46 = .ok (.getfield 19, 3) := by decide +kernel
theorem dX1_forgetFirst_49 : decode cX1_forgetFirst 49 = .ok (.iconst 1, 1) := by decide +kernel
theorem dX1_forgetFirst_50 : decode cX1_forgetFirst 50 = .ok (.aload_n 0, 1) := by decide +kernel
theorem dX1_forgetFirst_51 : decode cX1_forgetFirst 51 = .ok (.getfield 19, 3) := by decide +kernel
theorem dX1_forgetFirst_54 : decode cX1_forgetFirst 54 = .ok (.iconst 0, 1) := by decide +kernel
theorem dX1_forgetFirst_55 : decode cX1_forgetFirst 55 = .ok (.bipush 39, 2) := by decide +kernel
theorem dX1_forgetFirst_57 : decode cX1_forgetFirst 57 = .ok (.invokestatic 32, 3) := by decide +kernel
theorem dX1_forgetFirst_60 : decode cX1_forgetFirst 60 = .ok (.aload_n 0, 1) := by decide +kernel
theorem dX1_forgetFirst_61 : decode cX1_forgetFirst 61 = .ok (.bipush 39, 2) := by decide +kernel
theorem dX1_forgetFirst_63 : decode cX1_forgetFirst 63 = .ok (.putfield 22, 3) := by decide +kernel
theorem dX1_forgetFirst_66 : decode cX1_forgetFirst 66 = .ok (.return_, 1) := by decide +kernel
theorem dX1_takeBack_0 : decode cX1_takeBack 0 = .ok (.aload_n 0, 1) := by decide +kernel
theorem dX1_takeBack_1 : decode cX1_takeBack 1 = .ok (.getfield 22, 3) := by decide +kernel
theorem dX1_takeBack_4 : decode cX1_takeBack 4 = .ok (.ifCond .gt 5, 3) := by decide +kernel
theorem dX1_takeBack_7 : decode cX1_takeBack 7 = .ok (.iconst 0, 1) := by decide +kernel
theorem dX1_takeBack_8 : decode cX1_takeBack 8 = .ok (.ireturn, 1) := by decide +kernel
theorem dX1_takeBack_9 : decode cX1_takeBack 9 = .ok (.aload_n 0, 1) := by decide +kernel
theorem dX1_takeBack_10 : decode cX1_takeBack 10 = .ok (.dup, 1) := by decide +kernel
theorem dX1_takeBack_11 : decode cX1_takeBack 11 = .ok (.getfield 22, 3) := by decide +kernel
theorem dX1_takeBack_14 : decode cX1_takeBack 14 = .ok (.iconst 1, 1) := by decide +kernel
theorem dX1_takeBack_15 : decode cX1_takeBack 15 = .ok (.isub, 1) := by decide +kernel
theorem dX1_takeBack_16 : decode cX1_takeBack 16 = .ok (.putfield 22, 3) := by decide +kernel
theorem dX1_takeBack_19 : decode cX1_takeBack 19 = .ok (.aload_n 1, 1) := by decide +kernel
theorem dX1_takeBack_20 : decode cX1_takeBack 20 = .ok (.aload_n 0, 1) := by decide +kernel
theorem dX1_takeBack_21 : decode cX1_takeBack 21 = .ok (.getfield 9, 3) := by decide +kernel
theorem dX1_takeBack_24 : decode cX1_takeBack 24 = .ok (.aload_n 0, 1) := by decide +kernel
theorem dX1_takeBack_25 : decode cX1_takeBack 25 = .ok (.getfield 22, 3) := by decide +kernel
theorem dX1_takeBack_28 : decode cX1_takeBack 28 = .ok (.iaload, 1) := by decide +kernel
theorem dX1_takeBack_29 : decode cX1_takeBack 29 = .ok (.aload_n 0, 1) := by decide +kernel
theorem dX1_takeBack_30 : decode cX1_takeBack 30 = .ok (.getfield 13, 3) := by decide +kernel
theorem dX1_takeBack_33 : decode cX1_takeBack 33 = .ok (.aload_n 0, 1) := by decide +kernel
theorem dX1_takeBack_34 : decode cX1_takeBack 34 = .ok (.getfield 22, 3) := by decide +kernel
theorem dX1_takeBack_37 : decode cX1_takeBack 37 = .ok (.iaload, 1) := by decide +kernel
theorem dX1_takeBack_38 : decode cX1_takeBack 38 = .ok (.aload_n 0, 1) := by decide +kernel
theorem dX1_takeBack_39 : decode cX1_takeBack 39 = .ok (.getfield 16, 3) := by decide +kernel
theorem dX1_takeBack_42 : decode cX1_takeBack 42 = .ok (.aload_n 0, 1) := by decide +kernel
theorem dX1_takeBack_43 : decode cX1_takeBack 43 = .ok (.getfield 22, 3) := by decide +kernel
theorem dX1_takeBack_46 : decode cX1_takeBack 46 = .ok (.iaload, 1) := by decide +kernel
theorem dX1_takeBack_47 : decode cX1_takeBack 47 = .ok (.invokevirtual 38, 3) := by decide +kernel
theorem dX1_takeBack_50 : decode cX1_takeBack 50 = .ok (.iconst 1, 1) := by decide +kernel
theorem dX1_takeBack_51 : decode cX1_takeBack 51 = .ok (.ireturn, 1) := by decide +kernel
theorem dX1_bringBack_0 : decode cX1_bringBack 0 = .ok (.aload_n 0, 1) := by decide +kernel
theorem dX1_bringBack_1 : decode cX1_bringBack 1 = .ok (.getfield 22, 3) := by decide +kernel
theorem dX1_bringBack_4 : decode cX1_bringBack 4 = .ok (.aload_n 0, 1) := by decide +kernel
theorem dX1_bringBack_5 : decode cX1_bringBack 5 = .ok (.getfield 29, 3) := by decide +kernel
theorem dX1_bringBack_8 : decode cX1_bringBack 8 = .ok (.if_icmp .lt 5, 3) := by decide +kernel
theorem dX1_bringBack_11 : decode cX1_bringBack 11 = .ok (.iconst 0, 1) := by decide +kernel
theorem dX1_bringBack_12 : decode cX1_bringBack 12 = .ok (.ireturn, 1) := by decide +kernel
theorem dX1_bringBack_13 : decode cX1_bringBack 13 = .ok (.aload_n 1, 1) := by decide +kernel
theorem dX1_bringBack_14 : decode cX1_bringBack 14 = .ok (.aload_n 0, 1) := by decide +kernel
theorem dX1_bringBack_15 : decode cX1_bringBack 15 = .ok (.getfield 9, 3) := by decide +kernel
theorem dX1_bringBack_18 : decode cX1_bringBack 18 = .ok (.aload_n 0, 1) := by decide +kernel
theorem dX1_bringBack_19 : decode cX1_bringBack 19 = .ok (.getfield 22, 3) := by decide +kernel
theorem dX1_bringBack_22 : decode cX1_bringBack 22 = .ok (.iaload, 1) := by decide +kernel
theorem dX1_bringBack_23 : decode cX1_bringBack 23 = .ok (.aload_n 0, 1) := by decide +kernel
theorem dX1_bringBack_24 : decode cX1_bringBack 24 = .ok (.getfield 13, 3) := by decide +kernel
theorem dX1_bringBack_27 : decode cX1_bringBack 27 = .ok (.aload_n 0, 1) := by decide +kernel
theorem dX1_bringBack_28 : decode cX1_bringBack 28 = .ok (.getfield 22, 3) := by decide +kernel
theorem dX1_bringBack_31 : decode cX1_bringBack 31 = .ok (.iaload, 1) := by decide +kernel
theorem dX1_bringBack_32 : decode cX1_bringBack 32 = .ok (.aload_n 0, 1) := by decide +kernel
theorem dX1_bringBack_33 : decode cX1_bringBack 33 = .ok (.getfield 19, 3) := by decide +kernel
theorem dX1_bringBack_36 : decode cX1_bringBack 36 = .ok (.aload_n 0, 1) := by decide +kernel
theorem dX1_bringBack_37 : decode cX1_bringBack 37 = .ok (.getfield 22, 3) := by decide +kernel
theorem dX1_bringBack_40 : decode cX1_bringBack 40 = .ok (.iaload, 1) := by decide +kernel
theorem dX1_bringBack_41 : decode cX1_bringBack 41 = .ok (.invokevirtual 38, 3) := by decide +kernel
theorem dX1_bringBack_44 : decode cX1_bringBack 44 = .ok (.aload_n 0, 1) := by decide +kernel
theorem dX1_bringBack_45 : decode cX1_bringBack 45 = .ok (.dup, 1) := by decide +kernel
theorem dX1_bringBack_46 : decode cX1_bringBack 46 = .ok (.getfield 22, 3) := by decide +kernel
theorem dX1_bringBack_49 : decode cX1_bringBack 49 = .ok (.iconst 1, 1) := by decide +kernel
theorem dX1_bringBack_50 : decode cX1_bringBack 50 = .ok (.iadd, 1) := by decide +kernel
theorem dX1_bringBack_51 : decode cX1_bringBack 51 = .ok (.putfield 22, 3) := by decide +kernel
theorem dX1_bringBack_54 : decode cX1_bringBack 54 = .ok (.iconst 1, 1) := by decide +kernel
theorem dX1_bringBack_55 : decode cX1_bringBack 55 = .ok (.ireturn, 1) := by decide +kernel
theorem dX2_init_0 : decode cX2_init 0 = .ok (.aload_n 0, 1) := by decide +kernel
theorem dX2_init_1 : decode cX2_init 1 = .ok (.invokespecial 3, 3) := by decide +kernel
theorem dX2_init_4 : decode cX2_init 4 = .ok (.aload_n 0, 1) := by decide +kernel
theorem dX2_init_5 : decode cX2_init 5 = .ok (.bipush 10, 2) := by decide +kernel
theorem dX2_init_7 : decode cX2_init 7 = .ok (.newarray .int, 2) := by decide +kernel
theorem dX2_init_9 : decode cX2_init 9 = .ok (.putfield 9, 3) := by decide +kernel
theorem dX2_init_12 : decode cX2_init 12 = .ok (.aload_n 0, 1) := by decide +kernel
theorem dX2_init_13 : decode cX2_init 13 = .ok (.bipush 64, 2) := by decide +kernel
theorem dX2_init_15 : decode cX2_init 15 = .ok (.newarray .long, 2) := by decide +kernel
theorem dX2_init_17 : decode cX2_init 17 = .ok (.putfield 15, 3) := by decide +kernel
theorem dX2_init_20 : decode cX2_init 20 = .ok (.aload_n 0, 1) := by decide +kernel
theorem dX2_init_21 : decode cX2_init 21 = .ok (.bipush 6, 2) := by decide +kernel
theorem dX2_init_23 : decode cX2_init 23 = .ok (.newarray .int, 2) := by decide +kernel
theorem dX2_init_25 : decode cX2_init 25 = .ok (.putfield 19, 3) := by decide +kernel
theorem dX2_init_28 : decode cX2_init 28 = .ok (.aload_n 0, 1) := by decide +kernel
theorem dX2_init_29 : decode cX2_init 29 = .ok (.aload_n 1, 1) := by decide +kernel
theorem dX2_init_30 : decode cX2_init 30 = .ok (.putfield 22, 3) := by decide +kernel
theorem dX2_init_33 : decode cX2_init 33 = .ok (.return_, 1) := by decide +kernel
theorem dX2_noOffers_0 : decode cX2_noOffers 0 = .ok (.aload_n 0, 1) := by decide +kernel
theorem dX2_noOffers_1 : decode cX2_noOffers 1 = .ok (.getfield 9, 3) := by decide +kernel
theorem dX2_noOffers_4 : decode cX2_noOffers 4 = .ok (.iconst 0, 1) := by decide +kernel
theorem dX2_noOffers_5 : decode cX2_noOffers 5 = .ok (.invokestatic 26, 3) := by decide +kernel
theorem dX2_noOffers_8 : decode cX2_noOffers 8 = .ok (.return_, 1) := by decide +kernel
theorem dX2_offer_0 : decode cX2_offer 0 = .ok (.aload_n 0, 1) := by decide +kernel
theorem dX2_offer_1 : decode cX2_offer 1 = .ok (.getfield 22, 3) := by decide +kernel
theorem dX2_offer_4 : decode cX2_offer 4 = .ok (.iload_n 1, 1) := by decide +kernel
theorem dX2_offer_5 : decode cX2_offer 5 = .ok (.invokevirtual 32, 3) := by decide +kernel
theorem dX2_offer_8 : decode cX2_offer 8 = .ok (.ifCond .eq 20, 3) := by decide +kernel
theorem dX2_offer_11 : decode cX2_offer 11 = .ok (.aload_n 0, 1) := by decide +kernel
theorem dX2_offer_12 : decode cX2_offer 12 = .ok (.getfield 9, 3) := by decide +kernel
theorem dX2_offer_15 : decode cX2_offer 15 = .ok (.iload_n 1, 1) := by decide +kernel
theorem dX2_offer_16 : decode cX2_offer 16 = .ok (.iload_n 2, 1) := by decide +kernel
theorem dX2_offer_17 : decode cX2_offer 17 = .ok (.aload_n 0, 1) := by decide +kernel
theorem dX2_offer_18 : decode cX2_offer 18 = .ok (.getfield 22, 3) := by decide +kernel
theorem dX2_offer_21 : decode cX2_offer 21 = .ok (.iconst 5, 1) := by decide +kernel
theorem dX2_offer_22 : decode cX2_offer 22 = .ok (.iload_n 1, 1) := by decide +kernel
theorem dX2_offer_23 : decode cX2_offer 23 = .ok (.invokevirtual 38, 3) := by decide +kernel
theorem dX2_offer_26 : decode cX2_offer 26 = .ok (.isub, 1) := by decide +kernel
theorem dX2_offer_27 : decode cX2_offer 27 = .ok (.iastore, 1) := by decide +kernel
theorem dX2_offer_28 : decode cX2_offer 28 = .ok (.return_, 1) := by decide +kernel
theorem dX2_choose_0 : decode cX2_choose 0 = .ok (.aload_n 0, 1) := by decide +kernel
theorem dX2_choose_1 : decode cX2_choose 1 = .ok (.iconst 0, 1) := by decide +kernel
theorem dX2_choose_2 : decode cX2_choose 2 = .ok (.putfield 42, 3) := by decide +kernel
theorem dX2_choose_5 : decode cX2_choose 5 = .ok (.aload_n 0, 1) := by decide +kernel
theorem dX2_choose_6 : decode cX2_choose 6 = .ok (.iconst 0, 1) := by decide +kernel
theorem dX2_choose_7 : decode cX2_choose 7 = .ok (.putfield 46, 3) := by decide +kernel
theorem dX2_choose_10 : decode cX2_choose 10 = .ok (.aload_n 0, 1) := by decide +kernel
theorem dX2_choose_11 : decode cX2_choose 11 = .ok (.iconst 0, 1) := by decide +kernel
theorem dX2_choose_12 : decode cX2_choose 12 = .ok (.iconst 0, 1) := by decide +kernel
theorem dX2_choose_13 : decode cX2_choose 13 = .ok (.iconst 0, 1) := by decide +kernel
theorem dX2_choose_14 : decode cX2_choose 14 = .ok (.iload_n 1, 1) := by decide +kernel
theorem dX2_choose_15 : decode cX2_choose 15 = .ok (.invokevirtual 49, 3) := by decide +kernel
theorem dX2_choose_18 : decode cX2_choose 18 = .ok (.return_, 1) := by decide +kernel
theorem dX2_choose__0 : decode cX2_choose_ 0 = .ok (.iload_n 1, 1) := by decide +kernel
theorem dX2_choose__1 : decode cX2_choose_ 1 = .ok (.bipush 10, 2) := by decide +kernel
theorem dX2_choose__3 : decode cX2_choose_ 3 = .ok (.if_icmp .lt 23, 3) := by decide +kernel
theorem dX2_choose__6 : decode cX2_choose_ 6 = .ok (.aload_n 0, 1) := by decide +kernel
theorem dX2_choose__7 : decode cX2_choose_ 7 = .ok (.iload_n 2, 1) := by decide +kernel
theorem dX2_choose__8 : decode cX2_choose_ 8 = .ok (.iload_n 3, 1) := by decide +kernel
theorem dX2_choose__9 : decode cX2_choose_ 9 = .ok (.invokevirtual 53, 3) := by decide +kernel
theorem dX2_choose__12 : decode cX2_choose_ 12 = .ok (.ifCond .eq 13, 3) := by decide +kernel
theorem dX2_choose__15 : decode cX2_choose_ 15 = .ok (.aload_n 0, 1) := by decide +kernel
theorem dX2_choose__16 : decode cX2_choose_ 16 = .ok (.iload_n 2, 1) := by decide +kernel
theorem dX2_choose__17 : decode cX2_choose_ 17 = .ok (.putfield 42, 3) := by decide +kernel
theorem dX2_choose__20 : decode cX2_choose_ 20 = .ok (.aload_n 0, 1) := by decide +kernel
theorem dX2_choose__21 : decode cX2_choose_ 21 = .ok (.iload_n 3, 1) := by decide +kernel
theorem dX2_choose__22 : decode cX2_choose_ 22 = .ok (.putfield 46, 3) := by decide +kernel
theorem dX2_choose__25 : decode cX2_choose_ 25 = .ok (.return_, 1) := by decide +kernel
theorem dX2_choose__26 : decode cX2_choose_ 26 = .ok (.aload_n 0, 1) := by decide +kernel
theorem dX2_choose__27 : decode cX2_choose_ 27 = .ok (.iload_n 1, 1) := by decide +kernel
theorem dX2_choose__28 : decode cX2_choose_ 28 = .ok (.iconst 1, 1) := by decide +kernel
theorem dX2_choose__29 : decode cX2_choose_ 29 = .ok (.iadd, 1) := by decide +kernel
theorem dX2_choose__30 : decode cX2_choose_ 30 = .ok (.iload_n 2, 1) := by decide +kernel
theorem dX2_choose__31 : decode cX2_choose_ 31 = .ok (.iload_n 3, 1) := by decide +kernel
theorem dX2_choose__32 : decode cX2_choose_ 32 = .ok (.iload 4, 2) := by decide +kernel
theorem dX2_choose__34 : decode cX2_choose_ 34 = .ok (.invokevirtual 49, 3) := by decide +kernel
theorem dX2_choose__37 : decode cX2_choose_ 37 = .ok (.aload_n 0, 1) := by decide +kernel
theorem dX2_choose__38 : decode cX2_choose_ 38 = .ok (.getfield 9, 3) := by decide +kernel
theorem dX2_choose__41 : decode cX2_choose_ 41 = .ok (.iload_n 1, 1) := by decide +kernel
theorem dX2_choose__42 : decode cX2_choose_ 42 = .ok (.iaload, 1) := by decide +kernel
theorem dX2_choose__43 : decode cX2_choose_ 43 = .ok (.ifCond .le 49, 3) := by decide +kernel
theorem dX2_choose__46 : decode cX2_choose_ 46 = .ok (.aload_n 0, 1) := by decide +kernel
theorem dX2_choose__47 : decode cX2_choose_ 47 = .ok (.getfield 22, 3) := by decide +kernel
theorem dX2_choose__50 : decode cX2_choose_ 50 = .ok (.iconst 5, 1) := by decide +kernel
theorem dX2_choose__51 : decode cX2_choose_ 51 = .ok (.iload_n 1, 1) := by decide +kernel
theorem dX2_choose__52 : decode cX2_choose_ 52 = .ok (.invokevirtual 38, 3) := by decide +kernel
theorem dX2_choose__55 : decode cX2_choose_ 55 = .ok (.iload 4, 2) := by decide +kernel
theorem dX2_choose__57 : decode cX2_choose_ 57 = .ok (.if_icmp .gt 35, 3) := by decide +kernel
theorem dX2_choose__60 : decode cX2_choose_ 60 = .ok (.aload_n 0, 1) := by decide +kernel
theorem dX2_choose__61 : decode cX2_choose_ 61 = .ok (.iload_n 1, 1) := by decide +kernel
theorem dX2_choose__62 : decode cX2_choose_ 62 = .ok (.iconst 1, 1) := by decide +kernel
theorem dX2_choose__63 : decode cX2_choose_ 63 = .ok (.iadd, 1) := by decide +kernel
theorem dX2_choose__64 : decode cX2_choose_ 64 = .ok (.iload_n 2, 1) := by decide +kernel
theorem dX2_choose__65 : decode cX2_choose_ 65 = .ok (.iconst 1, 1) := by decide +kernel
theorem dX2_choose__66 : decode cX2_choose_ 66 = .ok (.iload_n 1, 1) := by decide +kernel
theorem dX2_choose__67 : decode cX2_choose_ 67 = .ok (.ishl, 1) := by decide +kernel
theorem dX2_choose__68 : decode cX2_choose_ 68 = .ok (.ior, 1) := by decide +kernel
theorem dX2_choose__69 : decode cX2_choose_ 69 = .ok (.iload_n 3, 1) := by decide +kernel
theorem dX2_choose__70 : decode cX2_choose_ 70 = .ok (.aload_n 0, 1) := by decide +kernel
theorem dX2_choose__71 : decode cX2_choose_ 71 = .ok (.getfield 9, 3) := by decide +kernel
theorem dX2_choose__74 : decode cX2_choose_ 74 = .ok (.iload_n 1, 1) := by decide +kernel
theorem dX2_choose__75 : decode cX2_choose_ 75 = .ok (.iaload, 1) := by decide +kernel
theorem dX2_choose__76 : decode cX2_choose_ 76 = .ok (.iadd, 1) := by decide +kernel
theorem dX2_choose__77 : decode cX2_choose_ 77 = .ok (.iload 4, 2) := by decide +kernel
theorem dX2_choose__79 : decode cX2_choose_ 79 = .ok (.aload_n 0, 1) := by decide +kernel
theorem dX2_choose__80 : decode cX2_choose_ 80 = .ok (.getfield 22, 3) := by decide +kernel
theorem dX2_choose__83 : decode cX2_choose_ 83 = .ok (.iconst 5, 1) := by decide +kernel
theorem dX2_choose__84 : decode cX2_choose_ 84 = .ok (.iload_n 1, 1) := by decide +kernel
theorem dX2_choose__85 : decode cX2_choose_ 85 = .ok (.invokevirtual 38, 3) := by decide +kernel
theorem dX2_choose__88 : decode cX2_choose_ 88 = .ok (.isub, 1) := by decide +kernel
theorem dX2_choose__89 : decode cX2_choose_ 89 = .ok (.invokevirtual 49, 3) := by decide +kernel
theorem dX2_choose__92 : decode cX2_choose_ 92 = .ok (.return_, 1) := by decide +kernel
theorem dX2_isBetter_0 : decode cX2_isBetter 0 = .ok (.iload_n 2, 1) := by decide +kernel
theorem dX2_isBetter_1 : decode cX2_isBetter 1 = .ok (.aload_n 0, 1) := by decide +kernel
theorem dX2_isBetter_2 : decode cX2_isBetter 2 = .ok (.getfield 46, 3) := by decide +kernel
theorem dX2_isBetter_5 : decode cX2_isBetter 5 = .ok (.if_icmp .eq 17, 3) := by decide +kernel
theorem dX2_isBetter_8 : decode cX2_isBetter 8 = .ok (.iload_n 2, 1) := by decide +kernel
theorem dX2_isBetter_9 : decode cX2_isBetter 9 = .ok (.aload_n 0, 1) := by decide +kernel
theorem dX2_isBetter_10 : decode cX2_isBetter 10 = .ok (.getfield 46, 3) := by decide +kernel
theorem dX2_isBetter_13 : decode cX2_isBetter 13 = .ok (.if_icmp .le 7, 3) := by decide +kernel
theorem dX2_isBetter_16 : decode cX2_isBetter 16 = .ok (.iconst 1, 1) := by decide +kernel
theorem dX2_isBetter_17 : decode cX2_isBetter 17 = .ok (.goto 4, 3) := by decide +kernel
theorem dX2_isBetter_20 : decode cX2_isBetter 20 = .ok (.iconst 0, 1) := by decide +kernel
theorem dX2_isBetter_21 : decode cX2_isBetter 21 = .ok (.ireturn, 1) := by decide +kernel
theorem dX2_isBetter_22 : decode cX2_isBetter 22 = .ok (.aload_n 0, 1) := by decide +kernel
theorem dX2_isBetter_23 : decode cX2_isBetter 23 = .ok (.getfield 42, 3) := by decide +kernel
theorem dX2_isBetter_26 : decode cX2_isBetter 26 = .ok (.invokestatic 57, 3) := by decide +kernel
theorem dX2_isBetter_29 : decode cX2_isBetter 29 = .ok (.iload_n 1, 1) := by decide +kernel
theorem dX2_isBetter_30 : decode cX2_isBetter 30 = .ok (.invokestatic 57, 3) := by decide +kernel
theorem dX2_isBetter_33 : decode cX2_isBetter 33 = .ok (.isub, 1) := by decide +kernel
theorem dX2_isBetter_34 : decode cX2_isBetter 34 = .ok (.istore_n 3, 1) := by decide +kernel
theorem dX2_isBetter_35 : decode cX2_isBetter 35 = .ok (.iload_n 3, 1) := by decide +kernel
theorem dX2_isBetter_36 : decode cX2_isBetter 36 = .ok (.ifCond .gt 15, 3) := by decide +kernel
theorem dX2_isBetter_39 : decode cX2_isBetter 39 = .ok (.iload_n 3, 1) := by decide +kernel
theorem dX2_isBetter_40 : decode cX2_isBetter 40 = .ok (.ifCond .ne 15, 3) := by decide +kernel
theorem dX2_isBetter_43 : decode cX2_isBetter 43 = .ok (.iload_n 1, 1) := by decide +kernel
theorem dX2_isBetter_44 : decode cX2_isBetter 44 = .ok (.aload_n 0, 1) := by decide +kernel
theorem dX2_isBetter_45 : decode cX2_isBetter 45 = .ok (.getfield 42, 3) := by decide +kernel
theorem dX2_isBetter_48 : decode cX2_isBetter 48 = .ok (.if_icmp .ge 7, 3) := by decide +kernel
theorem dX2_isBetter_51 : decode cX2_isBetter 51 = .ok (.iconst 1, 1) := by decide +kernel
theorem dX2_isBetter_52 : decode cX2_isBetter 52 = .ok (.goto 4, 3) := by decide +kernel
theorem dX2_isBetter_55 : decode cX2_isBetter 55 = .ok (.iconst 0, 1) := by decide +kernel
theorem dX2_isBetter_56 : decode cX2_isBetter 56 = .ok (.ireturn, 1) := by decide +kernel
theorem dX2_bestDeal_0 : decode cX2_bestDeal 0 = .ok (.aload_n 0, 1) := by decide +kernel
theorem dX2_bestDeal_1 : decode cX2_bestDeal 1 = .ok (.getfield 15, 3) := by decide +kernel
theorem dX2_bestDeal_4 : decode cX2_bestDeal 4 = .ok (.ldc2_w 63, 3) := by decide +kernel
theorem dX2_bestDeal_7 : decode cX2_bestDeal 7 = .ok (.invokestatic 65, 3) := by decide +kernel
theorem dX2_bestDeal_10 : decode cX2_bestDeal 10 = .ok (.aload_n 0, 1) := by decide +kernel
theorem dX2_bestDeal_11 : decode cX2_bestDeal 11 = .ok (.getfield 15, 3) := by decide +kernel
theorem dX2_bestDeal_14 : decode cX2_bestDeal 14 = .ok (.iconst 0, 1) := by decide +kernel
theorem dX2_bestDeal_15 : decode cX2_bestDeal 15 = .ok (.lconst 0, 1) := by decide +kernel
theorem dX2_bestDeal_16 : decode cX2_bestDeal 16 = .ok (.lastore, 1) := by decide +kernel
theorem dX2_bestDeal_17 : decode cX2_bestDeal 17 = .ok (.iconst 0, 1) := by decide +kernel
theorem dX2_bestDeal_18 : decode cX2_bestDeal 18 = .ok (.istore_n 1, 1) := by decide +kernel
theorem dX2_bestDeal_19 : decode cX2_bestDeal 19 = .ok (.iload_n 1, 1) := by decide +kernel
theorem dX2_bestDeal_20 : decode cX2_bestDeal 20 = .ok (.aload_n 0, 1) := by decide +kernel
theorem dX2_bestDeal_21 : decode cX2_bestDeal 21 = .ok (.getfield 22, 3) := by decide +kernel
theorem dX2_bestDeal_24 : decode cX2_bestDeal 24 = .ok (.getfield 68, 3) := by decide +kernel
theorem dX2_bestDeal_27 : decode cX2_bestDeal 27 = .ok (.if_icmp .ge 25, 3) := by decide +kernel
theorem dX2_bestDeal_30 : decode cX2_bestDeal 30 = .ok (.aload_n 0, 1) := by decide +kernel
theorem dX2_bestDeal_31 : decode cX2_bestDeal 31 = .ok (.getfield 22, 3) := by decide +kernel
theorem dX2_bestDeal_34 : decode cX2_bestDeal 34 = .ok (.iload_n 1, 1) := by decide +kernel
theorem dX2_bestDeal_35 : decode cX2_bestDeal 35 = .ok (.invokevirtual 32, 3) := by decide +kernel
theorem dX2_bestDeal_38 : decode cX2_bestDeal 38 = .ok (.ifCond .eq 8, 3) := by decide +kernel
theorem dX2_bestDeal_41 : decode cX2_bestDeal 41 = .ok (.aload_n 0, 1) := by decide +kernel
theorem dX2_bestDeal_42 : decode cX2_bestDeal 42 = .ok (.iload_n 1, 1) := by decide +kernel
theorem dX2_bestDeal_43 : decode cX2_bestDeal 43 = .ok (.invokevirtual 71, 3) := by decide +kernel
theorem dX2_bestDeal_46 : decode cX2_bestDeal 46 = .ok (.iinc 1 1, 3) := by decide +kernel
theorem dX2_bestDeal_49 : decode cX2_bestDeal 49 = .ok (.goto (-30), 3) := by decide +kernel
theorem dX2_bestDeal_52 : decode cX2_bestDeal 52 = .ok (.lconst 0, 1) := by decide +kernel
theorem dX2_bestDeal_53 : decode cX2_bestDeal 53 = .ok (.lstore_n 1, 1) := by decide +kernel
theorem dX2_bestDeal_54 : decode cX2_bestDeal 54 = .ok (.iconst 0, 1) := by decide +kernel
theorem dX2_bestDeal_55 : decode cX2_bestDeal 55 = .ok (.istore_n 3, 1) := by decide +kernel
theorem dX2_bestDeal_56 : decode cX2_bestDeal 56 = .ok (.iload_n 3, 1) := by decide +kernel
theorem dX2_bestDeal_57 : decode cX2_bestDeal 57 = .ok (.aload_n 0, 1) := by decide +kernel
theorem dX2_bestDeal_58 : decode cX2_bestDeal 58 = .ok (.getfield 15, 3) := by decide +kernel
theorem dX2_bestDeal_61 : decode cX2_bestDeal 61 = .ok (.arraylength, 1) := by decide +kernel
theorem dX2_bestDeal_62 : decode cX2_bestDeal 62 = .ok (.if_icmp .ge 20, 3) := by decide +kernel
theorem dX2_bestDeal_65 : decode cX2_bestDeal 65 = .ok (.lload_n 1, 1) := by decide +kernel
theorem dX2_bestDeal_66 : decode cX2_bestDeal 66 = .ok (.aload_n 0, 1) := by decide +kernel
theorem dX2_bestDeal_67 : decode cX2_bestDeal 67 = .ok (.getfield 15, 3) := by decide +kernel
theorem dX2_bestDeal_70 : decode cX2_bestDeal 70 = .ok (.iload_n 3, 1) := by decide +kernel
theorem dX2_bestDeal_71 : decode cX2_bestDeal 71 = .ok (.laload, 1) := by decide +kernel
theorem dX2_bestDeal_72 : decode cX2_bestDeal 72 = .ok (.invokestatic 75, 3) := by decide +kernel
theorem dX2_bestDeal_75 : decode cX2_bestDeal 75 = .ok (.lstore_n 1, 1) := by decide +kernel
theorem dX2_bestDeal_76 : decode cX2_bestDeal 76 = .ok (.iinc 3 1, 3) := by decide +kernel
theorem dX2_bestDeal_79 : decode cX2_bestDeal 79 = .ok (.goto (-23), 3) := by decide +kernel
theorem dX2_bestDeal_82 : decode cX2_bestDeal 82 = .ok (.lload_n 1, 1) := by decide +kernel
theorem dX2_bestDeal_83 : decode cX2_bestDeal 83 = .ok (.lreturn, 1) := by decide +kernel
theorem dX2_dealOne_0 : decode cX2_dealOne 0 = .ok (.aload_n 0, 1) := by decide +kernel
theorem dX2_dealOne_1 : decode cX2_dealOne 1 = .ok (.getfield 22, 3) := by decide +kernel
theorem dX2_dealOne_4 : decode cX2_dealOne 4 = .ok (.iconst 5, 1) := by decide +kernel
theorem dX2_dealOne_5 : decode cX2_dealOne 5 = .ok (.iload_n 1, 1) := by decide +kernel
theorem dX2_dealOne_6 : decode cX2_dealOne 6 = .ok (.invokevirtual 38, 3) := by decide +kernel
theorem dX2_dealOne_9 : decode cX2_dealOne 9 = .ok (.istore_n 2, 1) := by decide +kernel
theorem dX2_dealOne_10 : decode cX2_dealOne 10 = .ok (.iconst 0, 1) := by decide +kernel
theorem dX2_dealOne_11 : decode cX2_dealOne 11 = .ok (.istore_n 3, 1) := by decide +kernel
theorem dX2_dealOne_12 : decode cX2_dealOne 12 = .ok (.iload_n 3, 1) := by decide +kernel
theorem dX2_dealOne_13 : decode cX2_dealOne 13 = .ok (.aload_n 0, 1) := by decide +kernel
theorem dX2_dealOne_14 : decode cX2_dealOne 14 = .ok (.getfield 22, 3) := by decide +kernel
theorem dX2_dealOne_17 : decode cX2_dealOne 17 = .ok (.getfield 81, 3) := by decide +kernel
theorem dX2_dealOne_20 : decode cX2_dealOne 20 = .ok (.if_icmp .ge 26, 3) := by decide +kernel
theorem dX2_dealOne_23 : decode cX2_dealOne 23 = .ok (.aload_n 0, 1) := by decide +kernel
theorem dX2_dealOne_24 : decode cX2_dealOne 24 = .ok (.getfield 9, 3) := by decide +kernel
theorem dX2_dealOne_27 : decode cX2_dealOne 27 = .ok (.iload_n 3, 1) := by decide +kernel
theorem dX2_dealOne_28 : decode cX2_dealOne 28 = .ok (.aload_n 0, 1) := by decide +kernel
theorem dX2_dealOne_29 : decode cX2_dealOne 29 = .ok (.getfield 22, 3) := by decide +kernel
theorem dX2_dealOne_32 : decode cX2_dealOne 32 = .ok (.iload_n 3, 1) := by decide +kernel
theorem dX2_dealOne_33 : decode cX2_dealOne 33 = .ok (.iload_n 2, 1) := by decide +kernel
theorem dX2_dealOne_34 : decode cX2_dealOne 34 = .ok (.invokevirtual 84, 3) := by decide +kernel
theorem dX2_dealOne_37 : decode cX2_dealOne 37 = .ok (.iload_n 2, 1) := by decide +kernel
theorem dX2_dealOne_38 : decode cX2_dealOne 38 = .ok (.isub, 1) := by decide +kernel
theorem dX2_dealOne_39 : decode cX2_dealOne 39 = .ok (.iastore, 1) := by decide +kernel
theorem dX2_dealOne_40 : decode cX2_dealOne 40 = .ok (.iinc 3 1, 3) := by decide +kernel
theorem dX2_dealOne_43 : decode cX2_dealOne 43 = .ok (.goto (-31), 3) := by decide +kernel
theorem dX2_dealOne_46 : decode cX2_dealOne 46 = .ok (.aload_n 0, 1) := by decide +kernel
theorem dX2_dealOne_47 : decode cX2_dealOne 47 = .ok (.getfield 15, 3) := by decide +kernel
theorem dX2_dealOne_50 : decode cX2_dealOne 50 = .ok (.arraylength, 1) := by decide +kernel
theorem dX2_dealOne_51 : decode cX2_dealOne 51 = .ok (.iconst 1, 1) := by decide +kernel
theorem dX2_dealOne_52 : decode cX2_dealOne 52 = .ok (.isub, 1) := by decide +kernel
theorem dX2_dealOne_53 : decode cX2_dealOne 53 = .ok (.istore_n 3, 1) := by decide +kernel
theorem dX2_dealOne_54 : decode cX2_dealOne 54 = .ok (.iload_n 3, 1) := by decide +kernel
theorem dX2_dealOne_55 : decode cX2_dealOne 55 = .ok (.ifCond .lt 123, 3) := by decide +kernel
theorem dX2_dealOne_58 : decode cX2_dealOne 58 = .ok (.iconst 0, 1) := by decide +kernel
theorem dX2_dealOne_59 : decode cX2_dealOne 59 = .ok (.istore 4, 2) := by decide +kernel
theorem dX2_dealOne_61 : decode cX2_dealOne 61 = .ok (.iload 4, 2) := by decide +kernel
theorem dX2_dealOne_63 : decode cX2_dealOne 63 = .ok (.aload_n 0, 1) := by decide +kernel
theorem dX2_dealOne_64 : decode cX2_dealOne 64 = .ok (.getfield 22, 3) := by decide +kernel
theorem dX2_dealOne_67 : decode cX2_dealOne 67 = .ok (.getfield 81, 3) := by decide +kernel
theorem dX2_dealOne_70 : decode cX2_dealOne 70 = .ok (.if_icmp .ge 102, 3) := by decide +kernel
theorem dX2_dealOne_73 : decode cX2_dealOne 73 = .ok (.aload_n 0, 1) := by decide +kernel
theorem dX2_dealOne_74 : decode cX2_dealOne 74 = .ok (.getfield 15, 3) := by decide +kernel
theorem dX2_dealOne_77 : decode cX2_dealOne 77 = .ok (.iload_n 3, 1) := by decide +kernel
theorem dX2_dealOne_78 : decode cX2_dealOne 78 = .ok (.laload, 1) := by decide +kernel
theorem dX2_dealOne_79 : decode cX2_dealOne 79 = .ok (.ldc2_w 63, 3) := by decide +kernel
theorem dX2_dealOne_82 : decode cX2_dealOne 82 = .ok (.lcmp, 1) := by decide +kernel
theorem dX2_dealOne_83 : decode cX2_dealOne 83 = .ok (.ifCond .eq 89, 3) := by decide +kernel
theorem dX2_dealOne_86 : decode cX2_dealOne 86 = .ok (.iload_n 3, 1) := by decide +kernel
theorem dX2_dealOne_87 : decode cX2_dealOne 87 = .ok (.iload 4, 2) := by decide +kernel
theorem dX2_dealOne_89 : decode cX2_dealOne 89 = .ok (.ishr, 1) := by decide +kernel
theorem dX2_dealOne_90 : decode cX2_dealOne 90 = .ok (.iconst 1, 1) := by decide +kernel
theorem dX2_dealOne_91 : decode cX2_dealOne 91 = .ok (.iand, 1) := by decide +kernel
theorem dX2_dealOne_92 : decode cX2_dealOne 92 = .ok (.ifCond .ne 74, 3) := by decide +kernel
theorem dX2_dealOne_95 : decode cX2_dealOne 95 = .ok (.aload_n 0, 1) := by decide +kernel
theorem dX2_dealOne_96 : decode cX2_dealOne 96 = .ok (.getfield 9, 3) := by decide +kernel
theorem dX2_dealOne_99 : decode cX2_dealOne 99 = .ok (.iload 4, 2) := by decide +kernel
theorem dX2_dealOne_101 : decode cX2_dealOne 101 = .ok (.iaload, 1) := by decide +kernel
theorem dX2_dealOne_102 : decode cX2_dealOne 102 = .ok (.ifCond .lt 64, 3) := by decide +kernel
theorem dX2_dealOne_105 : decode cX2_dealOne 105 = .ok (.iload_n 3, 1) := by decide +kernel
theorem dX2_dealOne_106 : decode cX2_dealOne 106 = .ok (.iconst 1, 1) := by decide +kernel
theorem dX2_dealOne_107 : decode cX2_dealOne 107 = .ok (.iload 4, 2) := by decide +kernel
theorem dX2_dealOne_109 : decode cX2_dealOne 109 = .ok (.ishl, 1) := by decide +kernel
theorem dX2_dealOne_110 : decode cX2_dealOne 110 = .ok (.ior, 1) := by decide +kernel
theorem dX2_dealOne_111 : decode cX2_dealOne 111 = .ok (.istore 5, 2) := by decide +kernel
theorem dX2_dealOne_113 : decode cX2_dealOne 113 = .ok (.aload_n 0, 1) := by decide +kernel
theorem dX2_dealOne_114 : decode cX2_dealOne 114 = .ok (.getfield 15, 3) := by decide +kernel
theorem dX2_dealOne_117 : decode cX2_dealOne 117 = .ok (.iload_n 3, 1) := by decide +kernel
theorem dX2_dealOne_118 : decode cX2_dealOne 118 = .ok (.laload, 1) := by decide +kernel
theorem dX2_dealOne_119 : decode cX2_dealOne 119 = .ok (.aload_n 0, 1) := by decide +kernel
theorem dX2_dealOne_120 : decode cX2_dealOne 120 = .ok (.getfield 9, 3) := by decide +kernel
theorem dX2_dealOne_123 : decode cX2_dealOne 123 = .ok (.iload 4, 2) := by decide +kernel
theorem dX2_dealOne_125 : decode cX2_dealOne 125 = .ok (.iaload, 1) := by decide +kernel
theorem dX2_dealOne_126 : decode cX2_dealOne 126 = .ok (.i2l, 1) := by decide +kernel
theorem dX2_dealOne_127 : decode cX2_dealOne 127 = .ok (.ldc2_w 87, 3) := by decide +kernel
theorem dX2_dealOne_130 : decode cX2_dealOne 130 = .ok (.lmul, 1) := by decide +kernel
theorem dX2_dealOne_131 : decode cX2_dealOne 131 = .ok (.ladd, 1) := by decide +kernel
theorem dX2_dealOne_132 : decode cX2_dealOne 132 = .ok (.bipush 10, 2) := by decide +kernel
theorem dX2_dealOne_134 : decode cX2_dealOne 134 = .ok (.iload_n 1, 1) := by decide +kernel
theorem dX2_dealOne_135 : decode cX2_dealOne 135 = .ok (.isub, 1) := by decide +kernel
theorem dX2_dealOne_136 : decode cX2_dealOne 136 = .ok (.getstatic 89, 3) := by decide +kernel
theorem dX2_dealOne_139 : decode cX2_dealOne 139 = .ok (.iload 4, 2) := by decide +kernel
theorem dX2_dealOne_141 : decode cX2_dealOne 141 = .ok (.iaload, 1) := by decide +kernel
theorem dX2_dealOne_142 : decode cX2_dealOne 142 = .ok (.imul, 1) := by decide +kernel
theorem dX2_dealOne_143 : decode cX2_dealOne 143 = .ok (.i2l, 1) := by decide +kernel
theorem dX2_dealOne_144 : decode cX2_dealOne 144 = .ok (.ladd, 1) := by decide +kernel
theorem dX2_dealOne_145 : decode cX2_dealOne 145 = .ok (.lstore 6, 2) := by decide +kernel
theorem dX2_dealOne_147 : decode cX2_dealOne 147 = .ok (.aload_n 0, 1) := by decide +kernel
theorem dX2_dealOne_148 : decode cX2_dealOne 148 = .ok (.getfield 15, 3) := by decide +kernel
theorem dX2_dealOne_151 : decode cX2_dealOne 151 = .ok (.iload 5, 2) := by decide +kernel
theorem dX2_dealOne_153 : decode cX2_dealOne 153 = .ok (.aload_n 0, 1) := by decide +kernel
theorem dX2_dealOne_154 : decode cX2_dealOne 154 = .ok (.getfield 15, 3) := by decide +kernel
theorem dX2_dealOne_157 : decode cX2_dealOne 157 = .ok (.iload 5, 2) := by decide +kernel
theorem dX2_dealOne_159 : decode cX2_dealOne 159 = .ok (.laload, 1) := by decide +kernel
theorem dX2_dealOne_160 : decode cX2_dealOne 160 = .ok (.lload 6, 2) := by decide +kernel
theorem dX2_dealOne_162 : decode cX2_dealOne 162 = .ok (.invokestatic 75, 3) := by decide +kernel
theorem dX2_dealOne_165 : decode cX2_dealOne 165 = .ok (.lastore, 1) := by decide +kernel
theorem dX2_dealOne_166 : decode cX2_dealOne 166 = .ok (.iinc 4 1, 3) := by decide +kernel
theorem dX2_dealOne_169 : decode cX2_dealOne 169 = .ok (.goto (-108), 3) := by decide +kernel
theorem dX2_dealOne_172 : decode cX2_dealOne 172 = .ok (.iinc 3 (-1), 3) := by decide +kernel
theorem dX2_dealOne_175 : decode cX2_dealOne 175 = .ok (.goto (-121), 3) := by decide +kernel
theorem dX2_dealOne_178 : decode cX2_dealOne 178 = .ok (.return_, 1) := by decide +kernel
theorem dX2_dealtWorth_0 : decode cX2_dealtWorth 0 = .ok (.lload_n 1, 1) := by decide +kernel
theorem dX2_dealtWorth_1 : decode cX2_dealtWorth 1 = .ok (.ldc2_w 87, 3) := by decide +kernel
theorem dX2_dealtWorth_4 : decode cX2_dealtWorth 4 = .ok (.ldiv, 1) := by decide +kernel
theorem dX2_dealtWorth_5 : decode cX2_dealtWorth 5 = .ok (.l2i, 1) := by decide +kernel
theorem dX2_dealtWorth_6 : decode cX2_dealtWorth 6 = .ok (.ireturn, 1) := by decide +kernel
theorem dX2_dealtSack_0 : decode cX2_dealtSack 0 = .ok (.lload_n 1, 1) := by decide +kernel
theorem dX2_dealtSack_1 : decode cX2_dealtSack 1 = .ok (.lstore 4, 2) := by decide +kernel
theorem dX2_dealtSack_3 : decode cX2_dealtSack 3 = .ok (.iload_n 3, 1) := by decide +kernel
theorem dX2_dealtSack_4 : decode cX2_dealtSack 4 = .ok (.iconst 1, 1) := by decide +kernel
theorem dX2_dealtSack_5 : decode cX2_dealtSack 5 = .ok (.iadd, 1) := by decide +kernel
theorem dX2_dealtSack_6 : decode cX2_dealtSack 6 = .ok (.istore 6, 2) := by decide +kernel
theorem dX2_dealtSack_8 : decode cX2_dealtSack 8 = .ok (.iload 6, 2) := by decide +kernel
theorem dX2_dealtSack_10 : decode cX2_dealtSack 10 = .ok (.bipush 6, 2) := by decide +kernel
theorem dX2_dealtSack_12 : decode cX2_dealtSack 12 = .ok (.if_icmp .ge 17, 3) := by decide +kernel
theorem dX2_dealtSack_15 : decode cX2_dealtSack 15 = .ok (.lload 4, 2) := by decide +kernel
theorem dX2_dealtSack_17 : decode cX2_dealtSack 17 = .ok (.ldc2_w 92, 3) := by decide +kernel
theorem dX2_dealtSack_20 : decode cX2_dealtSack 20 = .ok (.ldiv, 1) := by decide +kernel
theorem dX2_dealtSack_21 : decode cX2_dealtSack 21 = .ok (.lstore 4, 2) := by decide +kernel
theorem dX2_dealtSack_23 : decode cX2_dealtSack 23 = .ok (.iinc 6 1, 3) := by decide +kernel
theorem dX2_dealtSack_26 : decode cX2_dealtSack 26 = .ok (.goto (-18), 3) := by decide +kernel
theorem dX2_dealtSack_29 : decode cX2_dealtSack 29 = .ok (.lload 4, 2) := by decide +kernel
theorem dX2_dealtSack_31 : decode cX2_dealtSack 31 = .ok (.ldc2_w 92, 3) := by decide +kernel
theorem dX2_dealtSack_34 : decode cX2_dealtSack 34 = .ok (.lrem, 1) := by decide +kernel
theorem dX2_dealtSack_35 : decode cX2_dealtSack 35 = .ok (.l2i, 1) := by decide +kernel
theorem dX2_dealtSack_36 : decode cX2_dealtSack 36 = .ok (.istore 6, 2) := by decide +kernel
theorem dX2_dealtSack_38 : decode cX2_dealtSack 38 = .ok (.iload 6, 2) := by decide +kernel
theorem dX2_dealtSack_40 : decode cX2_dealtSack 40 = .ok (.ifCond .ne 8, 3) := by decide +kernel
theorem dX2_dealtSack_43 : decode cX2_dealtSack 43 = .ok (.bipush (-2), 2) := by decide +kernel
theorem dX2_dealtSack_45 : decode cX2_dealtSack 45 = .ok (.goto 8, 3) := by decide +kernel
theorem dX2_dealtSack_48 : decode cX2_dealtSack 48 = .ok (.bipush 10, 2) := by decide +kernel
theorem dX2_dealtSack_50 : decode cX2_dealtSack 50 = .ok (.iload 6, 2) := by decide +kernel
theorem dX2_dealtSack_52 : decode cX2_dealtSack 52 = .ok (.isub, 1) := by decide +kernel
theorem dX2_dealtSack_53 : decode cX2_dealtSack 53 = .ok (.ireturn, 1) := by decide +kernel
theorem dX2_stocked_0 : decode cX2_stocked 0 = .ok (.aload_n 1, 1) := by decide +kernel
theorem dX2_stocked_1 : decode cX2_stocked 1 = .ok (.getfield 94, 3) := by decide +kernel
theorem dX2_stocked_4 : decode cX2_stocked 4 = .ok (.bipush 6, 2) := by decide +kernel
theorem dX2_stocked_6 : decode cX2_stocked 6 = .ok (.if_icmp .eq 5, 3) := by decide +kernel
theorem dX2_stocked_9 : decode cX2_stocked 9 = .ok (.iconst 0, 1) := by decide +kernel
theorem dX2_stocked_10 : decode cX2_stocked 10 = .ok (.ireturn, 1) := by decide +kernel
theorem dX2_stocked_11 : decode cX2_stocked 11 = .ok (.iconst 0, 1) := by decide +kernel
theorem dX2_stocked_12 : decode cX2_stocked 12 = .ok (.istore_n 2, 1) := by decide +kernel
theorem dX2_stocked_13 : decode cX2_stocked 13 = .ok (.iload_n 2, 1) := by decide +kernel
theorem dX2_stocked_14 : decode cX2_stocked 14 = .ok (.bipush 6, 2) := by decide +kernel
theorem dX2_stocked_16 : decode cX2_stocked 16 = .ok (.if_icmp .ge 59, 3) := by decide +kernel
theorem dX2_stocked_19 : decode cX2_stocked 19 = .ok (.aload_n 0, 1) := by decide +kernel
theorem dX2_stocked_20 : decode cX2_stocked 20 = .ok (.getfield 19, 3) := by decide +kernel
theorem dX2_stocked_23 : decode cX2_stocked 23 = .ok (.iload_n 2, 1) := by decide +kernel
theorem dX2_stocked_24 : decode cX2_stocked 24 = .ok (.aload_n 1, 1) := by decide +kernel
theorem dX2_stocked_25 : decode cX2_stocked 25 = .ok (.iload_n 2, 1) := by decide +kernel
theorem dX2_stocked_26 : decode cX2_stocked 26 = .ok (.invokevirtual 99, 3) := by decide +kernel
theorem dX2_stocked_29 : decode cX2_stocked 29 = .ok (.iastore, 1) := by decide +kernel
theorem dX2_stocked_30 : decode cX2_stocked 30 = .ok (.aload_n 0, 1) := by decide +kernel
theorem dX2_stocked_31 : decode cX2_stocked 31 = .ok (.getfield 19, 3) := by decide +kernel
theorem dX2_stocked_34 : decode cX2_stocked 34 = .ok (.iload_n 2, 1) := by decide +kernel
theorem dX2_stocked_35 : decode cX2_stocked 35 = .ok (.iaload, 1) := by decide +kernel
theorem dX2_stocked_36 : decode cX2_stocked 36 = .ok (.ifCond .lt 14, 3) := by decide +kernel
theorem dX2_stocked_39 : decode cX2_stocked 39 = .ok (.aload_n 0, 1) := by decide +kernel
theorem dX2_stocked_40 : decode cX2_stocked 40 = .ok (.getfield 19, 3) := by decide +kernel
theorem dX2_stocked_43 : decode cX2_stocked 43 = .ok (.iload_n 2, 1) := by decide +kernel
theorem dX2_stocked_44 : decode cX2_stocked 44 = .ok (.iaload, 1) := by decide +kernel
theorem dX2_stocked_45 : decode cX2_stocked 45 = .ok (.bipush 9, 2) := by decide +kernel
theorem dX2_stocked_47 : decode cX2_stocked 47 = .ok (.if_icmp .le 5, 3) := by decide +kernel
theorem dX2_stocked_50 : decode cX2_stocked 50 = .ok (.iconst 0, 1) := by decide +kernel
theorem dX2_stocked_51 : decode cX2_stocked 51 = .ok (.ireturn, 1) := by decide +kernel
theorem dX2_stocked_52 : decode cX2_stocked 52 = .ok (.aload_n 0, 1) := by decide +kernel
theorem dX2_stocked_53 : decode cX2_stocked 53 = .ok (.getfield 19, 3) := by decide +kernel
theorem dX2_stocked_56 : decode cX2_stocked 56 = .ok (.iload_n 2, 1) := by decide +kernel
theorem dX2_stocked_57 : decode cX2_stocked 57 = .ok (.dup2, 1) := by decide +kernel
theorem dX2_stocked_58 : decode cX2_stocked 58 = .ok (.iaload, 1) := by decide +kernel
theorem dX2_stocked_59 : decode cX2_stocked 59 = .ok (.aload_n 0, 1) := by decide +kernel
theorem dX2_stocked_60 : decode cX2_stocked 60 = .ok (.getfield 22, 3) := by decide +kernel
theorem dX2_stocked_63 : decode cX2_stocked 63 = .ok (.iload_n 2, 1) := by decide +kernel
theorem dX2_stocked_64 : decode cX2_stocked 64 = .ok (.invokevirtual 102, 3) := by decide +kernel
theorem dX2_stocked_67 : decode cX2_stocked 67 = .ok (.isub, 1) := by decide +kernel
theorem dX2_stocked_68 : decode cX2_stocked 68 = .ok (.iastore, 1) := by decide +kernel
theorem dX2_stocked_69 : decode cX2_stocked 69 = .ok (.iinc 2 1, 3) := by decide +kernel
theorem dX2_stocked_72 : decode cX2_stocked 72 = .ok (.goto (-59), 3) := by decide +kernel
theorem dX2_stocked_75 : decode cX2_stocked 75 = .ok (.iconst 1, 1) := by decide +kernel
theorem dX2_stocked_76 : decode cX2_stocked 76 = .ok (.ireturn, 1) := by decide +kernel
theorem dX2_tied_0 : decode cX2_tied 0 = .ok (.iconst 0, 1) := by decide +kernel
theorem dX2_tied_1 : decode cX2_tied 1 = .ok (.istore_n 1, 1) := by decide +kernel
theorem dX2_tied_2 : decode cX2_tied 2 = .ok (.iconst 0, 1) := by decide +kernel
theorem dX2_tied_3 : decode cX2_tied 3 = .ok (.istore_n 2, 1) := by decide +kernel
theorem dX2_tied_4 : decode cX2_tied 4 = .ok (.iload_n 2, 1) := by decide +kernel
theorem dX2_tied_5 : decode cX2_tied 5 = .ok (.aload_n 0, 1) := by decide +kernel
theorem dX2_tied_6 : decode cX2_tied 6 = .ok (.getfield 22, 3) := by decide +kernel
theorem dX2_tied_9 : decode cX2_tied 9 = .ok (.getfield 68, 3) := by decide +kernel
theorem dX2_tied_12 : decode cX2_tied 12 = .ok (.if_icmp .ge 28, 3) := by decide +kernel
theorem dX2_tied_15 : decode cX2_tied 15 = .ok (.iload_n 1, 1) := by decide +kernel
theorem dX2_tied_16 : decode cX2_tied 16 = .ok (.aload_n 0, 1) := by decide +kernel
theorem dX2_tied_17 : decode cX2_tied 17 = .ok (.getfield 22, 3) := by decide +kernel
theorem dX2_tied_20 : decode cX2_tied 20 = .ok (.iload_n 2, 1) := by decide +kernel
theorem dX2_tied_21 : decode cX2_tied 21 = .ok (.invokevirtual 105, 3) := by decide +kernel
theorem dX2_tied_24 : decode cX2_tied 24 = .ok (.ifCond .eq 7, 3) := by decide +kernel
theorem dX2_tied_27 : decode cX2_tied 27 = .ok (.iconst 0, 1) := by decide +kernel
theorem dX2_tied_28 : decode cX2_tied 28 = .ok (.goto 4, 3) := by decide +kernel
theorem dX2_tied_31 : decode cX2_tied 31 = .ok (.iconst 1, 1) := by decide +kernel
theorem dX2_tied_32 : decode cX2_tied 32 = .ok (.iadd, 1) := by decide +kernel
theorem dX2_tied_33 : decode cX2_tied 33 = .ok (.istore_n 1, 1) := by decide +kernel
theorem dX2_tied_34 : decode cX2_tied 34 = .ok (.iinc 2 1, 3) := by decide +kernel
theorem dX2_tied_37 : decode cX2_tied 37 = .ok (.goto (-33), 3) := by decide +kernel
theorem dX2_tied_40 : decode cX2_tied 40 = .ok (.iload_n 1, 1) := by decide +kernel
theorem dX2_tied_41 : decode cX2_tied 41 = .ok (.ireturn, 1) := by decide +kernel
theorem dX2_ways_0 : decode cX2_ways 0 = .ok (.aload_n 0, 1) := by decide +kernel
theorem dX2_ways_1 : decode cX2_ways 1 = .ok (.aload_n 0, 1) := by decide +kernel
theorem dX2_ways_2 : decode cX2_ways 2 = .ok (.invokevirtual 108, 3) := by decide +kernel
theorem dX2_ways_5 : decode cX2_ways 5 = .ok (.invokevirtual 112, 3) := by decide +kernel
theorem dX2_ways_8 : decode cX2_ways 8 = .ok (.lreturn, 1) := by decide +kernel
theorem dX2_waysWith_0 : decode cX2_waysWith 0 = .ok (.aload_n 0, 1) := by decide +kernel
theorem dX2_waysWith_1 : decode cX2_waysWith 1 = .ok (.getfield 22, 3) := by decide +kernel
theorem dX2_waysWith_4 : decode cX2_waysWith 4 = .ok (.iload_n 1, 1) := by decide +kernel
theorem dX2_waysWith_5 : decode cX2_waysWith 5 = .ok (.invokevirtual 105, 3) := by decide +kernel
theorem dX2_waysWith_8 : decode cX2_waysWith 8 = .ok (.ifCond .eq 25, 3) := by decide +kernel
theorem dX2_waysWith_11 : decode cX2_waysWith 11 = .ok (.aload_n 0, 1) := by decide +kernel
theorem dX2_waysWith_12 : decode cX2_waysWith 12 = .ok (.getfield 22, 3) := by decide +kernel
theorem dX2_waysWith_15 : decode cX2_waysWith 15 = .ok (.iconst 4, 1) := by decide +kernel
theorem dX2_waysWith_16 : decode cX2_waysWith 16 = .ok (.iload_n 1, 1) := by decide +kernel
theorem dX2_waysWith_17 : decode cX2_waysWith 17 = .ok (.invokevirtual 38, 3) := by decide +kernel
theorem dX2_waysWith_20 : decode cX2_waysWith 20 = .ok (.iload_n 2, 1) := by decide +kernel
theorem dX2_waysWith_21 : decode cX2_waysWith 21 = .ok (.if_icmp .ne 10, 3) := by decide +kernel
theorem dX2_waysWith_24 : decode cX2_waysWith 24 = .ok (.aload_n 0, 1) := by decide +kernel
theorem dX2_waysWith_25 : decode cX2_waysWith 25 = .ok (.invokevirtual 116, 3) := by decide +kernel
theorem dX2_waysWith_28 : decode cX2_waysWith 28 = .ok (.goto 4, 3) := by decide +kernel
theorem dX2_waysWith_31 : decode cX2_waysWith 31 = .ok (.lconst 0, 1) := by decide +kernel
theorem dX2_waysWith_32 : decode cX2_waysWith 32 = .ok (.lreturn, 1) := by decide +kernel
theorem dX2_waysWith_33 : decode cX2_waysWith 33 = .ok (.aload_n 0, 1) := by decide +kernel
theorem dX2_waysWith_34 : decode cX2_waysWith 34 = .ok (.getfield 19, 3) := by decide +kernel
theorem dX2_waysWith_37 : decode cX2_waysWith 37 = .ok (.iload_n 2, 1) := by decide +kernel
theorem dX2_waysWith_38 : decode cX2_waysWith 38 = .ok (.dup2, 1) := by decide +kernel
theorem dX2_waysWith_39 : decode cX2_waysWith 39 = .ok (.iaload, 1) := by decide +kernel
theorem dX2_waysWith_40 : decode cX2_waysWith 40 = .ok (.iconst 1, 1) := by decide +kernel
theorem dX2_waysWith_41 : decode cX2_waysWith 41 = .ok (.isub, 1) := by decide +kernel
theorem dX2_waysWith_42 : decode cX2_waysWith 42 = .ok (.iastore, 1) := by decide +kernel
theorem dX2_waysWith_43 : decode cX2_waysWith 43 = .ok (.aload_n 0, 1) := by decide +kernel
theorem dX2_waysWith_44 : decode cX2_waysWith 44 = .ok (.aload_n 0, 1) := by decide +kernel
theorem dX2_waysWith_45 : decode cX2_waysWith 45 = .ok (.invokevirtual 108, 3) := by decide +kernel
theorem dX2_waysWith_48 : decode cX2_waysWith 48 = .ok (.iconst 1, 1) := by decide +kernel
theorem dX2_waysWith_49 : decode cX2_waysWith 49 = .ok (.isub, 1) := by decide +kernel
theorem dX2_waysWith_50 : decode cX2_waysWith 50 = .ok (.invokevirtual 112, 3) := by decide +kernel
theorem dX2_waysWith_53 : decode cX2_waysWith 53 = .ok (.lreturn, 1) := by decide +kernel
theorem dX2_waysOf_0 : decode cX2_waysOf 0 = .ok (.lconst 1, 1) := by decide +kernel
theorem dX2_waysOf_1 : decode cX2_waysOf 1 = .ok (.lstore_n 2, 1) := by decide +kernel
theorem dX2_waysOf_2 : decode cX2_waysOf 2 = .ok (.iload_n 1, 1) := by decide +kernel
theorem dX2_waysOf_3 : decode cX2_waysOf 3 = .ok (.istore 4, 2) := by decide +kernel
theorem dX2_waysOf_5 : decode cX2_waysOf 5 = .ok (.iconst 0, 1) := by decide +kernel
theorem dX2_waysOf_6 : decode cX2_waysOf 6 = .ok (.istore 5, 2) := by decide +kernel
theorem dX2_waysOf_8 : decode cX2_waysOf 8 = .ok (.iload 5, 2) := by decide +kernel
theorem dX2_waysOf_10 : decode cX2_waysOf 10 = .ok (.bipush 6, 2) := by decide +kernel
theorem dX2_waysOf_12 : decode cX2_waysOf 12 = .ok (.if_icmp .ge 81, 3) := by decide +kernel
theorem dX2_waysOf_15 : decode cX2_waysOf 15 = .ok (.aload_n 0, 1) := by decide +kernel
theorem dX2_waysOf_16 : decode cX2_waysOf 16 = .ok (.getfield 19, 3) := by decide +kernel
theorem dX2_waysOf_19 : decode cX2_waysOf 19 = .ok (.iload 5, 2) := by decide +kernel
theorem dX2_waysOf_21 : decode cX2_waysOf 21 = .ok (.iaload, 1) := by decide +kernel
theorem dX2_waysOf_22 : decode cX2_waysOf 22 = .ok (.ifCond .lt 15, 3) := by decide +kernel
theorem dX2_waysOf_25 : decode cX2_waysOf 25 = .ok (.aload_n 0, 1) := by decide +kernel
theorem dX2_waysOf_26 : decode cX2_waysOf 26 = .ok (.getfield 19, 3) := by decide +kernel
theorem dX2_waysOf_29 : decode cX2_waysOf 29 = .ok (.iload 5, 2) := by decide +kernel
theorem dX2_waysOf_31 : decode cX2_waysOf 31 = .ok (.iaload, 1) := by decide +kernel
theorem dX2_waysOf_32 : decode cX2_waysOf 32 = .ok (.iload 4, 2) := by decide +kernel
theorem dX2_waysOf_34 : decode cX2_waysOf 34 = .ok (.if_icmp .le 5, 3) := by decide +kernel
theorem dX2_waysOf_37 : decode cX2_waysOf 37 = .ok (.lconst 0, 1) := by decide +kernel
theorem dX2_waysOf_38 : decode cX2_waysOf 38 = .ok (.lreturn, 1) := by decide +kernel
theorem dX2_waysOf_39 : decode cX2_waysOf 39 = .ok (.iconst 1, 1) := by decide +kernel
theorem dX2_waysOf_40 : decode cX2_waysOf 40 = .ok (.istore 6, 2) := by decide +kernel
theorem dX2_waysOf_42 : decode cX2_waysOf 42 = .ok (.iload 6, 2) := by decide +kernel
theorem dX2_waysOf_44 : decode cX2_waysOf 44 = .ok (.aload_n 0, 1) := by decide +kernel
theorem dX2_waysOf_45 : decode cX2_waysOf 45 = .ok (.getfield 19, 3) := by decide +kernel
theorem dX2_waysOf_48 : decode cX2_waysOf 48 = .ok (.iload 5, 2) := by decide +kernel
theorem dX2_waysOf_50 : decode cX2_waysOf 50 = .ok (.iaload, 1) := by decide +kernel
theorem dX2_waysOf_51 : decode cX2_waysOf 51 = .ok (.if_icmp .gt 24, 3) := by decide +kernel
theorem dX2_waysOf_54 : decode cX2_waysOf 54 = .ok (.lload_n 2, 1) := by decide +kernel
theorem dX2_waysOf_55 : decode cX2_waysOf 55 = .ok (.iload 4, 2) := by decide +kernel
theorem dX2_waysOf_57 : decode cX2_waysOf 57 = .ok (.iload 6, 2) := by decide +kernel
theorem dX2_waysOf_59 : decode cX2_waysOf 59 = .ok (.isub, 1) := by decide +kernel
theorem dX2_waysOf_60 : decode cX2_waysOf 60 = .ok (.iconst 1, 1) := by decide +kernel
theorem dX2_waysOf_61 : decode cX2_waysOf 61 = .ok (.iadd, 1) := by decide +kernel
theorem dX2_waysOf_62 : decode cX2_waysOf 62 = .ok (.i2l, 1) := by decide +kernel
theorem dX2_waysOf_63 : decode cX2_waysOf 63 = .ok (.lmul, 1) := by decide +kernel
theorem dX2_waysOf_64 : decode cX2_waysOf 64 = .ok (.iload 6, 2) := by decide +kernel
theorem dX2_waysOf_66 : decode cX2_waysOf 66 = .ok (.i2l, 1) := by decide +kernel
theorem dX2_waysOf_67 : decode cX2_waysOf 67 = .ok (.ldiv, 1) := by decide +kernel
theorem dX2_waysOf_68 : decode cX2_waysOf 68 = .ok (.lstore_n 2, 1) := by decide +kernel
theorem dX2_waysOf_69 : decode cX2_waysOf 69 = .ok (.iinc 6 1, 3) := by decide +kernel
theorem dX2_waysOf_72 : decode cX2_waysOf 72 = .ok (.goto (-30), 3) := by decide +kernel
theorem dX2_waysOf_75 : decode cX2_waysOf 75 = .ok (.iload 4, 2) := by decide +kernel
theorem dX2_waysOf_77 : decode cX2_waysOf 77 = .ok (.aload_n 0, 1) := by decide +kernel
theorem dX2_waysOf_78 : decode cX2_waysOf 78 = .ok (.getfield 19, 3) := by decide +kernel
theorem dX2_waysOf_81 : decode cX2_waysOf 81 = .ok (.iload 5, 2) := by decide +kernel
theorem dX2_waysOf_83 : decode cX2_waysOf 83 = .ok (.iaload, 1) := by decide +kernel
theorem dX2_waysOf_84 : decode cX2_waysOf 84 = .ok (.isub, 1) := by decide +kernel
theorem dX2_waysOf_85 : decode cX2_waysOf 85 = .ok (.istore 4, 2) := by decide +kernel
theorem dX2_waysOf_87 : decode cX2_waysOf 87 = .ok (.iinc 5 1, 3) := by decide +kernel
theorem dX2_waysOf_90 : decode cX2_waysOf 90 = .ok (.goto (-82), 3) := by decide +kernel
theorem dX2_waysOf_93 : decode cX2_waysOf 93 = .ok (.iload 4, 2) := by decide +kernel
theorem dX2_waysOf_95 : decode cX2_waysOf 95 = .ok (.ifCond .ne 7, 3) := by decide +kernel
theorem dX2_waysOf_98 : decode cX2_waysOf 98 = .ok (.lload_n 2, 1) := by decide +kernel
theorem dX2_waysOf_99 : decode cX2_waysOf 99 = .ok (.goto 4, 3) := by decide +kernel
theorem dX2_waysOf_102 : decode cX2_waysOf 102 = .ok (.lconst 0, 1) := by decide +kernel
theorem dX2_waysOf_103 : decode cX2_waysOf 103 = .ok (.lreturn, 1) := by decide +kernel
theorem dX2_turnsPaid_0 : decode cX2_turnsPaid 0 = .ok (.aload_n 0, 1) := by decide +kernel
theorem dX2_turnsPaid_1 : decode cX2_turnsPaid 1 = .ok (.iload_n 1, 1) := by decide +kernel
theorem dX2_turnsPaid_2 : decode cX2_turnsPaid 2 = .ok (.aload_n 0, 1) := by decide +kernel
theorem dX2_turnsPaid_3 : decode cX2_turnsPaid 3 = .ok (.getfield 22, 3) := by decide +kernel
theorem dX2_turnsPaid_6 : decode cX2_turnsPaid 6 = .ok (.iconst 5, 1) := by decide +kernel
theorem dX2_turnsPaid_7 : decode cX2_turnsPaid 7 = .ok (.iload_n 2, 1) := by decide +kernel
theorem dX2_turnsPaid_8 : decode cX2_turnsPaid 8 = .ok (.invokevirtual 38, 3) := by decide +kernel
theorem dX2_turnsPaid_11 : decode cX2_turnsPaid 11 = .ok (.iconst 0, 1) := by decide +kernel
theorem dX2_turnsPaid_12 : decode cX2_turnsPaid 12 = .ok (.iload_n 3, 1) := by decide +kernel
theorem dX2_turnsPaid_13 : decode cX2_turnsPaid 13 = .ok (.invokevirtual 120, 3) := by decide +kernel
theorem dX2_turnsPaid_16 : decode cX2_turnsPaid 16 = .ok (.invokestatic 124, 3) := by decide +kernel
theorem dX2_turnsPaid_19 : decode cX2_turnsPaid 19 = .ok (.ireturn, 1) := by decide +kernel
theorem dX2_turnsRaised_0 : decode cX2_turnsRaised 0 = .ok (.aload_n 0, 1) := by decide +kernel
theorem dX2_turnsRaised_1 : decode cX2_turnsRaised 1 = .ok (.getfield 22, 3) := by decide +kernel
theorem dX2_turnsRaised_4 : decode cX2_turnsRaised 4 = .ok (.iconst 5, 1) := by decide +kernel
theorem dX2_turnsRaised_5 : decode cX2_turnsRaised 5 = .ok (.iload_n 2, 1) := by decide +kernel
theorem dX2_turnsRaised_6 : decode cX2_turnsRaised 6 = .ok (.invokevirtual 38, 3) := by decide +kernel
theorem dX2_turnsRaised_9 : decode cX2_turnsRaised 9 = .ok (.istore 4, 2) := by decide +kernel
theorem dX2_turnsRaised_11 : decode cX2_turnsRaised 11 = .ok (.aload_n 0, 1) := by decide +kernel
theorem dX2_turnsRaised_12 : decode cX2_turnsRaised 12 = .ok (.iload_n 1, 1) := by decide +kernel
theorem dX2_turnsRaised_13 : decode cX2_turnsRaised 13 = .ok (.iload 4, 2) := by decide +kernel
theorem dX2_turnsRaised_15 : decode cX2_turnsRaised 15 = .ok (.iconst 1, 1) := by decide +kernel
theorem dX2_turnsRaised_16 : decode cX2_turnsRaised 16 = .ok (.iload_n 3, 1) := by decide +kernel
theorem dX2_turnsRaised_17 : decode cX2_turnsRaised 17 = .ok (.invokevirtual 120, 3) := by decide +kernel
theorem dX2_turnsRaised_20 : decode cX2_turnsRaised 20 = .ok (.istore 5, 2) := by decide +kernel
theorem dX2_turnsRaised_22 : decode cX2_turnsRaised 22 = .ok (.aload_n 0, 1) := by decide +kernel
theorem dX2_turnsRaised_23 : decode cX2_turnsRaised 23 = .ok (.iload_n 1, 1) := by decide +kernel
theorem dX2_turnsRaised_24 : decode cX2_turnsRaised 24 = .ok (.iload 4, 2) := by decide +kernel
theorem dX2_turnsRaised_26 : decode cX2_turnsRaised 26 = .ok (.iconst 1, 1) := by decide +kernel
theorem dX2_turnsRaised_27 : decode cX2_turnsRaised 27 = .ok (.invokestatic 127, 3) := by decide +kernel
theorem dX2_turnsRaised_30 : decode cX2_turnsRaised 30 = .ok (.iconst 1, 1) := by decide +kernel
theorem dX2_turnsRaised_31 : decode cX2_turnsRaised 31 = .ok (.iload_n 3, 1) := by decide +kernel
theorem dX2_turnsRaised_32 : decode cX2_turnsRaised 32 = .ok (.invokevirtual 120, 3) := by decide +kernel
theorem dX2_turnsRaised_35 : decode cX2_turnsRaised 35 = .ok (.istore 6, 2) := by decide +kernel
theorem dX2_turnsRaised_37 : decode cX2_turnsRaised 37 = .ok (.iload 6, 2) := by decide +kernel
theorem dX2_turnsRaised_39 : decode cX2_turnsRaised 39 = .ok (.invokestatic 124, 3) := by decide +kernel
theorem dX2_turnsRaised_42 : decode cX2_turnsRaised 42 = .ok (.iload 5, 2) := by decide +kernel
theorem dX2_turnsRaised_44 : decode cX2_turnsRaised 44 = .ok (.invokestatic 124, 3) := by decide +kernel
theorem dX2_turnsRaised_47 : decode cX2_turnsRaised 47 = .ok (.if_icmp .le 7, 3) := by decide +kernel
theorem dX2_turnsRaised_50 : decode cX2_turnsRaised 50 = .ok (.iconst 1, 1) := by decide +kernel
theorem dX2_turnsRaised_51 : decode cX2_turnsRaised 51 = .ok (.goto 4, 3) := by decide +kernel
theorem dX2_turnsRaised_54 : decode cX2_turnsRaised 54 = .ok (.iconst 0, 1) := by decide +kernel
theorem dX2_turnsRaised_55 : decode cX2_turnsRaised 55 = .ok (.ireturn, 1) := by decide +kernel
theorem dX2_paid_0 : decode cX2_paid 0 = .ok (.iload_n 0, 1) := by decide +kernel
theorem dX2_paid_1 : decode cX2_paid 1 = .ok (.sipush 1000, 3) := by decide +kernel
theorem dX2_paid_4 : decode cX2_paid 4 = .ok (.idiv, 1) := by decide +kernel
theorem dX2_paid_5 : decode cX2_paid 5 = .ok (.ireturn, 1) := by decide +kernel
theorem dX2_gained_0 : decode cX2_gained 0 = .ok (.iload_n 0, 1) := by decide +kernel
theorem dX2_gained_1 : decode cX2_gained 1 = .ok (.sipush 1000, 3) := by decide +kernel
theorem dX2_gained_4 : decode cX2_gained 4 = .ok (.irem, 1) := by decide +kernel
theorem dX2_gained_5 : decode cX2_gained 5 = .ok (.ireturn, 1) := by decide +kernel
theorem dX2_moved_0 : decode cX2_moved 0 = .ok (.iload_n 1, 1) := by decide +kernel
theorem dX2_moved_1 : decode cX2_moved 1 = .ok (.ifCond .eq 18, 3) := by decide +kernel
theorem dX2_moved_4 : decode cX2_moved 4 = .ok (.getstatic 131, 3) := by decide +kernel
theorem dX2_moved_7 : decode cX2_moved 7 = .ok (.iconst 5, 1) := by decide +kernel
theorem dX2_moved_8 : decode cX2_moved 8 = .ok (.iaload, 1) := by decide +kernel
theorem dX2_moved_9 : decode cX2_moved 9 = .ok (.iload_n 0, 1) := by decide +kernel
theorem dX2_moved_10 : decode cX2_moved 10 = .ok (.bipush 10, 2) := by decide +kernel
theorem dX2_moved_12 : decode cX2_moved 12 = .ok (.iadd, 1) := by decide +kernel
theorem dX2_moved_13 : decode cX2_moved 13 = .ok (.invokestatic 134, 3) := by decide +kernel
theorem dX2_moved_16 : decode cX2_moved 16 = .ok (.goto 11, 3) := by decide +kernel
theorem dX2_moved_19 : decode cX2_moved 19 = .ok (.iconst 0, 1) := by decide +kernel
theorem dX2_moved_20 : decode cX2_moved 20 = .ok (.iload_n 0, 1) := by decide +kernel
theorem dX2_moved_21 : decode cX2_moved 21 = .ok (.bipush 10, 2) := by decide +kernel
theorem dX2_moved_23 : decode cX2_moved 23 = .ok (.isub, 1) := by decide +kernel
theorem dX2_moved_24 : decode cX2_moved 24 = .ok (.invokestatic 137, 3) := by decide +kernel
theorem dX2_moved_27 : decode cX2_moved 27 = .ok (.ireturn, 1) := by decide +kernel
theorem dX2_outcome_0 : decode cX2_outcome 0 = .ok (.iload_n 3, 1) := by decide +kernel
theorem dX2_outcome_1 : decode cX2_outcome 1 = .ok (.iload 4, 2) := by decide +kernel
theorem dX2_outcome_3 : decode cX2_outcome 3 = .ok (.if_icmp .ge 8, 3) := by decide +kernel
theorem dX2_outcome_6 : decode cX2_outcome 6 = .ok (.iload_n 3, 1) := by decide +kernel
theorem dX2_outcome_7 : decode cX2_outcome 7 = .ok (.iconst 4, 1) := by decide +kernel
theorem dX2_outcome_8 : decode cX2_outcome 8 = .ok (.if_icmp .lt 10, 3) := by decide +kernel
theorem dX2_outcome_11 : decode cX2_outcome 11 = .ok (.aload_n 0, 1) := by decide +kernel
theorem dX2_outcome_12 : decode cX2_outcome 12 = .ok (.iload_n 1, 1) := by decide +kernel
theorem dX2_outcome_13 : decode cX2_outcome 13 = .ok (.iload_n 2, 1) := by decide +kernel
theorem dX2_outcome_14 : decode cX2_outcome 14 = .ok (.invokevirtual 139, 3) := by decide +kernel
theorem dX2_outcome_17 : decode cX2_outcome 17 = .ok (.ireturn, 1) := by decide +kernel
theorem dX2_outcome_18 : decode cX2_outcome 18 = .ok (.iload_n 3, 1) := by decide +kernel
theorem dX2_outcome_19 : decode cX2_outcome 19 = .ok (.iconst 2, 1) := by decide +kernel
theorem dX2_outcome_20 : decode cX2_outcome 20 = .ok (.irem, 1) := by decide +kernel
theorem dX2_outcome_21 : decode cX2_outcome 21 = .ok (.ifCond .ne 7, 3) := by decide +kernel
theorem dX2_outcome_24 : decode cX2_outcome 24 = .ok (.iconst 1, 1) := by decide +kernel
theorem dX2_outcome_25 : decode cX2_outcome 25 = .ok (.goto 4, 3) := by decide +kernel
theorem dX2_outcome_28 : decode cX2_outcome 28 = .ok (.iconst 0, 1) := by decide +kernel
theorem dX2_outcome_29 : decode cX2_outcome 29 = .ok (.istore 5, 2) := by decide +kernel
theorem dX2_outcome_31 : decode cX2_outcome 31 = .ok (.aload_n 0, 1) := by decide +kernel
theorem dX2_outcome_32 : decode cX2_outcome 32 = .ok (.iload_n 1, 1) := by decide +kernel
theorem dX2_outcome_33 : decode cX2_outcome 33 = .ok (.iload_n 2, 1) := by decide +kernel
theorem dX2_outcome_34 : decode cX2_outcome 34 = .ok (.iload_n 3, 1) := by decide +kernel
theorem dX2_outcome_35 : decode cX2_outcome 35 = .ok (.iconst 1, 1) := by decide +kernel
theorem dX2_outcome_36 : decode cX2_outcome 36 = .ok (.iadd, 1) := by decide +kernel
theorem dX2_outcome_37 : decode cX2_outcome 37 = .ok (.iload 4, 2) := by decide +kernel
theorem dX2_outcome_39 : decode cX2_outcome 39 = .ok (.invokevirtual 120, 3) := by decide +kernel
theorem dX2_outcome_42 : decode cX2_outcome 42 = .ok (.istore 6, 2) := by decide +kernel
theorem dX2_outcome_44 : decode cX2_outcome 44 = .ok (.aload_n 0, 1) := by decide +kernel
theorem dX2_outcome_45 : decode cX2_outcome 45 = .ok (.iload_n 1, 1) := by decide +kernel
theorem dX2_outcome_46 : decode cX2_outcome 46 = .ok (.iload_n 2, 1) := by decide +kernel
theorem dX2_outcome_47 : decode cX2_outcome 47 = .ok (.iload 5, 2) := by decide +kernel
theorem dX2_outcome_49 : decode cX2_outcome 49 = .ok (.invokestatic 127, 3) := by decide +kernel
theorem dX2_outcome_52 : decode cX2_outcome 52 = .ok (.iload_n 3, 1) := by decide +kernel
theorem dX2_outcome_53 : decode cX2_outcome 53 = .ok (.iconst 1, 1) := by decide +kernel
theorem dX2_outcome_54 : decode cX2_outcome 54 = .ok (.iadd, 1) := by decide +kernel
theorem dX2_outcome_55 : decode cX2_outcome 55 = .ok (.iload 4, 2) := by decide +kernel
theorem dX2_outcome_57 : decode cX2_outcome 57 = .ok (.invokevirtual 120, 3) := by decide +kernel
theorem dX2_outcome_60 : decode cX2_outcome 60 = .ok (.istore 7, 2) := by decide +kernel
theorem dX2_outcome_62 : decode cX2_outcome 62 = .ok (.iload 5, 2) := by decide +kernel
theorem dX2_outcome_64 : decode cX2_outcome 64 = .ok (.ifCond .eq 24, 3) := by decide +kernel
theorem dX2_outcome_67 : decode cX2_outcome 67 = .ok (.iload 7, 2) := by decide +kernel
theorem dX2_outcome_69 : decode cX2_outcome 69 = .ok (.invokestatic 124, 3) := by decide +kernel
theorem dX2_outcome_72 : decode cX2_outcome 72 = .ok (.iload 6, 2) := by decide +kernel
theorem dX2_outcome_74 : decode cX2_outcome 74 = .ok (.invokestatic 124, 3) := by decide +kernel
theorem dX2_outcome_77 : decode cX2_outcome 77 = .ok (.if_icmp .le 7, 3) := by decide +kernel
theorem dX2_outcome_80 : decode cX2_outcome 80 = .ok (.iconst 1, 1) := by decide +kernel
theorem dX2_outcome_81 : decode cX2_outcome 81 = .ok (.goto 25, 3) := by decide +kernel
theorem dX2_outcome_84 : decode cX2_outcome 84 = .ok (.iconst 0, 1) := by decide +kernel
theorem dX2_outcome_85 : decode cX2_outcome 85 = .ok (.goto 21, 3) := by decide +kernel
theorem dX2_outcome_88 : decode cX2_outcome 88 = .ok (.iload 7, 2) := by decide +kernel
theorem dX2_outcome_90 : decode cX2_outcome 90 = .ok (.invokestatic 142, 3) := by decide +kernel
theorem dX2_outcome_93 : decode cX2_outcome 93 = .ok (.iload 6, 2) := by decide +kernel
theorem dX2_outcome_95 : decode cX2_outcome 95 = .ok (.invokestatic 142, 3) := by decide +kernel
theorem dX2_outcome_98 : decode cX2_outcome 98 = .ok (.if_icmp .le 7, 3) := by decide +kernel
theorem dX2_outcome_101 : decode cX2_outcome 101 = .ok (.iconst 1, 1) := by decide +kernel
theorem dX2_outcome_102 : decode cX2_outcome 102 = .ok (.goto 4, 3) := by decide +kernel
theorem dX2_outcome_105 : decode cX2_outcome 105 = .ok (.iconst 0, 1) := by decide +kernel
theorem dX2_outcome_106 : decode cX2_outcome 106 = .ok (.istore 8, 2) := by decide +kernel
theorem dX2_outcome_108 : decode cX2_outcome 108 = .ok (.iload 8, 2) := by decide +kernel
theorem dX2_outcome_110 : decode cX2_outcome 110 = .ok (.ifCond .eq 8, 3) := by decide +kernel
theorem dX2_outcome_113 : decode cX2_outcome 113 = .ok (.iload 7, 2) := by decide +kernel
theorem dX2_outcome_115 : decode cX2_outcome 115 = .ok (.goto 5, 3) := by decide +kernel
theorem dX2_outcome_118 : decode cX2_outcome 118 = .ok (.iload 6, 2) := by decide +kernel
theorem dX2_outcome_120 : decode cX2_outcome 120 = .ok (.ireturn, 1) := by decide +kernel
theorem dX2_sale_0 : decode cX2_sale 0 = .ok (.aload_n 0, 1) := by decide +kernel
theorem dX2_sale_1 : decode cX2_sale 1 = .ok (.getfield 22, 3) := by decide +kernel
theorem dX2_sale_4 : decode cX2_sale 4 = .ok (.iload_n 1, 1) := by decide +kernel
theorem dX2_sale_5 : decode cX2_sale 5 = .ok (.iload_n 2, 1) := by decide +kernel
theorem dX2_sale_6 : decode cX2_sale 6 = .ok (.invokevirtual 84, 3) := by decide +kernel
theorem dX2_sale_9 : decode cX2_sale 9 = .ok (.istore_n 3, 1) := by decide +kernel
theorem dX2_sale_10 : decode cX2_sale 10 = .ok (.iload_n 3, 1) := by decide +kernel
theorem dX2_sale_11 : decode cX2_sale 11 = .ok (.iload_n 2, 1) := by decide +kernel
theorem dX2_sale_12 : decode cX2_sale 12 = .ok (.if_icmp .lt 29, 3) := by decide +kernel
theorem dX2_sale_15 : decode cX2_sale 15 = .ok (.aload_n 0, 1) := by decide +kernel
theorem dX2_sale_16 : decode cX2_sale 16 = .ok (.getfield 22, 3) := by decide +kernel
theorem dX2_sale_19 : decode cX2_sale 19 = .ok (.bipush 6, 2) := by decide +kernel
theorem dX2_sale_21 : decode cX2_sale 21 = .ok (.iload_n 1, 1) := by decide +kernel
theorem dX2_sale_22 : decode cX2_sale 22 = .ok (.invokevirtual 38, 3) := by decide +kernel
theorem dX2_sale_25 : decode cX2_sale 25 = .ok (.iload_n 2, 1) := by decide +kernel
theorem dX2_sale_26 : decode cX2_sale 26 = .ok (.if_icmp .lt 15, 3) := by decide +kernel
theorem dX2_sale_29 : decode cX2_sale 29 = .ok (.iload_n 2, 1) := by decide +kernel
theorem dX2_sale_30 : decode cX2_sale 30 = .ok (.sipush 1000, 3) := by decide +kernel
theorem dX2_sale_33 : decode cX2_sale 33 = .ok (.imul, 1) := by decide +kernel
theorem dX2_sale_34 : decode cX2_sale 34 = .ok (.iload_n 3, 1) := by decide +kernel
theorem dX2_sale_35 : decode cX2_sale 35 = .ok (.iadd, 1) := by decide +kernel
theorem dX2_sale_36 : decode cX2_sale 36 = .ok (.iload_n 2, 1) := by decide +kernel
theorem dX2_sale_37 : decode cX2_sale 37 = .ok (.isub, 1) := by decide +kernel
theorem dX2_sale_38 : decode cX2_sale 38 = .ok (.goto 4, 3) := by decide +kernel
theorem dX2_sale_41 : decode cX2_sale 41 = .ok (.iconst 0, 1) := by decide +kernel
theorem dX2_sale_42 : decode cX2_sale 42 = .ok (.ireturn, 1) := by decide +kernel
theorem dX2_days_0 : decode cX2_days 0 = .ok (.iload_n 1, 1) := by decide +kernel
theorem dX2_days_1 : decode cX2_days 1 = .ok (.istore 5, 2) := by decide +kernel
theorem dX2_days_3 : decode cX2_days 3 = .ok (.iconst 0, 1) := by decide +kernel
theorem dX2_days_4 : decode cX2_days 4 = .ok (.istore 6, 2) := by decide +kernel
theorem dX2_days_6 : decode cX2_days 6 = .ok (.iconst 0, 1) := by decide +kernel
theorem dX2_days_7 : decode cX2_days 7 = .ok (.istore 7, 2) := by decide +kernel
theorem dX2_days_9 : decode cX2_days 9 = .ok (.iconst 0, 1) := by decide +kernel
theorem dX2_days_10 : decode cX2_days 10 = .ok (.istore 8, 2) := by decide +kernel
theorem dX2_days_12 : decode cX2_days 12 = .ok (.iload 8, 2) := by decide +kernel
theorem dX2_days_14 : decode cX2_days 14 = .ok (.iload_n 2, 1) := by decide +kernel
theorem dX2_days_15 : decode cX2_days 15 = .ok (.if_icmp .ge 148, 3) := by decide +kernel
theorem dX2_days_18 : decode cX2_days 18 = .ok (.aload_n 0, 1) := by decide +kernel
theorem dX2_days_19 : decode cX2_days 19 = .ok (.getfield 22, 3) := by decide +kernel
theorem dX2_days_22 : decode cX2_days 22 = .ok (.bipush 6, 2) := by decide +kernel
theorem dX2_days_24 : decode cX2_days 24 = .ok (.iload_n 3, 1) := by decide +kernel
theorem dX2_days_25 : decode cX2_days 25 = .ok (.invokevirtual 38, 3) := by decide +kernel
theorem dX2_days_28 : decode cX2_days 28 = .ok (.istore 9, 2) := by decide +kernel
theorem dX2_days_30 : decode cX2_days 30 = .ok (.iconst 0, 1) := by decide +kernel
theorem dX2_days_31 : decode cX2_days 31 = .ok (.istore 10, 2) := by decide +kernel
theorem dX2_days_33 : decode cX2_days 33 = .ok (.iload 10, 2) := by decide +kernel
theorem dX2_days_35 : decode cX2_days 35 = .ok (.aload_n 0, 1) := by decide +kernel
theorem dX2_days_36 : decode cX2_days 36 = .ok (.getfield 22, 3) := by decide +kernel
theorem dX2_days_39 : decode cX2_days 39 = .ok (.getfield 68, 3) := by decide +kernel
theorem dX2_days_42 : decode cX2_days 42 = .ok (.if_icmp .ge 115, 3) := by decide +kernel
theorem dX2_days_45 : decode cX2_days 45 = .ok (.aload_n 0, 1) := by decide +kernel
theorem dX2_days_46 : decode cX2_days 46 = .ok (.getfield 22, 3) := by decide +kernel
theorem dX2_days_49 : decode cX2_days 49 = .ok (.iload 10, 2) := by decide +kernel
theorem dX2_days_51 : decode cX2_days 51 = .ok (.invokevirtual 32, 3) := by decide +kernel
theorem dX2_days_54 : decode cX2_days 54 = .ok (.ifCond .ne 6, 3) := by decide +kernel
theorem dX2_days_57 : decode cX2_days 57 = .ok (.goto 94, 3) := by decide +kernel
theorem dX2_days_60 : decode cX2_days 60 = .ok (.iload 5, 2) := by decide +kernel
theorem dX2_days_62 : decode cX2_days 62 = .ok (.ldc 145, 2) := by decide +kernel
theorem dX2_days_64 : decode cX2_days 64 = .ok (.imul, 1) := by decide +kernel
theorem dX2_days_65 : decode cX2_days 65 = .ok (.sipush 12345, 3) := by decide +kernel
theorem dX2_days_68 : decode cX2_days 68 = .ok (.iadd, 1) := by decide +kernel
theorem dX2_days_69 : decode cX2_days 69 = .ok (.istore 5, 2) := by decide +kernel
theorem dX2_days_71 : decode cX2_days 71 = .ok (.aload_n 0, 1) := by decide +kernel
theorem dX2_days_72 : decode cX2_days 72 = .ok (.getfield 22, 3) := by decide +kernel
theorem dX2_days_75 : decode cX2_days 75 = .ok (.iconst 5, 1) := by decide +kernel
theorem dX2_days_76 : decode cX2_days 76 = .ok (.iload 10, 2) := by decide +kernel
theorem dX2_days_78 : decode cX2_days 78 = .ok (.invokevirtual 38, 3) := by decide +kernel
theorem dX2_days_81 : decode cX2_days 81 = .ok (.istore 11, 2) := by decide +kernel
theorem dX2_days_83 : decode cX2_days 83 = .ok (.iload 9, 2) := by decide +kernel
theorem dX2_days_85 : decode cX2_days 85 = .ok (.iload 11, 2) := by decide +kernel
theorem dX2_days_87 : decode cX2_days 87 = .ok (.if_icmp .lt 64, 3) := by decide +kernel
theorem dX2_days_90 : decode cX2_days 90 = .ok (.aload_n 0, 1) := by decide +kernel
theorem dX2_days_91 : decode cX2_days 91 = .ok (.getfield 22, 3) := by decide +kernel
theorem dX2_days_94 : decode cX2_days 94 = .ok (.iload_n 3, 1) := by decide +kernel
theorem dX2_days_95 : decode cX2_days 95 = .ok (.iload 5, 2) := by decide +kernel
theorem dX2_days_97 : decode cX2_days 97 = .ok (.bipush 8, 2) := by decide +kernel
theorem dX2_days_99 : decode cX2_days 99 = .ok (.iushr, 1) := by decide +kernel
theorem dX2_days_100 : decode cX2_days 100 = .ok (.bipush 6, 2) := by decide +kernel
theorem dX2_days_102 : decode cX2_days 102 = .ok (.irem, 1) := by decide +kernel
theorem dX2_days_103 : decode cX2_days 103 = .ok (.iload 11, 2) := by decide +kernel
theorem dX2_days_105 : decode cX2_days 105 = .ok (.invokevirtual 146, 3) := by decide +kernel
theorem dX2_days_108 : decode cX2_days 108 = .ok (.iload 11, 2) := by decide +kernel
theorem dX2_days_110 : decode cX2_days 110 = .ok (.if_icmp .lt 41, 3) := by decide +kernel
theorem dX2_days_113 : decode cX2_days 113 = .ok (.iload 9, 2) := by decide +kernel
theorem dX2_days_115 : decode cX2_days 115 = .ok (.iload 11, 2) := by decide +kernel
theorem dX2_days_117 : decode cX2_days 117 = .ok (.isub, 1) := by decide +kernel
theorem dX2_days_118 : decode cX2_days 118 = .ok (.istore 9, 2) := by decide +kernel
theorem dX2_days_120 : decode cX2_days 120 = .ok (.iinc 6 1, 3) := by decide +kernel
theorem dX2_days_123 : decode cX2_days 123 = .ok (.iload 7, 2) := by decide +kernel
theorem dX2_days_125 : decode cX2_days 125 = .ok (.aload_n 0, 1) := by decide +kernel
theorem dX2_days_126 : decode cX2_days 126 = .ok (.getfield 22, 3) := by decide +kernel
theorem dX2_days_129 : decode cX2_days 129 = .ok (.iload_n 3, 1) := by decide +kernel
theorem dX2_days_130 : decode cX2_days 130 = .ok (.aload_n 0, 1) := by decide +kernel
theorem dX2_days_131 : decode cX2_days 131 = .ok (.getfield 22, 3) := by decide +kernel
theorem dX2_days_134 : decode cX2_days 134 = .ok (.iconst 4, 1) := by decide +kernel
theorem dX2_days_135 : decode cX2_days 135 = .ok (.iload 10, 2) := by decide +kernel
theorem dX2_days_137 : decode cX2_days 137 = .ok (.invokevirtual 38, 3) := by decide +kernel
theorem dX2_days_140 : decode cX2_days 140 = .ok (.iload 11, 2) := by decide +kernel
theorem dX2_days_142 : decode cX2_days 142 = .ok (.invokevirtual 146, 3) := by decide +kernel
theorem dX2_days_145 : decode cX2_days 145 = .ok (.iload 11, 2) := by decide +kernel
theorem dX2_days_147 : decode cX2_days 147 = .ok (.isub, 1) := by decide +kernel
theorem dX2_days_148 : decode cX2_days 148 = .ok (.iadd, 1) := by decide +kernel
theorem dX2_days_149 : decode cX2_days 149 = .ok (.istore 7, 2) := by decide +kernel
theorem dX2_days_151 : decode cX2_days 151 = .ok (.iinc 10 1, 3) := by decide +kernel
theorem dX2_days_154 : decode cX2_days 154 = .ok (.goto (-121), 3) := by decide +kernel
theorem dX2_days_157 : decode cX2_days 157 = .ok (.iinc 8 1, 3) := by decide +kernel
theorem dX2_days_160 : decode cX2_days 160 = .ok (.goto (-148), 3) := by decide +kernel
theorem dX2_days_163 : decode cX2_days 163 = .ok (.iload 4, 2) := by decide +kernel
theorem dX2_days_165 : decode cX2_days 165 = .ok (.ifCond .ne 8, 3) := by decide +kernel
theorem dX2_days_168 : decode cX2_days 168 = .ok (.iload 6, 2) := by decide +kernel
theorem dX2_days_170 : decode cX2_days 170 = .ok (.goto 5, 3) := by decide +kernel
theorem dX2_days_173 : decode cX2_days 173 = .ok (.iload 7, 2) := by decide +kernel
theorem dX2_days_175 : decode cX2_days 175 = .ok (.ireturn, 1) := by decide +kernel
theorem dX3_init_0 : decode cX3_init 0 = .ok (.aload_n 0, 1) := by decide +kernel
theorem dX3_init_1 : decode cX3_init 1 = .ok (.invokespecial 3, 3) := by decide +kernel
theorem dX3_init_4 : decode cX3_init 4 = .ok (.aload_n 0, 1) := by decide +kernel
theorem dX3_init_5 : decode cX3_init 5 = .ok (.iconst 5, 1) := by decide +kernel
theorem dX3_init_6 : decode cX3_init 6 = .ok (.newarray .int, 2) := by decide +kernel
theorem dX3_init_8 : decode cX3_init 8 = .ok (.putfield 11, 3) := by decide +kernel
theorem dX3_init_11 : decode cX3_init 11 = .ok (.aload_n 0, 1) := by decide +kernel
theorem dX3_init_12 : decode cX3_init 12 = .ok (.iconst 5, 1) := by decide +kernel
theorem dX3_init_13 : decode cX3_init 13 = .ok (.newarray .int, 2) := by decide +kernel
theorem dX3_init_15 : decode cX3_init 15 = .ok (.putfield 15, 3) := by decide +kernel
theorem dX3_init_18 : decode cX3_init 18 = .ok (.aload_n 0, 1) := by decide +kernel
theorem dX3_init_19 : decode cX3_init 19 = .ok (.bipush 10, 2) := by decide +kernel
theorem dX3_init_21 : decode cX3_init 21 = .ok (.newarray .int, 2) := by decide +kernel
theorem dX3_init_23 : decode cX3_init 23 = .ok (.putfield 18, 3) := by decide +kernel
theorem dX3_init_26 : decode cX3_init 26 = .ok (.aload_n 0, 1) := by decide +kernel
theorem dX3_init_27 : decode cX3_init 27 = .ok (.bipush 10, 2) := by decide +kernel
theorem dX3_init_29 : decode cX3_init 29 = .ok (.newarray .int, 2) := by decide +kernel
theorem dX3_init_31 : decode cX3_init 31 = .ok (.putfield 21, 3) := by decide +kernel
theorem dX3_init_34 : decode cX3_init 34 = .ok (.aload_n 0, 1) := by decide +kernel
theorem dX3_init_35 : decode cX3_init 35 = .ok (.bipush 6, 2) := by decide +kernel
theorem dX3_init_37 : decode cX3_init 37 = .ok (.newarray .int, 2) := by decide +kernel
theorem dX3_init_39 : decode cX3_init 39 = .ok (.putfield 24, 3) := by decide +kernel
theorem dX3_init_42 : decode cX3_init 42 = .ok (.aload_n 0, 1) := by decide +kernel
theorem dX3_init_43 : decode cX3_init 43 = .ok (.aload_n 1, 1) := by decide +kernel
theorem dX3_init_44 : decode cX3_init 44 = .ok (.putfield 27, 3) := by decide +kernel
theorem dX3_init_47 : decode cX3_init 47 = .ok (.return_, 1) := by decide +kernel
theorem dX3_line_0 : decode cX3_line 0 = .ok (.aload_n 0, 1) := by decide +kernel
theorem dX3_line_1 : decode cX3_line 1 = .ok (.getfield 11, 3) := by decide +kernel
theorem dX3_line_4 : decode cX3_line 4 = .ok (.iload_n 1, 1) := by decide +kernel
theorem dX3_line_5 : decode cX3_line 5 = .ok (.iaload, 1) := by decide +kernel
theorem dX3_line_6 : decode cX3_line 6 = .ok (.ireturn, 1) := by decide +kernel
theorem dX3_handOver_0 : decode cX3_handOver 0 = .ok (.aload_n 0, 1) := by decide +kernel
theorem dX3_handOver_1 : decode cX3_handOver 1 = .ok (.getfield 27, 3) := by decide +kernel
theorem dX3_handOver_4 : decode cX3_handOver 4 = .ok (.iconst 5, 1) := by decide +kernel
theorem dX3_handOver_5 : decode cX3_handOver 5 = .ok (.iload_n 1, 1) := by decide +kernel
theorem dX3_handOver_6 : decode cX3_handOver 6 = .ok (.invokevirtual 31, 3) := by decide +kernel
theorem dX3_handOver_9 : decode cX3_handOver 9 = .ok (.istore_n 3, 1) := by decide +kernel
theorem dX3_handOver_10 : decode cX3_handOver 10 = .ok (.aload_n 0, 1) := by decide +kernel
theorem dX3_handOver_11 : decode cX3_handOver 11 = .ok (.getfield 27, 3) := by decide +kernel
theorem dX3_handOver_14 : decode cX3_handOver 14 = .ok (.bipush 6, 2) := by decide +kernel
theorem dX3_handOver_16 : decode cX3_handOver 16 = .ok (.iload_n 2, 1) := by decide +kernel
theorem dX3_handOver_17 : decode cX3_handOver 17 = .ok (.invokevirtual 31, 3) := by decide +kernel
theorem dX3_handOver_20 : decode cX3_handOver 20 = .ok (.iload_n 3, 1) := by decide +kernel
theorem dX3_handOver_21 : decode cX3_handOver 21 = .ok (.isub, 1) := by decide +kernel
theorem dX3_handOver_22 : decode cX3_handOver 22 = .ok (.istore 4, 2) := by decide +kernel
theorem dX3_handOver_24 : decode cX3_handOver 24 = .ok (.aload_n 0, 1) := by decide +kernel
theorem dX3_handOver_25 : decode cX3_handOver 25 = .ok (.getfield 27, 3) := by decide +kernel
theorem dX3_handOver_28 : decode cX3_handOver 28 = .ok (.bipush 6, 2) := by decide +kernel
theorem dX3_handOver_30 : decode cX3_handOver 30 = .ok (.iload_n 2, 1) := by decide +kernel
theorem dX3_handOver_31 : decode cX3_handOver 31 = .ok (.iload 4, 2) := by decide +kernel
theorem dX3_handOver_33 : decode cX3_handOver 33 = .ok (.invokevirtual 37, 3) := by decide +kernel
theorem dX3_handOver_36 : decode cX3_handOver 36 = .ok (.aload_n 0, 1) := by decide +kernel
theorem dX3_handOver_37 : decode cX3_handOver 37 = .ok (.getfield 27, 3) := by decide +kernel
theorem dX3_handOver_40 : decode cX3_handOver 40 = .ok (.bipush 9, 2) := by decide +kernel
theorem dX3_handOver_42 : decode cX3_handOver 42 = .ok (.iload_n 1, 1) := by decide +kernel
theorem dX3_handOver_43 : decode cX3_handOver 43 = .ok (.iload_n 2, 1) := by decide +kernel
theorem dX3_handOver_44 : decode cX3_handOver 44 = .ok (.invokevirtual 37, 3) := by decide +kernel
theorem dX3_handOver_47 : decode cX3_handOver 47 = .ok (.aload_n 0, 1) := by decide +kernel
theorem dX3_handOver_48 : decode cX3_handOver 48 = .ok (.getfield 11, 3) := by decide +kernel
theorem dX3_handOver_51 : decode cX3_handOver 51 = .ok (.iconst 0, 1) := by decide +kernel
theorem dX3_handOver_52 : decode cX3_handOver 52 = .ok (.dup2, 1) := by decide +kernel
theorem dX3_handOver_53 : decode cX3_handOver 53 = .ok (.iaload, 1) := by decide +kernel
theorem dX3_handOver_54 : decode cX3_handOver 54 = .ok (.iconst 1, 1) := by decide +kernel
theorem dX3_handOver_55 : decode cX3_handOver 55 = .ok (.iadd, 1) := by decide +kernel
theorem dX3_handOver_56 : decode cX3_handOver 56 = .ok (.iastore, 1) := by decide +kernel
theorem dX3_handOver_57 : decode cX3_handOver 57 = .ok (.aload_n 0, 1) := by decide +kernel
theorem dX3_handOver_58 : decode cX3_handOver 58 = .ok (.getfield 11, 3) := by decide +kernel
theorem dX3_handOver_61 : decode cX3_handOver 61 = .ok (.iconst 1, 1) := by decide +kernel
theorem dX3_handOver_62 : decode cX3_handOver 62 = .ok (.dup2, 1) := by decide +kernel
theorem dX3_handOver_63 : decode cX3_handOver 63 = .ok (.iaload, 1) := by decide +kernel
theorem dX3_handOver_64 : decode cX3_handOver 64 = .ok (.iload_n 3, 1) := by decide +kernel
theorem dX3_handOver_65 : decode cX3_handOver 65 = .ok (.iadd, 1) := by decide +kernel
theorem dX3_handOver_66 : decode cX3_handOver 66 = .ok (.iastore, 1) := by decide +kernel
theorem dX3_handOver_67 : decode cX3_handOver 67 = .ok (.iload 4, 2) := by decide +kernel
theorem dX3_handOver_69 : decode cX3_handOver 69 = .ok (.ireturn, 1) := by decide +kernel
theorem dX3_untie_0 : decode cX3_untie 0 = .ok (.aload_n 0, 1) := by decide +kernel
theorem dX3_untie_1 : decode cX3_untie 1 = .ok (.getfield 27, 3) := by decide +kernel
theorem dX3_untie_4 : decode cX3_untie 4 = .ok (.bipush 10, 2) := by decide +kernel
theorem dX3_untie_6 : decode cX3_untie 6 = .ok (.iload_n 1, 1) := by decide +kernel
theorem dX3_untie_7 : decode cX3_untie 7 = .ok (.iconst 1, 1) := by decide +kernel
theorem dX3_untie_8 : decode cX3_untie 8 = .ok (.invokevirtual 37, 3) := by decide +kernel
theorem dX3_untie_11 : decode cX3_untie 11 = .ok (.aload_n 0, 1) := by decide +kernel
theorem dX3_untie_12 : decode cX3_untie 12 = .ok (.getfield 11, 3) := by decide +kernel
theorem dX3_untie_15 : decode cX3_untie 15 = .ok (.iconst 2, 1) := by decide +kernel
theorem dX3_untie_16 : decode cX3_untie 16 = .ok (.dup2, 1) := by decide +kernel
theorem dX3_untie_17 : decode cX3_untie 17 = .ok (.iaload, 1) := by decide +kernel
theorem dX3_untie_18 : decode cX3_untie 18 = .ok (.iconst 1, 1) := by decide +kernel
theorem dX3_untie_19 : decode cX3_untie 19 = .ok (.iadd, 1) := by decide +kernel
theorem dX3_untie_20 : decode cX3_untie 20 = .ok (.iastore, 1) := by decide +kernel
theorem dX3_untie_21 : decode cX3_untie 21 = .ok (.aload_n 0, 1) := by decide +kernel
theorem dX3_untie_22 : decode cX3_untie 22 = .ok (.getfield 11, 3) := by decide +kernel
theorem dX3_untie_25 : decode cX3_untie 25 = .ok (.iconst 3, 1) := by decide +kernel
theorem dX3_untie_26 : decode cX3_untie 26 = .ok (.dup2, 1) := by decide +kernel
theorem dX3_untie_27 : decode cX3_untie 27 = .ok (.iaload, 1) := by decide +kernel
theorem dX3_untie_28 : decode cX3_untie 28 = .ok (.aload_n 0, 1) := by decide +kernel
theorem dX3_untie_29 : decode cX3_untie 29 = .ok (.getfield 27, 3) := by decide +kernel
theorem dX3_untie_32 : decode cX3_untie 32 = .ok (.iload_n 1, 1) := by decide +kernel
theorem dX3_untie_33 : decode cX3_untie 33 = .ok (.aload_n 0, 1) := by decide +kernel
theorem dX3_untie_34 : decode cX3_untie 34 = .ok (.getfield 27, 3) := by decide +kernel
theorem dX3_untie_37 : decode cX3_untie 37 = .ok (.iconst 4, 1) := by decide +kernel
theorem dX3_untie_38 : decode cX3_untie 38 = .ok (.iload_n 1, 1) := by decide +kernel
theorem dX3_untie_39 : decode cX3_untie 39 = .ok (.invokevirtual 31, 3) := by decide +kernel
theorem dX3_untie_42 : decode cX3_untie 42 = .ok (.invokevirtual 41, 3) := by decide +kernel
theorem dX3_untie_45 : decode cX3_untie 45 = .ok (.ifCond .eq 7, 3) := by decide +kernel
theorem dX3_untie_48 : decode cX3_untie 48 = .ok (.iconst 1, 1) := by decide +kernel
theorem dX3_untie_49 : decode cX3_untie 49 = .ok (.goto 4, 3) := by decide +kernel
theorem dX3_untie_52 : decode cX3_untie 52 = .ok (.iconst 0, 1) := by decide +kernel
theorem dX3_untie_53 : decode cX3_untie 53 = .ok (.iadd, 1) := by decide +kernel
theorem dX3_untie_54 : decode cX3_untie 54 = .ok (.iastore, 1) := by decide +kernel
theorem dX3_untie_55 : decode cX3_untie 55 = .ok (.return_, 1) := by decide +kernel
theorem dX3_untieAll_0 : decode cX3_untieAll 0 = .ok (.aload_n 0, 1) := by decide +kernel
theorem dX3_untieAll_1 : decode cX3_untieAll 1 = .ok (.getfield 11, 3) := by decide +kernel
theorem dX3_untieAll_4 : decode cX3_untieAll 4 = .ok (.iconst 3, 1) := by decide +kernel
theorem dX3_untieAll_5 : decode cX3_untieAll 5 = .ok (.iaload, 1) := by decide +kernel
theorem dX3_untieAll_6 : decode cX3_untieAll 6 = .ok (.istore_n 1, 1) := by decide +kernel
theorem dX3_untieAll_7 : decode cX3_untieAll 7 = .ok (.iconst 0, 1) := by decide +kernel
theorem dX3_untieAll_8 : decode cX3_untieAll 8 = .ok (.istore_n 2, 1) := by decide +kernel
theorem dX3_untieAll_9 : decode cX3_untieAll 9 = .ok (.iload_n 2, 1) := by decide +kernel
theorem dX3_untieAll_10 : decode cX3_untieAll 10 = .ok (.aload_n 0, 1) := by decide +kernel
theorem dX3_untieAll_11 : decode cX3_untieAll 11 = .ok (.getfield 27, 3) := by decide +kernel
theorem dX3_untieAll_14 : decode cX3_untieAll 14 = .ok (.getfield 45, 3) := by decide +kernel
theorem dX3_untieAll_17 : decode cX3_untieAll 17 = .ok (.if_icmp .ge 25, 3) := by decide +kernel
theorem dX3_untieAll_20 : decode cX3_untieAll 20 = .ok (.aload_n 0, 1) := by decide +kernel
theorem dX3_untieAll_21 : decode cX3_untieAll 21 = .ok (.getfield 27, 3) := by decide +kernel
theorem dX3_untieAll_24 : decode cX3_untieAll 24 = .ok (.iload_n 2, 1) := by decide +kernel
theorem dX3_untieAll_25 : decode cX3_untieAll 25 = .ok (.invokevirtual 49, 3) := by decide +kernel
theorem dX3_untieAll_28 : decode cX3_untieAll 28 = .ok (.ifCond .ne 8, 3) := by decide +kernel
theorem dX3_untieAll_31 : decode cX3_untieAll 31 = .ok (.aload_n 0, 1) := by decide +kernel
theorem dX3_untieAll_32 : decode cX3_untieAll 32 = .ok (.iload_n 2, 1) := by decide +kernel
theorem dX3_untieAll_33 : decode cX3_untieAll 33 = .ok (.invokevirtual 53, 3) := by decide +kernel
theorem dX3_untieAll_36 : decode cX3_untieAll 36 = .ok (.iinc 2 1, 3) := by decide +kernel
theorem dX3_untieAll_39 : decode cX3_untieAll 39 = .ok (.goto (-30), 3) := by decide +kernel
theorem dX3_untieAll_42 : decode cX3_untieAll 42 = .ok (.aload_n 0, 1) := by decide +kernel
theorem dX3_untieAll_43 : decode cX3_untieAll 43 = .ok (.getfield 11, 3) := by decide +kernel
theorem dX3_untieAll_46 : decode cX3_untieAll 46 = .ok (.iconst 4, 1) := by decide +kernel
theorem dX3_untieAll_47 : decode cX3_untieAll 47 = .ok (.dup2, 1) := by decide +kernel
theorem dX3_untieAll_48 : decode cX3_untieAll 48 = .ok (.iaload, 1) := by decide +kernel
theorem dX3_untieAll_49 : decode cX3_untieAll 49 = .ok (.iconst 1, 1) := by decide +kernel
theorem dX3_untieAll_50 : decode cX3_untieAll 50 = .ok (.iadd, 1) := by decide +kernel
theorem dX3_untieAll_51 : decode cX3_untieAll 51 = .ok (.iastore, 1) := by decide +kernel
theorem dX3_untieAll_52 : decode cX3_untieAll 52 = .ok (.aload_n 0, 1) := by decide +kernel
theorem dX3_untieAll_53 : decode cX3_untieAll 53 = .ok (.getfield 11, 3) := by decide +kernel
theorem dX3_untieAll_56 : decode cX3_untieAll 56 = .ok (.iconst 3, 1) := by decide +kernel
theorem dX3_untieAll_57 : decode cX3_untieAll 57 = .ok (.iaload, 1) := by decide +kernel
theorem dX3_untieAll_58 : decode cX3_untieAll 58 = .ok (.iload_n 1, 1) := by decide +kernel
theorem dX3_untieAll_59 : decode cX3_untieAll 59 = .ok (.isub, 1) := by decide +kernel
theorem dX3_untieAll_60 : decode cX3_untieAll 60 = .ok (.ireturn, 1) := by decide +kernel
theorem dX3_keepImage_0 : decode cX3_keepImage 0 = .ok (.aload_n 0, 1) := by decide +kernel
theorem dX3_keepImage_1 : decode cX3_keepImage 1 = .ok (.aload_n 0, 1) := by decide +kernel
theorem dX3_keepImage_2 : decode cX3_keepImage 2 = .ok (.getfield 27, 3) := by decide +kernel
theorem dX3_keepImage_5 : decode cX3_keepImage 5 = .ok (.getfield 45, 3) := by decide +kernel
theorem dX3_keepImage_8 : decode cX3_keepImage 8 = .ok (.putfield 57, 3) := by decide +kernel
theorem dX3_keepImage_11 : decode cX3_keepImage 11 = .ok (.aload_n 0, 1) := by decide +kernel
theorem dX3_keepImage_12 : decode cX3_keepImage 12 = .ok (.aload_n 0, 1) := by decide +kernel
theorem dX3_keepImage_13 : decode cX3_keepImage 13 = .ok (.getfield 27, 3) := by decide +kernel
theorem dX3_keepImage_16 : decode cX3_keepImage 16 = .ok (.getfield 60, 3) := by decide +kernel
theorem dX3_keepImage_19 : decode cX3_keepImage 19 = .ok (.putfield 63, 3) := by decide +kernel
theorem dX3_keepImage_22 : decode cX3_keepImage 22 = .ok (.iconst 0, 1) := by decide +kernel
theorem dX3_keepImage_23 : decode cX3_keepImage 23 = .ok (.istore_n 1, 1) := by decide +kernel
theorem dX3_keepImage_24 : decode cX3_keepImage 24 = .ok (.iload_n 1, 1) := by decide +kernel
theorem dX3_keepImage_25 : decode cX3_keepImage 25 = .ok (.aload_n 0, 1) := by decide +kernel
theorem dX3_keepImage_26 : decode cX3_keepImage 26 = .ok (.getfield 57, 3) := by decide +kernel
theorem dX3_keepImage_29 : decode cX3_keepImage 29 = .ok (.if_icmp .ge 41, 3) := by decide +kernel
theorem dX3_keepImage_32 : decode cX3_keepImage 32 = .ok (.aload_n 0, 1) := by decide +kernel
theorem dX3_keepImage_33 : decode cX3_keepImage 33 = .ok (.getfield 18, 3) := by decide +kernel
theorem dX3_keepImage_36 : decode cX3_keepImage 36 = .ok (.iload_n 1, 1) := by decide +kernel
theorem dX3_keepImage_37 : decode cX3_keepImage 37 = .ok (.aload_n 0, 1) := by decide +kernel
theorem dX3_keepImage_38 : decode cX3_keepImage 38 = .ok (.getfield 27, 3) := by decide +kernel
theorem dX3_keepImage_41 : decode cX3_keepImage 41 = .ok (.bipush 9, 2) := by decide +kernel
theorem dX3_keepImage_43 : decode cX3_keepImage 43 = .ok (.iload_n 1, 1) := by decide +kernel
theorem dX3_keepImage_44 : decode cX3_keepImage 44 = .ok (.invokevirtual 31, 3) := by decide +kernel
theorem dX3_keepImage_47 : decode cX3_keepImage 47 = .ok (.iastore, 1) := by decide +kernel
theorem dX3_keepImage_48 : decode cX3_keepImage 48 = .ok (.aload_n 0, 1) := by decide +kernel
theorem dX3_keepImage_49 : decode cX3_keepImage 49 = .ok (.getfield 21, 3) := by decide +kernel
theorem dX3_keepImage_52 : decode cX3_keepImage 52 = .ok (.iload_n 1, 1) := by decide +kernel
theorem dX3_keepImage_53 : decode cX3_keepImage 53 = .ok (.aload_n 0, 1) := by decide +kernel
theorem dX3_keepImage_54 : decode cX3_keepImage 54 = .ok (.getfield 27, 3) := by decide +kernel
theorem dX3_keepImage_57 : decode cX3_keepImage 57 = .ok (.bipush 10, 2) := by decide +kernel
theorem dX3_keepImage_59 : decode cX3_keepImage 59 = .ok (.iload_n 1, 1) := by decide +kernel
theorem dX3_keepImage_60 : decode cX3_keepImage 60 = .ok (.invokevirtual 31, 3) := by decide +kernel
theorem dX3_keepImage_63 : decode cX3_keepImage 63 = .ok (.iastore, 1) := by decide +kernel
theorem dX3_keepImage_64 : decode cX3_keepImage 64 = .ok (.iinc 1 1, 3) := by decide +kernel
theorem dX3_keepImage_67 : decode cX3_keepImage 67 = .ok (.goto (-43), 3) := by decide +kernel
theorem dX3_keepImage_70 : decode cX3_keepImage 70 = .ok (.iconst 0, 1) := by decide +kernel
theorem dX3_keepImage_71 : decode cX3_keepImage 71 = .ok (.istore_n 1, 1) := by decide +kernel
theorem dX3_keepImage_72 : decode cX3_keepImage 72 = .ok (.iload_n 1, 1) := by decide +kernel
theorem dX3_keepImage_73 : decode cX3_keepImage 73 = .ok (.aload_n 0, 1) := by decide +kernel
theorem dX3_keepImage_74 : decode cX3_keepImage 74 = .ok (.getfield 63, 3) := by decide +kernel
theorem dX3_keepImage_77 : decode cX3_keepImage 77 = .ok (.if_icmp .ge 25, 3) := by decide +kernel
theorem dX3_keepImage_80 : decode cX3_keepImage 80 = .ok (.aload_n 0, 1) := by decide +kernel
theorem dX3_keepImage_81 : decode cX3_keepImage 81 = .ok (.getfield 24, 3) := by decide +kernel
theorem dX3_keepImage_84 : decode cX3_keepImage 84 = .ok (.iload_n 1, 1) := by decide +kernel
theorem dX3_keepImage_85 : decode cX3_keepImage 85 = .ok (.aload_n 0, 1) := by decide +kernel
theorem dX3_keepImage_86 : decode cX3_keepImage 86 = .ok (.getfield 27, 3) := by decide +kernel
theorem dX3_keepImage_89 : decode cX3_keepImage 89 = .ok (.bipush 6, 2) := by decide +kernel
theorem dX3_keepImage_91 : decode cX3_keepImage 91 = .ok (.iload_n 1, 1) := by decide +kernel
theorem dX3_keepImage_92 : decode cX3_keepImage 92 = .ok (.invokevirtual 31, 3) := by decide +kernel
theorem dX3_keepImage_95 : decode cX3_keepImage 95 = .ok (.iastore, 1) := by decide +kernel
theorem dX3_keepImage_96 : decode cX3_keepImage 96 = .ok (.iinc 1 1, 3) := by decide +kernel
theorem dX3_keepImage_99 : decode cX3_keepImage 99 = .ok (.goto (-27), 3) := by decide +kernel
theorem dX3_keepImage_102 : decode cX3_keepImage 102 = .ok (.aload_n 0, 1) := by decide +kernel
theorem dX3_keepImage_103 : decode cX3_keepImage 103 = .ok (.getfield 11, 3) := by decide +kernel
theorem dX3_keepImage_106 : decode cX3_keepImage 106 = .ok (.iconst 0, 1) := by decide +kernel
theorem dX3_keepImage_107 : decode cX3_keepImage 107 = .ok (.aload_n 0, 1) := by decide +kernel
theorem dX3_keepImage_108 : decode cX3_keepImage 108 = .ok (.getfield 15, 3) := by decide +kernel
theorem dX3_keepImage_111 : decode cX3_keepImage 111 = .ok (.iconst 0, 1) := by decide +kernel
theorem dX3_keepImage_112 : decode cX3_keepImage 112 = .ok (.iconst 5, 1) := by decide +kernel
theorem dX3_keepImage_113 : decode cX3_keepImage 113 = .ok (.invokestatic 66, 3) := by decide +kernel
theorem dX3_keepImage_116 : decode cX3_keepImage 116 = .ok (.aload_n 0, 1) := by decide +kernel
theorem dX3_keepImage_117 : decode cX3_keepImage 117 = .ok (.iconst 1, 1) := by decide +kernel
theorem dX3_keepImage_118 : decode cX3_keepImage 118 = .ok (.putfield 72, 3) := by decide +kernel
theorem dX3_keepImage_121 : decode cX3_keepImage 121 = .ok (.return_, 1) := by decide +kernel
theorem dX3_layBack_0 : decode cX3_layBack 0 = .ok (.iconst 0, 1) := by decide +kernel
theorem dX3_layBack_1 : decode cX3_layBack 1 = .ok (.istore_n 1, 1) := by decide +kernel
theorem dX3_layBack_2 : decode cX3_layBack 2 = .ok (.iload_n 1, 1) := by decide +kernel
theorem dX3_layBack_3 : decode cX3_layBack 3 = .ok (.aload_n 0, 1) := by decide +kernel
theorem dX3_layBack_4 : decode cX3_layBack 4 = .ok (.getfield 57, 3) := by decide +kernel
theorem dX3_layBack_7 : decode cX3_layBack 7 = .ok (.if_icmp .ge 41, 3) := by decide +kernel
theorem dX3_layBack_10 : decode cX3_layBack 10 = .ok (.aload_n 0, 1) := by decide +kernel
theorem dX3_layBack_11 : decode cX3_layBack 11 = .ok (.getfield 27, 3) := by decide +kernel
theorem dX3_layBack_14 : decode cX3_layBack 14 = .ok (.bipush 9, 2) := by decide +kernel
theorem dX3_layBack_16 : decode cX3_layBack 16 = .ok (.iload_n 1, 1) := by decide +kernel
theorem dX3_layBack_17 : decode cX3_layBack 17 = .ok (.aload_n 0, 1) := by decide +kernel
theorem dX3_layBack_18 : decode cX3_layBack 18 = .ok (.getfield 18, 3) := by decide +kernel
theorem dX3_layBack_21 : decode cX3_layBack 21 = .ok (.iload_n 1, 1) := by decide +kernel
theorem dX3_layBack_22 : decode cX3_layBack 22 = .ok (.iaload, 1) := by decide +kernel
theorem dX3_layBack_23 : decode cX3_layBack 23 = .ok (.invokevirtual 37, 3) := by decide +kernel
theorem dX3_layBack_26 : decode cX3_layBack 26 = .ok (.aload_n 0, 1) := by decide +kernel
theorem dX3_layBack_27 : decode cX3_layBack 27 = .ok (.getfield 27, 3) := by decide +kernel
theorem dX3_layBack_30 : decode cX3_layBack 30 = .ok (.bipush 10, 2) := by decide +kernel
theorem dX3_layBack_32 : decode cX3_layBack 32 = .ok (.iload_n 1, 1) := by decide +kernel
theorem dX3_layBack_33 : decode cX3_layBack 33 = .ok (.aload_n 0, 1) := by decide +kernel
theorem dX3_layBack_34 : decode cX3_layBack 34 = .ok (.getfield 21, 3) := by decide +kernel
theorem dX3_layBack_37 : decode cX3_layBack 37 = .ok (.iload_n 1, 1) := by decide +kernel
theorem dX3_layBack_38 : decode cX3_layBack 38 = .ok (.iaload, 1) := by decide +kernel
theorem dX3_layBack_39 : decode cX3_layBack 39 = .ok (.invokevirtual 37, 3) := by decide +kernel
theorem dX3_layBack_42 : decode cX3_layBack 42 = .ok (.iinc 1 1, 3) := by decide +kernel
theorem dX3_layBack_45 : decode cX3_layBack 45 = .ok (.goto (-43), 3) := by decide +kernel
theorem dX3_layBack_48 : decode cX3_layBack 48 = .ok (.iconst 0, 1) := by decide +kernel
theorem dX3_layBack_49 : decode cX3_layBack 49 = .ok (.istore_n 1, 1) := by decide +kernel
theorem dX3_layBack_50 : decode cX3_layBack 50 = .ok (.iload_n 1, 1) := by decide +kernel
theorem dX3_layBack_51 : decode cX3_layBack 51 = .ok (.aload_n 0, 1) := by decide +kernel
theorem dX3_layBack_52 : decode cX3_layBack 52 = .ok (.getfield 63, 3) := by decide +kernel
theorem dX3_layBack_55 : decode cX3_layBack 55 = .ok (.if_icmp .ge 25, 3) := by decide +kernel
theorem dX3_layBack_58 : decode cX3_layBack 58 = .ok (.aload_n 0, 1) := by decide +kernel
theorem dX3_layBack_59 : decode cX3_layBack 59 = .ok (.getfield 27, 3) := by decide +kernel
theorem dX3_layBack_62 : decode cX3_layBack 62 = .ok (.bipush 6, 2) := by decide +kernel
theorem dX3_layBack_64 : decode cX3_layBack 64 = .ok (.iload_n 1, 1) := by decide +kernel
theorem dX3_layBack_65 : decode cX3_layBack 65 = .ok (.aload_n 0, 1) := by decide +kernel
theorem dX3_layBack_66 : decode cX3_layBack 66 = .ok (.getfield 24, 3) := by decide +kernel
theorem dX3_layBack_69 : decode cX3_layBack 69 = .ok (.iload_n 1, 1) := by decide +kernel
theorem dX3_layBack_70 : decode cX3_layBack 70 = .ok (.iaload, 1) := by decide +kernel
theorem dX3_layBack_71 : decode cX3_layBack 71 = .ok (.invokevirtual 37, 3) := by decide +kernel
theorem dX3_layBack_74 : decode cX3_layBack 74 = .ok (.iinc 1 1, 3) := by decide +kernel
theorem dX3_layBack_77 : decode cX3_layBack 77 = .ok (.goto (-27), 3) := by decide +kernel
theorem dX3_layBack_80 : decode cX3_layBack 80 = .ok (.aload_n 0, 1) := by decide +kernel
theorem dX3_layBack_81 : decode cX3_layBack 81 = .ok (.getfield 15, 3) := by decide +kernel
theorem dX3_layBack_84 : decode cX3_layBack 84 = .ok (.iconst 0, 1) := by decide +kernel
theorem dX3_layBack_85 : decode cX3_layBack 85 = .ok (.aload_n 0, 1) := by decide +kernel
theorem dX3_layBack_86 : decode cX3_layBack 86 = .ok (.getfield 11, 3) := by decide +kernel
theorem dX3_layBack_89 : decode cX3_layBack 89 = .ok (.iconst 0, 1) := by decide +kernel
theorem dX3_layBack_90 : decode cX3_layBack 90 = .ok (.iconst 5, 1) := by decide +kernel
theorem dX3_layBack_91 : decode cX3_layBack 91 = .ok (.invokestatic 66, 3) := by decide +kernel
theorem dX3_layBack_94 : decode cX3_layBack 94 = .ok (.return_, 1) := by decide +kernel
theorem dX4_init_0 : decode cX4_init 0 = .ok (.aload_n 0, 1) := by decide +kernel
theorem dX4_init_1 : decode cX4_init 1 = .ok (.invokespecial 3, 3) := by decide +kernel
theorem dX4_init_4 : decode cX4_init 4 = .ok (.aload_n 0, 1) := by decide +kernel
theorem dX4_init_5 : decode cX4_init 5 = .ok (.bipush 50, 2) := by decide +kernel
theorem dX4_init_7 : decode cX4_init 7 = .ok (.newarray .int, 2) := by decide +kernel
theorem dX4_init_9 : decode cX4_init 9 = .ok (.putfield 11, 3) := by decide +kernel
theorem dX4_init_12 : decode cX4_init 12 = .ok (.aload_n 0, 1) := by decide +kernel
theorem dX4_init_13 : decode cX4_init 13 = .ok (.bipush 24, 2) := by decide +kernel
theorem dX4_init_15 : decode cX4_init 15 = .ok (.newarray .int, 2) := by decide +kernel
theorem dX4_init_17 : decode cX4_init 17 = .ok (.putfield 15, 3) := by decide +kernel
theorem dX4_init_20 : decode cX4_init 20 = .ok (.return_, 1) := by decide +kernel
theorem dX4_add_0 : decode cX4_add 0 = .ok (.aload_n 0, 1) := by decide +kernel
theorem dX4_add_1 : decode cX4_add 1 = .ok (.getfield 18, 3) := by decide +kernel
theorem dX4_add_4 : decode cX4_add 4 = .ok (.bipush 50, 2) := by decide +kernel
theorem dX4_add_6 : decode cX4_add 6 = .ok (.if_icmp .lt 6, 3) := by decide +kernel
theorem dX4_add_9 : decode cX4_add 9 = .ok (.bipush (-3), 2) := by decide +kernel
theorem dX4_add_11 : decode cX4_add 11 = .ok (.ireturn, 1) := by decide +kernel
theorem dX4_add_12 : decode cX4_add 12 = .ok (.aload_n 0, 1) := by decide +kernel
theorem dX4_add_13 : decode cX4_add 13 = .ok (.getfield 11, 3) := by decide +kernel
theorem dX4_add_16 : decode cX4_add 16 = .ok (.aload_n 0, 1) := by decide +kernel
theorem dX4_add_17 : decode cX4_add 17 = .ok (.getfield 18, 3) := by decide +kernel
theorem dX4_add_20 : decode cX4_add 20 = .ok (.iload_n 1, 1) := by decide +kernel
theorem dX4_add_21 : decode cX4_add 21 = .ok (.iastore, 1) := by decide +kernel
theorem dX4_add_22 : decode cX4_add 22 = .ok (.aload_n 0, 1) := by decide +kernel
theorem dX4_add_23 : decode cX4_add 23 = .ok (.dup, 1) := by decide +kernel
theorem dX4_add_24 : decode cX4_add 24 = .ok (.getfield 18, 3) := by decide +kernel
theorem dX4_add_27 : decode cX4_add 27 = .ok (.iconst 1, 1) := by decide +kernel
theorem dX4_add_28 : decode cX4_add 28 = .ok (.iadd, 1) := by decide +kernel
theorem dX4_add_29 : decode cX4_add 29 = .ok (.putfield 18, 3) := by decide +kernel
theorem dX4_add_32 : decode cX4_add 32 = .ok (.aload_n 0, 1) := by decide +kernel
theorem dX4_add_33 : decode cX4_add 33 = .ok (.getfield 18, 3) := by decide +kernel
theorem dX4_add_36 : decode cX4_add 36 = .ok (.iconst 1, 1) := by decide +kernel
theorem dX4_add_37 : decode cX4_add 37 = .ok (.isub, 1) := by decide +kernel
theorem dX4_add_38 : decode cX4_add 38 = .ok (.ireturn, 1) := by decide +kernel
theorem dX4_has_0 : decode cX4_has 0 = .ok (.iload_n 1, 1) := by decide +kernel
theorem dX4_has_1 : decode cX4_has 1 = .ok (.ifCond .lt 15, 3) := by decide +kernel
theorem dX4_has_4 : decode cX4_has 4 = .ok (.iload_n 1, 1) := by decide +kernel
theorem dX4_has_5 : decode cX4_has 5 = .ok (.aload_n 0, 1) := by decide +kernel
theorem dX4_has_6 : decode cX4_has 6 = .ok (.getfield 18, 3) := by decide +kernel
theorem dX4_has_9 : decode cX4_has 9 = .ok (.if_icmp .ge 7, 3) := by decide +kernel
theorem dX4_has_12 : decode cX4_has 12 = .ok (.iconst 1, 1) := by decide +kernel
theorem dX4_has_13 : decode cX4_has 13 = .ok (.goto 4, 3) := by decide +kernel
theorem dX4_has_16 : decode cX4_has 16 = .ok (.iconst 0, 1) := by decide +kernel
theorem dX4_has_17 : decode cX4_has 17 = .ok (.ireturn, 1) := by decide +kernel
theorem dX4_kindOf_0 : decode cX4_kindOf 0 = .ok (.aload_n 0, 1) := by decide +kernel
theorem dX4_kindOf_1 : decode cX4_kindOf 1 = .ok (.iload_n 1, 1) := by decide +kernel
theorem dX4_kindOf_2 : decode cX4_kindOf 2 = .ok (.invokevirtual 22, 3) := by decide +kernel
theorem dX4_kindOf_5 : decode cX4_kindOf 5 = .ok (.ifCond .eq 12, 3) := by decide +kernel
theorem dX4_kindOf_8 : decode cX4_kindOf 8 = .ok (.aload_n 0, 1) := by decide +kernel
theorem dX4_kindOf_9 : decode cX4_kindOf 9 = .ok (.getfield 11, 3) := by decide +kernel
theorem dX4_kindOf_12 : decode cX4_kindOf 12 = .ok (.iload_n 1, 1) := by decide +kernel
theorem dX4_kindOf_13 : decode cX4_kindOf 13 = .ok (.iaload, 1) := by decide +kernel
theorem dX4_kindOf_14 : decode cX4_kindOf 14 = .ok (.goto 4, 3) := by decide +kernel
theorem dX4_kindOf_17 : decode cX4_kindOf 17 = .ok (.iconst (-1), 1) := by decide +kernel
theorem dX4_kindOf_18 : decode cX4_kindOf 18 = .ok (.ireturn, 1) := by decide +kernel
theorem dX4_isUnder_0 : decode cX4_isUnder 0 = .ok (.aload_n 0, 1) := by decide +kernel
theorem dX4_isUnder_1 : decode cX4_isUnder 1 = .ok (.iload_n 1, 1) := by decide +kernel
theorem dX4_isUnder_2 : decode cX4_isUnder 2 = .ok (.invokevirtual 26, 3) := by decide +kernel
theorem dX4_isUnder_5 : decode cX4_isUnder 5 = .ok (.istore_n 3, 1) := by decide +kernel
theorem dX4_isUnder_6 : decode cX4_isUnder 6 = .ok (.iconst 0, 1) := by decide +kernel
theorem dX4_isUnder_7 : decode cX4_isUnder 7 = .ok (.istore 4, 2) := by decide +kernel
theorem dX4_isUnder_9 : decode cX4_isUnder 9 = .ok (.iload 4, 2) := by decide +kernel
theorem dX4_isUnder_11 : decode cX4_isUnder 11 = .ok (.bipush 8, 2) := by decide +kernel
theorem dX4_isUnder_13 : decode cX4_isUnder 13 = .ok (.if_icmp .ge 24, 3) := by decide +kernel
theorem dX4_isUnder_16 : decode cX4_isUnder 16 = .ok (.iload_n 3, 1) := by decide +kernel
theorem dX4_isUnder_17 : decode cX4_isUnder 17 = .ok (.ifCond .lt 20, 3) := by decide +kernel
theorem dX4_isUnder_20 : decode cX4_isUnder 20 = .ok (.iload_n 3, 1) := by decide +kernel
theorem dX4_isUnder_21 : decode cX4_isUnder 21 = .ok (.iload_n 2, 1) := by decide +kernel
theorem dX4_isUnder_22 : decode cX4_isUnder 22 = .ok (.if_icmp .eq 15, 3) := by decide +kernel
theorem dX4_isUnder_25 : decode cX4_isUnder 25 = .ok (.getstatic 30, 3) := by decide +kernel
theorem dX4_isUnder_28 : decode cX4_isUnder 28 = .ok (.iload_n 3, 1) := by decide +kernel
theorem dX4_isUnder_29 : decode cX4_isUnder 29 = .ok (.iaload, 1) := by decide +kernel
theorem dX4_isUnder_30 : decode cX4_isUnder 30 = .ok (.istore_n 3, 1) := by decide +kernel
theorem dX4_isUnder_31 : decode cX4_isUnder 31 = .ok (.iinc 4 1, 3) := by decide +kernel
theorem dX4_isUnder_34 : decode cX4_isUnder 34 = .ok (.goto (-25), 3) := by decide +kernel
theorem dX4_isUnder_37 : decode cX4_isUnder 37 = .ok (.iload_n 3, 1) := by decide +kernel
theorem dX4_isUnder_38 : decode cX4_isUnder 38 = .ok (.iload_n 2, 1) := by decide +kernel
theorem dX4_isUnder_39 : decode cX4_isUnder 39 = .ok (.if_icmp .ne 7, 3) := by decide +kernel
theorem dX4_isUnder_42 : decode cX4_isUnder 42 = .ok (.iconst 1, 1) := by decide +kernel
theorem dX4_isUnder_43 : decode cX4_isUnder 43 = .ok (.goto 4, 3) := by decide +kernel
theorem dX4_isUnder_46 : decode cX4_isUnder 46 = .ok (.iconst 0, 1) := by decide +kernel
theorem dX4_isUnder_47 : decode cX4_isUnder 47 = .ok (.ireturn, 1) := by decide +kernel
theorem dX4_start_0 : decode cX4_start 0 = .ok (.aload_n 0, 1) := by decide +kernel
theorem dX4_start_1 : decode cX4_start 1 = .ok (.iconst 0, 1) := by decide +kernel
theorem dX4_start_2 : decode cX4_start 2 = .ok (.putfield 33, 3) := by decide +kernel
theorem dX4_start_5 : decode cX4_start 5 = .ok (.aload_n 0, 1) := by decide +kernel
theorem dX4_start_6 : decode cX4_start 6 = .ok (.iload_n 1, 1) := by decide +kernel
theorem dX4_start_7 : decode cX4_start 7 = .ok (.invokevirtual 22, 3) := by decide +kernel
theorem dX4_start_10 : decode cX4_start 10 = .ok (.ifCond .eq 12, 3) := by decide +kernel
theorem dX4_start_13 : decode cX4_start 13 = .ok (.iload_n 2, 1) := by decide +kernel
theorem dX4_start_14 : decode cX4_start 14 = .ok (.ifCond .lt 8, 3) := by decide +kernel
theorem dX4_start_17 : decode cX4_start 17 = .ok (.iload_n 2, 1) := by decide +kernel
theorem dX4_start_18 : decode cX4_start 18 = .ok (.iconst 4, 1) := by decide +kernel
theorem dX4_start_19 : decode cX4_start 19 = .ok (.if_icmp .lt 5, 3) := by decide +kernel
theorem dX4_start_22 : decode cX4_start 22 = .ok (.iconst 0, 1) := by decide +kernel
theorem dX4_start_23 : decode cX4_start 23 = .ok (.ireturn, 1) := by decide +kernel
theorem dX4_start_24 : decode cX4_start 24 = .ok (.aload_n 0, 1) := by decide +kernel
theorem dX4_start_25 : decode cX4_start 25 = .ok (.iload_n 1, 1) := by decide +kernel
theorem dX4_start_26 : decode cX4_start 26 = .ok (.putfield 36, 3) := by decide +kernel
theorem dX4_start_29 : decode cX4_start 29 = .ok (.aload_n 0, 1) := by decide +kernel
theorem dX4_start_30 : decode cX4_start 30 = .ok (.aload_n 0, 1) := by decide +kernel
theorem dX4_start_31 : decode cX4_start 31 = .ok (.getfield 11, 3) := by decide +kernel
theorem dX4_start_34 : decode cX4_start 34 = .ok (.iload_n 1, 1) := by decide +kernel
theorem dX4_start_35 : decode cX4_start 35 = .ok (.iaload, 1) := by decide +kernel
theorem dX4_start_36 : decode cX4_start 36 = .ok (.iload_n 2, 1) := by decide +kernel
theorem dX4_start_37 : decode cX4_start 37 = .ok (.iload_n 3, 1) := by decide +kernel
theorem dX4_start_38 : decode cX4_start 38 = .ok (.iconst 0, 1) := by decide +kernel
theorem dX4_start_39 : decode cX4_start 39 = .ok (.invokevirtual 39, 3) := by decide +kernel
theorem dX4_start_42 : decode cX4_start 42 = .ok (.ireturn, 1) := by decide +kernel
theorem dX4_ranAt_0 : decode cX4_ranAt 0 = .ok (.iload_n 1, 1) := by decide +kernel
theorem dX4_ranAt_1 : decode cX4_ranAt 1 = .ok (.ifCond .lt 17, 3) := by decide +kernel
theorem dX4_ranAt_4 : decode cX4_ranAt 4 = .ok (.iload_n 1, 1) := by decide +kernel
theorem dX4_ranAt_5 : decode cX4_ranAt 5 = .ok (.aload_n 0, 1) := by decide +kernel
theorem dX4_ranAt_6 : decode cX4_ranAt 6 = .ok (.getfield 33, 3) := by decide +kernel
theorem dX4_ranAt_9 : decode cX4_ranAt 9 = .ok (.if_icmp .ge 9, 3) := by decide +kernel
theorem dX4_ranAt_12 : decode cX4_ranAt 12 = .ok (.iload_n 1, 1) := by decide +kernel
theorem dX4_ranAt_13 : decode cX4_ranAt 13 = .ok (.bipush 24, 2) := by decide +kernel
theorem dX4_ranAt_15 : decode cX4_ranAt 15 = .ok (.if_icmp .lt 7, 3) := by decide +kernel
theorem dX4_ranAt_18 : decode cX4_ranAt 18 = .ok (.iconst (-1), 1) := by decide +kernel
theorem dX4_ranAt_19 : decode cX4_ranAt 19 = .ok (.goto 9, 3) := by decide +kernel
theorem dX4_ranAt_22 : decode cX4_ranAt 22 = .ok (.aload_n 0, 1) := by decide +kernel
theorem dX4_ranAt_23 : decode cX4_ranAt 23 = .ok (.getfield 15, 3) := by decide +kernel
theorem dX4_ranAt_26 : decode cX4_ranAt 26 = .ok (.iload_n 1, 1) := by decide +kernel
theorem dX4_ranAt_27 : decode cX4_ranAt 27 = .ok (.iaload, 1) := by decide +kernel
theorem dX4_ranAt_28 : decode cX4_ranAt 28 = .ok (.ireturn, 1) := by decide +kernel
theorem dX4_ownerOf_0 : decode cX4_ownerOf 0 = .ok (.iload_n 0, 1) := by decide +kernel
theorem dX4_ownerOf_1 : decode cX4_ownerOf 1 = .ok (.istore_n 2, 1) := by decide +kernel
theorem dX4_ownerOf_2 : decode cX4_ownerOf 2 = .ok (.iconst 0, 1) := by decide +kernel
theorem dX4_ownerOf_3 : decode cX4_ownerOf 3 = .ok (.istore_n 3, 1) := by decide +kernel
theorem dX4_ownerOf_4 : decode cX4_ownerOf 4 = .ok (.iload_n 3, 1) := by decide +kernel
theorem dX4_ownerOf_5 : decode cX4_ownerOf 5 = .ok (.bipush 8, 2) := by decide +kernel
theorem dX4_ownerOf_7 : decode cX4_ownerOf 7 = .ok (.if_icmp .ge 31, 3) := by decide +kernel
theorem dX4_ownerOf_10 : decode cX4_ownerOf 10 = .ok (.iload_n 2, 1) := by decide +kernel
theorem dX4_ownerOf_11 : decode cX4_ownerOf 11 = .ok (.ifCond .lt 27, 3) := by decide +kernel
theorem dX4_ownerOf_14 : decode cX4_ownerOf 14 = .ok (.getstatic 43, 3) := by decide +kernel
theorem dX4_ownerOf_17 : decode cX4_ownerOf 17 = .ok (.iconst 4, 1) := by decide +kernel
theorem dX4_ownerOf_18 : decode cX4_ownerOf 18 = .ok (.iload_n 2, 1) := by decide +kernel
theorem dX4_ownerOf_19 : decode cX4_ownerOf 19 = .ok (.imul, 1) := by decide +kernel
theorem dX4_ownerOf_20 : decode cX4_ownerOf 20 = .ok (.iload_n 1, 1) := by decide +kernel
theorem dX4_ownerOf_21 : decode cX4_ownerOf 21 = .ok (.iadd, 1) := by decide +kernel
theorem dX4_ownerOf_22 : decode cX4_ownerOf 22 = .ok (.iaload, 1) := by decide +kernel
theorem dX4_ownerOf_23 : decode cX4_ownerOf 23 = .ok (.ifCond .ne 15, 3) := by decide +kernel
theorem dX4_ownerOf_26 : decode cX4_ownerOf 26 = .ok (.getstatic 30, 3) := by decide +kernel
theorem dX4_ownerOf_29 : decode cX4_ownerOf 29 = .ok (.iload_n 2, 1) := by decide +kernel
theorem dX4_ownerOf_30 : decode cX4_ownerOf 30 = .ok (.iaload, 1) := by decide +kernel
theorem dX4_ownerOf_31 : decode cX4_ownerOf 31 = .ok (.istore_n 2, 1) := by decide +kernel
theorem dX4_ownerOf_32 : decode cX4_ownerOf 32 = .ok (.iinc 3 1, 3) := by decide +kernel
theorem dX4_ownerOf_35 : decode cX4_ownerOf 35 = .ok (.goto (-31), 3) := by decide +kernel
theorem dX4_ownerOf_38 : decode cX4_ownerOf 38 = .ok (.iload_n 2, 1) := by decide +kernel
theorem dX4_ownerOf_39 : decode cX4_ownerOf 39 = .ok (.ireturn, 1) := by decide +kernel
theorem dX4_note_0 : decode cX4_note 0 = .ok (.aload_n 0, 1) := by decide +kernel
theorem dX4_note_1 : decode cX4_note 1 = .ok (.getfield 33, 3) := by decide +kernel
theorem dX4_note_4 : decode cX4_note 4 = .ok (.bipush 24, 2) := by decide +kernel
theorem dX4_note_6 : decode cX4_note 6 = .ok (.if_icmp .ge 13, 3) := by decide +kernel
theorem dX4_note_9 : decode cX4_note 9 = .ok (.aload_n 0, 1) := by decide +kernel
theorem dX4_note_10 : decode cX4_note 10 = .ok (.getfield 15, 3) := by decide +kernel
theorem dX4_note_13 : decode cX4_note 13 = .ok (.aload_n 0, 1) := by decide +kernel
theorem dX4_note_14 : decode cX4_note 14 = .ok (.getfield 33, 3) := by decide +kernel
theorem dX4_note_17 : decode cX4_note 17 = .ok (.iload_n 1, 1) := by decide +kernel
theorem dX4_note_18 : decode cX4_note 18 = .ok (.iastore, 1) := by decide +kernel
theorem dX4_note_19 : decode cX4_note 19 = .ok (.aload_n 0, 1) := by decide +kernel
theorem dX4_note_20 : decode cX4_note 20 = .ok (.dup, 1) := by decide +kernel
theorem dX4_note_21 : decode cX4_note 21 = .ok (.getfield 33, 3) := by decide +kernel
theorem dX4_note_24 : decode cX4_note 24 = .ok (.iconst 1, 1) := by decide +kernel
theorem dX4_note_25 : decode cX4_note 25 = .ok (.iadd, 1) := by decide +kernel
theorem dX4_note_26 : decode cX4_note 26 = .ok (.putfield 33, 3) := by decide +kernel
theorem dX4_note_29 : decode cX4_note 29 = .ok (.return_, 1) := by decide +kernel
theorem dX4_run_0 : decode cX4_run 0 = .ok (.iload_n 1, 1) := by decide +kernel
theorem dX4_run_1 : decode cX4_run 1 = .ok (.iload_n 2, 1) := by decide +kernel
theorem dX4_run_2 : decode cX4_run 2 = .ok (.invokestatic 46, 3) := by decide +kernel
theorem dX4_run_5 : decode cX4_run 5 = .ok (.istore 5, 2) := by decide +kernel
theorem dX4_run_7 : decode cX4_run 7 = .ok (.iload 5, 2) := by decide +kernel
theorem dX4_run_9 : decode cX4_run 9 = .ok (.ifCond .lt 10, 3) := by decide +kernel
theorem dX4_run_12 : decode cX4_run 12 = .ok (.iload 4, 2) := by decide +kernel
theorem dX4_run_14 : decode cX4_run 14 = .ok (.bipush 40, 2) := by decide +kernel
theorem dX4_run_16 : decode cX4_run 16 = .ok (.if_icmp .le 5, 3) := by decide +kernel
theorem dX4_run_19 : decode cX4_run 19 = .ok (.iconst 0, 1) := by decide +kernel
theorem dX4_run_20 : decode cX4_run 20 = .ok (.ireturn, 1) := by decide +kernel
theorem dX4_run_21 : decode cX4_run 21 = .ok (.aload_n 0, 1) := by decide +kernel
theorem dX4_run_22 : decode cX4_run 22 = .ok (.getfield 11, 3) := by decide +kernel
theorem dX4_run_25 : decode cX4_run 25 = .ok (.aload_n 0, 1) := by decide +kernel
theorem dX4_run_26 : decode cX4_run 26 = .ok (.getfield 36, 3) := by decide +kernel
theorem dX4_run_29 : decode cX4_run 29 = .ok (.iaload, 1) := by decide +kernel
theorem dX4_run_30 : decode cX4_run 30 = .ok (.istore 6, 2) := by decide +kernel
theorem dX4_run_32 : decode cX4_run 32 = .ok (.getstatic 30, 3) := by decide +kernel
theorem dX4_run_35 : decode cX4_run 35 = .ok (.iload 5, 2) := by decide +kernel
theorem dX4_run_37 : decode cX4_run 37 = .ok (.iaload, 1) := by decide +kernel
theorem dX4_run_38 : decode cX4_run 38 = .ok (.istore 7, 2) := by decide +kernel
theorem dX4_run_40 : decode cX4_run 40 = .ok (.iload 4, 2) := by decide +kernel
theorem dX4_run_42 : decode cX4_run 42 = .ok (.iconst 1, 1) := by decide +kernel
theorem dX4_run_43 : decode cX4_run 43 = .ok (.iadd, 1) := by decide +kernel
theorem dX4_run_44 : decode cX4_run 44 = .ok (.istore 8, 2) := by decide +kernel
theorem dX4_run_46 : decode cX4_run 46 = .ok (.getstatic 43, 3) := by decide +kernel
theorem dX4_run_49 : decode cX4_run 49 = .ok (.iconst 4, 1) := by decide +kernel
theorem dX4_run_50 : decode cX4_run 50 = .ok (.iload 5, 2) := by decide +kernel
theorem dX4_run_52 : decode cX4_run 52 = .ok (.imul, 1) := by decide +kernel
theorem dX4_run_53 : decode cX4_run 53 = .ok (.iload_n 2, 1) := by decide +kernel
theorem dX4_run_54 : decode cX4_run 54 = .ok (.iadd, 1) := by decide +kernel
theorem dX4_run_55 : decode cX4_run 55 = .ok (.iaload, 1) := by decide +kernel
theorem dX4_run_56 : decode cX4_run 56 = .ok (.istore 9, 2) := by decide +kernel
theorem dX4_run_58 : decode cX4_run 58 = .ok (.aload_n 0, 1) := by decide +kernel
theorem dX4_run_59 : decode cX4_run 59 = .ok (.iload 9, 2) := by decide +kernel
theorem dX4_run_61 : decode cX4_run 61 = .ok (.invokevirtual 50, 3) := by decide +kernel
theorem dX4_run_64 : decode cX4_run 64 = .ok (.iload 9, 2) := by decide +kernel
theorem dX4_run_66 : decode cX4_run 66 = .ok (.lookupswitch 297 #[(1, 114), (2, 141), (10, 121), (11, 134), (20, 163), (30, 176), (40, 188), (41, 201), (50, 214), (60, 236), (70, 249), (80, 262), (81, 284)], 114) := by decide +kernel
theorem dX4_run_180 : decode cX4_run 180 = .ok (.iload_n 3, 1) := by decide +kernel
theorem dX4_run_181 : decode cX4_run 181 = .ok (.aload_n 0, 1) := by decide +kernel
theorem dX4_run_182 : decode cX4_run 182 = .ok (.getfield 36, 3) := by decide +kernel
theorem dX4_run_185 : decode cX4_run 185 = .ok (.iadd, 1) := by decide +kernel
theorem dX4_run_186 : decode cX4_run 186 = .ok (.ireturn, 1) := by decide +kernel
theorem dX4_run_187 : decode cX4_run 187 = .ok (.aload_n 0, 1) := by decide +kernel
theorem dX4_run_188 : decode cX4_run 188 = .ok (.iload 6, 2) := by decide +kernel
theorem dX4_run_190 : decode cX4_run 190 = .ok (.iconst 0, 1) := by decide +kernel
theorem dX4_run_191 : decode cX4_run 191 = .ok (.iload_n 3, 1) := by decide +kernel
theorem dX4_run_192 : decode cX4_run 192 = .ok (.iload 8, 2) := by decide +kernel
theorem dX4_run_194 : decode cX4_run 194 = .ok (.invokevirtual 39, 3) := by decide +kernel
theorem dX4_run_197 : decode cX4_run 197 = .ok (.iconst 2, 1) := by decide +kernel
theorem dX4_run_198 : decode cX4_run 198 = .ok (.imul, 1) := by decide +kernel
theorem dX4_run_199 : decode cX4_run 199 = .ok (.ireturn, 1) := by decide +kernel
theorem dX4_run_200 : decode cX4_run 200 = .ok (.iload_n 3, 1) := by decide +kernel
theorem dX4_run_201 : decode cX4_run 201 = .ok (.aload_n 0, 1) := by decide +kernel
theorem dX4_run_202 : decode cX4_run 202 = .ok (.getfield 36, 3) := by decide +kernel
theorem dX4_run_205 : decode cX4_run 205 = .ok (.ixor, 1) := by decide +kernel
theorem dX4_run_206 : decode cX4_run 206 = .ok (.ireturn, 1) := by decide +kernel
theorem dX4_run_207 : decode cX4_run 207 = .ok (.aload_n 0, 1) := by decide +kernel
theorem dX4_run_208 : decode cX4_run 208 = .ok (.iload 6, 2) := by decide +kernel
theorem dX4_run_210 : decode cX4_run 210 = .ok (.iconst 1, 1) := by decide +kernel
theorem dX4_run_211 : decode cX4_run 211 = .ok (.iload_n 3, 1) := by decide +kernel
theorem dX4_run_212 : decode cX4_run 212 = .ok (.iload 8, 2) := by decide +kernel
theorem dX4_run_214 : decode cX4_run 214 = .ok (.invokevirtual 39, 3) := by decide +kernel
theorem dX4_run_217 : decode cX4_run 217 = .ok (.aload_n 0, 1) := by decide +kernel
theorem dX4_run_218 : decode cX4_run 218 = .ok (.iload 6, 2) := by decide +kernel
theorem dX4_run_220 : decode cX4_run 220 = .ok (.iconst 2, 1) := by decide +kernel
theorem dX4_run_221 : decode cX4_run 221 = .ok (.iconst 1, 1) := by decide +kernel
theorem dX4_run_222 : decode cX4_run 222 = .ok (.iload 8, 2) := by decide +kernel
theorem dX4_run_224 : decode cX4_run 224 = .ok (.invokevirtual 39, 3) := by decide +kernel
theorem dX4_run_227 : decode cX4_run 227 = .ok (.isub, 1) := by decide +kernel
theorem dX4_run_228 : decode cX4_run 228 = .ok (.ireturn, 1) := by decide +kernel
theorem dX4_run_229 : decode cX4_run 229 = .ok (.aload_n 0, 1) := by decide +kernel
theorem dX4_run_230 : decode cX4_run 230 = .ok (.iload 7, 2) := by decide +kernel
theorem dX4_run_232 : decode cX4_run 232 = .ok (.iconst 0, 1) := by decide +kernel
theorem dX4_run_233 : decode cX4_run 233 = .ok (.iload_n 3, 1) := by decide +kernel
theorem dX4_run_234 : decode cX4_run 234 = .ok (.iload 8, 2) := by decide +kernel
theorem dX4_run_236 : decode cX4_run 236 = .ok (.invokevirtual 39, 3) := by decide +kernel
theorem dX4_run_239 : decode cX4_run 239 = .ok (.iconst 3, 1) := by decide +kernel
theorem dX4_run_240 : decode cX4_run 240 = .ok (.iadd, 1) := by decide +kernel
theorem dX4_run_241 : decode cX4_run 241 = .ok (.ireturn, 1) := by decide +kernel
theorem dX4_run_242 : decode cX4_run 242 = .ok (.aload_n 0, 1) := by decide +kernel
theorem dX4_run_243 : decode cX4_run 243 = .ok (.iload 7, 2) := by decide +kernel
theorem dX4_run_245 : decode cX4_run 245 = .ok (.iconst 1, 1) := by decide +kernel
theorem dX4_run_246 : decode cX4_run 246 = .ok (.iload_n 3, 1) := by decide +kernel
theorem dX4_run_247 : decode cX4_run 247 = .ok (.iload 8, 2) := by decide +kernel
theorem dX4_run_249 : decode cX4_run 249 = .ok (.invokevirtual 39, 3) := by decide +kernel
theorem dX4_run_252 : decode cX4_run 252 = .ok (.ineg, 1) := by decide +kernel
theorem dX4_run_253 : decode cX4_run 253 = .ok (.ireturn, 1) := by decide +kernel
theorem dX4_run_254 : decode cX4_run 254 = .ok (.aload_n 0, 1) := by decide +kernel
theorem dX4_run_255 : decode cX4_run 255 = .ok (.iload 7, 2) := by decide +kernel
theorem dX4_run_257 : decode cX4_run 257 = .ok (.iconst 2, 1) := by decide +kernel
theorem dX4_run_258 : decode cX4_run 258 = .ok (.iload_n 3, 1) := by decide +kernel
theorem dX4_run_259 : decode cX4_run 259 = .ok (.iload 8, 2) := by decide +kernel
theorem dX4_run_261 : decode cX4_run 261 = .ok (.invokevirtual 39, 3) := by decide +kernel
theorem dX4_run_264 : decode cX4_run 264 = .ok (.iconst 3, 1) := by decide +kernel
theorem dX4_run_265 : decode cX4_run 265 = .ok (.imul, 1) := by decide +kernel
theorem dX4_run_266 : decode cX4_run 266 = .ok (.ireturn, 1) := by decide +kernel
theorem dX4_run_267 : decode cX4_run 267 = .ok (.aload_n 0, 1) := by decide +kernel
theorem dX4_run_268 : decode cX4_run 268 = .ok (.iload 7, 2) := by decide +kernel
theorem dX4_run_270 : decode cX4_run 270 = .ok (.iconst 1, 1) := by decide +kernel
theorem dX4_run_271 : decode cX4_run 271 = .ok (.iload_n 3, 1) := by decide +kernel
theorem dX4_run_272 : decode cX4_run 272 = .ok (.iconst 1, 1) := by decide +kernel
theorem dX4_run_273 : decode cX4_run 273 = .ok (.iadd, 1) := by decide +kernel
theorem dX4_run_274 : decode cX4_run 274 = .ok (.iload 8, 2) := by decide +kernel
theorem dX4_run_276 : decode cX4_run 276 = .ok (.invokevirtual 39, 3) := by decide +kernel
theorem dX4_run_279 : decode cX4_run 279 = .ok (.ireturn, 1) := by decide +kernel
theorem dX4_run_280 : decode cX4_run 280 = .ok (.aload_n 0, 1) := by decide +kernel
theorem dX4_run_281 : decode cX4_run 281 = .ok (.iload 7, 2) := by decide +kernel
theorem dX4_run_283 : decode cX4_run 283 = .ok (.iconst 2, 1) := by decide +kernel
theorem dX4_run_284 : decode cX4_run 284 = .ok (.iload_n 3, 1) := by decide +kernel
theorem dX4_run_285 : decode cX4_run 285 = .ok (.iload 8, 2) := by decide +kernel
theorem dX4_run_287 : decode cX4_run 287 = .ok (.invokevirtual 39, 3) := by decide +kernel
theorem dX4_run_290 : decode cX4_run 290 = .ok (.aload_n 0, 1) := by decide +kernel
theorem dX4_run_291 : decode cX4_run 291 = .ok (.iload 6, 2) := by decide +kernel
theorem dX4_run_293 : decode cX4_run 293 = .ok (.iconst 0, 1) := by decide +kernel
theorem dX4_run_294 : decode cX4_run 294 = .ok (.iconst 2, 1) := by decide +kernel
theorem dX4_run_295 : decode cX4_run 295 = .ok (.iload 8, 2) := by decide +kernel
theorem dX4_run_297 : decode cX4_run 297 = .ok (.invokevirtual 39, 3) := by decide +kernel
theorem dX4_run_300 : decode cX4_run 300 = .ok (.isub, 1) := by decide +kernel
theorem dX4_run_301 : decode cX4_run 301 = .ok (.ireturn, 1) := by decide +kernel
theorem dX4_run_302 : decode cX4_run 302 = .ok (.aload_n 0, 1) := by decide +kernel
theorem dX4_run_303 : decode cX4_run 303 = .ok (.iload 7, 2) := by decide +kernel
theorem dX4_run_305 : decode cX4_run 305 = .ok (.iconst 3, 1) := by decide +kernel
theorem dX4_run_306 : decode cX4_run 306 = .ok (.iload_n 3, 1) := by decide +kernel
theorem dX4_run_307 : decode cX4_run 307 = .ok (.iload 8, 2) := by decide +kernel
theorem dX4_run_309 : decode cX4_run 309 = .ok (.invokevirtual 39, 3) := by decide +kernel
theorem dX4_run_312 : decode cX4_run 312 = .ok (.iconst 5, 1) := by decide +kernel
theorem dX4_run_313 : decode cX4_run 313 = .ok (.ixor, 1) := by decide +kernel
theorem dX4_run_314 : decode cX4_run 314 = .ok (.ireturn, 1) := by decide +kernel
theorem dX4_run_315 : decode cX4_run 315 = .ok (.aload_n 0, 1) := by decide +kernel
theorem dX4_run_316 : decode cX4_run 316 = .ok (.iload 7, 2) := by decide +kernel
theorem dX4_run_318 : decode cX4_run 318 = .ok (.iconst 0, 1) := by decide +kernel
theorem dX4_run_319 : decode cX4_run 319 = .ok (.iload_n 3, 1) := by decide +kernel
theorem dX4_run_320 : decode cX4_run 320 = .ok (.iload 8, 2) := by decide +kernel
theorem dX4_run_322 : decode cX4_run 322 = .ok (.invokevirtual 39, 3) := by decide +kernel
theorem dX4_run_325 : decode cX4_run 325 = .ok (.iconst 2, 1) := by decide +kernel
theorem dX4_run_326 : decode cX4_run 326 = .ok (.imul, 1) := by decide +kernel
theorem dX4_run_327 : decode cX4_run 327 = .ok (.ireturn, 1) := by decide +kernel
theorem dX4_run_328 : decode cX4_run 328 = .ok (.aload_n 0, 1) := by decide +kernel
theorem dX4_run_329 : decode cX4_run 329 = .ok (.iload 7, 2) := by decide +kernel
theorem dX4_run_331 : decode cX4_run 331 = .ok (.iconst 1, 1) := by decide +kernel
theorem dX4_run_332 : decode cX4_run 332 = .ok (.iload_n 3, 1) := by decide +kernel
theorem dX4_run_333 : decode cX4_run 333 = .ok (.iload 8, 2) := by decide +kernel
theorem dX4_run_335 : decode cX4_run 335 = .ok (.invokevirtual 39, 3) := by decide +kernel
theorem dX4_run_338 : decode cX4_run 338 = .ok (.aload_n 0, 1) := by decide +kernel
theorem dX4_run_339 : decode cX4_run 339 = .ok (.iload 6, 2) := by decide +kernel
theorem dX4_run_341 : decode cX4_run 341 = .ok (.iconst 2, 1) := by decide +kernel
theorem dX4_run_342 : decode cX4_run 342 = .ok (.iconst 2, 1) := by decide +kernel
theorem dX4_run_343 : decode cX4_run 343 = .ok (.iload 8, 2) := by decide +kernel
theorem dX4_run_345 : decode cX4_run 345 = .ok (.invokevirtual 39, 3) := by decide +kernel
theorem dX4_run_348 : decode cX4_run 348 = .ok (.iadd, 1) := by decide +kernel
theorem dX4_run_349 : decode cX4_run 349 = .ok (.ireturn, 1) := by decide +kernel
theorem dX4_run_350 : decode cX4_run 350 = .ok (.aload_n 0, 1) := by decide +kernel
theorem dX4_run_351 : decode cX4_run 351 = .ok (.iload 7, 2) := by decide +kernel
theorem dX4_run_353 : decode cX4_run 353 = .ok (.iconst 3, 1) := by decide +kernel
theorem dX4_run_354 : decode cX4_run 354 = .ok (.iload_n 3, 1) := by decide +kernel
theorem dX4_run_355 : decode cX4_run 355 = .ok (.iload 8, 2) := by decide +kernel
theorem dX4_run_357 : decode cX4_run 357 = .ok (.invokevirtual 39, 3) := by decide +kernel
theorem dX4_run_360 : decode cX4_run 360 = .ok (.iconst 1, 1) := by decide +kernel
theorem dX4_run_361 : decode cX4_run 361 = .ok (.isub, 1) := by decide +kernel
theorem dX4_run_362 : decode cX4_run 362 = .ok (.ireturn, 1) := by decide +kernel
theorem dX4_run_363 : decode cX4_run 363 = .ok (.iconst 0, 1) := by decide +kernel
theorem dX4_run_364 : decode cX4_run 364 = .ok (.ireturn, 1) := by decide +kernel
theorem dX5_init_0 : decode cX5_init 0 = .ok (.aload_n 0, 1) := by decide +kernel
theorem dX5_init_1 : decode cX5_init 1 = .ok (.invokespecial 1, 3) := by decide +kernel
theorem dX5_init_4 : decode cX5_init 4 = .ok (.aload_n 0, 1) := by decide +kernel
theorem dX5_init_5 : decode cX5_init 5 = .ok (.sipush 128, 3) := by decide +kernel
theorem dX5_init_8 : decode cX5_init 8 = .ok (.newarray .char, 2) := by decide +kernel
theorem dX5_init_10 : decode cX5_init 10 = .ok (.putfield 9, 3) := by decide +kernel
theorem dX5_init_13 : decode cX5_init 13 = .ok (.aload_n 0, 1) := by decide +kernel
theorem dX5_init_14 : decode cX5_init 14 = .ok (.sipush 128, 3) := by decide +kernel
theorem dX5_init_17 : decode cX5_init 17 = .ok (.newarray .int, 2) := by decide +kernel
theorem dX5_init_19 : decode cX5_init 19 = .ok (.putfield 13, 3) := by decide +kernel
theorem dX5_init_22 : decode cX5_init 22 = .ok (.aload_n 0, 1) := by decide +kernel
theorem dX5_init_23 : decode cX5_init 23 = .ok (.sipush 128, 3) := by decide +kernel
theorem dX5_init_26 : decode cX5_init 26 = .ok (.newarray .int, 2) := by decide +kernel
theorem dX5_init_28 : decode cX5_init 28 = .ok (.putfield 17, 3) := by decide +kernel
theorem dX5_init_31 : decode cX5_init 31 = .ok (.return_, 1) := by decide +kernel
theorem dX5_clear_0 : decode cX5_clear 0 = .ok (.aload_n 0, 1) := by decide +kernel
theorem dX5_clear_1 : decode cX5_clear 1 = .ok (.iconst 0, 1) := by decide +kernel
theorem dX5_clear_2 : decode cX5_clear 2 = .ok (.putfield 20, 3) := by decide +kernel
theorem dX5_clear_5 : decode cX5_clear 5 = .ok (.return_, 1) := by decide +kernel
theorem dX5_add_0 : decode cX5_add 0 = .ok (.aload_n 0, 1) := by decide +kernel
theorem dX5_add_1 : decode cX5_add 1 = .ok (.getfield 20, 3) := by decide +kernel
theorem dX5_add_4 : decode cX5_add 4 = .ok (.sipush 128, 3) := by decide +kernel
theorem dX5_add_7 : decode cX5_add 7 = .ok (.if_icmp .ge 33, 3) := by decide +kernel
theorem dX5_add_10 : decode cX5_add 10 = .ok (.aload_n 0, 1) := by decide +kernel
theorem dX5_add_11 : decode cX5_add 11 = .ok (.getfield 9, 3) := by decide +kernel
theorem dX5_add_14 : decode cX5_add 14 = .ok (.aload_n 0, 1) := by decide +kernel
theorem dX5_add_15 : decode cX5_add 15 = .ok (.getfield 20, 3) := by decide +kernel
theorem dX5_add_18 : decode cX5_add 18 = .ok (.iload_n 1, 1) := by decide +kernel
theorem dX5_add_19 : decode cX5_add 19 = .ok (.castore, 1) := by decide +kernel
theorem dX5_add_20 : decode cX5_add 20 = .ok (.aload_n 0, 1) := by decide +kernel
theorem dX5_add_21 : decode cX5_add 21 = .ok (.getfield 13, 3) := by decide +kernel
theorem dX5_add_24 : decode cX5_add 24 = .ok (.aload_n 0, 1) := by decide +kernel
theorem dX5_add_25 : decode cX5_add 25 = .ok (.getfield 20, 3) := by decide +kernel
theorem dX5_add_28 : decode cX5_add 28 = .ok (.iload_n 2, 1) := by decide +kernel
theorem dX5_add_29 : decode cX5_add 29 = .ok (.iastore, 1) := by decide +kernel
theorem dX5_add_30 : decode cX5_add 30 = .ok (.aload_n 0, 1) := by decide +kernel
theorem dX5_add_31 : decode cX5_add 31 = .ok (.dup, 1) := by decide +kernel
theorem dX5_add_32 : decode cX5_add 32 = .ok (.getfield 20, 3) := by decide +kernel
theorem dX5_add_35 : decode cX5_add 35 = .ok (.iconst 1, 1) := by decide +kernel
theorem dX5_add_36 : decode cX5_add 36 = .ok (.iadd, 1) := by decide +kernel
theorem dX5_add_37 : decode cX5_add 37 = .ok (.putfield 20, 3) := by decide +kernel
theorem dX5_add_40 : decode cX5_add 40 = .ok (.return_, 1) := by decide +kernel
theorem dX5_isTold_0 : decode cX5_isTold 0 = .ok (.aload_n 0, 1) := by decide +kernel
theorem dX5_isTold_1 : decode cX5_isTold 1 = .ok (.getfield 20, 3) := by decide +kernel
theorem dX5_isTold_4 : decode cX5_isTold 4 = .ok (.ifCond .le 7, 3) := by decide +kernel
theorem dX5_isTold_7 : decode cX5_isTold 7 = .ok (.iconst 1, 1) := by decide +kernel
theorem dX5_isTold_8 : decode cX5_isTold 8 = .ok (.goto 4, 3) := by decide +kernel
theorem dX5_isTold_11 : decode cX5_isTold 11 = .ok (.iconst 0, 1) := by decide +kernel
theorem dX5_isTold_12 : decode cX5_isTold 12 = .ok (.ireturn, 1) := by decide +kernel
theorem dX5_value_0 : decode cX5_value 0 = .ok (.iconst 0, 1) := by decide +kernel
theorem dX5_value_1 : decode cX5_value 1 = .ok (.istore_n 2, 1) := by decide +kernel
theorem dX5_value_2 : decode cX5_value 2 = .ok (.iconst 0, 1) := by decide +kernel
theorem dX5_value_3 : decode cX5_value 3 = .ok (.istore_n 3, 1) := by decide +kernel
theorem dX5_value_4 : decode cX5_value 4 = .ok (.iconst 0, 1) := by decide +kernel
theorem dX5_value_5 : decode cX5_value 5 = .ok (.istore 4, 2) := by decide +kernel
theorem dX5_value_7 : decode cX5_value 7 = .ok (.iload 4, 2) := by decide +kernel
theorem dX5_value_9 : decode cX5_value 9 = .ok (.aload_n 0, 1) := by decide +kernel
theorem dX5_value_10 : decode cX5_value 10 = .ok (.getfield 20, 3) := by decide +kernel
theorem dX5_value_13 : decode cX5_value 13 = .ok (.if_icmp .ge 269, 3) := by decide +kernel
theorem dX5_value_16 : decode cX5_value 16 = .ok (.iload_n 2, 1) := by decide +kernel
theorem dX5_value_17 : decode cX5_value 17 = .ok (.sipush 128, 3) := by decide +kernel
theorem dX5_value_20 : decode cX5_value 20 = .ok (.if_icmp .ge 262, 3) := by decide +kernel
theorem dX5_value_23 : decode cX5_value 23 = .ok (.aload_n 0, 1) := by decide +kernel
theorem dX5_value_24 : decode cX5_value 24 = .ok (.getfield 9, 3) := by decide +kernel
theorem dX5_value_27 : decode cX5_value 27 = .ok (.iload 4, 2) := by decide +kernel
theorem dX5_value_29 : decode cX5_value 29 = .ok (.caload, 1) := by decide +kernel
theorem dX5_value_30 : decode cX5_value 30 = .ok (.istore 5, 2) := by decide +kernel
theorem dX5_value_32 : decode cX5_value 32 = .ok (.iload_n 3, 1) := by decide +kernel
theorem dX5_value_33 : decode cX5_value 33 = .ok (.ifCond .eq 19, 3) := by decide +kernel
theorem dX5_value_36 : decode cX5_value 36 = .ok (.iload 5, 2) := by decide +kernel
theorem dX5_value_38 : decode cX5_value 38 = .ok (.bipush 59, 2) := by decide +kernel
theorem dX5_value_40 : decode cX5_value 40 = .ok (.if_icmp .eq 7, 3) := by decide +kernel
theorem dX5_value_43 : decode cX5_value 43 = .ok (.iconst 1, 1) := by decide +kernel
theorem dX5_value_44 : decode cX5_value 44 = .ok (.goto 4, 3) := by decide +kernel
theorem dX5_value_47 : decode cX5_value 47 = .ok (.iconst 0, 1) := by decide +kernel
theorem dX5_value_48 : decode cX5_value 48 = .ok (.istore_n 3, 1) := by decide +kernel
theorem dX5_value_49 : decode cX5_value 49 = .ok (.goto 227, 3) := by decide +kernel
theorem dX5_value_52 : decode cX5_value 52 = .ok (.iload 5, 2) := by decide +kernel
theorem dX5_value_54 : decode cX5_value 54 = .ok (.bipush 35, 2) := by decide +kernel
theorem dX5_value_56 : decode cX5_value 56 = .ok (.if_icmp .ne 22, 3) := by decide +kernel
theorem dX5_value_59 : decode cX5_value 59 = .ok (.aload_n 0, 1) := by decide +kernel
theorem dX5_value_60 : decode cX5_value 60 = .ok (.getfield 17, 3) := by decide +kernel
theorem dX5_value_63 : decode cX5_value 63 = .ok (.iload_n 2, 1) := by decide +kernel
theorem dX5_value_64 : decode cX5_value 64 = .ok (.aload_n 0, 1) := by decide +kernel
theorem dX5_value_65 : decode cX5_value 65 = .ok (.getfield 13, 3) := by decide +kernel
theorem dX5_value_68 : decode cX5_value 68 = .ok (.iload 4, 2) := by decide +kernel
theorem dX5_value_70 : decode cX5_value 70 = .ok (.iaload, 1) := by decide +kernel
theorem dX5_value_71 : decode cX5_value 71 = .ok (.iastore, 1) := by decide +kernel
theorem dX5_value_72 : decode cX5_value 72 = .ok (.iinc 2 1, 3) := by decide +kernel
theorem dX5_value_75 : decode cX5_value 75 = .ok (.goto 201, 3) := by decide +kernel
theorem dX5_value_78 : decode cX5_value 78 = .ok (.iload 5, 2) := by decide +kernel
theorem dX5_value_80 : decode cX5_value 80 = .ok (.bipush 110, 2) := by decide +kernel
theorem dX5_value_82 : decode cX5_value 82 = .ok (.if_icmp .ne 46, 3) := by decide +kernel
theorem dX5_value_85 : decode cX5_value 85 = .ok (.aload_n 0, 1) := by decide +kernel
theorem dX5_value_86 : decode cX5_value 86 = .ok (.getfield 13, 3) := by decide +kernel
theorem dX5_value_89 : decode cX5_value 89 = .ok (.iload 4, 2) := by decide +kernel
theorem dX5_value_91 : decode cX5_value 91 = .ok (.iaload, 1) := by decide +kernel
theorem dX5_value_92 : decode cX5_value 92 = .ok (.ifCond .lt 36, 3) := by decide +kernel
theorem dX5_value_95 : decode cX5_value 95 = .ok (.aload_n 0, 1) := by decide +kernel
theorem dX5_value_96 : decode cX5_value 96 = .ok (.getfield 13, 3) := by decide +kernel
theorem dX5_value_99 : decode cX5_value 99 = .ok (.iload 4, 2) := by decide +kernel
theorem dX5_value_101 : decode cX5_value 101 = .ok (.iaload, 1) := by decide +kernel
theorem dX5_value_102 : decode cX5_value 102 = .ok (.aload_n 1, 1) := by decide +kernel
theorem dX5_value_103 : decode cX5_value 103 = .ok (.arraylength, 1) := by decide +kernel
theorem dX5_value_104 : decode cX5_value 104 = .ok (.if_icmp .ge 24, 3) := by decide +kernel
theorem dX5_value_107 : decode cX5_value 107 = .ok (.aload_n 0, 1) := by decide +kernel
theorem dX5_value_108 : decode cX5_value 108 = .ok (.getfield 17, 3) := by decide +kernel
theorem dX5_value_111 : decode cX5_value 111 = .ok (.iload_n 2, 1) := by decide +kernel
theorem dX5_value_112 : decode cX5_value 112 = .ok (.aload_n 1, 1) := by decide +kernel
theorem dX5_value_113 : decode cX5_value 113 = .ok (.aload_n 0, 1) := by decide +kernel
theorem dX5_value_114 : decode cX5_value 114 = .ok (.getfield 13, 3) := by decide +kernel
theorem dX5_value_117 : decode cX5_value 117 = .ok (.iload 4, 2) := by decide +kernel
theorem dX5_value_119 : decode cX5_value 119 = .ok (.iaload, 1) := by decide +kernel
theorem dX5_value_120 : decode cX5_value 120 = .ok (.iaload, 1) := by decide +kernel
theorem dX5_value_121 : decode cX5_value 121 = .ok (.iastore, 1) := by decide +kernel
theorem dX5_value_122 : decode cX5_value 122 = .ok (.iinc 2 1, 3) := by decide +kernel
theorem dX5_value_125 : decode cX5_value 125 = .ok (.goto 151, 3) := by decide +kernel
theorem dX5_value_128 : decode cX5_value 128 = .ok (.iload_n 2, 1) := by decide +kernel
theorem dX5_value_129 : decode cX5_value 129 = .ok (.iconst 1, 1) := by decide +kernel
theorem dX5_value_130 : decode cX5_value 130 = .ok (.if_icmp .ge 5, 3) := by decide +kernel
theorem dX5_value_133 : decode cX5_value 133 = .ok (.iconst 0, 1) := by decide +kernel
theorem dX5_value_134 : decode cX5_value 134 = .ok (.ireturn, 1) := by decide +kernel
theorem dX5_value_135 : decode cX5_value 135 = .ok (.iload 5, 2) := by decide +kernel
theorem dX5_value_137 : decode cX5_value 137 = .ok (.bipush 59, 2) := by decide +kernel
theorem dX5_value_139 : decode cX5_value 139 = .ok (.if_icmp .ne 12, 3) := by decide +kernel
theorem dX5_value_142 : decode cX5_value 142 = .ok (.aload_n 0, 1) := by decide +kernel
theorem dX5_value_143 : decode cX5_value 143 = .ok (.getfield 17, 3) := by decide +kernel
theorem dX5_value_146 : decode cX5_value 146 = .ok (.iload_n 2, 1) := by decide +kernel
theorem dX5_value_147 : decode cX5_value 147 = .ok (.iconst 1, 1) := by decide +kernel
theorem dX5_value_148 : decode cX5_value 148 = .ok (.isub, 1) := by decide +kernel
theorem dX5_value_149 : decode cX5_value 149 = .ok (.iaload, 1) := by decide +kernel
theorem dX5_value_150 : decode cX5_value 150 = .ok (.ireturn, 1) := by decide +kernel
theorem dX5_value_151 : decode cX5_value 151 = .ok (.iload 5, 2) := by decide +kernel
theorem dX5_value_153 : decode cX5_value 153 = .ok (.bipush 63, 2) := by decide +kernel
theorem dX5_value_155 : decode cX5_value 155 = .ok (.if_icmp .ne 24, 3) := by decide +kernel
theorem dX5_value_158 : decode cX5_value 158 = .ok (.iinc 2 (-1), 3) := by decide +kernel
theorem dX5_value_161 : decode cX5_value 161 = .ok (.aload_n 0, 1) := by decide +kernel
theorem dX5_value_162 : decode cX5_value 162 = .ok (.getfield 17, 3) := by decide +kernel
theorem dX5_value_165 : decode cX5_value 165 = .ok (.iload_n 2, 1) := by decide +kernel
theorem dX5_value_166 : decode cX5_value 166 = .ok (.iaload, 1) := by decide +kernel
theorem dX5_value_167 : decode cX5_value 167 = .ok (.ifCond .ne 7, 3) := by decide +kernel
theorem dX5_value_170 : decode cX5_value 170 = .ok (.iconst 1, 1) := by decide +kernel
theorem dX5_value_171 : decode cX5_value 171 = .ok (.goto 4, 3) := by decide +kernel
theorem dX5_value_174 : decode cX5_value 174 = .ok (.iconst 0, 1) := by decide +kernel
theorem dX5_value_175 : decode cX5_value 175 = .ok (.istore_n 3, 1) := by decide +kernel
theorem dX5_value_176 : decode cX5_value 176 = .ok (.goto 100, 3) := by decide +kernel
theorem dX5_value_179 : decode cX5_value 179 = .ok (.iload 5, 2) := by decide +kernel
theorem dX5_value_181 : decode cX5_value 181 = .ok (.bipush 33, 2) := by decide +kernel
theorem dX5_value_183 : decode cX5_value 183 = .ok (.if_icmp .eq 10, 3) := by decide +kernel
theorem dX5_value_186 : decode cX5_value 186 = .ok (.iload 5, 2) := by decide +kernel
theorem dX5_value_188 : decode cX5_value 188 = .ok (.bipush 126, 2) := by decide +kernel
theorem dX5_value_190 : decode cX5_value 190 = .ok (.if_icmp .ne 49, 3) := by decide +kernel
theorem dX5_value_193 : decode cX5_value 193 = .ok (.aload_n 0, 1) := by decide +kernel
theorem dX5_value_194 : decode cX5_value 194 = .ok (.getfield 17, 3) := by decide +kernel
theorem dX5_value_197 : decode cX5_value 197 = .ok (.iload_n 2, 1) := by decide +kernel
theorem dX5_value_198 : decode cX5_value 198 = .ok (.iconst 1, 1) := by decide +kernel
theorem dX5_value_199 : decode cX5_value 199 = .ok (.isub, 1) := by decide +kernel
theorem dX5_value_200 : decode cX5_value 200 = .ok (.iload 5, 2) := by decide +kernel
theorem dX5_value_202 : decode cX5_value 202 = .ok (.bipush 126, 2) := by decide +kernel
theorem dX5_value_204 : decode cX5_value 204 = .ok (.if_icmp .ne 15, 3) := by decide +kernel
theorem dX5_value_207 : decode cX5_value 207 = .ok (.aload_n 0, 1) := by decide +kernel
theorem dX5_value_208 : decode cX5_value 208 = .ok (.getfield 17, 3) := by decide +kernel
theorem dX5_value_211 : decode cX5_value 211 = .ok (.iload_n 2, 1) := by decide +kernel
theorem dX5_value_212 : decode cX5_value 212 = .ok (.iconst 1, 1) := by decide +kernel
theorem dX5_value_213 : decode cX5_value 213 = .ok (.isub, 1) := by decide +kernel
theorem dX5_value_214 : decode cX5_value 214 = .ok (.iaload, 1) := by decide +kernel
theorem dX5_value_215 : decode cX5_value 215 = .ok (.ineg, 1) := by decide +kernel
theorem dX5_value_216 : decode cX5_value 216 = .ok (.goto 19, 3) := by decide +kernel
theorem dX5_value_219 : decode cX5_value 219 = .ok (.aload_n 0, 1) := by decide +kernel
theorem dX5_value_220 : decode cX5_value 220 = .ok (.getfield 17, 3) := by decide +kernel
theorem dX5_value_223 : decode cX5_value 223 = .ok (.iload_n 2, 1) := by decide +kernel
theorem dX5_value_224 : decode cX5_value 224 = .ok (.iconst 1, 1) := by decide +kernel
theorem dX5_value_225 : decode cX5_value 225 = .ok (.isub, 1) := by decide +kernel
theorem dX5_value_226 : decode cX5_value 226 = .ok (.iaload, 1) := by decide +kernel
theorem dX5_value_227 : decode cX5_value 227 = .ok (.ifCond .ne 7, 3) := by decide +kernel
theorem dX5_value_230 : decode cX5_value 230 = .ok (.iconst 1, 1) := by decide +kernel
theorem dX5_value_231 : decode cX5_value 231 = .ok (.goto 4, 3) := by decide +kernel
theorem dX5_value_234 : decode cX5_value 234 = .ok (.iconst 0, 1) := by decide +kernel
theorem dX5_value_235 : decode cX5_value 235 = .ok (.iastore, 1) := by decide +kernel
theorem dX5_value_236 : decode cX5_value 236 = .ok (.goto 40, 3) := by decide +kernel
theorem dX5_value_239 : decode cX5_value 239 = .ok (.iload_n 2, 1) := by decide +kernel
theorem dX5_value_240 : decode cX5_value 240 = .ok (.iconst 2, 1) := by decide +kernel
theorem dX5_value_241 : decode cX5_value 241 = .ok (.if_icmp .ge 5, 3) := by decide +kernel
theorem dX5_value_244 : decode cX5_value 244 = .ok (.iconst 0, 1) := by decide +kernel
theorem dX5_value_245 : decode cX5_value 245 = .ok (.ireturn, 1) := by decide +kernel
theorem dX5_value_246 : decode cX5_value 246 = .ok (.iinc 2 (-1), 3) := by decide +kernel
theorem dX5_value_249 : decode cX5_value 249 = .ok (.aload_n 0, 1) := by decide +kernel
theorem dX5_value_250 : decode cX5_value 250 = .ok (.getfield 17, 3) := by decide +kernel
theorem dX5_value_253 : decode cX5_value 253 = .ok (.iload_n 2, 1) := by decide +kernel
theorem dX5_value_254 : decode cX5_value 254 = .ok (.iconst 1, 1) := by decide +kernel
theorem dX5_value_255 : decode cX5_value 255 = .ok (.isub, 1) := by decide +kernel
theorem dX5_value_256 : decode cX5_value 256 = .ok (.iload 5, 2) := by decide +kernel
theorem dX5_value_258 : decode cX5_value 258 = .ok (.aload_n 0, 1) := by decide +kernel
theorem dX5_value_259 : decode cX5_value 259 = .ok (.getfield 17, 3) := by decide +kernel
theorem dX5_value_262 : decode cX5_value 262 = .ok (.iload_n 2, 1) := by decide +kernel
theorem dX5_value_263 : decode cX5_value 263 = .ok (.iconst 1, 1) := by decide +kernel
theorem dX5_value_264 : decode cX5_value 264 = .ok (.isub, 1) := by decide +kernel
theorem dX5_value_265 : decode cX5_value 265 = .ok (.iaload, 1) := by decide +kernel
theorem dX5_value_266 : decode cX5_value 266 = .ok (.aload_n 0, 1) := by decide +kernel
theorem dX5_value_267 : decode cX5_value 267 = .ok (.getfield 17, 3) := by decide +kernel
theorem dX5_value_270 : decode cX5_value 270 = .ok (.iload_n 2, 1) := by decide +kernel
theorem dX5_value_271 : decode cX5_value 271 = .ok (.iaload, 1) := by decide +kernel
theorem dX5_value_272 : decode cX5_value 272 = .ok (.invokestatic 24, 3) := by decide +kernel
theorem dX5_value_275 : decode cX5_value 275 = .ok (.iastore, 1) := by decide +kernel
theorem dX5_value_276 : decode cX5_value 276 = .ok (.iinc 4 1, 3) := by decide +kernel
theorem dX5_value_279 : decode cX5_value 279 = .ok (.goto (-272), 3) := by decide +kernel
theorem dX5_value_282 : decode cX5_value 282 = .ok (.iconst 0, 1) := by decide +kernel
theorem dX5_value_283 : decode cX5_value 283 = .ok (.ireturn, 1) := by decide +kernel
theorem dX5_joined_0 : decode cX5_joined 0 = .ok (.iload_n 0, 1) := by decide +kernel
theorem dX5_joined_1 : decode cX5_joined 1 = .ok (.lookupswitch 188 #[(37, 176), (38, 105), (42, 160), (43, 152), (45, 156), (47, 164), (60, 119), (61, 130), (62, 141), (124, 91)], 91) := by decide +kernel
theorem dX5_joined_92 : decode cX5_joined 92 = .ok (.iload_n 1, 1) := by decide +kernel
theorem dX5_joined_93 : decode cX5_joined 93 = .ok (.ifCond .ne 7, 3) := by decide +kernel
theorem dX5_joined_96 : decode cX5_joined 96 = .ok (.iload_n 2, 1) := by decide +kernel
theorem dX5_joined_97 : decode cX5_joined 97 = .ok (.ifCond .eq 7, 3) := by decide +kernel
theorem dX5_joined_100 : decode cX5_joined 100 = .ok (.iconst 1, 1) := by decide +kernel
theorem dX5_joined_101 : decode cX5_joined 101 = .ok (.goto 4, 3) := by decide +kernel
theorem dX5_joined_104 : decode cX5_joined 104 = .ok (.iconst 0, 1) := by decide +kernel
theorem dX5_joined_105 : decode cX5_joined 105 = .ok (.ireturn, 1) := by decide +kernel
theorem dX5_joined_106 : decode cX5_joined 106 = .ok (.iload_n 1, 1) := by decide +kernel
theorem dX5_joined_107 : decode cX5_joined 107 = .ok (.ifCond .eq 11, 3) := by decide +kernel
theorem dX5_joined_110 : decode cX5_joined 110 = .ok (.iload_n 2, 1) := by decide +kernel
theorem dX5_joined_111 : decode cX5_joined 111 = .ok (.ifCond .eq 7, 3) := by decide +kernel
theorem dX5_joined_114 : decode cX5_joined 114 = .ok (.iconst 1, 1) := by decide +kernel
theorem dX5_joined_115 : decode cX5_joined 115 = .ok (.goto 4, 3) := by decide +kernel
theorem dX5_joined_118 : decode cX5_joined 118 = .ok (.iconst 0, 1) := by decide +kernel
theorem dX5_joined_119 : decode cX5_joined 119 = .ok (.ireturn, 1) := by decide +kernel
theorem dX5_joined_120 : decode cX5_joined 120 = .ok (.iload_n 1, 1) := by decide +kernel
theorem dX5_joined_121 : decode cX5_joined 121 = .ok (.iload_n 2, 1) := by decide +kernel
theorem dX5_joined_122 : decode cX5_joined 122 = .ok (.if_icmp .ge 7, 3) := by decide +kernel
theorem dX5_joined_125 : decode cX5_joined 125 = .ok (.iconst 1, 1) := by decide +kernel
theorem dX5_joined_126 : decode cX5_joined 126 = .ok (.goto 4, 3) := by decide +kernel
theorem dX5_joined_129 : decode cX5_joined 129 = .ok (.iconst 0, 1) := by decide +kernel
theorem dX5_joined_130 : decode cX5_joined 130 = .ok (.ireturn, 1) := by decide +kernel
theorem dX5_joined_131 : decode cX5_joined 131 = .ok (.iload_n 1, 1) := by decide +kernel
theorem dX5_joined_132 : decode cX5_joined 132 = .ok (.iload_n 2, 1) := by decide +kernel
theorem dX5_joined_133 : decode cX5_joined 133 = .ok (.if_icmp .ne 7, 3) := by decide +kernel
theorem dX5_joined_136 : decode cX5_joined 136 = .ok (.iconst 1, 1) := by decide +kernel
theorem dX5_joined_137 : decode cX5_joined 137 = .ok (.goto 4, 3) := by decide +kernel
theorem dX5_joined_140 : decode cX5_joined 140 = .ok (.iconst 0, 1) := by decide +kernel
theorem dX5_joined_141 : decode cX5_joined 141 = .ok (.ireturn, 1) := by decide +kernel
theorem dX5_joined_142 : decode cX5_joined 142 = .ok (.iload_n 1, 1) := by decide +kernel
theorem dX5_joined_143 : decode cX5_joined 143 = .ok (.iload_n 2, 1) := by decide +kernel
theorem dX5_joined_144 : decode cX5_joined 144 = .ok (.if_icmp .le 7, 3) := by decide +kernel
theorem dX5_joined_147 : decode cX5_joined 147 = .ok (.iconst 1, 1) := by decide +kernel
theorem dX5_joined_148 : decode cX5_joined 148 = .ok (.goto 4, 3) := by decide +kernel
theorem dX5_joined_151 : decode cX5_joined 151 = .ok (.iconst 0, 1) := by decide +kernel
theorem dX5_joined_152 : decode cX5_joined 152 = .ok (.ireturn, 1) := by decide +kernel
theorem dX5_joined_153 : decode cX5_joined 153 = .ok (.iload_n 1, 1) := by decide +kernel
theorem dX5_joined_154 : decode cX5_joined 154 = .ok (.iload_n 2, 1) := by decide +kernel
theorem dX5_joined_155 : decode cX5_joined 155 = .ok (.iadd, 1) := by decide +kernel
theorem dX5_joined_156 : decode cX5_joined 156 = .ok (.ireturn, 1) := by decide +kernel
theorem dX5_joined_157 : decode cX5_joined 157 = .ok (.iload_n 1, 1) := by decide +kernel
theorem dX5_joined_158 : decode cX5_joined 158 = .ok (.iload_n 2, 1) := by decide +kernel
theorem dX5_joined_159 : decode cX5_joined 159 = .ok (.isub, 1) := by decide +kernel
theorem dX5_joined_160 : decode cX5_joined 160 = .ok (.ireturn, 1) := by decide +kernel
theorem dX5_joined_161 : decode cX5_joined 161 = .ok (.iload_n 1, 1) := by decide +kernel
theorem dX5_joined_162 : decode cX5_joined 162 = .ok (.iload_n 2, 1) := by decide +kernel
theorem dX5_joined_163 : decode cX5_joined 163 = .ok (.imul, 1) := by decide +kernel
theorem dX5_joined_164 : decode cX5_joined 164 = .ok (.ireturn, 1) := by decide +kernel
theorem dX5_joined_165 : decode cX5_joined 165 = .ok (.iload_n 2, 1) := by decide +kernel
theorem dX5_joined_166 : decode cX5_joined 166 = .ok (.ifCond .ne 7, 3) := by decide +kernel
theorem dX5_joined_169 : decode cX5_joined 169 = .ok (.iconst 0, 1) := by decide +kernel
theorem dX5_joined_170 : decode cX5_joined 170 = .ok (.goto 6, 3) := by decide +kernel
theorem dX5_joined_173 : decode cX5_joined 173 = .ok (.iload_n 1, 1) := by decide +kernel
theorem dX5_joined_174 : decode cX5_joined 174 = .ok (.iload_n 2, 1) := by decide +kernel
theorem dX5_joined_175 : decode cX5_joined 175 = .ok (.idiv, 1) := by decide +kernel
theorem dX5_joined_176 : decode cX5_joined 176 = .ok (.ireturn, 1) := by decide +kernel
theorem dX5_joined_177 : decode cX5_joined 177 = .ok (.iload_n 2, 1) := by decide +kernel
theorem dX5_joined_178 : decode cX5_joined 178 = .ok (.ifCond .ne 7, 3) := by decide +kernel
theorem dX5_joined_181 : decode cX5_joined 181 = .ok (.iconst 0, 1) := by decide +kernel
theorem dX5_joined_182 : decode cX5_joined 182 = .ok (.goto 6, 3) := by decide +kernel
theorem dX5_joined_185 : decode cX5_joined 185 = .ok (.iload_n 1, 1) := by decide +kernel
theorem dX5_joined_186 : decode cX5_joined 186 = .ok (.iload_n 2, 1) := by decide +kernel
theorem dX5_joined_187 : decode cX5_joined 187 = .ok (.irem, 1) := by decide +kernel
theorem dX5_joined_188 : decode cX5_joined 188 = .ok (.ireturn, 1) := by decide +kernel
theorem dX5_joined_189 : decode cX5_joined 189 = .ok (.iconst 0, 1) := by decide +kernel
theorem dX5_joined_190 : decode cX5_joined 190 = .ok (.ireturn, 1) := by decide +kernel
theorem dX6_init_0 : decode cX6_init 0 = .ok (.aload_n 0, 1) := by decide +kernel
theorem dX6_init_1 : decode cX6_init 1 = .ok (.invokespecial 3, 3) := by decide +kernel
theorem dX6_init_4 : decode cX6_init 4 = .ok (.aload_n 0, 1) := by decide +kernel
theorem dX6_init_5 : decode cX6_init 5 = .ok (.bipush 120, 2) := by decide +kernel
theorem dX6_init_7 : decode cX6_init 7 = .ok (.newarray .char, 2) := by decide +kernel
theorem dX6_init_9 : decode cX6_init 9 = .ok (.putfield 11, 3) := by decide +kernel
theorem dX6_init_12 : decode cX6_init 12 = .ok (.aload_n 0, 1) := by decide +kernel
theorem dX6_init_13 : decode cX6_init 13 = .ok (.new 15, 3) := by decide +kernel
theorem dX6_init_16 : decode cX6_init 16 = .ok (.dup, 1) := by decide +kernel
theorem dX6_init_17 : decode cX6_init 17 = .ok (.invokespecial 17, 3) := by decide +kernel
theorem dX6_init_20 : decode cX6_init 20 = .ok (.putfield 18, 3) := by decide +kernel
theorem dX6_init_23 : decode cX6_init 23 = .ok (.return_, 1) := by decide +kernel
theorem dX6_take_0 : decode cX6_take 0 = .ok (.aload_n 0, 1) := by decide +kernel
theorem dX6_take_1 : decode cX6_take 1 = .ok (.getfield 22, 3) := by decide +kernel
theorem dX6_take_4 : decode cX6_take 4 = .ok (.bipush 120, 2) := by decide +kernel
theorem dX6_take_6 : decode cX6_take 6 = .ok (.if_icmp .lt 6, 3) := by decide +kernel
theorem dX6_take_9 : decode cX6_take 9 = .ok (.bipush (-3), 2) := by decide +kernel
theorem dX6_take_11 : decode cX6_take 11 = .ok (.ireturn, 1) := by decide +kernel
theorem dX6_take_12 : decode cX6_take 12 = .ok (.aload_n 0, 1) := by decide +kernel
theorem dX6_take_13 : decode cX6_take 13 = .ok (.getfield 11, 3) := by decide +kernel
theorem dX6_take_16 : decode cX6_take 16 = .ok (.aload_n 0, 1) := by decide +kernel
theorem dX6_take_17 : decode cX6_take 17 = .ok (.getfield 22, 3) := by decide +kernel
theorem dX6_take_20 : decode cX6_take 20 = .ok (.iload_n 1, 1) := by decide +kernel
theorem dX6_take_21 : decode cX6_take 21 = .ok (.i2c, 1) := by decide +kernel
theorem dX6_take_22 : decode cX6_take 22 = .ok (.castore, 1) := by decide +kernel
theorem dX6_take_23 : decode cX6_take 23 = .ok (.aload_n 0, 1) := by decide +kernel
theorem dX6_take_24 : decode cX6_take 24 = .ok (.dup, 1) := by decide +kernel
theorem dX6_take_25 : decode cX6_take 25 = .ok (.getfield 22, 3) := by decide +kernel
theorem dX6_take_28 : decode cX6_take 28 = .ok (.iconst 1, 1) := by decide +kernel
theorem dX6_take_29 : decode cX6_take 29 = .ok (.iadd, 1) := by decide +kernel
theorem dX6_take_30 : decode cX6_take 30 = .ok (.putfield 22, 3) := by decide +kernel
theorem dX6_take_33 : decode cX6_take 33 = .ok (.aload_n 0, 1) := by decide +kernel
theorem dX6_take_34 : decode cX6_take 34 = .ok (.getfield 22, 3) := by decide +kernel
theorem dX6_take_37 : decode cX6_take 37 = .ok (.ireturn, 1) := by decide +kernel
theorem dX6_swap_0 : decode cX6_swap 0 = .ok (.aload_n 0, 1) := by decide +kernel
theorem dX6_swap_1 : decode cX6_swap 1 = .ok (.getfield 18, 3) := by decide +kernel
theorem dX6_swap_4 : decode cX6_swap 4 = .ok (.astore_n 2, 1) := by decide +kernel
theorem dX6_swap_5 : decode cX6_swap 5 = .ok (.aload_n 0, 1) := by decide +kernel
theorem dX6_swap_6 : decode cX6_swap 6 = .ok (.aload_n 1, 1) := by decide +kernel
theorem dX6_swap_7 : decode cX6_swap 7 = .ok (.putfield 18, 3) := by decide +kernel
theorem dX6_swap_10 : decode cX6_swap 10 = .ok (.aload_n 2, 1) := by decide +kernel
theorem dX6_swap_11 : decode cX6_swap 11 = .ok (.areturn, 1) := by decide +kernel
theorem dX6_read_0 : decode cX6_read 0 = .ok (.aload_n 0, 1) := by decide +kernel
theorem dX6_read_1 : decode cX6_read 1 = .ok (.getfield 18, 3) := by decide +kernel
theorem dX6_read_4 : decode cX6_read 4 = .ok (.invokevirtual 26, 3) := by decide +kernel
theorem dX6_read_7 : decode cX6_read 7 = .ok (.aload_n 0, 1) := by decide +kernel
theorem dX6_read_8 : decode cX6_read 8 = .ok (.iconst 0, 1) := by decide +kernel
theorem dX6_read_9 : decode cX6_read 9 = .ok (.putfield 29, 3) := by decide +kernel
theorem dX6_read_12 : decode cX6_read 12 = .ok (.aload_n 0, 1) := by decide +kernel
theorem dX6_read_13 : decode cX6_read 13 = .ok (.iconst (-1), 1) := by decide +kernel
theorem dX6_read_14 : decode cX6_read 14 = .ok (.putfield 32, 3) := by decide +kernel
theorem dX6_read_17 : decode cX6_read 17 = .ok (.iconst 1, 1) := by decide +kernel
theorem dX6_read_18 : decode cX6_read 18 = .ok (.istore_n 1, 1) := by decide +kernel
theorem dX6_read_19 : decode cX6_read 19 = .ok (.iconst 0, 1) := by decide +kernel
theorem dX6_read_20 : decode cX6_read 20 = .ok (.istore_n 2, 1) := by decide +kernel
theorem dX6_read_21 : decode cX6_read 21 = .ok (.iload_n 2, 1) := by decide +kernel
theorem dX6_read_22 : decode cX6_read 22 = .ok (.bipush 120, 2) := by decide +kernel
theorem dX6_read_24 : decode cX6_read 24 = .ok (.if_icmp .gt 32, 3) := by decide +kernel
theorem dX6_read_27 : decode cX6_read 27 = .ok (.iload_n 1, 1) := by decide +kernel
theorem dX6_read_28 : decode cX6_read 28 = .ok (.ifCond .eq 28, 3) := by decide +kernel
theorem dX6_read_31 : decode cX6_read 31 = .ok (.aload_n 0, 1) := by decide +kernel
theorem dX6_read_32 : decode cX6_read 32 = .ok (.getfield 32, 3) := by decide +kernel
theorem dX6_read_35 : decode cX6_read 35 = .ok (.iconst (-1), 1) := by decide +kernel
theorem dX6_read_36 : decode cX6_read 36 = .ok (.if_icmp .ne 20, 3) := by decide +kernel
theorem dX6_read_39 : decode cX6_read 39 = .ok (.aload_n 0, 1) := by decide +kernel
theorem dX6_read_40 : decode cX6_read 40 = .ok (.invokevirtual 35, 3) := by decide +kernel
theorem dX6_read_43 : decode cX6_read 43 = .ok (.aload_n 0, 1) := by decide +kernel
theorem dX6_read_44 : decode cX6_read 44 = .ok (.bipush 59, 2) := by decide +kernel
theorem dX6_read_46 : decode cX6_read 46 = .ok (.invokevirtual 38, 3) := by decide +kernel
theorem dX6_read_49 : decode cX6_read 49 = .ok (.istore_n 1, 1) := by decide +kernel
theorem dX6_read_50 : decode cX6_read 50 = .ok (.iinc 2 1, 3) := by decide +kernel
theorem dX6_read_53 : decode cX6_read 53 = .ok (.goto (-32), 3) := by decide +kernel
theorem dX6_read_56 : decode cX6_read 56 = .ok (.aload_n 0, 1) := by decide +kernel
theorem dX6_read_57 : decode cX6_read 57 = .ok (.getfield 32, 3) := by decide +kernel
theorem dX6_read_60 : decode cX6_read 60 = .ok (.iconst (-1), 1) := by decide +kernel
theorem dX6_read_61 : decode cX6_read 61 = .ok (.if_icmp .ne 19, 3) := by decide +kernel
theorem dX6_read_64 : decode cX6_read 64 = .ok (.aload_n 0, 1) := by decide +kernel
theorem dX6_read_65 : decode cX6_read 65 = .ok (.invokevirtual 42, 3) := by decide +kernel
theorem dX6_read_68 : decode cX6_read 68 = .ok (.iconst (-1), 1) := by decide +kernel
theorem dX6_read_69 : decode cX6_read 69 = .ok (.if_icmp .eq 11, 3) := by decide +kernel
theorem dX6_read_72 : decode cX6_read 72 = .ok (.aload_n 0, 1) := by decide +kernel
theorem dX6_read_73 : decode cX6_read 73 = .ok (.aload_n 0, 1) := by decide +kernel
theorem dX6_read_74 : decode cX6_read 74 = .ok (.getfield 29, 3) := by decide +kernel
theorem dX6_read_77 : decode cX6_read 77 = .ok (.putfield 32, 3) := by decide +kernel
theorem dX6_read_80 : decode cX6_read 80 = .ok (.aload_n 0, 1) := by decide +kernel
theorem dX6_read_81 : decode cX6_read 81 = .ok (.iconst 0, 1) := by decide +kernel
theorem dX6_read_82 : decode cX6_read 82 = .ok (.putfield 22, 3) := by decide +kernel
theorem dX6_read_85 : decode cX6_read 85 = .ok (.aload_n 0, 1) := by decide +kernel
theorem dX6_read_86 : decode cX6_read 86 = .ok (.getfield 32, 3) := by decide +kernel
theorem dX6_read_89 : decode cX6_read 89 = .ok (.ireturn, 1) := by decide +kernel
theorem dX6_line_0 : decode cX6_line 0 = .ok (.aload_n 0, 1) := by decide +kernel
theorem dX6_line_1 : decode cX6_line 1 = .ok (.iconst 0, 1) := by decide +kernel
theorem dX6_line_2 : decode cX6_line 2 = .ok (.iconst 0, 1) := by decide +kernel
theorem dX6_line_3 : decode cX6_line 3 = .ok (.invokevirtual 46, 3) := by decide +kernel
theorem dX6_line_6 : decode cX6_line 6 = .ok (.aload_n 0, 1) := by decide +kernel
theorem dX6_line_7 : decode cX6_line 7 = .ok (.bipush 63, 2) := by decide +kernel
theorem dX6_line_9 : decode cX6_line 9 = .ok (.invokevirtual 38, 3) := by decide +kernel
theorem dX6_line_12 : decode cX6_line 12 = .ok (.ifCond .eq 19, 3) := by decide +kernel
theorem dX6_line_15 : decode cX6_line 15 = .ok (.aload_n 0, 1) := by decide +kernel
theorem dX6_line_16 : decode cX6_line 16 = .ok (.getfield 18, 3) := by decide +kernel
theorem dX6_line_19 : decode cX6_line 19 = .ok (.bipush 63, 2) := by decide +kernel
theorem dX6_line_21 : decode cX6_line 21 = .ok (.iconst 0, 1) := by decide +kernel
theorem dX6_line_22 : decode cX6_line 22 = .ok (.invokevirtual 50, 3) := by decide +kernel
theorem dX6_line_25 : decode cX6_line 25 = .ok (.aload_n 0, 1) := by decide +kernel
theorem dX6_line_26 : decode cX6_line 26 = .ok (.iconst 0, 1) := by decide +kernel
theorem dX6_line_27 : decode cX6_line 27 = .ok (.iconst 0, 1) := by decide +kernel
theorem dX6_line_28 : decode cX6_line 28 = .ok (.invokevirtual 46, 3) := by decide +kernel
theorem dX6_line_31 : decode cX6_line 31 = .ok (.aload_n 0, 1) := by decide +kernel
theorem dX6_line_32 : decode cX6_line 32 = .ok (.getfield 18, 3) := by decide +kernel
theorem dX6_line_35 : decode cX6_line 35 = .ok (.bipush 59, 2) := by decide +kernel
theorem dX6_line_37 : decode cX6_line 37 = .ok (.iconst 0, 1) := by decide +kernel
theorem dX6_line_38 : decode cX6_line 38 = .ok (.invokevirtual 50, 3) := by decide +kernel
theorem dX6_line_41 : decode cX6_line 41 = .ok (.return_, 1) := by decide +kernel
theorem dX6_ahead_0 : decode cX6_ahead 0 = .ok (.aload_n 0, 1) := by decide +kernel
theorem dX6_ahead_1 : decode cX6_ahead 1 = .ok (.getfield 29, 3) := by decide +kernel
theorem dX6_ahead_4 : decode cX6_ahead 4 = .ok (.aload_n 0, 1) := by decide +kernel
theorem dX6_ahead_5 : decode cX6_ahead 5 = .ok (.getfield 22, 3) := by decide +kernel
theorem dX6_ahead_8 : decode cX6_ahead 8 = .ok (.if_icmp .ge 15, 3) := by decide +kernel
theorem dX6_ahead_11 : decode cX6_ahead 11 = .ok (.aload_n 0, 1) := by decide +kernel
theorem dX6_ahead_12 : decode cX6_ahead 12 = .ok (.getfield 11, 3) := by decide +kernel
theorem dX6_ahead_15 : decode cX6_ahead 15 = .ok (.aload_n 0, 1) := by decide +kernel
theorem dX6_ahead_16 : decode cX6_ahead 16 = .ok (.getfield 29, 3) := by decide +kernel
theorem dX6_ahead_19 : decode cX6_ahead 19 = .ok (.caload, 1) := by decide +kernel
theorem dX6_ahead_20 : decode cX6_ahead 20 = .ok (.goto 4, 3) := by decide +kernel
theorem dX6_ahead_23 : decode cX6_ahead 23 = .ok (.iconst (-1), 1) := by decide +kernel
theorem dX6_ahead_24 : decode cX6_ahead 24 = .ok (.ireturn, 1) := by decide +kernel
theorem dX6_passes_0 : decode cX6_passes 0 = .ok (.aload_n 0, 1) := by decide +kernel
theorem dX6_passes_1 : decode cX6_passes 1 = .ok (.getfield 32, 3) := by decide +kernel
theorem dX6_passes_4 : decode cX6_passes 4 = .ok (.iconst (-1), 1) := by decide +kernel
theorem dX6_passes_5 : decode cX6_passes 5 = .ok (.if_icmp .ne 15, 3) := by decide +kernel
theorem dX6_passes_8 : decode cX6_passes 8 = .ok (.aload_n 0, 1) := by decide +kernel
theorem dX6_passes_9 : decode cX6_passes 9 = .ok (.invokevirtual 42, 3) := by decide +kernel
theorem dX6_passes_12 : decode cX6_passes 12 = .ok (.iload_n 1, 1) := by decide +kernel
theorem dX6_passes_13 : decode cX6_passes 13 = .ok (.if_icmp .ne 7, 3) := by decide +kernel
theorem dX6_passes_16 : decode cX6_passes 16 = .ok (.iconst 1, 1) := by decide +kernel
theorem dX6_passes_17 : decode cX6_passes 17 = .ok (.goto 4, 3) := by decide +kernel
theorem dX6_passes_20 : decode cX6_passes 20 = .ok (.iconst 0, 1) := by decide +kernel
theorem dX6_passes_21 : decode cX6_passes 21 = .ok (.istore_n 2, 1) := by decide +kernel
theorem dX6_passes_22 : decode cX6_passes 22 = .ok (.aload_n 0, 1) := by decide +kernel
theorem dX6_passes_23 : decode cX6_passes 23 = .ok (.dup, 1) := by decide +kernel
theorem dX6_passes_24 : decode cX6_passes 24 = .ok (.getfield 29, 3) := by decide +kernel
theorem dX6_passes_27 : decode cX6_passes 27 = .ok (.iload_n 2, 1) := by decide +kernel
theorem dX6_passes_28 : decode cX6_passes 28 = .ok (.ifCond .eq 7, 3) := by decide +kernel
theorem dX6_passes_31 : decode cX6_passes 31 = .ok (.iconst 1, 1) := by decide +kernel
theorem dX6_passes_32 : decode cX6_passes 32 = .ok (.goto 4, 3) := by decide +kernel
theorem dX6_passes_35 : decode cX6_passes 35 = .ok (.iconst 0, 1) := by decide +kernel
theorem dX6_passes_36 : decode cX6_passes 36 = .ok (.iadd, 1) := by decide +kernel
theorem dX6_passes_37 : decode cX6_passes 37 = .ok (.putfield 29, 3) := by decide +kernel
theorem dX6_passes_40 : decode cX6_passes 40 = .ok (.iload_n 2, 1) := by decide +kernel
theorem dX6_passes_41 : decode cX6_passes 41 = .ok (.ireturn, 1) := by decide +kernel
theorem dX6_joins_0 : decode cX6_joins 0 = .ok (.iload_n 0, 1) := by decide +kernel
theorem dX6_joins_1 : decode cX6_joins 1 = .ok (.tableswitch 125 0 4 #[35, 47, 59, 83, 101], 35) := by decide +kernel
theorem dX6_joins_36 : decode cX6_joins 36 = .ok (.iload_n 1, 1) := by decide +kernel
theorem dX6_joins_37 : decode cX6_joins 37 = .ok (.bipush 124, 2) := by decide +kernel
theorem dX6_joins_39 : decode cX6_joins 39 = .ok (.if_icmp .ne 7, 3) := by decide +kernel
theorem dX6_joins_42 : decode cX6_joins 42 = .ok (.iconst 1, 1) := by decide +kernel
theorem dX6_joins_43 : decode cX6_joins 43 = .ok (.goto 4, 3) := by decide +kernel
theorem dX6_joins_46 : decode cX6_joins 46 = .ok (.iconst 0, 1) := by decide +kernel
theorem dX6_joins_47 : decode cX6_joins 47 = .ok (.ireturn, 1) := by decide +kernel
theorem dX6_joins_48 : decode cX6_joins 48 = .ok (.iload_n 1, 1) := by decide +kernel
theorem dX6_joins_49 : decode cX6_joins 49 = .ok (.bipush 38, 2) := by decide +kernel
theorem dX6_joins_51 : decode cX6_joins 51 = .ok (.if_icmp .ne 7, 3) := by decide +kernel
theorem dX6_joins_54 : decode cX6_joins 54 = .ok (.iconst 1, 1) := by decide +kernel
theorem dX6_joins_55 : decode cX6_joins 55 = .ok (.goto 4, 3) := by decide +kernel
theorem dX6_joins_58 : decode cX6_joins 58 = .ok (.iconst 0, 1) := by decide +kernel
theorem dX6_joins_59 : decode cX6_joins 59 = .ok (.ireturn, 1) := by decide +kernel
theorem dX6_joins_60 : decode cX6_joins 60 = .ok (.iload_n 1, 1) := by decide +kernel
theorem dX6_joins_61 : decode cX6_joins 61 = .ok (.bipush 60, 2) := by decide +kernel
theorem dX6_joins_63 : decode cX6_joins 63 = .ok (.if_icmp .eq 15, 3) := by decide +kernel
theorem dX6_joins_66 : decode cX6_joins 66 = .ok (.iload_n 1, 1) := by decide +kernel
theorem dX6_joins_67 : decode cX6_joins 67 = .ok (.bipush 61, 2) := by decide +kernel
theorem dX6_joins_69 : decode cX6_joins 69 = .ok (.if_icmp .eq 9, 3) := by decide +kernel
theorem dX6_joins_72 : decode cX6_joins 72 = .ok (.iload_n 1, 1) := by decide +kernel
theorem dX6_joins_73 : decode cX6_joins 73 = .ok (.bipush 62, 2) := by decide +kernel
theorem dX6_joins_75 : decode cX6_joins 75 = .ok (.if_icmp .ne 7, 3) := by decide +kernel
theorem dX6_joins_78 : decode cX6_joins 78 = .ok (.iconst 1, 1) := by decide +kernel
theorem dX6_joins_79 : decode cX6_joins 79 = .ok (.goto 4, 3) := by decide +kernel
theorem dX6_joins_82 : decode cX6_joins 82 = .ok (.iconst 0, 1) := by decide +kernel
theorem dX6_joins_83 : decode cX6_joins 83 = .ok (.ireturn, 1) := by decide +kernel
theorem dX6_joins_84 : decode cX6_joins 84 = .ok (.iload_n 1, 1) := by decide +kernel
theorem dX6_joins_85 : decode cX6_joins 85 = .ok (.bipush 43, 2) := by decide +kernel
theorem dX6_joins_87 : decode cX6_joins 87 = .ok (.if_icmp .eq 9, 3) := by decide +kernel
theorem dX6_joins_90 : decode cX6_joins 90 = .ok (.iload_n 1, 1) := by decide +kernel
theorem dX6_joins_91 : decode cX6_joins 91 = .ok (.bipush 45, 2) := by decide +kernel
theorem dX6_joins_93 : decode cX6_joins 93 = .ok (.if_icmp .ne 7, 3) := by decide +kernel
theorem dX6_joins_96 : decode cX6_joins 96 = .ok (.iconst 1, 1) := by decide +kernel
theorem dX6_joins_97 : decode cX6_joins 97 = .ok (.goto 4, 3) := by decide +kernel
theorem dX6_joins_100 : decode cX6_joins 100 = .ok (.iconst 0, 1) := by decide +kernel
theorem dX6_joins_101 : decode cX6_joins 101 = .ok (.ireturn, 1) := by decide +kernel
theorem dX6_joins_102 : decode cX6_joins 102 = .ok (.iload_n 1, 1) := by decide +kernel
theorem dX6_joins_103 : decode cX6_joins 103 = .ok (.bipush 42, 2) := by decide +kernel
theorem dX6_joins_105 : decode cX6_joins 105 = .ok (.if_icmp .eq 15, 3) := by decide +kernel
theorem dX6_joins_108 : decode cX6_joins 108 = .ok (.iload_n 1, 1) := by decide +kernel
theorem dX6_joins_109 : decode cX6_joins 109 = .ok (.bipush 47, 2) := by decide +kernel
theorem dX6_joins_111 : decode cX6_joins 111 = .ok (.if_icmp .eq 9, 3) := by decide +kernel
theorem dX6_joins_114 : decode cX6_joins 114 = .ok (.iload_n 1, 1) := by decide +kernel
theorem dX6_joins_115 : decode cX6_joins 115 = .ok (.bipush 37, 2) := by decide +kernel
theorem dX6_joins_117 : decode cX6_joins 117 = .ok (.if_icmp .ne 7, 3) := by decide +kernel
theorem dX6_joins_120 : decode cX6_joins 120 = .ok (.iconst 1, 1) := by decide +kernel
theorem dX6_joins_121 : decode cX6_joins 121 = .ok (.goto 4, 3) := by decide +kernel
theorem dX6_joins_124 : decode cX6_joins 124 = .ok (.iconst 0, 1) := by decide +kernel
theorem dX6_joins_125 : decode cX6_joins 125 = .ok (.ireturn, 1) := by decide +kernel
theorem dX6_joins_126 : decode cX6_joins 126 = .ok (.iconst 0, 1) := by decide +kernel
theorem dX6_joins_127 : decode cX6_joins 127 = .ok (.ireturn, 1) := by decide +kernel
theorem dX6_level_0 : decode cX6_level 0 = .ok (.iload_n 1, 1) := by decide +kernel
theorem dX6_level_1 : decode cX6_level 1 = .ok (.iconst 5, 1) := by decide +kernel
theorem dX6_level_2 : decode cX6_level 2 = .ok (.if_icmp .lt 9, 3) := by decide +kernel
theorem dX6_level_5 : decode cX6_level 5 = .ok (.aload_n 0, 1) := by decide +kernel
theorem dX6_level_6 : decode cX6_level 6 = .ok (.iload_n 2, 1) := by decide +kernel
theorem dX6_level_7 : decode cX6_level 7 = .ok (.invokevirtual 54, 3) := by decide +kernel
theorem dX6_level_10 : decode cX6_level 10 = .ok (.return_, 1) := by decide +kernel
theorem dX6_level_11 : decode cX6_level 11 = .ok (.aload_n 0, 1) := by decide +kernel
theorem dX6_level_12 : decode cX6_level 12 = .ok (.iload_n 1, 1) := by decide +kernel
theorem dX6_level_13 : decode cX6_level 13 = .ok (.iconst 1, 1) := by decide +kernel
theorem dX6_level_14 : decode cX6_level 14 = .ok (.iadd, 1) := by decide +kernel
theorem dX6_level_15 : decode cX6_level 15 = .ok (.iload_n 2, 1) := by decide +kernel
theorem dX6_level_16 : decode cX6_level 16 = .ok (.invokevirtual 46, 3) := by decide +kernel
theorem dX6_level_19 : decode cX6_level 19 = .ok (.iload_n 1, 1) := by decide +kernel
theorem dX6_level_20 : decode cX6_level 20 = .ok (.iconst 2, 1) := by decide +kernel
theorem dX6_level_21 : decode cX6_level 21 = .ok (.if_icmp .ne 7, 3) := by decide +kernel
theorem dX6_level_24 : decode cX6_level 24 = .ok (.iconst 1, 1) := by decide +kernel
theorem dX6_level_25 : decode cX6_level 25 = .ok (.goto 5, 3) := by decide +kernel
theorem dX6_level_28 : decode cX6_level 28 = .ok (.bipush 120, 2) := by decide +kernel
theorem dX6_level_30 : decode cX6_level 30 = .ok (.istore_n 3, 1) := by decide +kernel
theorem dX6_level_31 : decode cX6_level 31 = .ok (.iconst 0, 1) := by decide +kernel
theorem dX6_level_32 : decode cX6_level 32 = .ok (.istore 4, 2) := by decide +kernel
theorem dX6_level_34 : decode cX6_level 34 = .ok (.iload 4, 2) := by decide +kernel
theorem dX6_level_36 : decode cX6_level 36 = .ok (.iload_n 3, 1) := by decide +kernel
theorem dX6_level_37 : decode cX6_level 37 = .ok (.if_icmp .ge 67, 3) := by decide +kernel
theorem dX6_level_40 : decode cX6_level 40 = .ok (.aload_n 0, 1) := by decide +kernel
theorem dX6_level_41 : decode cX6_level 41 = .ok (.getfield 32, 3) := by decide +kernel
theorem dX6_level_44 : decode cX6_level 44 = .ok (.iconst (-1), 1) := by decide +kernel
theorem dX6_level_45 : decode cX6_level 45 = .ok (.if_icmp .ne 59, 3) := by decide +kernel
theorem dX6_level_48 : decode cX6_level 48 = .ok (.iload_n 1, 1) := by decide +kernel
theorem dX6_level_49 : decode cX6_level 49 = .ok (.aload_n 0, 1) := by decide +kernel
theorem dX6_level_50 : decode cX6_level 50 = .ok (.invokevirtual 42, 3) := by decide +kernel
theorem dX6_level_53 : decode cX6_level 53 = .ok (.invokestatic 58, 3) := by decide +kernel
theorem dX6_level_56 : decode cX6_level 56 = .ok (.ifCond .eq 48, 3) := by decide +kernel
theorem dX6_level_59 : decode cX6_level 59 = .ok (.aload_n 0, 1) := by decide +kernel
theorem dX6_level_60 : decode cX6_level 60 = .ok (.getfield 11, 3) := by decide +kernel
theorem dX6_level_63 : decode cX6_level 63 = .ok (.aload_n 0, 1) := by decide +kernel
theorem dX6_level_64 : decode cX6_level 64 = .ok (.getfield 29, 3) := by decide +kernel
theorem dX6_level_67 : decode cX6_level 67 = .ok (.caload, 1) := by decide +kernel
theorem dX6_level_68 : decode cX6_level 68 = .ok (.istore 5, 2) := by decide +kernel
theorem dX6_level_70 : decode cX6_level 70 = .ok (.aload_n 0, 1) := by decide +kernel
theorem dX6_level_71 : decode cX6_level 71 = .ok (.dup, 1) := by decide +kernel
theorem dX6_level_72 : decode cX6_level 72 = .ok (.getfield 29, 3) := by decide +kernel
theorem dX6_level_75 : decode cX6_level 75 = .ok (.iconst 1, 1) := by decide +kernel
theorem dX6_level_76 : decode cX6_level 76 = .ok (.iadd, 1) := by decide +kernel
theorem dX6_level_77 : decode cX6_level 77 = .ok (.putfield 29, 3) := by decide +kernel
theorem dX6_level_80 : decode cX6_level 80 = .ok (.aload_n 0, 1) := by decide +kernel
theorem dX6_level_81 : decode cX6_level 81 = .ok (.iload_n 1, 1) := by decide +kernel
theorem dX6_level_82 : decode cX6_level 82 = .ok (.iconst 1, 1) := by decide +kernel
theorem dX6_level_83 : decode cX6_level 83 = .ok (.iadd, 1) := by decide +kernel
theorem dX6_level_84 : decode cX6_level 84 = .ok (.iload_n 2, 1) := by decide +kernel
theorem dX6_level_85 : decode cX6_level 85 = .ok (.invokevirtual 46, 3) := by decide +kernel
theorem dX6_level_88 : decode cX6_level 88 = .ok (.aload_n 0, 1) := by decide +kernel
theorem dX6_level_89 : decode cX6_level 89 = .ok (.getfield 18, 3) := by decide +kernel
theorem dX6_level_92 : decode cX6_level 92 = .ok (.iload 5, 2) := by decide +kernel
theorem dX6_level_94 : decode cX6_level 94 = .ok (.iconst 0, 1) := by decide +kernel
theorem dX6_level_95 : decode cX6_level 95 = .ok (.invokevirtual 50, 3) := by decide +kernel
theorem dX6_level_98 : decode cX6_level 98 = .ok (.iinc 4 1, 3) := by decide +kernel
theorem dX6_level_101 : decode cX6_level 101 = .ok (.goto (-67), 3) := by decide +kernel
theorem dX6_level_104 : decode cX6_level 104 = .ok (.return_, 1) := by decide +kernel
theorem dX6_operand_0 : decode cX6_operand 0 = .ok (.aload_n 0, 1) := by decide +kernel
theorem dX6_operand_1 : decode cX6_operand 1 = .ok (.invokevirtual 42, 3) := by decide +kernel
theorem dX6_operand_4 : decode cX6_operand 4 = .ok (.istore_n 2, 1) := by decide +kernel
theorem dX6_operand_5 : decode cX6_operand 5 = .ok (.aload_n 0, 1) := by decide +kernel
theorem dX6_operand_6 : decode cX6_operand 6 = .ok (.getfield 32, 3) := by decide +kernel
theorem dX6_operand_9 : decode cX6_operand 9 = .ok (.iconst (-1), 1) := by decide +kernel
theorem dX6_operand_10 : decode cX6_operand 10 = .ok (.if_icmp .eq 4, 3) := by decide +kernel
theorem dX6_operand_13 : decode cX6_operand 13 = .ok (.return_, 1) := by decide +kernel
theorem dX6_operand_14 : decode cX6_operand 14 = .ok (.iload_n 2, 1) := by decide +kernel
theorem dX6_operand_15 : decode cX6_operand 15 = .ok (.bipush 48, 2) := by decide +kernel
theorem dX6_operand_17 : decode cX6_operand 17 = .ok (.if_icmp .lt 16, 3) := by decide +kernel
theorem dX6_operand_20 : decode cX6_operand 20 = .ok (.iload_n 2, 1) := by decide +kernel
theorem dX6_operand_21 : decode cX6_operand 21 = .ok (.bipush 57, 2) := by decide +kernel
theorem dX6_operand_23 : decode cX6_operand 23 = .ok (.if_icmp .gt 10, 3) := by decide +kernel
theorem dX6_operand_26 : decode cX6_operand 26 = .ok (.aload_n 0, 1) := by decide +kernel
theorem dX6_operand_27 : decode cX6_operand 27 = .ok (.invokevirtual 62, 3) := by decide +kernel
theorem dX6_operand_30 : decode cX6_operand 30 = .ok (.goto 100, 3) := by decide +kernel
theorem dX6_operand_33 : decode cX6_operand 33 = .ok (.iload_n 2, 1) := by decide +kernel
theorem dX6_operand_34 : decode cX6_operand 34 = .ok (.ifCond .le 42, 3) := by decide +kernel
theorem dX6_operand_37 : decode cX6_operand 37 = .ok (.ldc 65, 2) := by decide +kernel
theorem dX6_operand_39 : decode cX6_operand 39 = .ok (.iload_n 2, 1) := by decide +kernel
theorem dX6_operand_40 : decode cX6_operand 40 = .ok (.i2c, 1) := by decide +kernel
theorem dX6_operand_41 : decode cX6_operand 41 = .ok (.invokevirtual 67, 3) := by decide +kernel
theorem dX6_operand_44 : decode cX6_operand 44 = .ok (.ifCond .lt 32, 3) := by decide +kernel
theorem dX6_operand_47 : decode cX6_operand 47 = .ok (.aload_n 0, 1) := by decide +kernel
theorem dX6_operand_48 : decode cX6_operand 48 = .ok (.getfield 18, 3) := by decide +kernel
theorem dX6_operand_51 : decode cX6_operand 51 = .ok (.bipush 110, 2) := by decide +kernel
theorem dX6_operand_53 : decode cX6_operand 53 = .ok (.ldc 65, 2) := by decide +kernel
theorem dX6_operand_55 : decode cX6_operand 55 = .ok (.iload_n 2, 1) := by decide +kernel
theorem dX6_operand_56 : decode cX6_operand 56 = .ok (.i2c, 1) := by decide +kernel
theorem dX6_operand_57 : decode cX6_operand 57 = .ok (.invokevirtual 67, 3) := by decide +kernel
theorem dX6_operand_60 : decode cX6_operand 60 = .ok (.invokevirtual 50, 3) := by decide +kernel
theorem dX6_operand_63 : decode cX6_operand 63 = .ok (.aload_n 0, 1) := by decide +kernel
theorem dX6_operand_64 : decode cX6_operand 64 = .ok (.dup, 1) := by decide +kernel
theorem dX6_operand_65 : decode cX6_operand 65 = .ok (.getfield 29, 3) := by decide +kernel
theorem dX6_operand_68 : decode cX6_operand 68 = .ok (.iconst 1, 1) := by decide +kernel
theorem dX6_operand_69 : decode cX6_operand 69 = .ok (.iadd, 1) := by decide +kernel
theorem dX6_operand_70 : decode cX6_operand 70 = .ok (.putfield 29, 3) := by decide +kernel
theorem dX6_operand_73 : decode cX6_operand 73 = .ok (.goto 57, 3) := by decide +kernel
theorem dX6_operand_76 : decode cX6_operand 76 = .ok (.iload_n 1, 1) := by decide +kernel
theorem dX6_operand_77 : decode cX6_operand 77 = .ok (.bipush 6, 2) := by decide +kernel
theorem dX6_operand_79 : decode cX6_operand 79 = .ok (.if_icmp .ge 43, 3) := by decide +kernel
theorem dX6_operand_82 : decode cX6_operand 82 = .ok (.iload_n 2, 1) := by decide +kernel
theorem dX6_operand_83 : decode cX6_operand 83 = .ok (.bipush 40, 2) := by decide +kernel
theorem dX6_operand_85 : decode cX6_operand 85 = .ok (.if_icmp .eq 15, 3) := by decide +kernel
theorem dX6_operand_88 : decode cX6_operand 88 = .ok (.iload_n 2, 1) := by decide +kernel
theorem dX6_operand_89 : decode cX6_operand 89 = .ok (.bipush 33, 2) := by decide +kernel
theorem dX6_operand_91 : decode cX6_operand 91 = .ok (.if_icmp .eq 9, 3) := by decide +kernel
theorem dX6_operand_94 : decode cX6_operand 94 = .ok (.iload_n 2, 1) := by decide +kernel
theorem dX6_operand_95 : decode cX6_operand 95 = .ok (.bipush 45, 2) := by decide +kernel
theorem dX6_operand_97 : decode cX6_operand 97 = .ok (.if_icmp .ne 25, 3) := by decide +kernel
theorem dX6_operand_100 : decode cX6_operand 100 = .ok (.aload_n 0, 1) := by decide +kernel
theorem dX6_operand_101 : decode cX6_operand 101 = .ok (.dup, 1) := by decide +kernel
theorem dX6_operand_102 : decode cX6_operand 102 = .ok (.getfield 29, 3) := by decide +kernel
theorem dX6_operand_105 : decode cX6_operand 105 = .ok (.iconst 1, 1) := by decide +kernel
theorem dX6_operand_106 : decode cX6_operand 106 = .ok (.iadd, 1) := by decide +kernel
theorem dX6_operand_107 : decode cX6_operand 107 = .ok (.putfield 29, 3) := by decide +kernel
theorem dX6_operand_110 : decode cX6_operand 110 = .ok (.aload_n 0, 1) := by decide +kernel
theorem dX6_operand_111 : decode cX6_operand 111 = .ok (.iload_n 2, 1) := by decide +kernel
theorem dX6_operand_112 : decode cX6_operand 112 = .ok (.i2c, 1) := by decide +kernel
theorem dX6_operand_113 : decode cX6_operand 113 = .ok (.iload_n 1, 1) := by decide +kernel
theorem dX6_operand_114 : decode cX6_operand 114 = .ok (.iconst 1, 1) := by decide +kernel
theorem dX6_operand_115 : decode cX6_operand 115 = .ok (.iadd, 1) := by decide +kernel
theorem dX6_operand_116 : decode cX6_operand 116 = .ok (.invokevirtual 73, 3) := by decide +kernel
theorem dX6_operand_119 : decode cX6_operand 119 = .ok (.goto 11, 3) := by decide +kernel
theorem dX6_operand_122 : decode cX6_operand 122 = .ok (.aload_n 0, 1) := by decide +kernel
theorem dX6_operand_123 : decode cX6_operand 123 = .ok (.aload_n 0, 1) := by decide +kernel
theorem dX6_operand_124 : decode cX6_operand 124 = .ok (.getfield 29, 3) := by decide +kernel
theorem dX6_operand_127 : decode cX6_operand 127 = .ok (.putfield 32, 3) := by decide +kernel
theorem dX6_operand_130 : decode cX6_operand 130 = .ok (.return_, 1) := by decide +kernel
theorem dX6_opened_0 : decode cX6_opened 0 = .ok (.iload_n 1, 1) := by decide +kernel
theorem dX6_opened_1 : decode cX6_opened 1 = .ok (.bipush 40, 2) := by decide +kernel
theorem dX6_opened_3 : decode cX6_opened 3 = .ok (.if_icmp .ne 35, 3) := by decide +kernel
theorem dX6_opened_6 : decode cX6_opened 6 = .ok (.aload_n 0, 1) := by decide +kernel
theorem dX6_opened_7 : decode cX6_opened 7 = .ok (.iconst 0, 1) := by decide +kernel
theorem dX6_opened_8 : decode cX6_opened 8 = .ok (.iload_n 2, 1) := by decide +kernel
theorem dX6_opened_9 : decode cX6_opened 9 = .ok (.invokevirtual 46, 3) := by decide +kernel
theorem dX6_opened_12 : decode cX6_opened 12 = .ok (.aload_n 0, 1) := by decide +kernel
theorem dX6_opened_13 : decode cX6_opened 13 = .ok (.bipush 41, 2) := by decide +kernel
theorem dX6_opened_15 : decode cX6_opened 15 = .ok (.invokevirtual 38, 3) := by decide +kernel
theorem dX6_opened_18 : decode cX6_opened 18 = .ok (.ifCond .ne 19, 3) := by decide +kernel
theorem dX6_opened_21 : decode cX6_opened 21 = .ok (.aload_n 0, 1) := by decide +kernel
theorem dX6_opened_22 : decode cX6_opened 22 = .ok (.getfield 32, 3) := by decide +kernel
theorem dX6_opened_25 : decode cX6_opened 25 = .ok (.iconst (-1), 1) := by decide +kernel
theorem dX6_opened_26 : decode cX6_opened 26 = .ok (.if_icmp .ne 11, 3) := by decide +kernel
theorem dX6_opened_29 : decode cX6_opened 29 = .ok (.aload_n 0, 1) := by decide +kernel
theorem dX6_opened_30 : decode cX6_opened 30 = .ok (.aload_n 0, 1) := by decide +kernel
theorem dX6_opened_31 : decode cX6_opened 31 = .ok (.getfield 29, 3) := by decide +kernel
theorem dX6_opened_34 : decode cX6_opened 34 = .ok (.putfield 32, 3) := by decide +kernel
theorem dX6_opened_37 : decode cX6_opened 37 = .ok (.return_, 1) := by decide +kernel
theorem dX6_opened_38 : decode cX6_opened 38 = .ok (.aload_n 0, 1) := by decide +kernel
theorem dX6_opened_39 : decode cX6_opened 39 = .ok (.iload_n 2, 1) := by decide +kernel
theorem dX6_opened_40 : decode cX6_opened 40 = .ok (.invokevirtual 54, 3) := by decide +kernel
theorem dX6_opened_43 : decode cX6_opened 43 = .ok (.aload_n 0, 1) := by decide +kernel
theorem dX6_opened_44 : decode cX6_opened 44 = .ok (.getfield 18, 3) := by decide +kernel
theorem dX6_opened_47 : decode cX6_opened 47 = .ok (.iload_n 1, 1) := by decide +kernel
theorem dX6_opened_48 : decode cX6_opened 48 = .ok (.bipush 45, 2) := by decide +kernel
theorem dX6_opened_50 : decode cX6_opened 50 = .ok (.if_icmp .ne 8, 3) := by decide +kernel
theorem dX6_opened_53 : decode cX6_opened 53 = .ok (.bipush 126, 2) := by decide +kernel
theorem dX6_opened_55 : decode cX6_opened 55 = .ok (.goto 4, 3) := by decide +kernel
theorem dX6_opened_58 : decode cX6_opened 58 = .ok (.iload_n 1, 1) := by decide +kernel
theorem dX6_opened_59 : decode cX6_opened 59 = .ok (.iconst 0, 1) := by decide +kernel
theorem dX6_opened_60 : decode cX6_opened 60 = .ok (.invokevirtual 50, 3) := by decide +kernel
theorem dX6_opened_63 : decode cX6_opened 63 = .ok (.return_, 1) := by decide +kernel
theorem dX6_number_0 : decode cX6_number 0 = .ok (.iconst 0, 1) := by decide +kernel
theorem dX6_number_1 : decode cX6_number 1 = .ok (.istore_n 1, 1) := by decide +kernel
theorem dX6_number_2 : decode cX6_number 2 = .ok (.iconst 0, 1) := by decide +kernel
theorem dX6_number_3 : decode cX6_number 3 = .ok (.istore_n 2, 1) := by decide +kernel
theorem dX6_number_4 : decode cX6_number 4 = .ok (.iload_n 2, 1) := by decide +kernel
theorem dX6_number_5 : decode cX6_number 5 = .ok (.iconst 4, 1) := by decide +kernel
theorem dX6_number_6 : decode cX6_number 6 = .ok (.if_icmp .ge 50, 3) := by decide +kernel
theorem dX6_number_9 : decode cX6_number 9 = .ok (.aload_n 0, 1) := by decide +kernel
theorem dX6_number_10 : decode cX6_number 10 = .ok (.invokevirtual 42, 3) := by decide +kernel
theorem dX6_number_13 : decode cX6_number 13 = .ok (.bipush 48, 2) := by decide +kernel
theorem dX6_number_15 : decode cX6_number 15 = .ok (.if_icmp .lt 41, 3) := by decide +kernel
theorem dX6_number_18 : decode cX6_number 18 = .ok (.aload_n 0, 1) := by decide +kernel
theorem dX6_number_19 : decode cX6_number 19 = .ok (.invokevirtual 42, 3) := by decide +kernel
theorem dX6_number_22 : decode cX6_number 22 = .ok (.bipush 57, 2) := by decide +kernel
theorem dX6_number_24 : decode cX6_number 24 = .ok (.if_icmp .gt 32, 3) := by decide +kernel
theorem dX6_number_27 : decode cX6_number 27 = .ok (.bipush 10, 2) := by decide +kernel
theorem dX6_number_29 : decode cX6_number 29 = .ok (.iload_n 1, 1) := by decide +kernel
theorem dX6_number_30 : decode cX6_number 30 = .ok (.imul, 1) := by decide +kernel
theorem dX6_number_31 : decode cX6_number 31 = .ok (.aload_n 0, 1) := by decide +kernel
theorem dX6_number_32 : decode cX6_number 32 = .ok (.invokevirtual 42, 3) := by decide +kernel
theorem dX6_number_35 : decode cX6_number 35 = .ok (.iadd, 1) := by decide +kernel
theorem dX6_number_36 : decode cX6_number 36 = .ok (.bipush 48, 2) := by decide +kernel
theorem dX6_number_38 : decode cX6_number 38 = .ok (.isub, 1) := by decide +kernel
theorem dX6_number_39 : decode cX6_number 39 = .ok (.istore_n 1, 1) := by decide +kernel
theorem dX6_number_40 : decode cX6_number 40 = .ok (.aload_n 0, 1) := by decide +kernel
theorem dX6_number_41 : decode cX6_number 41 = .ok (.dup, 1) := by decide +kernel
theorem dX6_number_42 : decode cX6_number 42 = .ok (.getfield 29, 3) := by decide +kernel
theorem dX6_number_45 : decode cX6_number 45 = .ok (.iconst 1, 1) := by decide +kernel
theorem dX6_number_46 : decode cX6_number 46 = .ok (.iadd, 1) := by decide +kernel
theorem dX6_number_47 : decode cX6_number 47 = .ok (.putfield 29, 3) := by decide +kernel
theorem dX6_number_50 : decode cX6_number 50 = .ok (.iinc 2 1, 3) := by decide +kernel
theorem dX6_number_53 : decode cX6_number 53 = .ok (.goto (-49), 3) := by decide +kernel
theorem dX6_number_56 : decode cX6_number 56 = .ok (.aload_n 0, 1) := by decide +kernel
theorem dX6_number_57 : decode cX6_number 57 = .ok (.getfield 18, 3) := by decide +kernel
theorem dX6_number_60 : decode cX6_number 60 = .ok (.bipush 35, 2) := by decide +kernel
theorem dX6_number_62 : decode cX6_number 62 = .ok (.iload_n 1, 1) := by decide +kernel
theorem dX6_number_63 : decode cX6_number 63 = .ok (.invokevirtual 50, 3) := by decide +kernel
theorem dX6_number_66 : decode cX6_number 66 = .ok (.return_, 1) := by decide +kernel
theorem dX7_init_0 : decode cX7_init 0 = .ok (.aload_n 0, 1) := by decide +kernel
theorem dX7_init_1 : decode cX7_init 1 = .ok (.invokespecial 3, 3) := by decide +kernel
theorem dX7_init_4 : decode cX7_init 4 = .ok (.aload_n 0, 1) := by decide +kernel
theorem dX7_init_5 : decode cX7_init 5 = .ok (.bipush 11, 2) := by decide +kernel
theorem dX7_init_7 : decode cX7_init 7 = .ok (.bipush 10, 2) := by decide +kernel
theorem dX7_init_9 : decode cX7_init 9 = .ok (.multianewarray 9 2, 4) := by decide +kernel
theorem dX7_init_13 : decode cX7_init 13 = .ok (.putfield 11, 3) := by decide +kernel
theorem dX7_init_16 : decode cX7_init 16 = .ok (.aload_n 0, 1) := by decide +kernel
theorem dX7_init_17 : decode cX7_init 17 = .ok (.bipush 6, 2) := by decide +kernel
theorem dX7_init_19 : decode cX7_init 19 = .ok (.newarray .int, 2) := by decide +kernel
theorem dX7_init_21 : decode cX7_init 21 = .ok (.putfield 16, 3) := by decide +kernel
theorem dX7_init_24 : decode cX7_init 24 = .ok (.aload_n 0, 1) := by decide +kernel
theorem dX7_init_25 : decode cX7_init 25 = .ok (.new 20, 3) := by decide +kernel
theorem dX7_init_28 : decode cX7_init 28 = .ok (.dup, 1) := by decide +kernel
theorem dX7_init_29 : decode cX7_init 29 = .ok (.invokespecial 22, 3) := by decide +kernel
theorem dX7_init_32 : decode cX7_init 32 = .ok (.putfield 23, 3) := by decide +kernel
theorem dX7_init_35 : decode cX7_init 35 = .ok (.iconst 0, 1) := by decide +kernel
theorem dX7_init_36 : decode cX7_init 36 = .ok (.istore_n 1, 1) := by decide +kernel
theorem dX7_init_37 : decode cX7_init 37 = .ok (.iload_n 1, 1) := by decide +kernel
theorem dX7_init_38 : decode cX7_init 38 = .ok (.bipush 6, 2) := by decide +kernel
theorem dX7_init_40 : decode cX7_init 40 = .ok (.if_icmp .ge 21, 3) := by decide +kernel
theorem dX7_init_43 : decode cX7_init 43 = .ok (.aload_n 0, 1) := by decide +kernel
theorem dX7_init_44 : decode cX7_init 44 = .ok (.getfield 11, 3) := by decide +kernel
theorem dX7_init_47 : decode cX7_init 47 = .ok (.iconst 0, 1) := by decide +kernel
theorem dX7_init_48 : decode cX7_init 48 = .ok (.aaload, 1) := by decide +kernel
theorem dX7_init_49 : decode cX7_init 49 = .ok (.iload_n 1, 1) := by decide +kernel
theorem dX7_init_50 : decode cX7_init 50 = .ok (.bipush 10, 2) := by decide +kernel
theorem dX7_init_52 : decode cX7_init 52 = .ok (.iload_n 1, 1) := by decide +kernel
theorem dX7_init_53 : decode cX7_init 53 = .ok (.imul, 1) := by decide +kernel
theorem dX7_init_54 : decode cX7_init 54 = .ok (.iastore, 1) := by decide +kernel
theorem dX7_init_55 : decode cX7_init 55 = .ok (.iinc 1 1, 3) := by decide +kernel
theorem dX7_init_58 : decode cX7_init 58 = .ok (.goto (-21), 3) := by decide +kernel
theorem dX7_init_61 : decode cX7_init 61 = .ok (.return_, 1) := by decide +kernel
theorem dX7_holds_0 : decode cX7_holds 0 = .ok (.iload_n 1, 1) := by decide +kernel
theorem dX7_holds_1 : decode cX7_holds 1 = .ok (.ifCond .lt 13, 3) := by decide +kernel
theorem dX7_holds_4 : decode cX7_holds 4 = .ok (.iload_n 1, 1) := by decide +kernel
theorem dX7_holds_5 : decode cX7_holds 5 = .ok (.bipush 10, 2) := by decide +kernel
theorem dX7_holds_7 : decode cX7_holds 7 = .ok (.if_icmp .gt 7, 3) := by decide +kernel
theorem dX7_holds_10 : decode cX7_holds 10 = .ok (.iload_n 2, 1) := by decide +kernel
theorem dX7_holds_11 : decode cX7_holds 11 = .ok (.ifCond .ge 5, 3) := by decide +kernel
theorem dX7_holds_14 : decode cX7_holds 14 = .ok (.iconst 0, 1) := by decide +kernel
theorem dX7_holds_15 : decode cX7_holds 15 = .ok (.ireturn, 1) := by decide +kernel
theorem dX7_holds_16 : decode cX7_holds 16 = .ok (.iload_n 1, 1) := by decide +kernel
theorem dX7_holds_17 : decode cX7_holds 17 = .ok (.iconst 4, 1) := by decide +kernel
theorem dX7_holds_18 : decode cX7_holds 18 = .ok (.if_icmp .ge 15, 3) := by decide +kernel
theorem dX7_holds_21 : decode cX7_holds 21 = .ok (.iload_n 2, 1) := by decide +kernel
theorem dX7_holds_22 : decode cX7_holds 22 = .ok (.bipush 6, 2) := by decide +kernel
theorem dX7_holds_24 : decode cX7_holds 24 = .ok (.if_icmp .ge 7, 3) := by decide +kernel
theorem dX7_holds_27 : decode cX7_holds 27 = .ok (.iconst 1, 1) := by decide +kernel
theorem dX7_holds_28 : decode cX7_holds 28 = .ok (.goto 4, 3) := by decide +kernel
theorem dX7_holds_31 : decode cX7_holds 31 = .ok (.iconst 0, 1) := by decide +kernel
theorem dX7_holds_32 : decode cX7_holds 32 = .ok (.ireturn, 1) := by decide +kernel
theorem dX7_holds_33 : decode cX7_holds 33 = .ok (.iload_n 2, 1) := by decide +kernel
theorem dX7_holds_34 : decode cX7_holds 34 = .ok (.iload_n 1, 1) := by decide +kernel
theorem dX7_holds_35 : decode cX7_holds 35 = .ok (.bipush 6, 2) := by decide +kernel
theorem dX7_holds_37 : decode cX7_holds 37 = .ok (.if_icmp .lt 16, 3) := by decide +kernel
theorem dX7_holds_40 : decode cX7_holds 40 = .ok (.iload_n 1, 1) := by decide +kernel
theorem dX7_holds_41 : decode cX7_holds 41 = .ok (.bipush 8, 2) := by decide +kernel
theorem dX7_holds_43 : decode cX7_holds 43 = .ok (.if_icmp .gt 10, 3) := by decide +kernel
theorem dX7_holds_46 : decode cX7_holds 46 = .ok (.aload_n 0, 1) := by decide +kernel
theorem dX7_holds_47 : decode cX7_holds 47 = .ok (.getfield 27, 3) := by decide +kernel
theorem dX7_holds_50 : decode cX7_holds 50 = .ok (.goto 7, 3) := by decide +kernel
theorem dX7_holds_53 : decode cX7_holds 53 = .ok (.aload_n 0, 1) := by decide +kernel
theorem dX7_holds_54 : decode cX7_holds 54 = .ok (.getfield 31, 3) := by decide +kernel
theorem dX7_holds_57 : decode cX7_holds 57 = .ok (.if_icmp .ge 7, 3) := by decide +kernel
theorem dX7_holds_60 : decode cX7_holds 60 = .ok (.iconst 1, 1) := by decide +kernel
theorem dX7_holds_61 : decode cX7_holds 61 = .ok (.goto 4, 3) := by decide +kernel
theorem dX7_holds_64 : decode cX7_holds 64 = .ok (.iconst 0, 1) := by decide +kernel
theorem dX7_holds_65 : decode cX7_holds 65 = .ok (.ireturn, 1) := by decide +kernel
theorem dX7_told_0 : decode cX7_told 0 = .ok (.aload_n 0, 1) := by decide +kernel
theorem dX7_told_1 : decode cX7_told 1 = .ok (.iload_n 1, 1) := by decide +kernel
theorem dX7_told_2 : decode cX7_told 2 = .ok (.iload_n 2, 1) := by decide +kernel
theorem dX7_told_3 : decode cX7_told 3 = .ok (.invokevirtual 34, 3) := by decide +kernel
theorem dX7_told_6 : decode cX7_told 6 = .ok (.ifCond .eq 14, 3) := by decide +kernel
theorem dX7_told_9 : decode cX7_told 9 = .ok (.aload_n 0, 1) := by decide +kernel
theorem dX7_told_10 : decode cX7_told 10 = .ok (.getfield 11, 3) := by decide +kernel
theorem dX7_told_13 : decode cX7_told 13 = .ok (.iload_n 1, 1) := by decide +kernel
theorem dX7_told_14 : decode cX7_told 14 = .ok (.aaload, 1) := by decide +kernel
theorem dX7_told_15 : decode cX7_told 15 = .ok (.iload_n 2, 1) := by decide +kernel
theorem dX7_told_16 : decode cX7_told 16 = .ok (.iaload, 1) := by decide +kernel
theorem dX7_told_17 : decode cX7_told 17 = .ok (.goto 4, 3) := by decide +kernel
theorem dX7_told_20 : decode cX7_told 20 = .ok (.iconst 0, 1) := by decide +kernel
theorem dX7_told_21 : decode cX7_told 21 = .ok (.ireturn, 1) := by decide +kernel
theorem dX7_set_0 : decode cX7_set 0 = .ok (.aload_n 0, 1) := by decide +kernel
theorem dX7_set_1 : decode cX7_set 1 = .ok (.iload_n 1, 1) := by decide +kernel
theorem dX7_set_2 : decode cX7_set 2 = .ok (.iload_n 2, 1) := by decide +kernel
theorem dX7_set_3 : decode cX7_set 3 = .ok (.invokevirtual 34, 3) := by decide +kernel
theorem dX7_set_6 : decode cX7_set 6 = .ok (.ifCond .eq 12, 3) := by decide +kernel
theorem dX7_set_9 : decode cX7_set 9 = .ok (.aload_n 0, 1) := by decide +kernel
theorem dX7_set_10 : decode cX7_set 10 = .ok (.getfield 11, 3) := by decide +kernel
theorem dX7_set_13 : decode cX7_set 13 = .ok (.iload_n 1, 1) := by decide +kernel
theorem dX7_set_14 : decode cX7_set 14 = .ok (.aaload, 1) := by decide +kernel
theorem dX7_set_15 : decode cX7_set 15 = .ok (.iload_n 2, 1) := by decide +kernel
theorem dX7_set_16 : decode cX7_set 16 = .ok (.iload_n 3, 1) := by decide +kernel
theorem dX7_set_17 : decode cX7_set 17 = .ok (.iastore, 1) := by decide +kernel
theorem dX7_set_18 : decode cX7_set 18 = .ok (.return_, 1) := by decide +kernel
theorem dX7_addSack_0 : decode cX7_addSack 0 = .ok (.aload_n 0, 1) := by decide +kernel
theorem dX7_addSack_1 : decode cX7_addSack 1 = .ok (.getfield 31, 3) := by decide +kernel
theorem dX7_addSack_4 : decode cX7_addSack 4 = .ok (.bipush 10, 2) := by decide +kernel
theorem dX7_addSack_6 : decode cX7_addSack 6 = .ok (.if_icmp .lt 6, 3) := by decide +kernel
theorem dX7_addSack_9 : decode cX7_addSack 9 = .ok (.bipush (-3), 2) := by decide +kernel
theorem dX7_addSack_11 : decode cX7_addSack 11 = .ok (.ireturn, 1) := by decide +kernel
theorem dX7_addSack_12 : decode cX7_addSack 12 = .ok (.aload_n 0, 1) := by decide +kernel
theorem dX7_addSack_13 : decode cX7_addSack 13 = .ok (.dup, 1) := by decide +kernel
theorem dX7_addSack_14 : decode cX7_addSack 14 = .ok (.getfield 31, 3) := by decide +kernel
theorem dX7_addSack_17 : decode cX7_addSack 17 = .ok (.dup_x1, 1) := by decide +kernel
theorem dX7_addSack_18 : decode cX7_addSack 18 = .ok (.iconst 1, 1) := by decide +kernel
theorem dX7_addSack_19 : decode cX7_addSack 19 = .ok (.iadd, 1) := by decide +kernel
theorem dX7_addSack_20 : decode cX7_addSack 20 = .ok (.putfield 31, 3) := by decide +kernel
theorem dX7_addSack_23 : decode cX7_addSack 23 = .ok (.istore_n 3, 1) := by decide +kernel
theorem dX7_addSack_24 : decode cX7_addSack 24 = .ok (.aload_n 0, 1) := by decide +kernel
theorem dX7_addSack_25 : decode cX7_addSack 25 = .ok (.getfield 11, 3) := by decide +kernel
theorem dX7_addSack_28 : decode cX7_addSack 28 = .ok (.iconst 4, 1) := by decide +kernel
