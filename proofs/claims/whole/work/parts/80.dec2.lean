theorem dX10_feed_38 : decode cX10_feed 38 = .ok (.getfield 154, 3) := by decide +kernel
theorem dX10_feed_41 : decode cX10_feed 41 = .ok (.iconst 1, 1) := by decide +kernel
theorem dX10_feed_42 : decode cX10_feed 42 = .ok (.iadd, 1) := by decide +kernel
theorem dX10_feed_43 : decode cX10_feed 43 = .ok (.putfield 154, 3) := by decide +kernel
theorem dX10_feed_46 : decode cX10_feed 46 = .ok (.aload_n 0, 1) := by decide +kernel
theorem dX10_feed_47 : decode cX10_feed 47 = .ok (.getfield 154, 3) := by decide +kernel
theorem dX10_feed_50 : decode cX10_feed 50 = .ok (.ireturn, 1) := by decide +kernel
theorem dX10_byteAt_0 : decode cX10_byteAt 0 = .ok (.aload_n 0, 1) := by decide +kernel
theorem dX10_byteAt_1 : decode cX10_byteAt 1 = .ok (.getfield 157, 3) := by decide +kernel
theorem dX10_byteAt_4 : decode cX10_byteAt 4 = .ok (.aload_n 0, 1) := by decide +kernel
theorem dX10_byteAt_5 : decode cX10_byteAt 5 = .ok (.getfield 160, 3) := by decide +kernel
theorem dX10_byteAt_8 : decode cX10_byteAt 8 = .ok (.if_icmp .ge 39, 3) := by decide +kernel
theorem dX10_byteAt_11 : decode cX10_byteAt 11 = .ok (.aload_n 0, 1) := by decide +kernel
theorem dX10_byteAt_12 : decode cX10_byteAt 12 = .ok (.getfield 163, 3) := by decide +kernel
theorem dX10_byteAt_15 : decode cX10_byteAt 15 = .ok (.ifCond .ge 15, 3) := by decide +kernel
theorem dX10_byteAt_18 : decode cX10_byteAt 18 = .ok (.aload_n 0, 1) := by decide +kernel
theorem dX10_byteAt_19 : decode cX10_byteAt 19 = .ok (.getfield 29, 3) := by decide +kernel
theorem dX10_byteAt_22 : decode cX10_byteAt 22 = .ok (.aload_n 0, 1) := by decide +kernel
theorem dX10_byteAt_23 : decode cX10_byteAt 23 = .ok (.getfield 157, 3) := by decide +kernel
theorem dX10_byteAt_26 : decode cX10_byteAt 26 = .ok (.iaload, 1) := by decide +kernel
theorem dX10_byteAt_27 : decode cX10_byteAt 27 = .ok (.goto 21, 3) := by decide +kernel
theorem dX10_byteAt_30 : decode cX10_byteAt 30 = .ok (.aload_n 0, 1) := by decide +kernel
theorem dX10_byteAt_31 : decode cX10_byteAt 31 = .ok (.getfield 32, 3) := by decide +kernel
theorem dX10_byteAt_34 : decode cX10_byteAt 34 = .ok (.aload_n 0, 1) := by decide +kernel
theorem dX10_byteAt_35 : decode cX10_byteAt 35 = .ok (.getfield 163, 3) := by decide +kernel
theorem dX10_byteAt_38 : decode cX10_byteAt 38 = .ok (.aload_n 0, 1) := by decide +kernel
theorem dX10_byteAt_39 : decode cX10_byteAt 39 = .ok (.getfield 157, 3) := by decide +kernel
theorem dX10_byteAt_42 : decode cX10_byteAt 42 = .ok (.iadd, 1) := by decide +kernel
theorem dX10_byteAt_43 : decode cX10_byteAt 43 = .ok (.iaload, 1) := by decide +kernel
theorem dX10_byteAt_44 : decode cX10_byteAt 44 = .ok (.goto 4, 3) := by decide +kernel
theorem dX10_byteAt_47 : decode cX10_byteAt 47 = .ok (.iconst 0, 1) := by decide +kernel
theorem dX10_byteAt_48 : decode cX10_byteAt 48 = .ok (.ireturn, 1) := by decide +kernel
theorem dX10_wrong_0 : decode cX10_wrong 0 = .ok (.aload_n 0, 1) := by decide +kernel
theorem dX10_wrong_1 : decode cX10_wrong 1 = .ok (.aload_n 0, 1) := by decide +kernel
theorem dX10_wrong_2 : decode cX10_wrong 2 = .ok (.getfield 166, 3) := by decide +kernel
theorem dX10_wrong_5 : decode cX10_wrong 5 = .ok (.ifCond .ge 10, 3) := by decide +kernel
theorem dX10_wrong_8 : decode cX10_wrong 8 = .ok (.aload_n 0, 1) := by decide +kernel
theorem dX10_wrong_9 : decode cX10_wrong 9 = .ok (.getfield 157, 3) := by decide +kernel
theorem dX10_wrong_12 : decode cX10_wrong 12 = .ok (.goto 7, 3) := by decide +kernel
theorem dX10_wrong_15 : decode cX10_wrong 15 = .ok (.aload_n 0, 1) := by decide +kernel
theorem dX10_wrong_16 : decode cX10_wrong 16 = .ok (.getfield 166, 3) := by decide +kernel
theorem dX10_wrong_19 : decode cX10_wrong 19 = .ok (.putfield 166, 3) := by decide +kernel
theorem dX10_wrong_22 : decode cX10_wrong 22 = .ok (.iconst 0, 1) := by decide +kernel
theorem dX10_wrong_23 : decode cX10_wrong 23 = .ok (.ireturn, 1) := by decide +kernel
theorem dX10_takes_0 : decode cX10_takes 0 = .ok (.aload_n 0, 1) := by decide +kernel
theorem dX10_takes_1 : decode cX10_takes 1 = .ok (.getfield 166, 3) := by decide +kernel
theorem dX10_takes_4 : decode cX10_takes 4 = .ok (.ifCond .ge 11, 3) := by decide +kernel
theorem dX10_takes_7 : decode cX10_takes 7 = .ok (.aload_n 0, 1) := by decide +kernel
theorem dX10_takes_8 : decode cX10_takes 8 = .ok (.invokevirtual 169, 3) := by decide +kernel
theorem dX10_takes_11 : decode cX10_takes 11 = .ok (.iload_n 1, 1) := by decide +kernel
theorem dX10_takes_12 : decode cX10_takes 12 = .ok (.if_icmp .eq 5, 3) := by decide +kernel
theorem dX10_takes_15 : decode cX10_takes 15 = .ok (.iconst 0, 1) := by decide +kernel
theorem dX10_takes_16 : decode cX10_takes 16 = .ok (.ireturn, 1) := by decide +kernel
theorem dX10_takes_17 : decode cX10_takes 17 = .ok (.aload_n 0, 1) := by decide +kernel
theorem dX10_takes_18 : decode cX10_takes 18 = .ok (.dup, 1) := by decide +kernel
theorem dX10_takes_19 : decode cX10_takes 19 = .ok (.getfield 157, 3) := by decide +kernel
theorem dX10_takes_22 : decode cX10_takes 22 = .ok (.iconst 1, 1) := by decide +kernel
theorem dX10_takes_23 : decode cX10_takes 23 = .ok (.iadd, 1) := by decide +kernel
theorem dX10_takes_24 : decode cX10_takes 24 = .ok (.putfield 157, 3) := by decide +kernel
theorem dX10_takes_27 : decode cX10_takes 27 = .ok (.iconst 1, 1) := by decide +kernel
theorem dX10_takes_28 : decode cX10_takes 28 = .ok (.ireturn, 1) := by decide +kernel
theorem dX10_either_0 : decode cX10_either 0 = .ok (.aload_n 0, 1) := by decide +kernel
theorem dX10_either_1 : decode cX10_either 1 = .ok (.invokevirtual 173, 3) := by decide +kernel
theorem dX10_either_4 : decode cX10_either 4 = .ok (.istore_n 1, 1) := by decide +kernel
theorem dX10_either_5 : decode cX10_either 5 = .ok (.aload_n 0, 1) := by decide +kernel
theorem dX10_either_6 : decode cX10_either 6 = .ok (.bipush 124, 2) := by decide +kernel
theorem dX10_either_8 : decode cX10_either 8 = .ok (.invokevirtual 176, 3) := by decide +kernel
theorem dX10_either_11 : decode cX10_either 11 = .ok (.ifCond .eq 25, 3) := by decide +kernel
theorem dX10_either_14 : decode cX10_either 14 = .ok (.aload_n 0, 1) := by decide +kernel
theorem dX10_either_15 : decode cX10_either 15 = .ok (.invokevirtual 173, 3) := by decide +kernel
theorem dX10_either_18 : decode cX10_either 18 = .ok (.istore_n 2, 1) := by decide +kernel
theorem dX10_either_19 : decode cX10_either 19 = .ok (.iload_n 1, 1) := by decide +kernel
theorem dX10_either_20 : decode cX10_either 20 = .ok (.ifCond .ne 7, 3) := by decide +kernel
theorem dX10_either_23 : decode cX10_either 23 = .ok (.iload_n 2, 1) := by decide +kernel
theorem dX10_either_24 : decode cX10_either 24 = .ok (.ifCond .eq 7, 3) := by decide +kernel
theorem dX10_either_27 : decode cX10_either 27 = .ok (.iconst 1, 1) := by decide +kernel
theorem dX10_either_28 : decode cX10_either 28 = .ok (.goto 4, 3) := by decide +kernel
theorem dX10_either_31 : decode cX10_either 31 = .ok (.iconst 0, 1) := by decide +kernel
theorem dX10_either_32 : decode cX10_either 32 = .ok (.istore_n 1, 1) := by decide +kernel
theorem dX10_either_33 : decode cX10_either 33 = .ok (.goto (-28), 3) := by decide +kernel
theorem dX10_either_36 : decode cX10_either 36 = .ok (.iload_n 1, 1) := by decide +kernel
theorem dX10_either_37 : decode cX10_either 37 = .ok (.ireturn, 1) := by decide +kernel
theorem dX10_both_0 : decode cX10_both 0 = .ok (.aload_n 0, 1) := by decide +kernel
theorem dX10_both_1 : decode cX10_both 1 = .ok (.invokevirtual 179, 3) := by decide +kernel
theorem dX10_both_4 : decode cX10_both 4 = .ok (.istore_n 1, 1) := by decide +kernel
theorem dX10_both_5 : decode cX10_both 5 = .ok (.aload_n 0, 1) := by decide +kernel
theorem dX10_both_6 : decode cX10_both 6 = .ok (.bipush 38, 2) := by decide +kernel
theorem dX10_both_8 : decode cX10_both 8 = .ok (.invokevirtual 176, 3) := by decide +kernel
theorem dX10_both_11 : decode cX10_both 11 = .ok (.ifCond .eq 25, 3) := by decide +kernel
theorem dX10_both_14 : decode cX10_both 14 = .ok (.aload_n 0, 1) := by decide +kernel
theorem dX10_both_15 : decode cX10_both 15 = .ok (.invokevirtual 179, 3) := by decide +kernel
theorem dX10_both_18 : decode cX10_both 18 = .ok (.istore_n 2, 1) := by decide +kernel
theorem dX10_both_19 : decode cX10_both 19 = .ok (.iload_n 1, 1) := by decide +kernel
theorem dX10_both_20 : decode cX10_both 20 = .ok (.ifCond .eq 11, 3) := by decide +kernel
theorem dX10_both_23 : decode cX10_both 23 = .ok (.iload_n 2, 1) := by decide +kernel
theorem dX10_both_24 : decode cX10_both 24 = .ok (.ifCond .eq 7, 3) := by decide +kernel
theorem dX10_both_27 : decode cX10_both 27 = .ok (.iconst 1, 1) := by decide +kernel
theorem dX10_both_28 : decode cX10_both 28 = .ok (.goto 4, 3) := by decide +kernel
theorem dX10_both_31 : decode cX10_both 31 = .ok (.iconst 0, 1) := by decide +kernel
theorem dX10_both_32 : decode cX10_both 32 = .ok (.istore_n 1, 1) := by decide +kernel
theorem dX10_both_33 : decode cX10_both 33 = .ok (.goto (-28), 3) := by decide +kernel
theorem dX10_both_36 : decode cX10_both 36 = .ok (.iload_n 1, 1) := by decide +kernel
theorem dX10_both_37 : decode cX10_both 37 = .ok (.ireturn, 1) := by decide +kernel
theorem dX10_compared_0 : decode cX10_compared 0 = .ok (.aload_n 0, 1) := by decide +kernel
theorem dX10_compared_1 : decode cX10_compared 1 = .ok (.invokevirtual 182, 3) := by decide +kernel
theorem dX10_compared_4 : decode cX10_compared 4 = .ok (.istore_n 1, 1) := by decide +kernel
theorem dX10_compared_5 : decode cX10_compared 5 = .ok (.aload_n 0, 1) := by decide +kernel
theorem dX10_compared_6 : decode cX10_compared 6 = .ok (.invokevirtual 169, 3) := by decide +kernel
theorem dX10_compared_9 : decode cX10_compared 9 = .ok (.istore_n 2, 1) := by decide +kernel
theorem dX10_compared_10 : decode cX10_compared 10 = .ok (.aload_n 0, 1) := by decide +kernel
theorem dX10_compared_11 : decode cX10_compared 11 = .ok (.getfield 166, 3) := by decide +kernel
theorem dX10_compared_14 : decode cX10_compared 14 = .ok (.ifCond .ge 21, 3) := by decide +kernel
theorem dX10_compared_17 : decode cX10_compared 17 = .ok (.iload_n 2, 1) := by decide +kernel
theorem dX10_compared_18 : decode cX10_compared 18 = .ok (.bipush 60, 2) := by decide +kernel
theorem dX10_compared_20 : decode cX10_compared 20 = .ok (.if_icmp .eq 17, 3) := by decide +kernel
theorem dX10_compared_23 : decode cX10_compared 23 = .ok (.iload_n 2, 1) := by decide +kernel
theorem dX10_compared_24 : decode cX10_compared 24 = .ok (.bipush 61, 2) := by decide +kernel
theorem dX10_compared_26 : decode cX10_compared 26 = .ok (.if_icmp .eq 11, 3) := by decide +kernel
theorem dX10_compared_29 : decode cX10_compared 29 = .ok (.iload_n 2, 1) := by decide +kernel
theorem dX10_compared_30 : decode cX10_compared 30 = .ok (.bipush 62, 2) := by decide +kernel
theorem dX10_compared_32 : decode cX10_compared 32 = .ok (.if_icmp .eq 5, 3) := by decide +kernel
theorem dX10_compared_35 : decode cX10_compared 35 = .ok (.iload_n 1, 1) := by decide +kernel
theorem dX10_compared_36 : decode cX10_compared 36 = .ok (.ireturn, 1) := by decide +kernel
theorem dX10_compared_37 : decode cX10_compared 37 = .ok (.aload_n 0, 1) := by decide +kernel
theorem dX10_compared_38 : decode cX10_compared 38 = .ok (.dup, 1) := by decide +kernel
theorem dX10_compared_39 : decode cX10_compared 39 = .ok (.getfield 157, 3) := by decide +kernel
theorem dX10_compared_42 : decode cX10_compared 42 = .ok (.iconst 1, 1) := by decide +kernel
theorem dX10_compared_43 : decode cX10_compared 43 = .ok (.iadd, 1) := by decide +kernel
theorem dX10_compared_44 : decode cX10_compared 44 = .ok (.putfield 157, 3) := by decide +kernel
theorem dX10_compared_47 : decode cX10_compared 47 = .ok (.aload_n 0, 1) := by decide +kernel
theorem dX10_compared_48 : decode cX10_compared 48 = .ok (.invokevirtual 182, 3) := by decide +kernel
theorem dX10_compared_51 : decode cX10_compared 51 = .ok (.istore_n 3, 1) := by decide +kernel
theorem dX10_compared_52 : decode cX10_compared 52 = .ok (.iload_n 2, 1) := by decide +kernel
theorem dX10_compared_53 : decode cX10_compared 53 = .ok (.bipush 60, 2) := by decide +kernel
theorem dX10_compared_55 : decode cX10_compared 55 = .ok (.if_icmp .ne 11, 3) := by decide +kernel
theorem dX10_compared_58 : decode cX10_compared 58 = .ok (.iload_n 1, 1) := by decide +kernel
theorem dX10_compared_59 : decode cX10_compared 59 = .ok (.iload_n 3, 1) := by decide +kernel
theorem dX10_compared_60 : decode cX10_compared 60 = .ok (.if_icmp .ge 29, 3) := by decide +kernel
theorem dX10_compared_63 : decode cX10_compared 63 = .ok (.goto 22, 3) := by decide +kernel
theorem dX10_compared_66 : decode cX10_compared 66 = .ok (.iload_n 2, 1) := by decide +kernel
theorem dX10_compared_67 : decode cX10_compared 67 = .ok (.bipush 61, 2) := by decide +kernel
theorem dX10_compared_69 : decode cX10_compared 69 = .ok (.if_icmp .ne 11, 3) := by decide +kernel
theorem dX10_compared_72 : decode cX10_compared 72 = .ok (.iload_n 1, 1) := by decide +kernel
theorem dX10_compared_73 : decode cX10_compared 73 = .ok (.iload_n 3, 1) := by decide +kernel
theorem dX10_compared_74 : decode cX10_compared 74 = .ok (.if_icmp .ne 15, 3) := by decide +kernel
theorem dX10_compared_77 : decode cX10_compared 77 = .ok (.goto 8, 3) := by decide +kernel
theorem dX10_compared_80 : decode cX10_compared 80 = .ok (.iload_n 1, 1) := by decide +kernel
theorem dX10_compared_81 : decode cX10_compared 81 = .ok (.iload_n 3, 1) := by decide +kernel
theorem dX10_compared_82 : decode cX10_compared 82 = .ok (.if_icmp .le 7, 3) := by decide +kernel
theorem dX10_compared_85 : decode cX10_compared 85 = .ok (.iconst 1, 1) := by decide +kernel
theorem dX10_compared_86 : decode cX10_compared 86 = .ok (.goto 4, 3) := by decide +kernel
theorem dX10_compared_89 : decode cX10_compared 89 = .ok (.iconst 0, 1) := by decide +kernel
theorem dX10_compared_90 : decode cX10_compared 90 = .ok (.ireturn, 1) := by decide +kernel
theorem dX10_sums_0 : decode cX10_sums 0 = .ok (.aload_n 0, 1) := by decide +kernel
theorem dX10_sums_1 : decode cX10_sums 1 = .ok (.invokevirtual 185, 3) := by decide +kernel
theorem dX10_sums_4 : decode cX10_sums 4 = .ok (.istore_n 1, 1) := by decide +kernel
theorem dX10_sums_5 : decode cX10_sums 5 = .ok (.aload_n 0, 1) := by decide +kernel
theorem dX10_sums_6 : decode cX10_sums 6 = .ok (.getfield 166, 3) := by decide +kernel
theorem dX10_sums_9 : decode cX10_sums 9 = .ok (.ifCond .ge 68, 3) := by decide +kernel
theorem dX10_sums_12 : decode cX10_sums 12 = .ok (.aload_n 0, 1) := by decide +kernel
theorem dX10_sums_13 : decode cX10_sums 13 = .ok (.invokevirtual 169, 3) := by decide +kernel
theorem dX10_sums_16 : decode cX10_sums 16 = .ok (.bipush 43, 2) := by decide +kernel
theorem dX10_sums_18 : decode cX10_sums 18 = .ok (.if_icmp .eq 12, 3) := by decide +kernel
theorem dX10_sums_21 : decode cX10_sums 21 = .ok (.aload_n 0, 1) := by decide +kernel
theorem dX10_sums_22 : decode cX10_sums 22 = .ok (.invokevirtual 169, 3) := by decide +kernel
theorem dX10_sums_25 : decode cX10_sums 25 = .ok (.bipush 45, 2) := by decide +kernel
theorem dX10_sums_27 : decode cX10_sums 27 = .ok (.if_icmp .ne 50, 3) := by decide +kernel
theorem dX10_sums_30 : decode cX10_sums 30 = .ok (.aload_n 0, 1) := by decide +kernel
theorem dX10_sums_31 : decode cX10_sums 31 = .ok (.invokevirtual 169, 3) := by decide +kernel
theorem dX10_sums_34 : decode cX10_sums 34 = .ok (.bipush 43, 2) := by decide +kernel
theorem dX10_sums_36 : decode cX10_sums 36 = .ok (.if_icmp .ne 7, 3) := by decide +kernel
theorem dX10_sums_39 : decode cX10_sums 39 = .ok (.iconst 1, 1) := by decide +kernel
theorem dX10_sums_40 : decode cX10_sums 40 = .ok (.goto 4, 3) := by decide +kernel
theorem dX10_sums_43 : decode cX10_sums 43 = .ok (.iconst 0, 1) := by decide +kernel
theorem dX10_sums_44 : decode cX10_sums 44 = .ok (.istore_n 2, 1) := by decide +kernel
theorem dX10_sums_45 : decode cX10_sums 45 = .ok (.aload_n 0, 1) := by decide +kernel
theorem dX10_sums_46 : decode cX10_sums 46 = .ok (.dup, 1) := by decide +kernel
theorem dX10_sums_47 : decode cX10_sums 47 = .ok (.getfield 157, 3) := by decide +kernel
theorem dX10_sums_50 : decode cX10_sums 50 = .ok (.iconst 1, 1) := by decide +kernel
theorem dX10_sums_51 : decode cX10_sums 51 = .ok (.iadd, 1) := by decide +kernel
theorem dX10_sums_52 : decode cX10_sums 52 = .ok (.putfield 157, 3) := by decide +kernel
theorem dX10_sums_55 : decode cX10_sums 55 = .ok (.aload_n 0, 1) := by decide +kernel
theorem dX10_sums_56 : decode cX10_sums 56 = .ok (.invokevirtual 185, 3) := by decide +kernel
theorem dX10_sums_59 : decode cX10_sums 59 = .ok (.istore_n 3, 1) := by decide +kernel
theorem dX10_sums_60 : decode cX10_sums 60 = .ok (.iload_n 2, 1) := by decide +kernel
theorem dX10_sums_61 : decode cX10_sums 61 = .ok (.ifCond .eq 9, 3) := by decide +kernel
theorem dX10_sums_64 : decode cX10_sums 64 = .ok (.iload_n 1, 1) := by decide +kernel
theorem dX10_sums_65 : decode cX10_sums 65 = .ok (.iload_n 3, 1) := by decide +kernel
theorem dX10_sums_66 : decode cX10_sums 66 = .ok (.iadd, 1) := by decide +kernel
theorem dX10_sums_67 : decode cX10_sums 67 = .ok (.goto 6, 3) := by decide +kernel
theorem dX10_sums_70 : decode cX10_sums 70 = .ok (.iload_n 1, 1) := by decide +kernel
theorem dX10_sums_71 : decode cX10_sums 71 = .ok (.iload_n 3, 1) := by decide +kernel
theorem dX10_sums_72 : decode cX10_sums 72 = .ok (.isub, 1) := by decide +kernel
theorem dX10_sums_73 : decode cX10_sums 73 = .ok (.istore_n 1, 1) := by decide +kernel
theorem dX10_sums_74 : decode cX10_sums 74 = .ok (.goto (-69), 3) := by decide +kernel
theorem dX10_sums_77 : decode cX10_sums 77 = .ok (.iload_n 1, 1) := by decide +kernel
theorem dX10_sums_78 : decode cX10_sums 78 = .ok (.ireturn, 1) := by decide +kernel
theorem dX10_product_0 : decode cX10_product 0 = .ok (.aload_n 0, 1) := by decide +kernel
theorem dX10_product_1 : decode cX10_product 1 = .ok (.invokevirtual 188, 3) := by decide +kernel
theorem dX10_product_4 : decode cX10_product 4 = .ok (.istore_n 1, 1) := by decide +kernel
theorem dX10_product_5 : decode cX10_product 5 = .ok (.aload_n 0, 1) := by decide +kernel
theorem dX10_product_6 : decode cX10_product 6 = .ok (.invokevirtual 169, 3) := by decide +kernel
theorem dX10_product_9 : decode cX10_product 9 = .ok (.istore_n 2, 1) := by decide +kernel
theorem dX10_product_10 : decode cX10_product 10 = .ok (.aload_n 0, 1) := by decide +kernel
theorem dX10_product_11 : decode cX10_product 11 = .ok (.getfield 166, 3) := by decide +kernel
theorem dX10_product_14 : decode cX10_product 14 = .ok (.ifCond .ge 80, 3) := by decide +kernel
theorem dX10_product_17 : decode cX10_product 17 = .ok (.iload_n 2, 1) := by decide +kernel
theorem dX10_product_18 : decode cX10_product 18 = .ok (.bipush 42, 2) := by decide +kernel
theorem dX10_product_20 : decode cX10_product 20 = .ok (.if_icmp .eq 15, 3) := by decide +kernel
theorem dX10_product_23 : decode cX10_product 23 = .ok (.iload_n 2, 1) := by decide +kernel
theorem dX10_product_24 : decode cX10_product 24 = .ok (.bipush 47, 2) := by decide +kernel
theorem dX10_product_26 : decode cX10_product 26 = .ok (.if_icmp .eq 9, 3) := by decide +kernel
theorem dX10_product_29 : decode cX10_product 29 = .ok (.iload_n 2, 1) := by decide +kernel
theorem dX10_product_30 : decode cX10_product 30 = .ok (.bipush 37, 2) := by decide +kernel
theorem dX10_product_32 : decode cX10_product 32 = .ok (.if_icmp .ne 62, 3) := by decide +kernel
theorem dX10_product_35 : decode cX10_product 35 = .ok (.aload_n 0, 1) := by decide +kernel
theorem dX10_product_36 : decode cX10_product 36 = .ok (.dup, 1) := by decide +kernel
theorem dX10_product_37 : decode cX10_product 37 = .ok (.getfield 157, 3) := by decide +kernel
theorem dX10_product_40 : decode cX10_product 40 = .ok (.iconst 1, 1) := by decide +kernel
theorem dX10_product_41 : decode cX10_product 41 = .ok (.iadd, 1) := by decide +kernel
theorem dX10_product_42 : decode cX10_product 42 = .ok (.putfield 157, 3) := by decide +kernel
theorem dX10_product_45 : decode cX10_product 45 = .ok (.aload_n 0, 1) := by decide +kernel
theorem dX10_product_46 : decode cX10_product 46 = .ok (.invokevirtual 188, 3) := by decide +kernel
theorem dX10_product_49 : decode cX10_product 49 = .ok (.istore_n 3, 1) := by decide +kernel
theorem dX10_product_50 : decode cX10_product 50 = .ok (.iload_n 2, 1) := by decide +kernel
theorem dX10_product_51 : decode cX10_product 51 = .ok (.bipush 42, 2) := by decide +kernel
theorem dX10_product_53 : decode cX10_product 53 = .ok (.if_icmp .ne 9, 3) := by decide +kernel
theorem dX10_product_56 : decode cX10_product 56 = .ok (.iload_n 1, 1) := by decide +kernel
theorem dX10_product_57 : decode cX10_product 57 = .ok (.iload_n 3, 1) := by decide +kernel
theorem dX10_product_58 : decode cX10_product 58 = .ok (.imul, 1) := by decide +kernel
theorem dX10_product_59 : decode cX10_product 59 = .ok (.goto 26, 3) := by decide +kernel
theorem dX10_product_62 : decode cX10_product 62 = .ok (.iload_n 3, 1) := by decide +kernel
theorem dX10_product_63 : decode cX10_product 63 = .ok (.ifCond .ne 7, 3) := by decide +kernel
theorem dX10_product_66 : decode cX10_product 66 = .ok (.iconst 0, 1) := by decide +kernel
theorem dX10_product_67 : decode cX10_product 67 = .ok (.goto 18, 3) := by decide +kernel
theorem dX10_product_70 : decode cX10_product 70 = .ok (.iload_n 2, 1) := by decide +kernel
theorem dX10_product_71 : decode cX10_product 71 = .ok (.bipush 47, 2) := by decide +kernel
theorem dX10_product_73 : decode cX10_product 73 = .ok (.if_icmp .ne 9, 3) := by decide +kernel
theorem dX10_product_76 : decode cX10_product 76 = .ok (.iload_n 1, 1) := by decide +kernel
theorem dX10_product_77 : decode cX10_product 77 = .ok (.iload_n 3, 1) := by decide +kernel
theorem dX10_product_78 : decode cX10_product 78 = .ok (.idiv, 1) := by decide +kernel
theorem dX10_product_79 : decode cX10_product 79 = .ok (.goto 6, 3) := by decide +kernel
theorem dX10_product_82 : decode cX10_product 82 = .ok (.iload_n 1, 1) := by decide +kernel
theorem dX10_product_83 : decode cX10_product 83 = .ok (.iload_n 3, 1) := by decide +kernel
theorem dX10_product_84 : decode cX10_product 84 = .ok (.irem, 1) := by decide +kernel
theorem dX10_product_85 : decode cX10_product 85 = .ok (.istore_n 1, 1) := by decide +kernel
theorem dX10_product_86 : decode cX10_product 86 = .ok (.aload_n 0, 1) := by decide +kernel
theorem dX10_product_87 : decode cX10_product 87 = .ok (.invokevirtual 169, 3) := by decide +kernel
theorem dX10_product_90 : decode cX10_product 90 = .ok (.istore_n 2, 1) := by decide +kernel
theorem dX10_product_91 : decode cX10_product 91 = .ok (.goto (-81), 3) := by decide +kernel
theorem dX10_product_94 : decode cX10_product 94 = .ok (.iload_n 1, 1) := by decide +kernel
theorem dX10_product_95 : decode cX10_product 95 = .ok (.ireturn, 1) := by decide +kernel
theorem dX10_nameOf_0 : decode cX10_nameOf 0 = .ok (.iload_n 0, 1) := by decide +kernel
theorem dX10_nameOf_1 : decode cX10_nameOf 1 = .ok (.lookupswitch 71 #[(97, 63), (98, 69), (103, 67), (112, 59), (115, 65), (119, 61)], 59) := by decide +kernel
theorem dX10_nameOf_60 : decode cX10_nameOf 60 = .ok (.iconst 0, 1) := by decide +kernel
theorem dX10_nameOf_61 : decode cX10_nameOf 61 = .ok (.ireturn, 1) := by decide +kernel
theorem dX10_nameOf_62 : decode cX10_nameOf 62 = .ok (.iconst 1, 1) := by decide +kernel
theorem dX10_nameOf_63 : decode cX10_nameOf 63 = .ok (.ireturn, 1) := by decide +kernel
theorem dX10_nameOf_64 : decode cX10_nameOf 64 = .ok (.iconst 2, 1) := by decide +kernel
theorem dX10_nameOf_65 : decode cX10_nameOf 65 = .ok (.ireturn, 1) := by decide +kernel
theorem dX10_nameOf_66 : decode cX10_nameOf 66 = .ok (.iconst 3, 1) := by decide +kernel
theorem dX10_nameOf_67 : decode cX10_nameOf 67 = .ok (.ireturn, 1) := by decide +kernel
theorem dX10_nameOf_68 : decode cX10_nameOf 68 = .ok (.iconst 4, 1) := by decide +kernel
theorem dX10_nameOf_69 : decode cX10_nameOf 69 = .ok (.ireturn, 1) := by decide +kernel
theorem dX10_nameOf_70 : decode cX10_nameOf 70 = .ok (.iconst 5, 1) := by decide +kernel
theorem dX10_nameOf_71 : decode cX10_nameOf 71 = .ok (.ireturn, 1) := by decide +kernel
theorem dX10_nameOf_72 : decode cX10_nameOf 72 = .ok (.iconst (-1), 1) := by decide +kernel
theorem dX10_nameOf_73 : decode cX10_nameOf 73 = .ok (.ireturn, 1) := by decide +kernel
theorem dX10_one_0 : decode cX10_one 0 = .ok (.aload_n 0, 1) := by decide +kernel
theorem dX10_one_1 : decode cX10_one 1 = .ok (.getfield 166, 3) := by decide +kernel
theorem dX10_one_4 : decode cX10_one 4 = .ok (.ifCond .lt 5, 3) := by decide +kernel
theorem dX10_one_7 : decode cX10_one 7 = .ok (.iconst 0, 1) := by decide +kernel
theorem dX10_one_8 : decode cX10_one 8 = .ok (.ireturn, 1) := by decide +kernel
theorem dX10_one_9 : decode cX10_one 9 = .ok (.aload_n 0, 1) := by decide +kernel
theorem dX10_one_10 : decode cX10_one 10 = .ok (.invokevirtual 169, 3) := by decide +kernel
theorem dX10_one_13 : decode cX10_one 13 = .ok (.istore_n 1, 1) := by decide +kernel
theorem dX10_one_14 : decode cX10_one 14 = .ok (.iload_n 1, 1) := by decide +kernel
theorem dX10_one_15 : decode cX10_one 15 = .ok (.bipush 33, 2) := by decide +kernel
theorem dX10_one_17 : decode cX10_one 17 = .ok (.if_icmp .eq 15, 3) := by decide +kernel
theorem dX10_one_20 : decode cX10_one 20 = .ok (.iload_n 1, 1) := by decide +kernel
theorem dX10_one_21 : decode cX10_one 21 = .ok (.bipush 45, 2) := by decide +kernel
theorem dX10_one_23 : decode cX10_one 23 = .ok (.if_icmp .eq 9, 3) := by decide +kernel
theorem dX10_one_26 : decode cX10_one 26 = .ok (.iload_n 1, 1) := by decide +kernel
theorem dX10_one_27 : decode cX10_one 27 = .ok (.bipush 40, 2) := by decide +kernel
theorem dX10_one_29 : decode cX10_one 29 = .ok (.if_icmp .ne 116, 3) := by decide +kernel
theorem dX10_one_32 : decode cX10_one 32 = .ok (.aload_n 0, 1) := by decide +kernel
theorem dX10_one_33 : decode cX10_one 33 = .ok (.getfield 191, 3) := by decide +kernel
theorem dX10_one_36 : decode cX10_one 36 = .ok (.bipush 6, 2) := by decide +kernel
theorem dX10_one_38 : decode cX10_one 38 = .ok (.if_icmp .ne 8, 3) := by decide +kernel
theorem dX10_one_41 : decode cX10_one 41 = .ok (.aload_n 0, 1) := by decide +kernel
theorem dX10_one_42 : decode cX10_one 42 = .ok (.invokevirtual 194, 3) := by decide +kernel
theorem dX10_one_45 : decode cX10_one 45 = .ok (.ireturn, 1) := by decide +kernel
theorem dX10_one_46 : decode cX10_one 46 = .ok (.aload_n 0, 1) := by decide +kernel
theorem dX10_one_47 : decode cX10_one 47 = .ok (.dup, 1) := by decide +kernel
theorem dX10_one_48 : decode cX10_one 48 = .ok (.getfield 191, 3) := by decide +kernel
theorem dX10_one_51 : decode cX10_one 51 = .ok (.iconst 1, 1) := by decide +kernel
theorem dX10_one_52 : decode cX10_one 52 = .ok (.iadd, 1) := by decide +kernel
theorem dX10_one_53 : decode cX10_one 53 = .ok (.putfield 191, 3) := by decide +kernel
theorem dX10_one_56 : decode cX10_one 56 = .ok (.aload_n 0, 1) := by decide +kernel
theorem dX10_one_57 : decode cX10_one 57 = .ok (.dup, 1) := by decide +kernel
theorem dX10_one_58 : decode cX10_one 58 = .ok (.getfield 157, 3) := by decide +kernel
theorem dX10_one_61 : decode cX10_one 61 = .ok (.iconst 1, 1) := by decide +kernel
theorem dX10_one_62 : decode cX10_one 62 = .ok (.iadd, 1) := by decide +kernel
theorem dX10_one_63 : decode cX10_one 63 = .ok (.putfield 157, 3) := by decide +kernel
theorem dX10_one_66 : decode cX10_one 66 = .ok (.iload_n 1, 1) := by decide +kernel
theorem dX10_one_67 : decode cX10_one 67 = .ok (.bipush 40, 2) := by decide +kernel
theorem dX10_one_69 : decode cX10_one 69 = .ok (.if_icmp .ne 10, 3) := by decide +kernel
theorem dX10_one_72 : decode cX10_one 72 = .ok (.aload_n 0, 1) := by decide +kernel
theorem dX10_one_73 : decode cX10_one 73 = .ok (.invokevirtual 197, 3) := by decide +kernel
theorem dX10_one_76 : decode cX10_one 76 = .ok (.goto 7, 3) := by decide +kernel
theorem dX10_one_79 : decode cX10_one 79 = .ok (.aload_n 0, 1) := by decide +kernel
theorem dX10_one_80 : decode cX10_one 80 = .ok (.invokevirtual 188, 3) := by decide +kernel
theorem dX10_one_83 : decode cX10_one 83 = .ok (.istore_n 2, 1) := by decide +kernel
theorem dX10_one_84 : decode cX10_one 84 = .ok (.iload_n 1, 1) := by decide +kernel
theorem dX10_one_85 : decode cX10_one 85 = .ok (.bipush 40, 2) := by decide +kernel
theorem dX10_one_87 : decode cX10_one 87 = .ok (.if_icmp .ne 17, 3) := by decide +kernel
theorem dX10_one_90 : decode cX10_one 90 = .ok (.aload_n 0, 1) := by decide +kernel
theorem dX10_one_91 : decode cX10_one 91 = .ok (.bipush 41, 2) := by decide +kernel
theorem dX10_one_93 : decode cX10_one 93 = .ok (.invokevirtual 176, 3) := by decide +kernel
theorem dX10_one_96 : decode cX10_one 96 = .ok (.ifCond .ne 8, 3) := by decide +kernel
theorem dX10_one_99 : decode cX10_one 99 = .ok (.aload_n 0, 1) := by decide +kernel
theorem dX10_one_100 : decode cX10_one 100 = .ok (.invokevirtual 194, 3) := by decide +kernel
theorem dX10_one_103 : decode cX10_one 103 = .ok (.ireturn, 1) := by decide +kernel
theorem dX10_one_104 : decode cX10_one 104 = .ok (.aload_n 0, 1) := by decide +kernel
theorem dX10_one_105 : decode cX10_one 105 = .ok (.dup, 1) := by decide +kernel
theorem dX10_one_106 : decode cX10_one 106 = .ok (.getfield 191, 3) := by decide +kernel
theorem dX10_one_109 : decode cX10_one 109 = .ok (.iconst 1, 1) := by decide +kernel
theorem dX10_one_110 : decode cX10_one 110 = .ok (.isub, 1) := by decide +kernel
theorem dX10_one_111 : decode cX10_one 111 = .ok (.putfield 191, 3) := by decide +kernel
theorem dX10_one_114 : decode cX10_one 114 = .ok (.iload_n 1, 1) := by decide +kernel
theorem dX10_one_115 : decode cX10_one 115 = .ok (.bipush 40, 2) := by decide +kernel
theorem dX10_one_117 : decode cX10_one 117 = .ok (.if_icmp .ne 7, 3) := by decide +kernel
theorem dX10_one_120 : decode cX10_one 120 = .ok (.iload_n 2, 1) := by decide +kernel
theorem dX10_one_121 : decode cX10_one 121 = .ok (.goto 23, 3) := by decide +kernel
theorem dX10_one_124 : decode cX10_one 124 = .ok (.iload_n 1, 1) := by decide +kernel
theorem dX10_one_125 : decode cX10_one 125 = .ok (.bipush 45, 2) := by decide +kernel
theorem dX10_one_127 : decode cX10_one 127 = .ok (.if_icmp .ne 8, 3) := by decide +kernel
theorem dX10_one_130 : decode cX10_one 130 = .ok (.iload_n 2, 1) := by decide +kernel
theorem dX10_one_131 : decode cX10_one 131 = .ok (.ineg, 1) := by decide +kernel
theorem dX10_one_132 : decode cX10_one 132 = .ok (.goto 12, 3) := by decide +kernel
theorem dX10_one_135 : decode cX10_one 135 = .ok (.iload_n 2, 1) := by decide +kernel
theorem dX10_one_136 : decode cX10_one 136 = .ok (.ifCond .ne 7, 3) := by decide +kernel
theorem dX10_one_139 : decode cX10_one 139 = .ok (.iconst 1, 1) := by decide +kernel
theorem dX10_one_140 : decode cX10_one 140 = .ok (.goto 4, 3) := by decide +kernel
theorem dX10_one_143 : decode cX10_one 143 = .ok (.iconst 0, 1) := by decide +kernel
theorem dX10_one_144 : decode cX10_one 144 = .ok (.ireturn, 1) := by decide +kernel
theorem dX10_one_145 : decode cX10_one 145 = .ok (.iload_n 1, 1) := by decide +kernel
theorem dX10_one_146 : decode cX10_one 146 = .ok (.invokestatic 200, 3) := by decide +kernel
theorem dX10_one_149 : decode cX10_one 149 = .ok (.istore_n 2, 1) := by decide +kernel
theorem dX10_one_150 : decode cX10_one 150 = .ok (.iload_n 2, 1) := by decide +kernel
theorem dX10_one_151 : decode cX10_one 151 = .ok (.ifCond .lt 20, 3) := by decide +kernel
theorem dX10_one_154 : decode cX10_one 154 = .ok (.aload_n 0, 1) := by decide +kernel
theorem dX10_one_155 : decode cX10_one 155 = .ok (.dup, 1) := by decide +kernel
theorem dX10_one_156 : decode cX10_one 156 = .ok (.getfield 157, 3) := by decide +kernel
theorem dX10_one_159 : decode cX10_one 159 = .ok (.iconst 1, 1) := by decide +kernel
theorem dX10_one_160 : decode cX10_one 160 = .ok (.iadd, 1) := by decide +kernel
theorem dX10_one_161 : decode cX10_one 161 = .ok (.putfield 157, 3) := by decide +kernel
theorem dX10_one_164 : decode cX10_one 164 = .ok (.aload_n 0, 1) := by decide +kernel
theorem dX10_one_165 : decode cX10_one 165 = .ok (.getfield 35, 3) := by decide +kernel
theorem dX10_one_168 : decode cX10_one 168 = .ok (.iload_n 2, 1) := by decide +kernel
theorem dX10_one_169 : decode cX10_one 169 = .ok (.iaload, 1) := by decide +kernel
theorem dX10_one_170 : decode cX10_one 170 = .ok (.ireturn, 1) := by decide +kernel
theorem dX10_one_171 : decode cX10_one 171 = .ok (.iconst 0, 1) := by decide +kernel
theorem dX10_one_172 : decode cX10_one 172 = .ok (.istore_n 3, 1) := by decide +kernel
theorem dX10_one_173 : decode cX10_one 173 = .ok (.iconst 0, 1) := by decide +kernel
theorem dX10_one_174 : decode cX10_one 174 = .ok (.istore 4, 2) := by decide +kernel
theorem dX10_one_176 : decode cX10_one 176 = .ok (.iload 4, 2) := by decide +kernel
theorem dX10_one_178 : decode cX10_one 178 = .ok (.iconst 4, 1) := by decide +kernel
theorem dX10_one_179 : decode cX10_one 179 = .ok (.if_icmp .ge 50, 3) := by decide +kernel
theorem dX10_one_182 : decode cX10_one 182 = .ok (.aload_n 0, 1) := by decide +kernel
theorem dX10_one_183 : decode cX10_one 183 = .ok (.invokevirtual 169, 3) := by decide +kernel
theorem dX10_one_186 : decode cX10_one 186 = .ok (.bipush 48, 2) := by decide +kernel
theorem dX10_one_188 : decode cX10_one 188 = .ok (.if_icmp .lt 41, 3) := by decide +kernel
theorem dX10_one_191 : decode cX10_one 191 = .ok (.aload_n 0, 1) := by decide +kernel
theorem dX10_one_192 : decode cX10_one 192 = .ok (.invokevirtual 169, 3) := by decide +kernel
theorem dX10_one_195 : decode cX10_one 195 = .ok (.bipush 57, 2) := by decide +kernel
theorem dX10_one_197 : decode cX10_one 197 = .ok (.if_icmp .gt 32, 3) := by decide +kernel
theorem dX10_one_200 : decode cX10_one 200 = .ok (.bipush 10, 2) := by decide +kernel
theorem dX10_one_202 : decode cX10_one 202 = .ok (.iload_n 3, 1) := by decide +kernel
theorem dX10_one_203 : decode cX10_one 203 = .ok (.imul, 1) := by decide +kernel
theorem dX10_one_204 : decode cX10_one 204 = .ok (.aload_n 0, 1) := by decide +kernel
theorem dX10_one_205 : decode cX10_one 205 = .ok (.invokevirtual 169, 3) := by decide +kernel
theorem dX10_one_208 : decode cX10_one 208 = .ok (.iadd, 1) := by decide +kernel
theorem dX10_one_209 : decode cX10_one 209 = .ok (.bipush 48, 2) := by decide +kernel
theorem dX10_one_211 : decode cX10_one 211 = .ok (.isub, 1) := by decide +kernel
theorem dX10_one_212 : decode cX10_one 212 = .ok (.istore_n 3, 1) := by decide +kernel
theorem dX10_one_213 : decode cX10_one 213 = .ok (.iinc 4 1, 3) := by decide +kernel
theorem dX10_one_216 : decode cX10_one 216 = .ok (.aload_n 0, 1) := by decide +kernel
theorem dX10_one_217 : decode cX10_one 217 = .ok (.dup, 1) := by decide +kernel
theorem dX10_one_218 : decode cX10_one 218 = .ok (.getfield 157, 3) := by decide +kernel
theorem dX10_one_221 : decode cX10_one 221 = .ok (.iconst 1, 1) := by decide +kernel
theorem dX10_one_222 : decode cX10_one 222 = .ok (.iadd, 1) := by decide +kernel
theorem dX10_one_223 : decode cX10_one 223 = .ok (.putfield 157, 3) := by decide +kernel
theorem dX10_one_226 : decode cX10_one 226 = .ok (.goto (-50), 3) := by decide +kernel
theorem dX10_one_229 : decode cX10_one 229 = .ok (.iload 4, 2) := by decide +kernel
theorem dX10_one_231 : decode cX10_one 231 = .ok (.ifCond .ne 10, 3) := by decide +kernel
theorem dX10_one_234 : decode cX10_one 234 = .ok (.aload_n 0, 1) := by decide +kernel
theorem dX10_one_235 : decode cX10_one 235 = .ok (.invokevirtual 194, 3) := by decide +kernel
theorem dX10_one_238 : decode cX10_one 238 = .ok (.goto 4, 3) := by decide +kernel
theorem dX10_one_241 : decode cX10_one 241 = .ok (.iload_n 3, 1) := by decide +kernel
theorem dX10_one_242 : decode cX10_one 242 = .ok (.ireturn, 1) := by decide +kernel
theorem dX10_workOut_0 : decode cX10_workOut 0 = .ok (.aload_n 0, 1) := by decide +kernel
theorem dX10_workOut_1 : decode cX10_workOut 1 = .ok (.iload_n 1, 1) := by decide +kernel
theorem dX10_workOut_2 : decode cX10_workOut 2 = .ok (.putfield 163, 3) := by decide +kernel
theorem dX10_workOut_5 : decode cX10_workOut 5 = .ok (.aload_n 0, 1) := by decide +kernel
theorem dX10_workOut_6 : decode cX10_workOut 6 = .ok (.iconst 0, 1) := by decide +kernel
theorem dX10_workOut_7 : decode cX10_workOut 7 = .ok (.putfield 157, 3) := by decide +kernel
theorem dX10_workOut_10 : decode cX10_workOut 10 = .ok (.aload_n 0, 1) := by decide +kernel
theorem dX10_workOut_11 : decode cX10_workOut 11 = .ok (.iload_n 2, 1) := by decide +kernel
theorem dX10_workOut_12 : decode cX10_workOut 12 = .ok (.putfield 160, 3) := by decide +kernel
theorem dX10_workOut_15 : decode cX10_workOut 15 = .ok (.aload_n 0, 1) := by decide +kernel
theorem dX10_workOut_16 : decode cX10_workOut 16 = .ok (.iconst (-1), 1) := by decide +kernel
theorem dX10_workOut_17 : decode cX10_workOut 17 = .ok (.putfield 166, 3) := by decide +kernel
theorem dX10_workOut_20 : decode cX10_workOut 20 = .ok (.aload_n 0, 1) := by decide +kernel
theorem dX10_workOut_21 : decode cX10_workOut 21 = .ok (.iconst 0, 1) := by decide +kernel
theorem dX10_workOut_22 : decode cX10_workOut 22 = .ok (.putfield 191, 3) := by decide +kernel
theorem dX10_workOut_25 : decode cX10_workOut 25 = .ok (.iconst 0, 1) := by decide +kernel
theorem dX10_workOut_26 : decode cX10_workOut 26 = .ok (.istore_n 3, 1) := by decide +kernel
theorem dX10_workOut_27 : decode cX10_workOut 27 = .ok (.iconst 0, 1) := by decide +kernel
theorem dX10_workOut_28 : decode cX10_workOut 28 = .ok (.istore 4, 2) := by decide +kernel
theorem dX10_workOut_30 : decode cX10_workOut 30 = .ok (.iconst 1, 1) := by decide +kernel
theorem dX10_workOut_31 : decode cX10_workOut 31 = .ok (.istore 5, 2) := by decide +kernel
theorem dX10_workOut_33 : decode cX10_workOut 33 = .ok (.iload 5, 2) := by decide +kernel
theorem dX10_workOut_35 : decode cX10_workOut 35 = .ok (.ifCond .eq 72, 3) := by decide +kernel
theorem dX10_workOut_38 : decode cX10_workOut 38 = .ok (.aload_n 0, 1) := by decide +kernel
theorem dX10_workOut_39 : decode cX10_workOut 39 = .ok (.invokevirtual 197, 3) := by decide +kernel
theorem dX10_workOut_42 : decode cX10_workOut 42 = .ok (.istore 6, 2) := by decide +kernel
theorem dX10_workOut_44 : decode cX10_workOut 44 = .ok (.iconst 1, 1) := by decide +kernel
theorem dX10_workOut_45 : decode cX10_workOut 45 = .ok (.istore 7, 2) := by decide +kernel
theorem dX10_workOut_47 : decode cX10_workOut 47 = .ok (.aload_n 0, 1) := by decide +kernel
theorem dX10_workOut_48 : decode cX10_workOut 48 = .ok (.bipush 63, 2) := by decide +kernel
theorem dX10_workOut_50 : decode cX10_workOut 50 = .ok (.invokevirtual 176, 3) := by decide +kernel
theorem dX10_workOut_53 : decode cX10_workOut 53 = .ok (.ifCond .eq 21, 3) := by decide +kernel
theorem dX10_workOut_56 : decode cX10_workOut 56 = .ok (.iload 6, 2) := by decide +kernel
theorem dX10_workOut_58 : decode cX10_workOut 58 = .ok (.ifCond .eq 7, 3) := by decide +kernel
theorem dX10_workOut_61 : decode cX10_workOut 61 = .ok (.iconst 1, 1) := by decide +kernel
theorem dX10_workOut_62 : decode cX10_workOut 62 = .ok (.goto 4, 3) := by decide +kernel
theorem dX10_workOut_65 : decode cX10_workOut 65 = .ok (.iconst 0, 1) := by decide +kernel
theorem dX10_workOut_66 : decode cX10_workOut 66 = .ok (.istore 7, 2) := by decide +kernel
theorem dX10_workOut_68 : decode cX10_workOut 68 = .ok (.aload_n 0, 1) := by decide +kernel
theorem dX10_workOut_69 : decode cX10_workOut 69 = .ok (.invokevirtual 197, 3) := by decide +kernel
theorem dX10_workOut_72 : decode cX10_workOut 72 = .ok (.istore 6, 2) := by decide +kernel
theorem dX10_workOut_74 : decode cX10_workOut 74 = .ok (.aload_n 0, 1) := by decide +kernel
theorem dX10_workOut_75 : decode cX10_workOut 75 = .ok (.getfield 166, 3) := by decide +kernel
theorem dX10_workOut_78 : decode cX10_workOut 78 = .ok (.ifCond .ge 18, 3) := by decide +kernel
theorem dX10_workOut_81 : decode cX10_workOut 81 = .ok (.iload 7, 2) := by decide +kernel
theorem dX10_workOut_83 : decode cX10_workOut 83 = .ok (.ifCond .eq 13, 3) := by decide +kernel
theorem dX10_workOut_86 : decode cX10_workOut 86 = .ok (.iload_n 3, 1) := by decide +kernel
theorem dX10_workOut_87 : decode cX10_workOut 87 = .ok (.ifCond .ne 9, 3) := by decide +kernel
theorem dX10_workOut_90 : decode cX10_workOut 90 = .ok (.iconst 1, 1) := by decide +kernel
theorem dX10_workOut_91 : decode cX10_workOut 91 = .ok (.istore_n 3, 1) := by decide +kernel
theorem dX10_workOut_92 : decode cX10_workOut 92 = .ok (.iload 6, 2) := by decide +kernel
theorem dX10_workOut_94 : decode cX10_workOut 94 = .ok (.istore 4, 2) := by decide +kernel
theorem dX10_workOut_96 : decode cX10_workOut 96 = .ok (.aload_n 0, 1) := by decide +kernel
theorem dX10_workOut_97 : decode cX10_workOut 97 = .ok (.bipush 59, 2) := by decide +kernel
theorem dX10_workOut_99 : decode cX10_workOut 99 = .ok (.invokevirtual 176, 3) := by decide +kernel
theorem dX10_workOut_102 : decode cX10_workOut 102 = .ok (.istore 5, 2) := by decide +kernel
theorem dX10_workOut_104 : decode cX10_workOut 104 = .ok (.goto (-71), 3) := by decide +kernel
theorem dX10_workOut_107 : decode cX10_workOut 107 = .ok (.aload_n 0, 1) := by decide +kernel
theorem dX10_workOut_108 : decode cX10_workOut 108 = .ok (.getfield 166, 3) := by decide +kernel
theorem dX10_workOut_111 : decode cX10_workOut 111 = .ok (.ifCond .ge 19, 3) := by decide +kernel
theorem dX10_workOut_114 : decode cX10_workOut 114 = .ok (.aload_n 0, 1) := by decide +kernel
theorem dX10_workOut_115 : decode cX10_workOut 115 = .ok (.getfield 157, 3) := by decide +kernel
theorem dX10_workOut_118 : decode cX10_workOut 118 = .ok (.aload_n 0, 1) := by decide +kernel
theorem dX10_workOut_119 : decode cX10_workOut 119 = .ok (.getfield 160, 3) := by decide +kernel
theorem dX10_workOut_122 : decode cX10_workOut 122 = .ok (.if_icmp .ge 8, 3) := by decide +kernel
theorem dX10_workOut_125 : decode cX10_workOut 125 = .ok (.aload_n 0, 1) := by decide +kernel
theorem dX10_workOut_126 : decode cX10_workOut 126 = .ok (.invokevirtual 194, 3) := by decide +kernel
theorem dX10_workOut_129 : decode cX10_workOut 129 = .ok (.ireturn, 1) := by decide +kernel
theorem dX10_workOut_130 : decode cX10_workOut 130 = .ok (.iload 4, 2) := by decide +kernel
theorem dX10_workOut_132 : decode cX10_workOut 132 = .ok (.ireturn, 1) := by decide +kernel
theorem dX10_law_0 : decode cX10_law 0 = .ok (.aload_n 0, 1) := by decide +kernel
theorem dX10_law_1 : decode cX10_law 1 = .ok (.iconst (-1), 1) := by decide +kernel
theorem dX10_law_2 : decode cX10_law 2 = .ok (.aload_n 0, 1) := by decide +kernel
theorem dX10_law_3 : decode cX10_law 3 = .ok (.getfield 154, 3) := by decide +kernel
theorem dX10_law_6 : decode cX10_law 6 = .ok (.invokevirtual 204, 3) := by decide +kernel
theorem dX10_law_9 : decode cX10_law 9 = .ok (.istore_n 1, 1) := by decide +kernel
theorem dX10_law_10 : decode cX10_law 10 = .ok (.aload_n 0, 1) := by decide +kernel
theorem dX10_law_11 : decode cX10_law 11 = .ok (.getfield 154, 3) := by decide +kernel
theorem dX10_law_14 : decode cX10_law 14 = .ok (.istore_n 2, 1) := by decide +kernel
theorem dX10_law_15 : decode cX10_law 15 = .ok (.aload_n 0, 1) := by decide +kernel
theorem dX10_law_16 : decode cX10_law 16 = .ok (.iconst 0, 1) := by decide +kernel
theorem dX10_law_17 : decode cX10_law 17 = .ok (.putfield 154, 3) := by decide +kernel
theorem dX10_law_20 : decode cX10_law 20 = .ok (.aload_n 0, 1) := by decide +kernel
theorem dX10_law_21 : decode cX10_law 21 = .ok (.getfield 166, 3) := by decide +kernel
theorem dX10_law_24 : decode cX10_law 24 = .ok (.ifCond .lt 11, 3) := by decide +kernel
theorem dX10_law_27 : decode cX10_law 27 = .ok (.bipush (-100), 2) := by decide +kernel
theorem dX10_law_29 : decode cX10_law 29 = .ok (.aload_n 0, 1) := by decide +kernel
theorem dX10_law_30 : decode cX10_law 30 = .ok (.getfield 166, 3) := by decide +kernel
theorem dX10_law_33 : decode cX10_law 33 = .ok (.isub, 1) := by decide +kernel
theorem dX10_law_34 : decode cX10_law 34 = .ok (.ireturn, 1) := by decide +kernel
theorem dX10_law_35 : decode cX10_law 35 = .ok (.iconst 0, 1) := by decide +kernel
theorem dX10_law_36 : decode cX10_law 36 = .ok (.istore_n 3, 1) := by decide +kernel
theorem dX10_law_37 : decode cX10_law 37 = .ok (.iload_n 3, 1) := by decide +kernel
theorem dX10_law_38 : decode cX10_law 38 = .ok (.iload_n 2, 1) := by decide +kernel
theorem dX10_law_39 : decode cX10_law 39 = .ok (.if_icmp .ge 21, 3) := by decide +kernel
theorem dX10_law_42 : decode cX10_law 42 = .ok (.aload_n 0, 1) := by decide +kernel
theorem dX10_law_43 : decode cX10_law 43 = .ok (.getfield 32, 3) := by decide +kernel
theorem dX10_law_46 : decode cX10_law 46 = .ok (.iload_n 3, 1) := by decide +kernel
theorem dX10_law_47 : decode cX10_law 47 = .ok (.aload_n 0, 1) := by decide +kernel
theorem dX10_law_48 : decode cX10_law 48 = .ok (.getfield 29, 3) := by decide +kernel
theorem dX10_law_51 : decode cX10_law 51 = .ok (.iload_n 3, 1) := by decide +kernel
theorem dX10_law_52 : decode cX10_law 52 = .ok (.iaload, 1) := by decide +kernel
theorem dX10_law_53 : decode cX10_law 53 = .ok (.iastore, 1) := by decide +kernel
theorem dX10_law_54 : decode cX10_law 54 = .ok (.iinc 3 1, 3) := by decide +kernel
theorem dX10_law_57 : decode cX10_law 57 = .ok (.goto (-20), 3) := by decide +kernel
theorem dX10_law_60 : decode cX10_law 60 = .ok (.aload_n 0, 1) := by decide +kernel
theorem dX10_law_61 : decode cX10_law 61 = .ok (.iload_n 2, 1) := by decide +kernel
theorem dX10_law_62 : decode cX10_law 62 = .ok (.putfield 84, 3) := by decide +kernel
theorem dX10_law_65 : decode cX10_law 65 = .ok (.iconst 1, 1) := by decide +kernel
theorem dX10_law_66 : decode cX10_law 66 = .ok (.ireturn, 1) := by decide +kernel
theorem dX10_worthFor_0 : decode cX10_worthFor 0 = .ok (.aload_n 0, 1) := by decide +kernel
theorem dX10_worthFor_1 : decode cX10_worthFor 1 = .ok (.getfield 9, 3) := by decide +kernel
theorem dX10_worthFor_4 : decode cX10_worthFor 4 = .ok (.iload_n 2, 1) := by decide +kernel
theorem dX10_worthFor_5 : decode cX10_worthFor 5 = .ok (.iaload, 1) := by decide +kernel
theorem dX10_worthFor_6 : decode cX10_worthFor 6 = .ok (.istore 4, 2) := by decide +kernel
theorem dX10_worthFor_8 : decode cX10_worthFor 8 = .ok (.aload_n 0, 1) := by decide +kernel
theorem dX10_worthFor_9 : decode cX10_worthFor 9 = .ok (.getfield 9, 3) := by decide +kernel
theorem dX10_worthFor_12 : decode cX10_worthFor 12 = .ok (.bipush 50, 2) := by decide +kernel
theorem dX10_worthFor_14 : decode cX10_worthFor 14 = .ok (.iload_n 1, 1) := by decide +kernel
theorem dX10_worthFor_15 : decode cX10_worthFor 15 = .ok (.iadd, 1) := by decide +kernel
theorem dX10_worthFor_16 : decode cX10_worthFor 16 = .ok (.iaload, 1) := by decide +kernel
theorem dX10_worthFor_17 : decode cX10_worthFor 17 = .ok (.iload_n 2, 1) := by decide +kernel
theorem dX10_worthFor_18 : decode cX10_worthFor 18 = .ok (.if_icmp .ne 7, 3) := by decide +kernel
theorem dX10_worthFor_21 : decode cX10_worthFor 21 = .ok (.iconst 1, 1) := by decide +kernel
theorem dX10_worthFor_22 : decode cX10_worthFor 22 = .ok (.goto 4, 3) := by decide +kernel
theorem dX10_worthFor_25 : decode cX10_worthFor 25 = .ok (.iconst 0, 1) := by decide +kernel
theorem dX10_worthFor_26 : decode cX10_worthFor 26 = .ok (.istore 5, 2) := by decide +kernel
theorem dX10_worthFor_28 : decode cX10_worthFor 28 = .ok (.iload 4, 2) := by decide +kernel
theorem dX10_worthFor_30 : decode cX10_worthFor 30 = .ok (.iload 5, 2) := by decide +kernel
theorem dX10_worthFor_32 : decode cX10_worthFor 32 = .ok (.iload 4, 2) := by decide +kernel
theorem dX10_worthFor_34 : decode cX10_worthFor 34 = .ok (.imul, 1) := by decide +kernel
theorem dX10_worthFor_35 : decode cX10_worthFor 35 = .ok (.iadd, 1) := by decide +kernel
theorem dX10_worthFor_36 : decode cX10_worthFor 36 = .ok (.istore 6, 2) := by decide +kernel
theorem dX10_worthFor_38 : decode cX10_worthFor 38 = .ok (.aload_n 0, 1) := by decide +kernel
theorem dX10_worthFor_39 : decode cX10_worthFor 39 = .ok (.getfield 84, 3) := by decide +kernel
theorem dX10_worthFor_42 : decode cX10_worthFor 42 = .ok (.ifCond .lt 100, 3) := by decide +kernel
theorem dX10_worthFor_45 : decode cX10_worthFor 45 = .ok (.iconst 0, 1) := by decide +kernel
theorem dX10_worthFor_46 : decode cX10_worthFor 46 = .ok (.istore 7, 2) := by decide +kernel
theorem dX10_worthFor_48 : decode cX10_worthFor 48 = .ok (.iconst 0, 1) := by decide +kernel
theorem dX10_worthFor_49 : decode cX10_worthFor 49 = .ok (.istore 8, 2) := by decide +kernel
theorem dX10_worthFor_51 : decode cX10_worthFor 51 = .ok (.iload 8, 2) := by decide +kernel
theorem dX10_worthFor_53 : decode cX10_worthFor 53 = .ok (.aload_n 0, 1) := by decide +kernel
theorem dX10_worthFor_54 : decode cX10_worthFor 54 = .ok (.getfield 100, 3) := by decide +kernel
theorem dX10_worthFor_57 : decode cX10_worthFor 57 = .ok (.if_icmp .ge 29, 3) := by decide +kernel
theorem dX10_worthFor_60 : decode cX10_worthFor 60 = .ok (.iload 7, 2) := by decide +kernel
theorem dX10_worthFor_62 : decode cX10_worthFor 62 = .ok (.aload_n 0, 1) := by decide +kernel
theorem dX10_worthFor_63 : decode cX10_worthFor 63 = .ok (.getfield 22, 3) := by decide +kernel
theorem dX10_worthFor_66 : decode cX10_worthFor 66 = .ok (.iload 8, 2) := by decide +kernel
theorem dX10_worthFor_68 : decode cX10_worthFor 68 = .ok (.iaload, 1) := by decide +kernel
theorem dX10_worthFor_69 : decode cX10_worthFor 69 = .ok (.ifCond .lt 7, 3) := by decide +kernel
theorem dX10_worthFor_72 : decode cX10_worthFor 72 = .ok (.iconst 1, 1) := by decide +kernel
theorem dX10_worthFor_73 : decode cX10_worthFor 73 = .ok (.goto 4, 3) := by decide +kernel
theorem dX10_worthFor_76 : decode cX10_worthFor 76 = .ok (.iconst 0, 1) := by decide +kernel
theorem dX10_worthFor_77 : decode cX10_worthFor 77 = .ok (.iadd, 1) := by decide +kernel
theorem dX10_worthFor_78 : decode cX10_worthFor 78 = .ok (.istore 7, 2) := by decide +kernel
theorem dX10_worthFor_80 : decode cX10_worthFor 80 = .ok (.iinc 8 1, 3) := by decide +kernel
theorem dX10_worthFor_83 : decode cX10_worthFor 83 = .ok (.goto (-32), 3) := by decide +kernel
theorem dX10_worthFor_86 : decode cX10_worthFor 86 = .ok (.aload_n 0, 1) := by decide +kernel
theorem dX10_worthFor_87 : decode cX10_worthFor 87 = .ok (.getfield 35, 3) := by decide +kernel
theorem dX10_worthFor_90 : decode cX10_worthFor 90 = .ok (.iconst 0, 1) := by decide +kernel
theorem dX10_worthFor_91 : decode cX10_worthFor 91 = .ok (.iload 4, 2) := by decide +kernel
theorem dX10_worthFor_93 : decode cX10_worthFor 93 = .ok (.iastore, 1) := by decide +kernel
theorem dX10_worthFor_94 : decode cX10_worthFor 94 = .ok (.aload_n 0, 1) := by decide +kernel
theorem dX10_worthFor_95 : decode cX10_worthFor 95 = .ok (.getfield 35, 3) := by decide +kernel
theorem dX10_worthFor_98 : decode cX10_worthFor 98 = .ok (.iconst 1, 1) := by decide +kernel
theorem dX10_worthFor_99 : decode cX10_worthFor 99 = .ok (.iload 5, 2) := by decide +kernel
theorem dX10_worthFor_101 : decode cX10_worthFor 101 = .ok (.iastore, 1) := by decide +kernel
theorem dX10_worthFor_102 : decode cX10_worthFor 102 = .ok (.aload_n 0, 1) := by decide +kernel
theorem dX10_worthFor_103 : decode cX10_worthFor 103 = .ok (.getfield 35, 3) := by decide +kernel
theorem dX10_worthFor_106 : decode cX10_worthFor 106 = .ok (.iconst 2, 1) := by decide +kernel
theorem dX10_worthFor_107 : decode cX10_worthFor 107 = .ok (.iload_n 3, 1) := by decide +kernel
theorem dX10_worthFor_108 : decode cX10_worthFor 108 = .ok (.iastore, 1) := by decide +kernel
theorem dX10_worthFor_109 : decode cX10_worthFor 109 = .ok (.aload_n 0, 1) := by decide +kernel
theorem dX10_worthFor_110 : decode cX10_worthFor 110 = .ok (.getfield 35, 3) := by decide +kernel
theorem dX10_worthFor_113 : decode cX10_worthFor 113 = .ok (.iconst 3, 1) := by decide +kernel
theorem dX10_worthFor_114 : decode cX10_worthFor 114 = .ok (.iload 7, 2) := by decide +kernel
theorem dX10_worthFor_116 : decode cX10_worthFor 116 = .ok (.iastore, 1) := by decide +kernel
theorem dX10_worthFor_117 : decode cX10_worthFor 117 = .ok (.aload_n 0, 1) := by decide +kernel
theorem dX10_worthFor_118 : decode cX10_worthFor 118 = .ok (.getfield 35, 3) := by decide +kernel
theorem dX10_worthFor_121 : decode cX10_worthFor 121 = .ok (.iconst 4, 1) := by decide +kernel
theorem dX10_worthFor_122 : decode cX10_worthFor 122 = .ok (.iload_n 2, 1) := by decide +kernel
theorem dX10_worthFor_123 : decode cX10_worthFor 123 = .ok (.iastore, 1) := by decide +kernel
theorem dX10_worthFor_124 : decode cX10_worthFor 124 = .ok (.aload_n 0, 1) := by decide +kernel
theorem dX10_worthFor_125 : decode cX10_worthFor 125 = .ok (.getfield 35, 3) := by decide +kernel
theorem dX10_worthFor_128 : decode cX10_worthFor 128 = .ok (.iconst 5, 1) := by decide +kernel
theorem dX10_worthFor_129 : decode cX10_worthFor 129 = .ok (.iload_n 1, 1) := by decide +kernel
theorem dX10_worthFor_130 : decode cX10_worthFor 130 = .ok (.iastore, 1) := by decide +kernel
theorem dX10_worthFor_131 : decode cX10_worthFor 131 = .ok (.aload_n 0, 1) := by decide +kernel
theorem dX10_worthFor_132 : decode cX10_worthFor 132 = .ok (.iconst 0, 1) := by decide +kernel
theorem dX10_worthFor_133 : decode cX10_worthFor 133 = .ok (.aload_n 0, 1) := by decide +kernel
theorem dX10_worthFor_134 : decode cX10_worthFor 134 = .ok (.getfield 84, 3) := by decide +kernel
theorem dX10_worthFor_137 : decode cX10_worthFor 137 = .ok (.invokevirtual 204, 3) := by decide +kernel
theorem dX10_worthFor_140 : decode cX10_worthFor 140 = .ok (.istore 6, 2) := by decide +kernel
theorem dX10_worthFor_142 : decode cX10_worthFor 142 = .ok (.iload 6, 2) := by decide +kernel
theorem dX10_worthFor_144 : decode cX10_worthFor 144 = .ok (.ifCond .ge 7, 3) := by decide +kernel
theorem dX10_worthFor_147 : decode cX10_worthFor 147 = .ok (.iconst 0, 1) := by decide +kernel
theorem dX10_worthFor_148 : decode cX10_worthFor 148 = .ok (.goto 19, 3) := by decide +kernel
theorem dX10_worthFor_151 : decode cX10_worthFor 151 = .ok (.iload 6, 2) := by decide +kernel
theorem dX10_worthFor_153 : decode cX10_worthFor 153 = .ok (.sipush 999, 3) := by decide +kernel
theorem dX10_worthFor_156 : decode cX10_worthFor 156 = .ok (.if_icmp .le 9, 3) := by decide +kernel
theorem dX10_worthFor_159 : decode cX10_worthFor 159 = .ok (.sipush 999, 3) := by decide +kernel
theorem dX10_worthFor_162 : decode cX10_worthFor 162 = .ok (.goto 5, 3) := by decide +kernel
theorem dX10_worthFor_165 : decode cX10_worthFor 165 = .ok (.iload 6, 2) := by decide +kernel
theorem dX10_worthFor_167 : decode cX10_worthFor 167 = .ok (.ireturn, 1) := by decide +kernel
theorem dX10_worthOf_0 : decode cX10_worthOf 0 = .ok (.aload_n 0, 1) := by decide +kernel
theorem dX10_worthOf_1 : decode cX10_worthOf 1 = .ok (.iload_n 1, 1) := by decide +kernel
theorem dX10_worthOf_2 : decode cX10_worthOf 2 = .ok (.i2l, 1) := by decide +kernel
theorem dX10_worthOf_3 : decode cX10_worthOf 3 = .ok (.invokevirtual 135, 3) := by decide +kernel
theorem dX10_worthOf_6 : decode cX10_worthOf 6 = .ok (.ifCond .eq 54, 3) := by decide +kernel
theorem dX10_worthOf_9 : decode cX10_worthOf 9 = .ok (.iload_n 2, 1) := by decide +kernel
theorem dX10_worthOf_10 : decode cX10_worthOf 10 = .ok (.ifCond .lt 50, 3) := by decide +kernel
theorem dX10_worthOf_13 : decode cX10_worthOf 13 = .ok (.aload_n 0, 1) := by decide +kernel
theorem dX10_worthOf_14 : decode cX10_worthOf 14 = .ok (.iload_n 2, 1) := by decide +kernel
theorem dX10_worthOf_15 : decode cX10_worthOf 15 = .ok (.bipush 10, 2) := by decide +kernel
theorem dX10_worthOf_17 : decode cX10_worthOf 17 = .ok (.idiv, 1) := by decide +kernel
theorem dX10_worthOf_18 : decode cX10_worthOf 18 = .ok (.i2l, 1) := by decide +kernel
theorem dX10_worthOf_19 : decode cX10_worthOf 19 = .ok (.invokevirtual 130, 3) := by decide +kernel
theorem dX10_worthOf_22 : decode cX10_worthOf 22 = .ok (.ifCond .eq 38, 3) := by decide +kernel
theorem dX10_worthOf_25 : decode cX10_worthOf 25 = .ok (.iload_n 2, 1) := by decide +kernel
theorem dX10_worthOf_26 : decode cX10_worthOf 26 = .ok (.bipush 10, 2) := by decide +kernel
theorem dX10_worthOf_28 : decode cX10_worthOf 28 = .ok (.irem, 1) := by decide +kernel
theorem dX10_worthOf_29 : decode cX10_worthOf 29 = .ok (.i2l, 1) := by decide +kernel
theorem dX10_worthOf_30 : decode cX10_worthOf 30 = .ok (.invokestatic 106, 3) := by decide +kernel
theorem dX10_worthOf_33 : decode cX10_worthOf 33 = .ok (.ifCond .eq 27, 3) := by decide +kernel
theorem dX10_worthOf_36 : decode cX10_worthOf 36 = .ok (.aload_n 0, 1) := by decide +kernel
theorem dX10_worthOf_37 : decode cX10_worthOf 37 = .ok (.iload_n 1, 1) := by decide +kernel
theorem dX10_worthOf_38 : decode cX10_worthOf 38 = .ok (.iload_n 2, 1) := by decide +kernel
theorem dX10_worthOf_39 : decode cX10_worthOf 39 = .ok (.bipush 10, 2) := by decide +kernel
theorem dX10_worthOf_41 : decode cX10_worthOf 41 = .ok (.irem, 1) := by decide +kernel
theorem dX10_worthOf_42 : decode cX10_worthOf 42 = .ok (.aload_n 0, 1) := by decide +kernel
theorem dX10_worthOf_43 : decode cX10_worthOf 43 = .ok (.getfield 9, 3) := by decide +kernel
theorem dX10_worthOf_46 : decode cX10_worthOf 46 = .ok (.bipush 34, 2) := by decide +kernel
theorem dX10_worthOf_48 : decode cX10_worthOf 48 = .ok (.iload_n 2, 1) := by decide +kernel
theorem dX10_worthOf_49 : decode cX10_worthOf 49 = .ok (.bipush 10, 2) := by decide +kernel
theorem dX10_worthOf_51 : decode cX10_worthOf 51 = .ok (.idiv, 1) := by decide +kernel
theorem dX10_worthOf_52 : decode cX10_worthOf 52 = .ok (.iadd, 1) := by decide +kernel
theorem dX10_worthOf_53 : decode cX10_worthOf 53 = .ok (.iaload, 1) := by decide +kernel
theorem dX10_worthOf_54 : decode cX10_worthOf 54 = .ok (.invokevirtual 207, 3) := by decide +kernel
theorem dX10_worthOf_57 : decode cX10_worthOf 57 = .ok (.goto 4, 3) := by decide +kernel
theorem dX10_worthOf_60 : decode cX10_worthOf 60 = .ok (.iconst (-1), 1) := by decide +kernel
theorem dX10_worthOf_61 : decode cX10_worthOf 61 = .ok (.ireturn, 1) := by decide +kernel
theorem dX10_bytesIs_0 : decode cX10_bytesIs 0 = .ok (.iload_n 1, 1) := by decide +kernel
theorem dX10_bytesIs_1 : decode cX10_bytesIs 1 = .ok (.invokestatic 114, 3) := by decide +kernel
theorem dX10_bytesIs_4 : decode cX10_bytesIs 4 = .ok (.ifCond .ne 7, 3) := by decide +kernel
theorem dX10_bytesIs_7 : decode cX10_bytesIs 7 = .ok (.iconst (-1), 1) := by decide +kernel
theorem dX10_bytesIs_8 : decode cX10_bytesIs 8 = .ok (.goto 34, 3) := by decide +kernel
theorem dX10_bytesIs_11 : decode cX10_bytesIs 11 = .ok (.aload_n 0, 1) := by decide +kernel
theorem dX10_bytesIs_12 : decode cX10_bytesIs 12 = .ok (.getfield 72, 3) := by decide +kernel
theorem dX10_bytesIs_15 : decode cX10_bytesIs 15 = .ok (.iload_n 1, 1) := by decide +kernel
theorem dX10_bytesIs_16 : decode cX10_bytesIs 16 = .ok (.iaload, 1) := by decide +kernel
theorem dX10_bytesIs_17 : decode cX10_bytesIs 17 = .ok (.ifCond .ge 8, 3) := by decide +kernel
theorem dX10_bytesIs_20 : decode cX10_bytesIs 20 = .ok (.bipush (-11), 2) := by decide +kernel
theorem dX10_bytesIs_22 : decode cX10_bytesIs 22 = .ok (.goto 20, 3) := by decide +kernel
theorem dX10_bytesIs_25 : decode cX10_bytesIs 25 = .ok (.aload_n 0, 1) := by decide +kernel
theorem dX10_bytesIs_26 : decode cX10_bytesIs 26 = .ok (.getfield 72, 3) := by decide +kernel
theorem dX10_bytesIs_29 : decode cX10_bytesIs 29 = .ok (.iload_n 1, 1) := by decide +kernel
theorem dX10_bytesIs_30 : decode cX10_bytesIs 30 = .ok (.iaload, 1) := by decide +kernel
theorem dX10_bytesIs_31 : decode cX10_bytesIs 31 = .ok (.bipush 50, 2) := by decide +kernel
theorem dX10_bytesIs_33 : decode cX10_bytesIs 33 = .ok (.if_icmp .ne 7, 3) := by decide +kernel
theorem dX10_bytesIs_36 : decode cX10_bytesIs 36 = .ok (.iconst 1, 1) := by decide +kernel
theorem dX10_bytesIs_37 : decode cX10_bytesIs 37 = .ok (.goto 5, 3) := by decide +kernel
theorem dX10_bytesIs_40 : decode cX10_bytesIs 40 = .ok (.bipush (-12), 2) := by decide +kernel
theorem dX10_bytesIs_42 : decode cX10_bytesIs 42 = .ok (.ireturn, 1) := by decide +kernel
theorem dX10_chance_0 : decode cX10_chance 0 = .ok (.aload_n 0, 1) := by decide +kernel
theorem dX10_chance_1 : decode cX10_chance 1 = .ok (.getfield 9, 3) := by decide +kernel
theorem dX10_chance_4 : decode cX10_chance 4 = .ok (.bipush 56, 2) := by decide +kernel
theorem dX10_chance_6 : decode cX10_chance 6 = .ok (.iload_n 1, 1) := by decide +kernel
theorem dX10_chance_7 : decode cX10_chance 7 = .ok (.iadd, 1) := by decide +kernel
theorem dX10_chance_8 : decode cX10_chance 8 = .ok (.iaload, 1) := by decide +kernel
theorem dX10_chance_9 : decode cX10_chance 9 = .ok (.istore 6, 2) := by decide +kernel
theorem dX10_chance_11 : decode cX10_chance 11 = .ok (.aload_n 0, 1) := by decide +kernel
theorem dX10_chance_12 : decode cX10_chance 12 = .ok (.getfield 9, 3) := by decide +kernel
theorem dX10_chance_15 : decode cX10_chance 15 = .ok (.bipush 6, 2) := by decide +kernel
theorem dX10_chance_17 : decode cX10_chance 17 = .ok (.bipush 6, 2) := by decide +kernel
theorem dX10_chance_19 : decode cX10_chance 19 = .ok (.iload_n 3, 1) := by decide +kernel
theorem dX10_chance_20 : decode cX10_chance 20 = .ok (.imul, 1) := by decide +kernel
theorem dX10_chance_21 : decode cX10_chance 21 = .ok (.iadd, 1) := by decide +kernel
theorem dX10_chance_22 : decode cX10_chance 22 = .ok (.iload_n 2, 1) := by decide +kernel
theorem dX10_chance_23 : decode cX10_chance 23 = .ok (.iadd, 1) := by decide +kernel
theorem dX10_chance_24 : decode cX10_chance 24 = .ok (.iaload, 1) := by decide +kernel
theorem dX10_chance_25 : decode cX10_chance 25 = .ok (.i2l, 1) := by decide +kernel
theorem dX10_chance_26 : decode cX10_chance 26 = .ok (.lload 4, 2) := by decide +kernel
theorem dX10_chance_28 : decode cX10_chance 28 = .ok (.lcmp, 1) := by decide +kernel
theorem dX10_chance_29 : decode cX10_chance 29 = .ok (.ifCond .ne 11, 3) := by decide +kernel
theorem dX10_chance_32 : decode cX10_chance 32 = .ok (.iconst 3, 1) := by decide +kernel
theorem dX10_chance_33 : decode cX10_chance 33 = .ok (.iload 6, 2) := by decide +kernel
theorem dX10_chance_35 : decode cX10_chance 35 = .ok (.imul, 1) := by decide +kernel
theorem dX10_chance_36 : decode cX10_chance 36 = .ok (.i2l, 1) := by decide +kernel
theorem dX10_chance_37 : decode cX10_chance 37 = .ok (.goto 9, 3) := by decide +kernel
theorem dX10_chance_40 : decode cX10_chance 40 = .ok (.bipush 12, 2) := by decide +kernel
theorem dX10_chance_42 : decode cX10_chance 42 = .ok (.iload 6, 2) := by decide +kernel
theorem dX10_chance_44 : decode cX10_chance 44 = .ok (.isub, 1) := by decide +kernel
theorem dX10_chance_45 : decode cX10_chance 45 = .ok (.i2l, 1) := by decide +kernel
theorem dX10_chance_46 : decode cX10_chance 46 = .ok (.lreturn, 1) := by decide +kernel
theorem dX10_weighs_0 : decode cX10_weighs 0 = .ok (.iconst 0, 1) := by decide +kernel
theorem dX10_weighs_1 : decode cX10_weighs 1 = .ok (.istore 4, 2) := by decide +kernel
theorem dX10_weighs_3 : decode cX10_weighs 3 = .ok (.iload 4, 2) := by decide +kernel
theorem dX10_weighs_5 : decode cX10_weighs 5 = .ok (.bipush 6, 2) := by decide +kernel
theorem dX10_weighs_7 : decode cX10_weighs 7 = .ok (.if_icmp .ge 44, 3) := by decide +kernel
theorem dX10_weighs_10 : decode cX10_weighs 10 = .ok (.aload_n 0, 1) := by decide +kernel
theorem dX10_weighs_11 : decode cX10_weighs 11 = .ok (.getfield 38, 3) := by decide +kernel
theorem dX10_weighs_14 : decode cX10_weighs 14 = .ok (.iload 4, 2) := by decide +kernel
theorem dX10_weighs_16 : decode cX10_weighs 16 = .ok (.aload_n 0, 1) := by decide +kernel
theorem dX10_weighs_17 : decode cX10_weighs 17 = .ok (.getfield 25, 3) := by decide +kernel
theorem dX10_weighs_20 : decode cX10_weighs 20 = .ok (.iload_n 3, 1) := by decide +kernel
theorem dX10_weighs_21 : decode cX10_weighs 21 = .ok (.baload, 1) := by decide +kernel
theorem dX10_weighs_22 : decode cX10_weighs 22 = .ok (.ifCond .eq 17, 3) := by decide +kernel
theorem dX10_weighs_25 : decode cX10_weighs 25 = .ok (.aload_n 0, 1) := by decide +kernel
theorem dX10_weighs_26 : decode cX10_weighs 26 = .ok (.getfield 9, 3) := by decide +kernel
theorem dX10_weighs_29 : decode cX10_weighs 29 = .ok (.bipush 24, 2) := by decide +kernel
theorem dX10_weighs_31 : decode cX10_weighs 31 = .ok (.iload_n 3, 1) := by decide +kernel
theorem dX10_weighs_32 : decode cX10_weighs 32 = .ok (.iadd, 1) := by decide +kernel
theorem dX10_weighs_33 : decode cX10_weighs 33 = .ok (.iaload, 1) := by decide +kernel
theorem dX10_weighs_34 : decode cX10_weighs 34 = .ok (.iload 4, 2) := by decide +kernel
theorem dX10_weighs_36 : decode cX10_weighs 36 = .ok (.if_icmp .ne 7, 3) := by decide +kernel
theorem dX10_weighs_39 : decode cX10_weighs 39 = .ok (.lconst 1, 1) := by decide +kernel
theorem dX10_weighs_40 : decode cX10_weighs 40 = .ok (.goto 4, 3) := by decide +kernel
theorem dX10_weighs_43 : decode cX10_weighs 43 = .ok (.lconst 0, 1) := by decide +kernel
theorem dX10_weighs_44 : decode cX10_weighs 44 = .ok (.lastore, 1) := by decide +kernel
theorem dX10_weighs_45 : decode cX10_weighs 45 = .ok (.iinc 4 1, 3) := by decide +kernel
theorem dX10_weighs_48 : decode cX10_weighs 48 = .ok (.goto (-45), 3) := by decide +kernel
theorem dX10_weighs_51 : decode cX10_weighs 51 = .ok (.iload_n 1, 1) := by decide +kernel
theorem dX10_weighs_52 : decode cX10_weighs 52 = .ok (.ifCond .lt 16, 3) := by decide +kernel
theorem dX10_weighs_55 : decode cX10_weighs 55 = .ok (.aload_n 0, 1) := by decide +kernel
theorem dX10_weighs_56 : decode cX10_weighs 56 = .ok (.getfield 25, 3) := by decide +kernel
theorem dX10_weighs_59 : decode cX10_weighs 59 = .ok (.iload_n 3, 1) := by decide +kernel
theorem dX10_weighs_60 : decode cX10_weighs 60 = .ok (.baload, 1) := by decide +kernel
theorem dX10_weighs_61 : decode cX10_weighs 61 = .ok (.ifCond .ne 7, 3) := by decide +kernel
theorem dX10_weighs_64 : decode cX10_weighs 64 = .ok (.iconst 1, 1) := by decide +kernel
theorem dX10_weighs_65 : decode cX10_weighs 65 = .ok (.goto 4, 3) := by decide +kernel
theorem dX10_weighs_68 : decode cX10_weighs 68 = .ok (.iconst 0, 1) := by decide +kernel
theorem dX10_weighs_69 : decode cX10_weighs 69 = .ok (.istore 4, 2) := by decide +kernel
theorem dX10_weighs_71 : decode cX10_weighs 71 = .ok (.iconst 0, 1) := by decide +kernel
theorem dX10_weighs_72 : decode cX10_weighs 72 = .ok (.istore 5, 2) := by decide +kernel
theorem dX10_weighs_74 : decode cX10_weighs 74 = .ok (.iload 5, 2) := by decide +kernel
theorem dX10_weighs_76 : decode cX10_weighs 76 = .ok (.bipush 6, 2) := by decide +kernel
theorem dX10_weighs_78 : decode cX10_weighs 78 = .ok (.if_icmp .ge 169, 3) := by decide +kernel
theorem dX10_weighs_81 : decode cX10_weighs 81 = .ok (.iload 4, 2) := by decide +kernel
theorem dX10_weighs_83 : decode cX10_weighs 83 = .ok (.ifCond .eq 164, 3) := by decide +kernel
theorem dX10_weighs_86 : decode cX10_weighs 86 = .ok (.bipush 60, 2) := by decide +kernel
theorem dX10_weighs_88 : decode cX10_weighs 88 = .ok (.iload_n 1, 1) := by decide +kernel
theorem dX10_weighs_89 : decode cX10_weighs 89 = .ok (.imul, 1) := by decide +kernel
theorem dX10_weighs_90 : decode cX10_weighs 90 = .ok (.iconst 3, 1) := by decide +kernel
theorem dX10_weighs_91 : decode cX10_weighs 91 = .ok (.iload 5, 2) := by decide +kernel
theorem dX10_weighs_93 : decode cX10_weighs 93 = .ok (.imul, 1) := by decide +kernel
theorem dX10_weighs_94 : decode cX10_weighs 94 = .ok (.iadd, 1) := by decide +kernel
theorem dX10_weighs_95 : decode cX10_weighs 95 = .ok (.istore 6, 2) := by decide +kernel
theorem dX10_weighs_97 : decode cX10_weighs 97 = .ok (.iconst 3, 1) := by decide +kernel
theorem dX10_weighs_98 : decode cX10_weighs 98 = .ok (.iload 5, 2) := by decide +kernel
theorem dX10_weighs_100 : decode cX10_weighs 100 = .ok (.imul, 1) := by decide +kernel
theorem dX10_weighs_101 : decode cX10_weighs 101 = .ok (.iconst 2, 1) := by decide +kernel
theorem dX10_weighs_102 : decode cX10_weighs 102 = .ok (.iadd, 1) := by decide +kernel
theorem dX10_weighs_103 : decode cX10_weighs 103 = .ok (.aload_n 0, 1) := by decide +kernel
theorem dX10_weighs_104 : decode cX10_weighs 104 = .ok (.getfield 75, 3) := by decide +kernel
theorem dX10_weighs_107 : decode cX10_weighs 107 = .ok (.iload_n 1, 1) := by decide +kernel
theorem dX10_weighs_108 : decode cX10_weighs 108 = .ok (.iaload, 1) := by decide +kernel
theorem dX10_weighs_109 : decode cX10_weighs 109 = .ok (.if_icmp .ge 59, 3) := by decide +kernel
theorem dX10_weighs_112 : decode cX10_weighs 112 = .ok (.aload_n 0, 1) := by decide +kernel
theorem dX10_weighs_113 : decode cX10_weighs 113 = .ok (.aload_n 0, 1) := by decide +kernel
theorem dX10_weighs_114 : decode cX10_weighs 114 = .ok (.getfield 78, 3) := by decide +kernel
theorem dX10_weighs_117 : decode cX10_weighs 117 = .ok (.iload 6, 2) := by decide +kernel
theorem dX10_weighs_119 : decode cX10_weighs 119 = .ok (.laload, 1) := by decide +kernel
theorem dX10_weighs_120 : decode cX10_weighs 120 = .ok (.invokevirtual 130, 3) := by decide +kernel
theorem dX10_weighs_123 : decode cX10_weighs 123 = .ok (.ifCond .eq 45, 3) := by decide +kernel
theorem dX10_weighs_126 : decode cX10_weighs 126 = .ok (.aload_n 0, 1) := by decide +kernel
theorem dX10_weighs_127 : decode cX10_weighs 127 = .ok (.getfield 78, 3) := by decide +kernel
theorem dX10_weighs_130 : decode cX10_weighs 130 = .ok (.iload 6, 2) := by decide +kernel
theorem dX10_weighs_132 : decode cX10_weighs 132 = .ok (.iconst 1, 1) := by decide +kernel
theorem dX10_weighs_133 : decode cX10_weighs 133 = .ok (.iadd, 1) := by decide +kernel
theorem dX10_weighs_134 : decode cX10_weighs 134 = .ok (.laload, 1) := by decide +kernel
theorem dX10_weighs_135 : decode cX10_weighs 135 = .ok (.lconst 0, 1) := by decide +kernel
theorem dX10_weighs_136 : decode cX10_weighs 136 = .ok (.ldc2_w 211, 3) := by decide +kernel
theorem dX10_weighs_139 : decode cX10_weighs 139 = .ok (.invokestatic 96, 3) := by decide +kernel
theorem dX10_weighs_142 : decode cX10_weighs 142 = .ok (.ifCond .eq 26, 3) := by decide +kernel
theorem dX10_weighs_145 : decode cX10_weighs 145 = .ok (.aload_n 0, 1) := by decide +kernel
theorem dX10_weighs_146 : decode cX10_weighs 146 = .ok (.getfield 78, 3) := by decide +kernel
theorem dX10_weighs_149 : decode cX10_weighs 149 = .ok (.iload 6, 2) := by decide +kernel
theorem dX10_weighs_151 : decode cX10_weighs 151 = .ok (.iconst 2, 1) := by decide +kernel
theorem dX10_weighs_152 : decode cX10_weighs 152 = .ok (.iadd, 1) := by decide +kernel
theorem dX10_weighs_153 : decode cX10_weighs 153 = .ok (.laload, 1) := by decide +kernel
theorem dX10_weighs_154 : decode cX10_weighs 154 = .ok (.lconst 0, 1) := by decide +kernel
theorem dX10_weighs_155 : decode cX10_weighs 155 = .ok (.ldc2_w 126, 3) := by decide +kernel
theorem dX10_weighs_158 : decode cX10_weighs 158 = .ok (.invokestatic 96, 3) := by decide +kernel
theorem dX10_weighs_161 : decode cX10_weighs 161 = .ok (.ifCond .eq 7, 3) := by decide +kernel
theorem dX10_weighs_164 : decode cX10_weighs 164 = .ok (.iconst 1, 1) := by decide +kernel
theorem dX10_weighs_165 : decode cX10_weighs 165 = .ok (.goto 4, 3) := by decide +kernel
theorem dX10_weighs_168 : decode cX10_weighs 168 = .ok (.iconst 0, 1) := by decide +kernel
theorem dX10_weighs_169 : decode cX10_weighs 169 = .ok (.istore 4, 2) := by decide +kernel
theorem dX10_weighs_171 : decode cX10_weighs 171 = .ok (.iconst 0, 1) := by decide +kernel
theorem dX10_weighs_172 : decode cX10_weighs 172 = .ok (.istore 7, 2) := by decide +kernel
theorem dX10_weighs_174 : decode cX10_weighs 174 = .ok (.iload 7, 2) := by decide +kernel
theorem dX10_weighs_176 : decode cX10_weighs 176 = .ok (.bipush 6, 2) := by decide +kernel
theorem dX10_weighs_178 : decode cX10_weighs 178 = .ok (.if_icmp .ge 63, 3) := by decide +kernel
theorem dX10_weighs_181 : decode cX10_weighs 181 = .ok (.iload 4, 2) := by decide +kernel
theorem dX10_weighs_183 : decode cX10_weighs 183 = .ok (.ifCond .eq 58, 3) := by decide +kernel
theorem dX10_weighs_186 : decode cX10_weighs 186 = .ok (.aload_n 0, 1) := by decide +kernel
theorem dX10_weighs_187 : decode cX10_weighs 187 = .ok (.getfield 78, 3) := by decide +kernel
theorem dX10_weighs_190 : decode cX10_weighs 190 = .ok (.iload 6, 2) := by decide +kernel
theorem dX10_weighs_192 : decode cX10_weighs 192 = .ok (.laload, 1) := by decide +kernel
theorem dX10_weighs_193 : decode cX10_weighs 193 = .ok (.iload_n 3, 1) := by decide +kernel
theorem dX10_weighs_194 : decode cX10_weighs 194 = .ok (.i2l, 1) := by decide +kernel
theorem dX10_weighs_195 : decode cX10_weighs 195 = .ok (.lcmp, 1) := by decide +kernel
theorem dX10_weighs_196 : decode cX10_weighs 196 = .ok (.ifCond .ne 45, 3) := by decide +kernel
theorem dX10_weighs_199 : decode cX10_weighs 199 = .ok (.aload_n 0, 1) := by decide +kernel
theorem dX10_weighs_200 : decode cX10_weighs 200 = .ok (.getfield 38, 3) := by decide +kernel
theorem dX10_weighs_203 : decode cX10_weighs 203 = .ok (.iload 7, 2) := by decide +kernel
theorem dX10_weighs_205 : decode cX10_weighs 205 = .ok (.dup2, 1) := by decide +kernel
theorem dX10_weighs_206 : decode cX10_weighs 206 = .ok (.laload, 1) := by decide +kernel
theorem dX10_weighs_207 : decode cX10_weighs 207 = .ok (.aload_n 0, 1) := by decide +kernel
theorem dX10_weighs_208 : decode cX10_weighs 208 = .ok (.iload_n 2, 1) := by decide +kernel
theorem dX10_weighs_209 : decode cX10_weighs 209 = .ok (.iload 7, 2) := by decide +kernel
theorem dX10_weighs_211 : decode cX10_weighs 211 = .ok (.aload_n 0, 1) := by decide +kernel
theorem dX10_weighs_212 : decode cX10_weighs 212 = .ok (.getfield 78, 3) := by decide +kernel
theorem dX10_weighs_215 : decode cX10_weighs 215 = .ok (.iload 6, 2) := by decide +kernel
theorem dX10_weighs_217 : decode cX10_weighs 217 = .ok (.iconst 1, 1) := by decide +kernel
theorem dX10_weighs_218 : decode cX10_weighs 218 = .ok (.iadd, 1) := by decide +kernel
theorem dX10_weighs_219 : decode cX10_weighs 219 = .ok (.laload, 1) := by decide +kernel
theorem dX10_weighs_220 : decode cX10_weighs 220 = .ok (.l2i, 1) := by decide +kernel
theorem dX10_weighs_221 : decode cX10_weighs 221 = .ok (.aload_n 0, 1) := by decide +kernel
theorem dX10_weighs_222 : decode cX10_weighs 222 = .ok (.getfield 78, 3) := by decide +kernel
theorem dX10_weighs_225 : decode cX10_weighs 225 = .ok (.iload 6, 2) := by decide +kernel
theorem dX10_weighs_227 : decode cX10_weighs 227 = .ok (.iconst 2, 1) := by decide +kernel
theorem dX10_weighs_228 : decode cX10_weighs 228 = .ok (.iadd, 1) := by decide +kernel
theorem dX10_weighs_229 : decode cX10_weighs 229 = .ok (.laload, 1) := by decide +kernel
theorem dX10_weighs_230 : decode cX10_weighs 230 = .ok (.invokevirtual 213, 3) := by decide +kernel
theorem dX10_weighs_233 : decode cX10_weighs 233 = .ok (.lmul, 1) := by decide +kernel
theorem dX10_weighs_234 : decode cX10_weighs 234 = .ok (.lastore, 1) := by decide +kernel
theorem dX10_weighs_235 : decode cX10_weighs 235 = .ok (.iinc 7 1, 3) := by decide +kernel
theorem dX10_weighs_238 : decode cX10_weighs 238 = .ok (.goto (-64), 3) := by decide +kernel
theorem dX10_weighs_241 : decode cX10_weighs 241 = .ok (.iinc 5 1, 3) := by decide +kernel
theorem dX10_weighs_244 : decode cX10_weighs 244 = .ok (.goto (-170), 3) := by decide +kernel
theorem dX10_weighs_247 : decode cX10_weighs 247 = .ok (.return_, 1) := by decide +kernel
theorem dX10_weightAll_0 : decode cX10_weightAll 0 = .ok (.lconst 0, 1) := by decide +kernel
theorem dX10_weightAll_1 : decode cX10_weightAll 1 = .ok (.lstore_n 1, 1) := by decide +kernel
theorem dX10_weightAll_2 : decode cX10_weightAll 2 = .ok (.iconst 0, 1) := by decide +kernel
theorem dX10_weightAll_3 : decode cX10_weightAll 3 = .ok (.istore_n 3, 1) := by decide +kernel
theorem dX10_weightAll_4 : decode cX10_weightAll 4 = .ok (.iload_n 3, 1) := by decide +kernel
theorem dX10_weightAll_5 : decode cX10_weightAll 5 = .ok (.bipush 6, 2) := by decide +kernel
theorem dX10_weightAll_7 : decode cX10_weightAll 7 = .ok (.if_icmp .ge 18, 3) := by decide +kernel
theorem dX10_weightAll_10 : decode cX10_weightAll 10 = .ok (.lload_n 1, 1) := by decide +kernel
theorem dX10_weightAll_11 : decode cX10_weightAll 11 = .ok (.aload_n 0, 1) := by decide +kernel
theorem dX10_weightAll_12 : decode cX10_weightAll 12 = .ok (.getfield 38, 3) := by decide +kernel
theorem dX10_weightAll_15 : decode cX10_weightAll 15 = .ok (.iload_n 3, 1) := by decide +kernel
theorem dX10_weightAll_16 : decode cX10_weightAll 16 = .ok (.laload, 1) := by decide +kernel
theorem dX10_weightAll_17 : decode cX10_weightAll 17 = .ok (.ladd, 1) := by decide +kernel
theorem dX10_weightAll_18 : decode cX10_weightAll 18 = .ok (.lstore_n 1, 1) := by decide +kernel
theorem dX10_weightAll_19 : decode cX10_weightAll 19 = .ok (.iinc 3 1, 3) := by decide +kernel
theorem dX10_weightAll_22 : decode cX10_weightAll 22 = .ok (.goto (-18), 3) := by decide +kernel
theorem dX10_weightAll_25 : decode cX10_weightAll 25 = .ok (.lload_n 1, 1) := by decide +kernel
theorem dX10_weightAll_26 : decode cX10_weightAll 26 = .ok (.lreturn, 1) := by decide +kernel
theorem dX10_heaviest_0 : decode cX10_heaviest 0 = .ok (.iconst 0, 1) := by decide +kernel
theorem dX10_heaviest_1 : decode cX10_heaviest 1 = .ok (.istore_n 1, 1) := by decide +kernel
theorem dX10_heaviest_2 : decode cX10_heaviest 2 = .ok (.iconst 1, 1) := by decide +kernel
theorem dX10_heaviest_3 : decode cX10_heaviest 3 = .ok (.istore_n 2, 1) := by decide +kernel
theorem dX10_heaviest_4 : decode cX10_heaviest 4 = .ok (.iload_n 2, 1) := by decide +kernel
theorem dX10_heaviest_5 : decode cX10_heaviest 5 = .ok (.bipush 6, 2) := by decide +kernel
theorem dX10_heaviest_7 : decode cX10_heaviest 7 = .ok (.if_icmp .ge 31, 3) := by decide +kernel
theorem dX10_heaviest_10 : decode cX10_heaviest 10 = .ok (.aload_n 0, 1) := by decide +kernel
theorem dX10_heaviest_11 : decode cX10_heaviest 11 = .ok (.getfield 38, 3) := by decide +kernel
theorem dX10_heaviest_14 : decode cX10_heaviest 14 = .ok (.iload_n 2, 1) := by decide +kernel
theorem dX10_heaviest_15 : decode cX10_heaviest 15 = .ok (.laload, 1) := by decide +kernel
theorem dX10_heaviest_16 : decode cX10_heaviest 16 = .ok (.aload_n 0, 1) := by decide +kernel
theorem dX10_heaviest_17 : decode cX10_heaviest 17 = .ok (.getfield 38, 3) := by decide +kernel
theorem dX10_heaviest_20 : decode cX10_heaviest 20 = .ok (.iload_n 1, 1) := by decide +kernel
theorem dX10_heaviest_21 : decode cX10_heaviest 21 = .ok (.laload, 1) := by decide +kernel
theorem dX10_heaviest_22 : decode cX10_heaviest 22 = .ok (.lcmp, 1) := by decide +kernel
theorem dX10_heaviest_23 : decode cX10_heaviest 23 = .ok (.ifCond .le 7, 3) := by decide +kernel
theorem dX10_heaviest_26 : decode cX10_heaviest 26 = .ok (.iload_n 2, 1) := by decide +kernel
theorem dX10_heaviest_27 : decode cX10_heaviest 27 = .ok (.goto 4, 3) := by decide +kernel
theorem dX10_heaviest_30 : decode cX10_heaviest 30 = .ok (.iload_n 1, 1) := by decide +kernel
theorem dX10_heaviest_31 : decode cX10_heaviest 31 = .ok (.istore_n 1, 1) := by decide +kernel
theorem dX10_heaviest_32 : decode cX10_heaviest 32 = .ok (.iinc 2 1, 3) := by decide +kernel
theorem dX10_heaviest_35 : decode cX10_heaviest 35 = .ok (.goto (-31), 3) := by decide +kernel
theorem dX10_heaviest_38 : decode cX10_heaviest 38 = .ok (.iload_n 1, 1) := by decide +kernel
theorem dX10_heaviest_39 : decode cX10_heaviest 39 = .ok (.ireturn, 1) := by decide +kernel
theorem dX10_partOf_0 : decode cX10_partOf 0 = .ok (.lload_n 0, 1) := by decide +kernel
theorem dX10_partOf_1 : decode cX10_partOf 1 = .ok (.lconst 0, 1) := by decide +kernel
theorem dX10_partOf_2 : decode cX10_partOf 2 = .ok (.lcmp, 1) := by decide +kernel
theorem dX10_partOf_3 : decode cX10_partOf 3 = .ok (.ifCond .ne 7, 3) := by decide +kernel
theorem dX10_partOf_6 : decode cX10_partOf 6 = .ok (.iload 4, 2) := by decide +kernel
theorem dX10_partOf_8 : decode cX10_partOf 8 = .ok (.i2l, 1) := by decide +kernel
theorem dX10_partOf_9 : decode cX10_partOf 9 = .ok (.lreturn, 1) := by decide +kernel
theorem dX10_partOf_10 : decode cX10_partOf 10 = .ok (.lload_n 0, 1) := by decide +kernel
theorem dX10_partOf_11 : decode cX10_partOf 11 = .ok (.lstore 5, 2) := by decide +kernel
theorem dX10_partOf_13 : decode cX10_partOf 13 = .ok (.lload_n 2, 1) := by decide +kernel
theorem dX10_partOf_14 : decode cX10_partOf 14 = .ok (.lstore 7, 2) := by decide +kernel
theorem dX10_partOf_16 : decode cX10_partOf 16 = .ok (.lload 7, 2) := by decide +kernel
theorem dX10_partOf_18 : decode cX10_partOf 18 = .ok (.lconst 0, 1) := by decide +kernel
theorem dX10_partOf_19 : decode cX10_partOf 19 = .ok (.lcmp, 1) := by decide +kernel
theorem dX10_partOf_20 : decode cX10_partOf 20 = .ok (.ifCond .eq 21, 3) := by decide +kernel
theorem dX10_partOf_23 : decode cX10_partOf 23 = .ok (.lload 5, 2) := by decide +kernel
theorem dX10_partOf_25 : decode cX10_partOf 25 = .ok (.lload 7, 2) := by decide +kernel
theorem dX10_partOf_27 : decode cX10_partOf 27 = .ok (.lrem, 1) := by decide +kernel
theorem dX10_partOf_28 : decode cX10_partOf 28 = .ok (.lstore 9, 2) := by decide +kernel
theorem dX10_partOf_30 : decode cX10_partOf 30 = .ok (.lload 7, 2) := by decide +kernel
theorem dX10_partOf_32 : decode cX10_partOf 32 = .ok (.lstore 5, 2) := by decide +kernel
theorem dX10_partOf_34 : decode cX10_partOf 34 = .ok (.lload 9, 2) := by decide +kernel
theorem dX10_partOf_36 : decode cX10_partOf 36 = .ok (.lstore 7, 2) := by decide +kernel
theorem dX10_partOf_38 : decode cX10_partOf 38 = .ok (.goto (-22), 3) := by decide +kernel
theorem dX10_partOf_41 : decode cX10_partOf 41 = .ok (.iload 4, 2) := by decide +kernel
theorem dX10_partOf_43 : decode cX10_partOf 43 = .ok (.ifCond .ne 10, 3) := by decide +kernel
theorem dX10_partOf_46 : decode cX10_partOf 46 = .ok (.lload_n 0, 1) := by decide +kernel
theorem dX10_partOf_47 : decode cX10_partOf 47 = .ok (.lload 5, 2) := by decide +kernel
theorem dX10_partOf_49 : decode cX10_partOf 49 = .ok (.ldiv, 1) := by decide +kernel
theorem dX10_partOf_50 : decode cX10_partOf 50 = .ok (.goto 7, 3) := by decide +kernel
theorem dX10_partOf_53 : decode cX10_partOf 53 = .ok (.lload_n 2, 1) := by decide +kernel
theorem dX10_partOf_54 : decode cX10_partOf 54 = .ok (.lload 5, 2) := by decide +kernel
theorem dX10_partOf_56 : decode cX10_partOf 56 = .ok (.ldiv, 1) := by decide +kernel
theorem dX10_partOf_57 : decode cX10_partOf 57 = .ok (.lreturn, 1) := by decide +kernel
theorem dX10_isBs_0 : decode cX10_isBs 0 = .ok (.iload_n 1, 1) := by decide +kernel
theorem dX10_isBs_1 : decode cX10_isBs 1 = .ok (.ifCond .lt 31, 3) := by decide +kernel
theorem dX10_isBs_4 : decode cX10_isBs 4 = .ok (.aload_n 0, 1) := by decide +kernel
theorem dX10_isBs_5 : decode cX10_isBs 5 = .ok (.iload_n 1, 1) := by decide +kernel
theorem dX10_isBs_6 : decode cX10_isBs 6 = .ok (.bipush 10, 2) := by decide +kernel
theorem dX10_isBs_8 : decode cX10_isBs 8 = .ok (.idiv, 1) := by decide +kernel
theorem dX10_isBs_9 : decode cX10_isBs 9 = .ok (.i2l, 1) := by decide +kernel
theorem dX10_isBs_10 : decode cX10_isBs 10 = .ok (.invokevirtual 135, 3) := by decide +kernel
theorem dX10_isBs_13 : decode cX10_isBs 13 = .ok (.ifCond .eq 19, 3) := by decide +kernel
theorem dX10_isBs_16 : decode cX10_isBs 16 = .ok (.aload_n 0, 1) := by decide +kernel
theorem dX10_isBs_17 : decode cX10_isBs 17 = .ok (.iload_n 1, 1) := by decide +kernel
theorem dX10_isBs_18 : decode cX10_isBs 18 = .ok (.bipush 10, 2) := by decide +kernel
theorem dX10_isBs_20 : decode cX10_isBs 20 = .ok (.irem, 1) := by decide +kernel
theorem dX10_isBs_21 : decode cX10_isBs 21 = .ok (.i2l, 1) := by decide +kernel
theorem dX10_isBs_22 : decode cX10_isBs 22 = .ok (.invokevirtual 130, 3) := by decide +kernel
theorem dX10_isBs_25 : decode cX10_isBs 25 = .ok (.ifCond .eq 7, 3) := by decide +kernel
theorem dX10_isBs_28 : decode cX10_isBs 28 = .ok (.iconst 1, 1) := by decide +kernel
theorem dX10_isBs_29 : decode cX10_isBs 29 = .ok (.goto 4, 3) := by decide +kernel
theorem dX10_isBs_32 : decode cX10_isBs 32 = .ok (.iconst 0, 1) := by decide +kernel
theorem dX10_isBs_33 : decode cX10_isBs 33 = .ok (.ireturn, 1) := by decide +kernel
theorem dX10_belief_0 : decode cX10_belief 0 = .ok (.aload_n 0, 1) := by decide +kernel
theorem dX10_belief_1 : decode cX10_belief 1 = .ok (.iload_n 1, 1) := by decide +kernel
theorem dX10_belief_2 : decode cX10_belief 2 = .ok (.invokevirtual 217, 3) := by decide +kernel
theorem dX10_belief_5 : decode cX10_belief 5 = .ok (.ifCond .lt 30, 3) := by decide +kernel
theorem dX10_belief_8 : decode cX10_belief 8 = .ok (.aload_n 0, 1) := by decide +kernel
theorem dX10_belief_9 : decode cX10_belief 9 = .ok (.iload_n 2, 1) := by decide +kernel
theorem dX10_belief_10 : decode cX10_belief 10 = .ok (.invokevirtual 220, 3) := by decide +kernel
theorem dX10_belief_13 : decode cX10_belief 13 = .ok (.ifCond .eq 22, 3) := by decide +kernel
theorem dX10_belief_16 : decode cX10_belief 16 = .ok (.iload_n 3, 1) := by decide +kernel
theorem dX10_belief_17 : decode cX10_belief 17 = .ok (.i2l, 1) := by decide +kernel
theorem dX10_belief_18 : decode cX10_belief 18 = .ok (.invokestatic 106, 3) := by decide +kernel
theorem dX10_belief_21 : decode cX10_belief 21 = .ok (.ifCond .eq 14, 3) := by decide +kernel
theorem dX10_belief_24 : decode cX10_belief 24 = .ok (.iload 4, 2) := by decide +kernel
theorem dX10_belief_26 : decode cX10_belief 26 = .ok (.i2l, 1) := by decide +kernel
theorem dX10_belief_27 : decode cX10_belief 27 = .ok (.lconst 0, 1) := by decide +kernel
theorem dX10_belief_28 : decode cX10_belief 28 = .ok (.lconst 1, 1) := by decide +kernel
theorem dX10_belief_29 : decode cX10_belief 29 = .ok (.invokestatic 96, 3) := by decide +kernel
theorem dX10_belief_32 : decode cX10_belief 32 = .ok (.ifCond .ne 7, 3) := by decide +kernel
theorem dX10_belief_35 : decode cX10_belief 35 = .ok (.ldc2_w 225, 3) := by decide +kernel
theorem dX10_belief_38 : decode cX10_belief 38 = .ok (.lreturn, 1) := by decide +kernel
theorem dX10_belief_39 : decode cX10_belief 39 = .ok (.aload_n 0, 1) := by decide +kernel
theorem dX10_belief_40 : decode cX10_belief 40 = .ok (.iload_n 1, 1) := by decide +kernel
theorem dX10_belief_41 : decode cX10_belief 41 = .ok (.iload_n 2, 1) := by decide +kernel
theorem dX10_belief_42 : decode cX10_belief 42 = .ok (.bipush 10, 2) := by decide +kernel
theorem dX10_belief_44 : decode cX10_belief 44 = .ok (.idiv, 1) := by decide +kernel
theorem dX10_belief_45 : decode cX10_belief 45 = .ok (.iload_n 2, 1) := by decide +kernel
theorem dX10_belief_46 : decode cX10_belief 46 = .ok (.bipush 10, 2) := by decide +kernel
theorem dX10_belief_48 : decode cX10_belief 48 = .ok (.irem, 1) := by decide +kernel
theorem dX10_belief_49 : decode cX10_belief 49 = .ok (.invokevirtual 227, 3) := by decide +kernel
theorem dX10_belief_52 : decode cX10_belief 52 = .ok (.aload_n 0, 1) := by decide +kernel
theorem dX10_belief_53 : decode cX10_belief 53 = .ok (.getfield 38, 3) := by decide +kernel
theorem dX10_belief_56 : decode cX10_belief 56 = .ok (.iload_n 3, 1) := by decide +kernel
theorem dX10_belief_57 : decode cX10_belief 57 = .ok (.laload, 1) := by decide +kernel
theorem dX10_belief_58 : decode cX10_belief 58 = .ok (.aload_n 0, 1) := by decide +kernel
theorem dX10_belief_59 : decode cX10_belief 59 = .ok (.invokevirtual 231, 3) := by decide +kernel
theorem dX10_belief_62 : decode cX10_belief 62 = .ok (.iload 4, 2) := by decide +kernel
theorem dX10_belief_64 : decode cX10_belief 64 = .ok (.invokestatic 235, 3) := by decide +kernel
theorem dX10_belief_67 : decode cX10_belief 67 = .ok (.lreturn, 1) := by decide +kernel
theorem dX10_worthAll_0 : decode cX10_worthAll 0 = .ok (.lconst 0, 1) := by decide +kernel
theorem dX10_worthAll_1 : decode cX10_worthAll 1 = .ok (.lstore 4, 2) := by decide +kernel
theorem dX10_worthAll_3 : decode cX10_worthAll 3 = .ok (.iconst 0, 1) := by decide +kernel
theorem dX10_worthAll_4 : decode cX10_worthAll 4 = .ok (.istore 6, 2) := by decide +kernel
theorem dX10_worthAll_6 : decode cX10_worthAll 6 = .ok (.iload 6, 2) := by decide +kernel
theorem dX10_worthAll_8 : decode cX10_worthAll 8 = .ok (.bipush 6, 2) := by decide +kernel
theorem dX10_worthAll_10 : decode cX10_worthAll 10 = .ok (.if_icmp .ge 31, 3) := by decide +kernel
theorem dX10_worthAll_13 : decode cX10_worthAll 13 = .ok (.lload 4, 2) := by decide +kernel
theorem dX10_worthAll_15 : decode cX10_worthAll 15 = .ok (.aload_n 0, 1) := by decide +kernel
theorem dX10_worthAll_16 : decode cX10_worthAll 16 = .ok (.getfield 38, 3) := by decide +kernel
theorem dX10_worthAll_19 : decode cX10_worthAll 19 = .ok (.iload 6, 2) := by decide +kernel
theorem dX10_worthAll_21 : decode cX10_worthAll 21 = .ok (.laload, 1) := by decide +kernel
theorem dX10_worthAll_22 : decode cX10_worthAll 22 = .ok (.aload_n 0, 1) := by decide +kernel
theorem dX10_worthAll_23 : decode cX10_worthAll 23 = .ok (.iload_n 1, 1) := by decide +kernel
theorem dX10_worthAll_24 : decode cX10_worthAll 24 = .ok (.iload 6, 2) := by decide +kernel
theorem dX10_worthAll_26 : decode cX10_worthAll 26 = .ok (.iload_n 3, 1) := by decide +kernel
theorem dX10_worthAll_27 : decode cX10_worthAll 27 = .ok (.invokevirtual 207, 3) := by decide +kernel
theorem dX10_worthAll_30 : decode cX10_worthAll 30 = .ok (.i2l, 1) := by decide +kernel
theorem dX10_worthAll_31 : decode cX10_worthAll 31 = .ok (.lmul, 1) := by decide +kernel
theorem dX10_worthAll_32 : decode cX10_worthAll 32 = .ok (.ladd, 1) := by decide +kernel
theorem dX10_worthAll_33 : decode cX10_worthAll 33 = .ok (.lstore 4, 2) := by decide +kernel
theorem dX10_worthAll_35 : decode cX10_worthAll 35 = .ok (.iinc 6 1, 3) := by decide +kernel
theorem dX10_worthAll_38 : decode cX10_worthAll 38 = .ok (.goto (-32), 3) := by decide +kernel
theorem dX10_worthAll_41 : decode cX10_worthAll 41 = .ok (.lload 4, 2) := by decide +kernel
theorem dX10_worthAll_43 : decode cX10_worthAll 43 = .ok (.lreturn, 1) := by decide +kernel
theorem dX10_likeliest_0 : decode cX10_likeliest 0 = .ok (.aload_n 0, 1) := by decide +kernel
theorem dX10_likeliest_1 : decode cX10_likeliest 1 = .ok (.iload_n 1, 1) := by decide +kernel
theorem dX10_likeliest_2 : decode cX10_likeliest 2 = .ok (.invokevirtual 217, 3) := by decide +kernel
theorem dX10_likeliest_5 : decode cX10_likeliest 5 = .ok (.iconst (-1), 1) := by decide +kernel
theorem dX10_likeliest_6 : decode cX10_likeliest 6 = .ok (.if_icmp .eq 21, 3) := by decide +kernel
theorem dX10_likeliest_9 : decode cX10_likeliest 9 = .ok (.aload_n 0, 1) := by decide +kernel
theorem dX10_likeliest_10 : decode cX10_likeliest 10 = .ok (.iload_n 2, 1) := by decide +kernel
theorem dX10_likeliest_11 : decode cX10_likeliest 11 = .ok (.invokevirtual 220, 3) := by decide +kernel
theorem dX10_likeliest_14 : decode cX10_likeliest 14 = .ok (.ifCond .eq 13, 3) := by decide +kernel
theorem dX10_likeliest_17 : decode cX10_likeliest 17 = .ok (.iload_n 3, 1) := by decide +kernel
theorem dX10_likeliest_18 : decode cX10_likeliest 18 = .ok (.i2l, 1) := by decide +kernel
theorem dX10_likeliest_19 : decode cX10_likeliest 19 = .ok (.lconst 0, 1) := by decide +kernel
theorem dX10_likeliest_20 : decode cX10_likeliest 20 = .ok (.lconst 1, 1) := by decide +kernel
theorem dX10_likeliest_21 : decode cX10_likeliest 21 = .ok (.invokestatic 96, 3) := by decide +kernel
theorem dX10_likeliest_24 : decode cX10_likeliest 24 = .ok (.ifCond .ne 5, 3) := by decide +kernel
theorem dX10_likeliest_27 : decode cX10_likeliest 27 = .ok (.iconst (-1), 1) := by decide +kernel
theorem dX10_likeliest_28 : decode cX10_likeliest 28 = .ok (.ireturn, 1) := by decide +kernel
theorem dX10_likeliest_29 : decode cX10_likeliest 29 = .ok (.aload_n 0, 1) := by decide +kernel
theorem dX10_likeliest_30 : decode cX10_likeliest 30 = .ok (.iload_n 1, 1) := by decide +kernel
theorem dX10_likeliest_31 : decode cX10_likeliest 31 = .ok (.invokevirtual 217, 3) := by decide +kernel
theorem dX10_likeliest_34 : decode cX10_likeliest 34 = .ok (.ifCond .ge 9, 3) := by decide +kernel
theorem dX10_likeliest_37 : decode cX10_likeliest 37 = .ok (.aload_n 0, 1) := by decide +kernel
theorem dX10_likeliest_38 : decode cX10_likeliest 38 = .ok (.iload_n 1, 1) := by decide +kernel
theorem dX10_likeliest_39 : decode cX10_likeliest 39 = .ok (.invokevirtual 217, 3) := by decide +kernel
theorem dX10_likeliest_42 : decode cX10_likeliest 42 = .ok (.ireturn, 1) := by decide +kernel
theorem dX10_likeliest_43 : decode cX10_likeliest 43 = .ok (.aload_n 0, 1) := by decide +kernel
theorem dX10_likeliest_44 : decode cX10_likeliest 44 = .ok (.iload_n 1, 1) := by decide +kernel
theorem dX10_likeliest_45 : decode cX10_likeliest 45 = .ok (.iload_n 2, 1) := by decide +kernel
theorem dX10_likeliest_46 : decode cX10_likeliest 46 = .ok (.bipush 10, 2) := by decide +kernel
theorem dX10_likeliest_48 : decode cX10_likeliest 48 = .ok (.idiv, 1) := by decide +kernel
theorem dX10_likeliest_49 : decode cX10_likeliest 49 = .ok (.iload_n 2, 1) := by decide +kernel
theorem dX10_likeliest_50 : decode cX10_likeliest 50 = .ok (.bipush 10, 2) := by decide +kernel
theorem dX10_likeliest_52 : decode cX10_likeliest 52 = .ok (.irem, 1) := by decide +kernel
theorem dX10_likeliest_53 : decode cX10_likeliest 53 = .ok (.invokevirtual 227, 3) := by decide +kernel
theorem dX10_likeliest_56 : decode cX10_likeliest 56 = .ok (.aload_n 0, 1) := by decide +kernel
theorem dX10_likeliest_57 : decode cX10_likeliest 57 = .ok (.getfield 9, 3) := by decide +kernel
theorem dX10_likeliest_60 : decode cX10_likeliest 60 = .ok (.bipush 34, 2) := by decide +kernel
theorem dX10_likeliest_62 : decode cX10_likeliest 62 = .ok (.iload_n 2, 1) := by decide +kernel
theorem dX10_likeliest_63 : decode cX10_likeliest 63 = .ok (.bipush 10, 2) := by decide +kernel
theorem dX10_likeliest_65 : decode cX10_likeliest 65 = .ok (.irem, 1) := by decide +kernel
theorem dX10_likeliest_66 : decode cX10_likeliest 66 = .ok (.iadd, 1) := by decide +kernel
theorem dX10_likeliest_67 : decode cX10_likeliest 67 = .ok (.iaload, 1) := by decide +kernel
theorem dX10_likeliest_68 : decode cX10_likeliest 68 = .ok (.istore 4, 2) := by decide +kernel
theorem dX10_likeliest_70 : decode cX10_likeliest 70 = .ok (.iload_n 3, 1) := by decide +kernel
theorem dX10_likeliest_71 : decode cX10_likeliest 71 = .ok (.ifCond .ne 10, 3) := by decide +kernel
theorem dX10_likeliest_74 : decode cX10_likeliest 74 = .ok (.aload_n 0, 1) := by decide +kernel
theorem dX10_likeliest_75 : decode cX10_likeliest 75 = .ok (.invokevirtual 239, 3) := by decide +kernel
theorem dX10_likeliest_78 : decode cX10_likeliest 78 = .ok (.goto 34, 3) := by decide +kernel
theorem dX10_likeliest_81 : decode cX10_likeliest 81 = .ok (.aload_n 0, 1) := by decide +kernel
theorem dX10_likeliest_82 : decode cX10_likeliest 82 = .ok (.iload_n 2, 1) := by decide +kernel
theorem dX10_likeliest_83 : decode cX10_likeliest 83 = .ok (.bipush 10, 2) := by decide +kernel
theorem dX10_likeliest_85 : decode cX10_likeliest 85 = .ok (.idiv, 1) := by decide +kernel
theorem dX10_likeliest_86 : decode cX10_likeliest 86 = .ok (.iload_n 2, 1) := by decide +kernel
theorem dX10_likeliest_87 : decode cX10_likeliest 87 = .ok (.bipush 10, 2) := by decide +kernel
theorem dX10_likeliest_89 : decode cX10_likeliest 89 = .ok (.irem, 1) := by decide +kernel
theorem dX10_likeliest_90 : decode cX10_likeliest 90 = .ok (.iload 4, 2) := by decide +kernel
theorem dX10_likeliest_92 : decode cX10_likeliest 92 = .ok (.invokevirtual 242, 3) := by decide +kernel
theorem dX10_likeliest_95 : decode cX10_likeliest 95 = .ok (.iload 4, 2) := by decide +kernel
theorem dX10_likeliest_97 : decode cX10_likeliest 97 = .ok (.i2l, 1) := by decide +kernel
theorem dX10_likeliest_98 : decode cX10_likeliest 98 = .ok (.aload_n 0, 1) := by decide +kernel
theorem dX10_likeliest_99 : decode cX10_likeliest 99 = .ok (.invokevirtual 231, 3) := by decide +kernel
theorem dX10_likeliest_102 : decode cX10_likeliest 102 = .ok (.lmul, 1) := by decide +kernel
theorem dX10_likeliest_103 : decode cX10_likeliest 103 = .ok (.lcmp, 1) := by decide +kernel
theorem dX10_likeliest_104 : decode cX10_likeliest 104 = .ok (.ifCond .le 7, 3) := by decide +kernel
theorem dX10_likeliest_107 : decode cX10_likeliest 107 = .ok (.iconst 1, 1) := by decide +kernel
theorem dX10_likeliest_108 : decode cX10_likeliest 108 = .ok (.goto 4, 3) := by decide +kernel
theorem dX10_likeliest_111 : decode cX10_likeliest 111 = .ok (.iconst 0, 1) := by decide +kernel
theorem dX10_likeliest_112 : decode cX10_likeliest 112 = .ok (.ireturn, 1) := by decide +kernel
theorem dX10_worth_0 : decode cX10_worth 0 = .ok (.aload_n 0, 1) := by decide +kernel
theorem dX10_worth_1 : decode cX10_worth 1 = .ok (.iload_n 1, 1) := by decide +kernel
theorem dX10_worth_2 : decode cX10_worth 2 = .ok (.invokevirtual 217, 3) := by decide +kernel
theorem dX10_worth_5 : decode cX10_worth 5 = .ok (.ifCond .lt 21, 3) := by decide +kernel
theorem dX10_worth_8 : decode cX10_worth 8 = .ok (.aload_n 0, 1) := by decide +kernel
theorem dX10_worth_9 : decode cX10_worth 9 = .ok (.iload_n 2, 1) := by decide +kernel
theorem dX10_worth_10 : decode cX10_worth 10 = .ok (.invokevirtual 220, 3) := by decide +kernel
theorem dX10_worth_13 : decode cX10_worth 13 = .ok (.ifCond .eq 13, 3) := by decide +kernel
theorem dX10_worth_16 : decode cX10_worth 16 = .ok (.iload_n 3, 1) := by decide +kernel
theorem dX10_worth_17 : decode cX10_worth 17 = .ok (.i2l, 1) := by decide +kernel
theorem dX10_worth_18 : decode cX10_worth 18 = .ok (.lconst 0, 1) := by decide +kernel
theorem dX10_worth_19 : decode cX10_worth 19 = .ok (.lconst 1, 1) := by decide +kernel
theorem dX10_worth_20 : decode cX10_worth 20 = .ok (.invokestatic 96, 3) := by decide +kernel
theorem dX10_worth_23 : decode cX10_worth 23 = .ok (.ifCond .ne 7, 3) := by decide +kernel
theorem dX10_worth_26 : decode cX10_worth 26 = .ok (.ldc2_w 225, 3) := by decide +kernel
theorem dX10_worth_29 : decode cX10_worth 29 = .ok (.lreturn, 1) := by decide +kernel
theorem dX10_worth_30 : decode cX10_worth 30 = .ok (.aload_n 0, 1) := by decide +kernel
theorem dX10_worth_31 : decode cX10_worth 31 = .ok (.iload_n 1, 1) := by decide +kernel
theorem dX10_worth_32 : decode cX10_worth 32 = .ok (.iload_n 2, 1) := by decide +kernel
theorem dX10_worth_33 : decode cX10_worth 33 = .ok (.bipush 10, 2) := by decide +kernel
theorem dX10_worth_35 : decode cX10_worth 35 = .ok (.idiv, 1) := by decide +kernel
theorem dX10_worth_36 : decode cX10_worth 36 = .ok (.iload_n 2, 1) := by decide +kernel
theorem dX10_worth_37 : decode cX10_worth 37 = .ok (.bipush 10, 2) := by decide +kernel
theorem dX10_worth_39 : decode cX10_worth 39 = .ok (.irem, 1) := by decide +kernel
theorem dX10_worth_40 : decode cX10_worth 40 = .ok (.invokevirtual 227, 3) := by decide +kernel
theorem dX10_worth_43 : decode cX10_worth 43 = .ok (.aload_n 0, 1) := by decide +kernel
theorem dX10_worth_44 : decode cX10_worth 44 = .ok (.iload_n 2, 1) := by decide +kernel
theorem dX10_worth_45 : decode cX10_worth 45 = .ok (.bipush 10, 2) := by decide +kernel
theorem dX10_worth_47 : decode cX10_worth 47 = .ok (.idiv, 1) := by decide +kernel
theorem dX10_worth_48 : decode cX10_worth 48 = .ok (.iload_n 2, 1) := by decide +kernel
theorem dX10_worth_49 : decode cX10_worth 49 = .ok (.bipush 10, 2) := by decide +kernel
theorem dX10_worth_51 : decode cX10_worth 51 = .ok (.irem, 1) := by decide +kernel
theorem dX10_worth_52 : decode cX10_worth 52 = .ok (.aload_n 0, 1) := by decide +kernel
theorem dX10_worth_53 : decode cX10_worth 53 = .ok (.getfield 9, 3) := by decide +kernel
theorem dX10_worth_56 : decode cX10_worth 56 = .ok (.bipush 34, 2) := by decide +kernel
theorem dX10_worth_58 : decode cX10_worth 58 = .ok (.iload_n 2, 1) := by decide +kernel
theorem dX10_worth_59 : decode cX10_worth 59 = .ok (.bipush 10, 2) := by decide +kernel
theorem dX10_worth_61 : decode cX10_worth 61 = .ok (.irem, 1) := by decide +kernel
theorem dX10_worth_62 : decode cX10_worth 62 = .ok (.iadd, 1) := by decide +kernel
theorem dX10_worth_63 : decode cX10_worth 63 = .ok (.iaload, 1) := by decide +kernel
theorem dX10_worth_64 : decode cX10_worth 64 = .ok (.invokevirtual 242, 3) := by decide +kernel
theorem dX10_worth_67 : decode cX10_worth 67 = .ok (.aload_n 0, 1) := by decide +kernel
theorem dX10_worth_68 : decode cX10_worth 68 = .ok (.invokevirtual 231, 3) := by decide +kernel
theorem dX10_worth_71 : decode cX10_worth 71 = .ok (.iload_n 3, 1) := by decide +kernel
theorem dX10_worth_72 : decode cX10_worth 72 = .ok (.invokestatic 235, 3) := by decide +kernel
theorem dX10_worth_75 : decode cX10_worth 75 = .ok (.lreturn, 1) := by decide +kernel
theorem dX10_rightBy_0 : decode cX10_rightBy 0 = .ok (.lconst 0, 1) := by decide +kernel
theorem dX10_rightBy_1 : decode cX10_rightBy 1 = .ok (.lstore_n 3, 1) := by decide +kernel
theorem dX10_rightBy_2 : decode cX10_rightBy 2 = .ok (.iconst 0, 1) := by decide +kernel
theorem dX10_rightBy_3 : decode cX10_rightBy 3 = .ok (.istore 5, 2) := by decide +kernel
theorem dX10_rightBy_5 : decode cX10_rightBy 5 = .ok (.iload 5, 2) := by decide +kernel
theorem dX10_rightBy_7 : decode cX10_rightBy 7 = .ok (.iconst 4, 1) := by decide +kernel
theorem dX10_rightBy_8 : decode cX10_rightBy 8 = .ok (.if_icmp .ge 71, 3) := by decide +kernel
theorem dX10_rightBy_11 : decode cX10_rightBy 11 = .ok (.lconst 0, 1) := by decide +kernel
theorem dX10_rightBy_12 : decode cX10_rightBy 12 = .ok (.lstore 6, 2) := by decide +kernel
theorem dX10_rightBy_14 : decode cX10_rightBy 14 = .ok (.iconst 0, 1) := by decide +kernel
theorem dX10_rightBy_15 : decode cX10_rightBy 15 = .ok (.istore 8, 2) := by decide +kernel
theorem dX10_rightBy_17 : decode cX10_rightBy 17 = .ok (.iload 8, 2) := by decide +kernel
theorem dX10_rightBy_19 : decode cX10_rightBy 19 = .ok (.bipush 6, 2) := by decide +kernel
theorem dX10_rightBy_21 : decode cX10_rightBy 21 = .ok (.if_icmp .ge 47, 3) := by decide +kernel
theorem dX10_rightBy_24 : decode cX10_rightBy 24 = .ok (.aload_n 0, 1) := by decide +kernel
theorem dX10_rightBy_25 : decode cX10_rightBy 25 = .ok (.getfield 38, 3) := by decide +kernel
theorem dX10_rightBy_28 : decode cX10_rightBy 28 = .ok (.iload 8, 2) := by decide +kernel
theorem dX10_rightBy_30 : decode cX10_rightBy 30 = .ok (.laload, 1) := by decide +kernel
theorem dX10_rightBy_31 : decode cX10_rightBy 31 = .ok (.aload_n 0, 1) := by decide +kernel
theorem dX10_rightBy_32 : decode cX10_rightBy 32 = .ok (.iload_n 1, 1) := by decide +kernel
theorem dX10_rightBy_33 : decode cX10_rightBy 33 = .ok (.iload 8, 2) := by decide +kernel
theorem dX10_rightBy_35 : decode cX10_rightBy 35 = .ok (.iload_n 2, 1) := by decide +kernel
theorem dX10_rightBy_36 : decode cX10_rightBy 36 = .ok (.iload 5, 2) := by decide +kernel
theorem dX10_rightBy_38 : decode cX10_rightBy 38 = .ok (.i2l, 1) := by decide +kernel
theorem dX10_rightBy_39 : decode cX10_rightBy 39 = .ok (.invokevirtual 213, 3) := by decide +kernel
theorem dX10_rightBy_42 : decode cX10_rightBy 42 = .ok (.lmul, 1) := by decide +kernel
theorem dX10_rightBy_43 : decode cX10_rightBy 43 = .ok (.lstore 9, 2) := by decide +kernel
theorem dX10_rightBy_45 : decode cX10_rightBy 45 = .ok (.lload 9, 2) := by decide +kernel
theorem dX10_rightBy_47 : decode cX10_rightBy 47 = .ok (.lload 6, 2) := by decide +kernel
theorem dX10_rightBy_49 : decode cX10_rightBy 49 = .ok (.lcmp, 1) := by decide +kernel
theorem dX10_rightBy_50 : decode cX10_rightBy 50 = .ok (.ifCond .le 8, 3) := by decide +kernel
theorem dX10_rightBy_53 : decode cX10_rightBy 53 = .ok (.lload 9, 2) := by decide +kernel
theorem dX10_rightBy_55 : decode cX10_rightBy 55 = .ok (.goto 5, 3) := by decide +kernel
theorem dX10_rightBy_58 : decode cX10_rightBy 58 = .ok (.lload 6, 2) := by decide +kernel
theorem dX10_rightBy_60 : decode cX10_rightBy 60 = .ok (.lstore 6, 2) := by decide +kernel
theorem dX10_rightBy_62 : decode cX10_rightBy 62 = .ok (.iinc 8 1, 3) := by decide +kernel
theorem dX10_rightBy_65 : decode cX10_rightBy 65 = .ok (.goto (-48), 3) := by decide +kernel
theorem dX10_rightBy_68 : decode cX10_rightBy 68 = .ok (.lload_n 3, 1) := by decide +kernel
theorem dX10_rightBy_69 : decode cX10_rightBy 69 = .ok (.lload 6, 2) := by decide +kernel
theorem dX10_rightBy_71 : decode cX10_rightBy 71 = .ok (.ladd, 1) := by decide +kernel
theorem dX10_rightBy_72 : decode cX10_rightBy 72 = .ok (.lstore_n 3, 1) := by decide +kernel
theorem dX10_rightBy_73 : decode cX10_rightBy 73 = .ok (.iinc 5 1, 3) := by decide +kernel
theorem dX10_rightBy_76 : decode cX10_rightBy 76 = .ok (.goto (-71), 3) := by decide +kernel
theorem dX10_rightBy_79 : decode cX10_rightBy 79 = .ok (.lload_n 3, 1) := by decide +kernel
theorem dX10_rightBy_80 : decode cX10_rightBy 80 = .ok (.lreturn, 1) := by decide +kernel
theorem dX10_bestLook_0 : decode cX10_bestLook 0 = .ok (.iconst 3, 1) := by decide +kernel
theorem dX10_bestLook_1 : decode cX10_bestLook 1 = .ok (.istore_n 2, 1) := by decide +kernel
theorem dX10_bestLook_2 : decode cX10_bestLook 2 = .ok (.ldc2_w 246, 3) := by decide +kernel
theorem dX10_bestLook_5 : decode cX10_bestLook 5 = .ok (.aload_n 0, 1) := by decide +kernel
theorem dX10_bestLook_6 : decode cX10_bestLook 6 = .ok (.getfield 38, 3) := by decide +kernel
theorem dX10_bestLook_9 : decode cX10_bestLook 9 = .ok (.aload_n 0, 1) := by decide +kernel
theorem dX10_bestLook_10 : decode cX10_bestLook 10 = .ok (.invokevirtual 239, 3) := by decide +kernel
theorem dX10_bestLook_13 : decode cX10_bestLook 13 = .ok (.laload, 1) := by decide +kernel
theorem dX10_bestLook_14 : decode cX10_bestLook 14 = .ok (.lmul, 1) := by decide +kernel
theorem dX10_bestLook_15 : decode cX10_bestLook 15 = .ok (.lstore_n 3, 1) := by decide +kernel
theorem dX10_bestLook_16 : decode cX10_bestLook 16 = .ok (.iconst 0, 1) := by decide +kernel
theorem dX10_bestLook_17 : decode cX10_bestLook 17 = .ok (.istore 5, 2) := by decide +kernel
theorem dX10_bestLook_19 : decode cX10_bestLook 19 = .ok (.iload 5, 2) := by decide +kernel
theorem dX10_bestLook_21 : decode cX10_bestLook 21 = .ok (.iconst 3, 1) := by decide +kernel
theorem dX10_bestLook_22 : decode cX10_bestLook 22 = .ok (.if_icmp .ge 32, 3) := by decide +kernel
theorem dX10_bestLook_25 : decode cX10_bestLook 25 = .ok (.aload_n 0, 1) := by decide +kernel
theorem dX10_bestLook_26 : decode cX10_bestLook 26 = .ok (.iload_n 1, 1) := by decide +kernel
theorem dX10_bestLook_27 : decode cX10_bestLook 27 = .ok (.iload 5, 2) := by decide +kernel
theorem dX10_bestLook_29 : decode cX10_bestLook 29 = .ok (.invokevirtual 248, 3) := by decide +kernel
theorem dX10_bestLook_32 : decode cX10_bestLook 32 = .ok (.lload_n 3, 1) := by decide +kernel
theorem dX10_bestLook_33 : decode cX10_bestLook 33 = .ok (.lcmp, 1) := by decide +kernel
theorem dX10_bestLook_34 : decode cX10_bestLook 34 = .ok (.ifCond .le 14, 3) := by decide +kernel
theorem dX10_bestLook_37 : decode cX10_bestLook 37 = .ok (.aload_n 0, 1) := by decide +kernel
theorem dX10_bestLook_38 : decode cX10_bestLook 38 = .ok (.iload_n 1, 1) := by decide +kernel
theorem dX10_bestLook_39 : decode cX10_bestLook 39 = .ok (.iload 5, 2) := by decide +kernel
theorem dX10_bestLook_41 : decode cX10_bestLook 41 = .ok (.invokevirtual 248, 3) := by decide +kernel
theorem dX10_bestLook_44 : decode cX10_bestLook 44 = .ok (.lstore_n 3, 1) := by decide +kernel
theorem dX10_bestLook_45 : decode cX10_bestLook 45 = .ok (.iload 5, 2) := by decide +kernel
theorem dX10_bestLook_47 : decode cX10_bestLook 47 = .ok (.istore_n 2, 1) := by decide +kernel
theorem dX10_bestLook_48 : decode cX10_bestLook 48 = .ok (.iinc 5 1, 3) := by decide +kernel
theorem dX10_bestLook_51 : decode cX10_bestLook 51 = .ok (.goto (-32), 3) := by decide +kernel
theorem dX10_bestLook_54 : decode cX10_bestLook 54 = .ok (.iload_n 2, 1) := by decide +kernel
theorem dX10_bestLook_55 : decode cX10_bestLook 55 = .ok (.ireturn, 1) := by decide +kernel
theorem dX10_next_0 : decode cX10_next 0 = .ok (.aload_n 0, 1) := by decide +kernel
theorem dX10_next_1 : decode cX10_next 1 = .ok (.iload_n 1, 1) := by decide +kernel
theorem dX10_next_2 : decode cX10_next 2 = .ok (.invokevirtual 217, 3) := by decide +kernel
theorem dX10_next_5 : decode cX10_next 5 = .ok (.iconst (-1), 1) := by decide +kernel
theorem dX10_next_6 : decode cX10_next 6 = .ok (.if_icmp .eq 11, 3) := by decide +kernel
theorem dX10_next_9 : decode cX10_next 9 = .ok (.aload_n 0, 1) := by decide +kernel
theorem dX10_next_10 : decode cX10_next 10 = .ok (.iload_n 2, 1) := by decide +kernel
theorem dX10_next_11 : decode cX10_next 11 = .ok (.invokevirtual 220, 3) := by decide +kernel
theorem dX10_next_14 : decode cX10_next 14 = .ok (.ifCond .ne 5, 3) := by decide +kernel
theorem dX10_next_17 : decode cX10_next 17 = .ok (.iconst (-1), 1) := by decide +kernel
theorem dX10_next_18 : decode cX10_next 18 = .ok (.ireturn, 1) := by decide +kernel
theorem dX10_next_19 : decode cX10_next 19 = .ok (.aload_n 0, 1) := by decide +kernel
theorem dX10_next_20 : decode cX10_next 20 = .ok (.iload_n 1, 1) := by decide +kernel
theorem dX10_next_21 : decode cX10_next 21 = .ok (.invokevirtual 217, 3) := by decide +kernel
theorem dX10_next_24 : decode cX10_next 24 = .ok (.ifCond .ge 9, 3) := by decide +kernel
theorem dX10_next_27 : decode cX10_next 27 = .ok (.aload_n 0, 1) := by decide +kernel
theorem dX10_next_28 : decode cX10_next 28 = .ok (.iload_n 1, 1) := by decide +kernel
theorem dX10_next_29 : decode cX10_next 29 = .ok (.invokevirtual 217, 3) := by decide +kernel
theorem dX10_next_32 : decode cX10_next 32 = .ok (.ireturn, 1) := by decide +kernel
theorem dX10_next_33 : decode cX10_next 33 = .ok (.aload_n 0, 1) := by decide +kernel
theorem dX10_next_34 : decode cX10_next 34 = .ok (.getfield 25, 3) := by decide +kernel
theorem dX10_next_37 : decode cX10_next 37 = .ok (.iload_n 2, 1) := by decide +kernel
theorem dX10_next_38 : decode cX10_next 38 = .ok (.bipush 10, 2) := by decide +kernel
theorem dX10_next_40 : decode cX10_next 40 = .ok (.irem, 1) := by decide +kernel
theorem dX10_next_41 : decode cX10_next 41 = .ok (.baload, 1) := by decide +kernel
theorem dX10_next_42 : decode cX10_next 42 = .ok (.ifCond .eq 6, 3) := by decide +kernel
theorem dX10_next_45 : decode cX10_next 45 = .ok (.bipush (-5), 2) := by decide +kernel
theorem dX10_next_47 : decode cX10_next 47 = .ok (.ireturn, 1) := by decide +kernel
theorem dX10_next_48 : decode cX10_next 48 = .ok (.aload_n 0, 1) := by decide +kernel
theorem dX10_next_49 : decode cX10_next 49 = .ok (.iload_n 1, 1) := by decide +kernel
theorem dX10_next_50 : decode cX10_next 50 = .ok (.iload_n 2, 1) := by decide +kernel
theorem dX10_next_51 : decode cX10_next 51 = .ok (.bipush 10, 2) := by decide +kernel
theorem dX10_next_53 : decode cX10_next 53 = .ok (.idiv, 1) := by decide +kernel
theorem dX10_next_54 : decode cX10_next 54 = .ok (.iload_n 2, 1) := by decide +kernel
theorem dX10_next_55 : decode cX10_next 55 = .ok (.bipush 10, 2) := by decide +kernel
theorem dX10_next_57 : decode cX10_next 57 = .ok (.irem, 1) := by decide +kernel
theorem dX10_next_58 : decode cX10_next 58 = .ok (.invokevirtual 227, 3) := by decide +kernel
theorem dX10_next_61 : decode cX10_next 61 = .ok (.aload_n 0, 1) := by decide +kernel
theorem dX10_next_62 : decode cX10_next 62 = .ok (.iload_n 2, 1) := by decide +kernel
theorem dX10_next_63 : decode cX10_next 63 = .ok (.bipush 10, 2) := by decide +kernel
theorem dX10_next_65 : decode cX10_next 65 = .ok (.idiv, 1) := by decide +kernel
theorem dX10_next_66 : decode cX10_next 66 = .ok (.invokevirtual 252, 3) := by decide +kernel
theorem dX10_next_69 : decode cX10_next 69 = .ok (.ireturn, 1) := by decide +kernel
theorem dX10_right_0 : decode cX10_right 0 = .ok (.aload_n 0, 1) := by decide +kernel
theorem dX10_right_1 : decode cX10_right 1 = .ok (.iload_n 1, 1) := by decide +kernel
theorem dX10_right_2 : decode cX10_right 2 = .ok (.invokevirtual 217, 3) := by decide +kernel
theorem dX10_right_5 : decode cX10_right 5 = .ok (.ifCond .lt 21, 3) := by decide +kernel
theorem dX10_right_8 : decode cX10_right 8 = .ok (.aload_n 0, 1) := by decide +kernel
theorem dX10_right_9 : decode cX10_right 9 = .ok (.iload_n 2, 1) := by decide +kernel
theorem dX10_right_10 : decode cX10_right 10 = .ok (.invokevirtual 220, 3) := by decide +kernel
theorem dX10_right_13 : decode cX10_right 13 = .ok (.ifCond .eq 13, 3) := by decide +kernel
theorem dX10_right_16 : decode cX10_right 16 = .ok (.iload_n 3, 1) := by decide +kernel
theorem dX10_right_17 : decode cX10_right 17 = .ok (.i2l, 1) := by decide +kernel
theorem dX10_right_18 : decode cX10_right 18 = .ok (.lconst 0, 1) := by decide +kernel
theorem dX10_right_19 : decode cX10_right 19 = .ok (.lconst 1, 1) := by decide +kernel
theorem dX10_right_20 : decode cX10_right 20 = .ok (.invokestatic 96, 3) := by decide +kernel
theorem dX10_right_23 : decode cX10_right 23 = .ok (.ifCond .ne 7, 3) := by decide +kernel
theorem dX10_right_26 : decode cX10_right 26 = .ok (.ldc2_w 225, 3) := by decide +kernel
theorem dX10_right_29 : decode cX10_right 29 = .ok (.lreturn, 1) := by decide +kernel
theorem dX10_right_30 : decode cX10_right 30 = .ok (.aload_n 0, 1) := by decide +kernel
theorem dX10_right_31 : decode cX10_right 31 = .ok (.iload_n 1, 1) := by decide +kernel
theorem dX10_right_32 : decode cX10_right 32 = .ok (.iload_n 2, 1) := by decide +kernel
theorem dX10_right_33 : decode cX10_right 33 = .ok (.bipush 10, 2) := by decide +kernel
theorem dX10_right_35 : decode cX10_right 35 = .ok (.idiv, 1) := by decide +kernel
theorem dX10_right_36 : decode cX10_right 36 = .ok (.iload_n 2, 1) := by decide +kernel
theorem dX10_right_37 : decode cX10_right 37 = .ok (.bipush 10, 2) := by decide +kernel
theorem dX10_right_39 : decode cX10_right 39 = .ok (.irem, 1) := by decide +kernel
theorem dX10_right_40 : decode cX10_right 40 = .ok (.invokevirtual 227, 3) := by decide +kernel
theorem dX10_right_43 : decode cX10_right 43 = .ok (.aload_n 0, 1) := by decide +kernel
theorem dX10_right_44 : decode cX10_right 44 = .ok (.getfield 25, 3) := by decide +kernel
theorem dX10_right_47 : decode cX10_right 47 = .ok (.iload_n 2, 1) := by decide +kernel
theorem dX10_right_48 : decode cX10_right 48 = .ok (.bipush 10, 2) := by decide +kernel
theorem dX10_right_50 : decode cX10_right 50 = .ok (.irem, 1) := by decide +kernel
theorem dX10_right_51 : decode cX10_right 51 = .ok (.baload, 1) := by decide +kernel
theorem dX10_right_52 : decode cX10_right 52 = .ok (.ifCond .eq 5, 3) := by decide +kernel
theorem dX10_right_55 : decode cX10_right 55 = .ok (.lconst 1, 1) := by decide +kernel
theorem dX10_right_56 : decode cX10_right 56 = .ok (.lreturn, 1) := by decide +kernel
theorem dX10_right_57 : decode cX10_right 57 = .ok (.aload_n 0, 1) := by decide +kernel
theorem dX10_right_58 : decode cX10_right 58 = .ok (.iload_n 2, 1) := by decide +kernel
theorem dX10_right_59 : decode cX10_right 59 = .ok (.bipush 10, 2) := by decide +kernel
theorem dX10_right_61 : decode cX10_right 61 = .ok (.idiv, 1) := by decide +kernel
theorem dX10_right_62 : decode cX10_right 62 = .ok (.invokevirtual 252, 3) := by decide +kernel
theorem dX10_right_65 : decode cX10_right 65 = .ok (.istore 4, 2) := by decide +kernel
theorem dX10_right_67 : decode cX10_right 67 = .ok (.iload 4, 2) := by decide +kernel
theorem dX10_right_69 : decode cX10_right 69 = .ok (.iconst 3, 1) := by decide +kernel
theorem dX10_right_70 : decode cX10_right 70 = .ok (.if_icmp .ne 23, 3) := by decide +kernel
theorem dX10_right_73 : decode cX10_right 73 = .ok (.aload_n 0, 1) := by decide +kernel
theorem dX10_right_74 : decode cX10_right 74 = .ok (.getfield 38, 3) := by decide +kernel
theorem dX10_right_77 : decode cX10_right 77 = .ok (.aload_n 0, 1) := by decide +kernel
theorem dX10_right_78 : decode cX10_right 78 = .ok (.invokevirtual 239, 3) := by decide +kernel
theorem dX10_right_81 : decode cX10_right 81 = .ok (.laload, 1) := by decide +kernel
theorem dX10_right_82 : decode cX10_right 82 = .ok (.aload_n 0, 1) := by decide +kernel
theorem dX10_right_83 : decode cX10_right 83 = .ok (.invokevirtual 231, 3) := by decide +kernel
theorem dX10_right_86 : decode cX10_right 86 = .ok (.iload_n 3, 1) := by decide +kernel
theorem dX10_right_87 : decode cX10_right 87 = .ok (.invokestatic 235, 3) := by decide +kernel
theorem dX10_right_90 : decode cX10_right 90 = .ok (.goto 25, 3) := by decide +kernel
theorem dX10_right_93 : decode cX10_right 93 = .ok (.aload_n 0, 1) := by decide +kernel
theorem dX10_right_94 : decode cX10_right 94 = .ok (.iload_n 2, 1) := by decide +kernel
theorem dX10_right_95 : decode cX10_right 95 = .ok (.bipush 10, 2) := by decide +kernel
theorem dX10_right_97 : decode cX10_right 97 = .ok (.idiv, 1) := by decide +kernel
theorem dX10_right_98 : decode cX10_right 98 = .ok (.iload 4, 2) := by decide +kernel
theorem dX10_right_100 : decode cX10_right 100 = .ok (.invokevirtual 248, 3) := by decide +kernel
theorem dX10_right_103 : decode cX10_right 103 = .ok (.ldc2_w 246, 3) := by decide +kernel
theorem dX10_right_106 : decode cX10_right 106 = .ok (.aload_n 0, 1) := by decide +kernel
theorem dX10_right_107 : decode cX10_right 107 = .ok (.invokevirtual 231, 3) := by decide +kernel
theorem dX10_right_110 : decode cX10_right 110 = .ok (.lmul, 1) := by decide +kernel
theorem dX10_right_111 : decode cX10_right 111 = .ok (.iload_n 3, 1) := by decide +kernel
theorem dX10_right_112 : decode cX10_right 112 = .ok (.invokestatic 235, 3) := by decide +kernel
theorem dX10_right_115 : decode cX10_right 115 = .ok (.lreturn, 1) := by decide +kernel
theorem dX10_gainOf_0 : decode cX10_gainOf 0 = .ok (.aload_n 0, 1) := by decide +kernel
theorem dX10_gainOf_1 : decode cX10_gainOf 1 = .ok (.iload_n 1, 1) := by decide +kernel
theorem dX10_gainOf_2 : decode cX10_gainOf 2 = .ok (.iload_n 2, 1) := by decide +kernel
theorem dX10_gainOf_3 : decode cX10_gainOf 3 = .ok (.iload_n 3, 1) := by decide +kernel
theorem dX10_gainOf_4 : decode cX10_gainOf 4 = .ok (.invokevirtual 227, 3) := by decide +kernel
theorem dX10_gainOf_7 : decode cX10_gainOf 7 = .ok (.aload_n 0, 1) := by decide +kernel
theorem dX10_gainOf_8 : decode cX10_gainOf 8 = .ok (.getfield 9, 3) := by decide +kernel
theorem dX10_gainOf_11 : decode cX10_gainOf 11 = .ok (.bipush 34, 2) := by decide +kernel
theorem dX10_gainOf_13 : decode cX10_gainOf 13 = .ok (.iload_n 3, 1) := by decide +kernel
theorem dX10_gainOf_14 : decode cX10_gainOf 14 = .ok (.iadd, 1) := by decide +kernel
theorem dX10_gainOf_15 : decode cX10_gainOf 15 = .ok (.iaload, 1) := by decide +kernel
theorem dX10_gainOf_16 : decode cX10_gainOf 16 = .ok (.istore 4, 2) := by decide +kernel
theorem dX10_gainOf_18 : decode cX10_gainOf 18 = .ok (.aload_n 0, 1) := by decide +kernel
theorem dX10_gainOf_19 : decode cX10_gainOf 19 = .ok (.iload_n 2, 1) := by decide +kernel
theorem dX10_gainOf_20 : decode cX10_gainOf 20 = .ok (.iload_n 3, 1) := by decide +kernel
theorem dX10_gainOf_21 : decode cX10_gainOf 21 = .ok (.iload 4, 2) := by decide +kernel
theorem dX10_gainOf_23 : decode cX10_gainOf 23 = .ok (.invokevirtual 242, 3) := by decide +kernel
theorem dX10_gainOf_26 : decode cX10_gainOf 26 = .ok (.aload_n 0, 1) := by decide +kernel
theorem dX10_gainOf_27 : decode cX10_gainOf 27 = .ok (.invokevirtual 231, 3) := by decide +kernel
theorem dX10_gainOf_30 : decode cX10_gainOf 30 = .ok (.ldiv, 1) := by decide +kernel
theorem dX10_gainOf_31 : decode cX10_gainOf 31 = .ok (.l2i, 1) := by decide +kernel
theorem dX10_gainOf_32 : decode cX10_gainOf 32 = .ok (.iload 4, 2) := by decide +kernel
theorem dX10_gainOf_34 : decode cX10_gainOf 34 = .ok (.isub, 1) := by decide +kernel
theorem dX10_gainOf_35 : decode cX10_gainOf 35 = .ok (.ireturn, 1) := by decide +kernel
theorem dX10_buys_0 : decode cX10_buys 0 = .ok (.aload_n 0, 1) := by decide +kernel
theorem dX10_buys_1 : decode cX10_buys 1 = .ok (.iload_n 1, 1) := by decide +kernel
theorem dX10_buys_2 : decode cX10_buys 2 = .ok (.invokevirtual 217, 3) := by decide +kernel
theorem dX10_buys_5 : decode cX10_buys 5 = .ok (.iconst (-1), 1) := by decide +kernel
theorem dX10_buys_6 : decode cX10_buys 6 = .ok (.if_icmp .eq 22, 3) := by decide +kernel
theorem dX10_buys_9 : decode cX10_buys 9 = .ok (.aload_n 0, 1) := by decide +kernel
theorem dX10_buys_10 : decode cX10_buys 10 = .ok (.iload_n 2, 1) := by decide +kernel
theorem dX10_buys_11 : decode cX10_buys 11 = .ok (.i2l, 1) := by decide +kernel
theorem dX10_buys_12 : decode cX10_buys 12 = .ok (.invokevirtual 135, 3) := by decide +kernel
theorem dX10_buys_15 : decode cX10_buys 15 = .ok (.ifCond .eq 13, 3) := by decide +kernel
theorem dX10_buys_18 : decode cX10_buys 18 = .ok (.iload_n 3, 1) := by decide +kernel
theorem dX10_buys_19 : decode cX10_buys 19 = .ok (.i2l, 1) := by decide +kernel
theorem dX10_buys_20 : decode cX10_buys 20 = .ok (.lconst 0, 1) := by decide +kernel
theorem dX10_buys_21 : decode cX10_buys 21 = .ok (.lconst 1, 1) := by decide +kernel
theorem dX10_buys_22 : decode cX10_buys 22 = .ok (.invokestatic 96, 3) := by decide +kernel
theorem dX10_buys_25 : decode cX10_buys 25 = .ok (.ifCond .ne 5, 3) := by decide +kernel
theorem dX10_buys_28 : decode cX10_buys 28 = .ok (.iconst (-1), 1) := by decide +kernel
theorem dX10_buys_29 : decode cX10_buys 29 = .ok (.ireturn, 1) := by decide +kernel
theorem dX10_buys_30 : decode cX10_buys 30 = .ok (.aload_n 0, 1) := by decide +kernel
theorem dX10_buys_31 : decode cX10_buys 31 = .ok (.iload_n 1, 1) := by decide +kernel
theorem dX10_buys_32 : decode cX10_buys 32 = .ok (.invokevirtual 217, 3) := by decide +kernel
theorem dX10_buys_35 : decode cX10_buys 35 = .ok (.ifCond .ge 9, 3) := by decide +kernel
theorem dX10_buys_38 : decode cX10_buys 38 = .ok (.aload_n 0, 1) := by decide +kernel
theorem dX10_buys_39 : decode cX10_buys 39 = .ok (.iload_n 1, 1) := by decide +kernel
theorem dX10_buys_40 : decode cX10_buys 40 = .ok (.invokevirtual 217, 3) := by decide +kernel
theorem dX10_buys_43 : decode cX10_buys 43 = .ok (.ireturn, 1) := by decide +kernel
theorem dX10_buys_44 : decode cX10_buys 44 = .ok (.iconst 0, 1) := by decide +kernel
theorem dX10_buys_45 : decode cX10_buys 45 = .ok (.istore 4, 2) := by decide +kernel
theorem dX10_buys_47 : decode cX10_buys 47 = .ok (.iload 4, 2) := by decide +kernel
theorem dX10_buys_49 : decode cX10_buys 49 = .ok (.aload_n 0, 1) := by decide +kernel
theorem dX10_buys_50 : decode cX10_buys 50 = .ok (.getfield 100, 3) := by decide +kernel
theorem dX10_buys_53 : decode cX10_buys 53 = .ok (.if_icmp .ge 24, 3) := by decide +kernel
theorem dX10_buys_56 : decode cX10_buys 56 = .ok (.aload_n 0, 1) := by decide +kernel
theorem dX10_buys_57 : decode cX10_buys 57 = .ok (.getfield 42, 3) := by decide +kernel
theorem dX10_buys_60 : decode cX10_buys 60 = .ok (.iload 4, 2) := by decide +kernel
theorem dX10_buys_62 : decode cX10_buys 62 = .ok (.aload_n 0, 1) := by decide +kernel
theorem dX10_buys_63 : decode cX10_buys 63 = .ok (.iload_n 1, 1) := by decide +kernel
theorem dX10_buys_64 : decode cX10_buys 64 = .ok (.iload_n 2, 1) := by decide +kernel
theorem dX10_buys_65 : decode cX10_buys 65 = .ok (.iload 4, 2) := by decide +kernel
theorem dX10_buys_67 : decode cX10_buys 67 = .ok (.invokevirtual 255, 3) := by decide +kernel
theorem dX10_buys_70 : decode cX10_buys 70 = .ok (.iastore, 1) := by decide +kernel
theorem dX10_buys_71 : decode cX10_buys 71 = .ok (.iinc 4 1, 3) := by decide +kernel
theorem dX10_buys_74 : decode cX10_buys 74 = .ok (.goto (-27), 3) := by decide +kernel
theorem dX10_buys_77 : decode cX10_buys 77 = .ok (.iconst 0, 1) := by decide +kernel
theorem dX10_buys_78 : decode cX10_buys 78 = .ok (.istore 4, 2) := by decide +kernel
theorem dX10_buys_80 : decode cX10_buys 80 = .ok (.iconst 0, 1) := by decide +kernel
theorem dX10_buys_81 : decode cX10_buys 81 = .ok (.istore 5, 2) := by decide +kernel
theorem dX10_buys_83 : decode cX10_buys 83 = .ok (.iconst 1, 1) := by decide +kernel
theorem dX10_buys_84 : decode cX10_buys 84 = .ok (.istore 6, 2) := by decide +kernel
theorem dX10_buys_86 : decode cX10_buys 86 = .ok (.iload 6, 2) := by decide +kernel
theorem dX10_buys_88 : decode cX10_buys 88 = .ok (.iconst 1, 1) := by decide +kernel
theorem dX10_buys_89 : decode cX10_buys 89 = .ok (.aload_n 0, 1) := by decide +kernel
theorem dX10_buys_90 : decode cX10_buys 90 = .ok (.getfield 100, 3) := by decide +kernel
theorem dX10_buys_93 : decode cX10_buys 93 = .ok (.ishl, 1) := by decide +kernel
theorem dX10_buys_94 : decode cX10_buys 94 = .ok (.if_icmp .ge 148, 3) := by decide +kernel
theorem dX10_buys_97 : decode cX10_buys 97 = .ok (.iconst 0, 1) := by decide +kernel
theorem dX10_buys_98 : decode cX10_buys 98 = .ok (.istore 7, 2) := by decide +kernel
theorem dX10_buys_100 : decode cX10_buys 100 = .ok (.iconst 0, 1) := by decide +kernel
theorem dX10_buys_101 : decode cX10_buys 101 = .ok (.istore 8, 2) := by decide +kernel
theorem dX10_buys_103 : decode cX10_buys 103 = .ok (.iconst 1, 1) := by decide +kernel
theorem dX10_buys_104 : decode cX10_buys 104 = .ok (.istore 9, 2) := by decide +kernel
theorem dX10_buys_106 : decode cX10_buys 106 = .ok (.iconst 0, 1) := by decide +kernel
theorem dX10_buys_107 : decode cX10_buys 107 = .ok (.istore 10, 2) := by decide +kernel
theorem dX10_buys_109 : decode cX10_buys 109 = .ok (.iload 10, 2) := by decide +kernel
theorem dX10_buys_111 : decode cX10_buys 111 = .ok (.aload_n 0, 1) := by decide +kernel
theorem dX10_buys_112 : decode cX10_buys 112 = .ok (.getfield 100, 3) := by decide +kernel
theorem dX10_buys_115 : decode cX10_buys 115 = .ok (.if_icmp .ge 67, 3) := by decide +kernel
theorem dX10_buys_118 : decode cX10_buys 118 = .ok (.iload 6, 2) := by decide +kernel
theorem dX10_buys_120 : decode cX10_buys 120 = .ok (.iload 10, 2) := by decide +kernel
theorem dX10_buys_122 : decode cX10_buys 122 = .ok (.invokestatic 258, 3) := by decide +kernel
theorem dX10_buys_125 : decode cX10_buys 125 = .ok (.ifCond .eq 51, 3) := by decide +kernel
theorem dX10_buys_128 : decode cX10_buys 128 = .ok (.iload 9, 2) := by decide +kernel
theorem dX10_buys_130 : decode cX10_buys 130 = .ok (.ifCond .eq 16, 3) := by decide +kernel
theorem dX10_buys_133 : decode cX10_buys 133 = .ok (.aload_n 0, 1) := by decide +kernel
theorem dX10_buys_134 : decode cX10_buys 134 = .ok (.iload 10, 2) := by decide +kernel
theorem dX10_buys_136 : decode cX10_buys 136 = .ok (.invokevirtual 261, 3) := by decide +kernel
theorem dX10_buys_139 : decode cX10_buys 139 = .ok (.ifCond .eq 7, 3) := by decide +kernel
theorem dX10_buys_142 : decode cX10_buys 142 = .ok (.iconst 1, 1) := by decide +kernel
theorem dX10_buys_143 : decode cX10_buys 143 = .ok (.goto 4, 3) := by decide +kernel
theorem dX10_buys_146 : decode cX10_buys 146 = .ok (.iconst 0, 1) := by decide +kernel
theorem dX10_buys_147 : decode cX10_buys 147 = .ok (.istore 9, 2) := by decide +kernel
theorem dX10_buys_149 : decode cX10_buys 149 = .ok (.iload 7, 2) := by decide +kernel
theorem dX10_buys_151 : decode cX10_buys 151 = .ok (.aload_n 0, 1) := by decide +kernel
theorem dX10_buys_152 : decode cX10_buys 152 = .ok (.getfield 9, 3) := by decide +kernel
theorem dX10_buys_155 : decode cX10_buys 155 = .ok (.bipush 34, 2) := by decide +kernel
theorem dX10_buys_157 : decode cX10_buys 157 = .ok (.iload 10, 2) := by decide +kernel
theorem dX10_buys_159 : decode cX10_buys 159 = .ok (.iadd, 1) := by decide +kernel
theorem dX10_buys_160 : decode cX10_buys 160 = .ok (.iaload, 1) := by decide +kernel
theorem dX10_buys_161 : decode cX10_buys 161 = .ok (.iadd, 1) := by decide +kernel
theorem dX10_buys_162 : decode cX10_buys 162 = .ok (.istore 7, 2) := by decide +kernel
theorem dX10_buys_164 : decode cX10_buys 164 = .ok (.iload 8, 2) := by decide +kernel
theorem dX10_buys_166 : decode cX10_buys 166 = .ok (.aload_n 0, 1) := by decide +kernel
theorem dX10_buys_167 : decode cX10_buys 167 = .ok (.getfield 42, 3) := by decide +kernel
theorem dX10_buys_170 : decode cX10_buys 170 = .ok (.iload 10, 2) := by decide +kernel
theorem dX10_buys_172 : decode cX10_buys 172 = .ok (.iaload, 1) := by decide +kernel
theorem dX10_buys_173 : decode cX10_buys 173 = .ok (.iadd, 1) := by decide +kernel
theorem dX10_buys_174 : decode cX10_buys 174 = .ok (.istore 8, 2) := by decide +kernel
theorem dX10_buys_176 : decode cX10_buys 176 = .ok (.iinc 10 1, 3) := by decide +kernel
theorem dX10_buys_179 : decode cX10_buys 179 = .ok (.goto (-70), 3) := by decide +kernel
theorem dX10_buys_182 : decode cX10_buys 182 = .ok (.iload 9, 2) := by decide +kernel
theorem dX10_buys_184 : decode cX10_buys 184 = .ok (.ifCond .eq 52, 3) := by decide +kernel
theorem dX10_buys_187 : decode cX10_buys 187 = .ok (.iload 7, 2) := by decide +kernel
theorem dX10_buys_189 : decode cX10_buys 189 = .ok (.aload_n 0, 1) := by decide +kernel
theorem dX10_buys_190 : decode cX10_buys 190 = .ok (.getfield 9, 3) := by decide +kernel
theorem dX10_buys_193 : decode cX10_buys 193 = .ok (.bipush 44, 2) := by decide +kernel
theorem dX10_buys_195 : decode cX10_buys 195 = .ok (.iload_n 2, 1) := by decide +kernel
theorem dX10_buys_196 : decode cX10_buys 196 = .ok (.iadd, 1) := by decide +kernel
theorem dX10_buys_197 : decode cX10_buys 197 = .ok (.iaload, 1) := by decide +kernel
theorem dX10_buys_198 : decode cX10_buys 198 = .ok (.if_icmp .gt 38, 3) := by decide +kernel
theorem dX10_buys_201 : decode cX10_buys 201 = .ok (.iload 8, 2) := by decide +kernel
theorem dX10_buys_203 : decode cX10_buys 203 = .ok (.iload 5, 2) := by decide +kernel
theorem dX10_buys_205 : decode cX10_buys 205 = .ok (.if_icmp .gt 23, 3) := by decide +kernel
theorem dX10_buys_208 : decode cX10_buys 208 = .ok (.iload 8, 2) := by decide +kernel
theorem dX10_buys_210 : decode cX10_buys 210 = .ok (.iload 5, 2) := by decide +kernel
theorem dX10_buys_212 : decode cX10_buys 212 = .ok (.if_icmp .ne 24, 3) := by decide +kernel
theorem dX10_buys_215 : decode cX10_buys 215 = .ok (.iload 6, 2) := by decide +kernel
theorem dX10_buys_217 : decode cX10_buys 217 = .ok (.invokestatic 264, 3) := by decide +kernel
theorem dX10_buys_220 : decode cX10_buys 220 = .ok (.iload 4, 2) := by decide +kernel
theorem dX10_buys_222 : decode cX10_buys 222 = .ok (.invokestatic 264, 3) := by decide +kernel
theorem dX10_buys_225 : decode cX10_buys 225 = .ok (.if_icmp .ge 11, 3) := by decide +kernel
theorem dX10_buys_228 : decode cX10_buys 228 = .ok (.iload 8, 2) := by decide +kernel
theorem dX10_buys_230 : decode cX10_buys 230 = .ok (.istore 5, 2) := by decide +kernel
theorem dX10_buys_232 : decode cX10_buys 232 = .ok (.iload 6, 2) := by decide +kernel
theorem dX10_buys_234 : decode cX10_buys 234 = .ok (.istore 4, 2) := by decide +kernel
theorem dX10_buys_236 : decode cX10_buys 236 = .ok (.iinc 6 1, 3) := by decide +kernel
theorem dX10_buys_239 : decode cX10_buys 239 = .ok (.goto (-153), 3) := by decide +kernel
theorem dX10_buys_242 : decode cX10_buys 242 = .ok (.iload_n 3, 1) := by decide +kernel
theorem dX10_buys_243 : decode cX10_buys 243 = .ok (.ifCond .ne 8, 3) := by decide +kernel
theorem dX10_buys_246 : decode cX10_buys 246 = .ok (.iload 5, 2) := by decide +kernel
theorem dX10_buys_248 : decode cX10_buys 248 = .ok (.goto 5, 3) := by decide +kernel
theorem dX10_buys_251 : decode cX10_buys 251 = .ok (.iload 4, 2) := by decide +kernel
theorem dX10_buys_253 : decode cX10_buys 253 = .ok (.ireturn, 1) := by decide +kernel
theorem dX10_dealAt_0 : decode cX10_dealAt 0 = .ok (.iload_n 1, 1) := by decide +kernel
theorem dX10_dealAt_1 : decode cX10_dealAt 1 = .ok (.bipush 10, 2) := by decide +kernel
theorem dX10_dealAt_3 : decode cX10_dealAt 3 = .ok (.ishl, 1) := by decide +kernel
theorem dX10_dealAt_4 : decode cX10_dealAt 4 = .ok (.iload_n 2, 1) := by decide +kernel
theorem dX10_dealAt_5 : decode cX10_dealAt 5 = .ok (.iadd, 1) := by decide +kernel
theorem dX10_dealAt_6 : decode cX10_dealAt 6 = .ok (.ireturn, 1) := by decide +kernel
theorem dX10_dealt_0 : decode cX10_dealt 0 = .ok (.iload_n 1, 1) := by decide +kernel
theorem dX10_dealt_1 : decode cX10_dealt 1 = .ok (.iconst (-1), 1) := by decide +kernel
theorem dX10_dealt_2 : decode cX10_dealt 2 = .ok (.if_icmp .eq 14, 3) := by decide +kernel
theorem dX10_dealt_5 : decode cX10_dealt 5 = .ok (.aload_n 0, 1) := by decide +kernel
theorem dX10_dealt_6 : decode cX10_dealt 6 = .ok (.iload_n 1, 1) := by decide +kernel
theorem dX10_dealt_7 : decode cX10_dealt 7 = .ok (.i2l, 1) := by decide +kernel
theorem dX10_dealt_8 : decode cX10_dealt 8 = .ok (.invokevirtual 135, 3) := by decide +kernel
theorem dX10_dealt_11 : decode cX10_dealt 11 = .ok (.ifCond .ne 5, 3) := by decide +kernel
theorem dX10_dealt_14 : decode cX10_dealt 14 = .ok (.iconst (-1), 1) := by decide +kernel
theorem dX10_dealt_15 : decode cX10_dealt 15 = .ok (.ireturn, 1) := by decide +kernel
theorem dX10_dealt_16 : decode cX10_dealt 16 = .ok (.iconst 0, 1) := by decide +kernel
theorem dX10_dealt_17 : decode cX10_dealt 17 = .ok (.istore_n 2, 1) := by decide +kernel
theorem dX10_dealt_18 : decode cX10_dealt 18 = .ok (.iload_n 2, 1) := by decide +kernel
theorem dX10_dealt_19 : decode cX10_dealt 19 = .ok (.sipush 1024, 3) := by decide +kernel
theorem dX10_dealt_22 : decode cX10_dealt 22 = .ok (.if_icmp .ge 24, 3) := by decide +kernel
theorem dX10_dealt_25 : decode cX10_dealt 25 = .ok (.aload_n 0, 1) := by decide +kernel
theorem dX10_dealt_26 : decode cX10_dealt 26 = .ok (.getfield 45, 3) := by decide +kernel
theorem dX10_dealt_29 : decode cX10_dealt 29 = .ok (.aload_n 0, 1) := by decide +kernel
theorem dX10_dealt_30 : decode cX10_dealt 30 = .ok (.aload_n 0, 1) := by decide +kernel
theorem dX10_dealt_31 : decode cX10_dealt 31 = .ok (.getfield 103, 3) := by decide +kernel
theorem dX10_dealt_34 : decode cX10_dealt 34 = .ok (.iload_n 2, 1) := by decide +kernel
theorem dX10_dealt_35 : decode cX10_dealt 35 = .ok (.invokevirtual 267, 3) := by decide +kernel
theorem dX10_dealt_38 : decode cX10_dealt 38 = .ok (.iconst 0, 1) := by decide +kernel
theorem dX10_dealt_39 : decode cX10_dealt 39 = .ok (.iastore, 1) := by decide +kernel
theorem dX10_dealt_40 : decode cX10_dealt 40 = .ok (.iinc 2 1, 3) := by decide +kernel
theorem dX10_dealt_43 : decode cX10_dealt 43 = .ok (.goto (-25), 3) := by decide +kernel
theorem dX10_dealt_46 : decode cX10_dealt 46 = .ok (.aload_n 0, 1) := by decide +kernel
theorem dX10_dealt_47 : decode cX10_dealt 47 = .ok (.getfield 103, 3) := by decide +kernel
theorem dX10_dealt_50 : decode cX10_dealt 50 = .ok (.iconst 1, 1) := by decide +kernel
theorem dX10_dealt_51 : decode cX10_dealt 51 = .ok (.isub, 1) := by decide +kernel
theorem dX10_dealt_52 : decode cX10_dealt 52 = .ok (.istore_n 2, 1) := by decide +kernel
theorem dX10_dealt_53 : decode cX10_dealt 53 = .ok (.iload_n 2, 1) := by decide +kernel
theorem dX10_dealt_54 : decode cX10_dealt 54 = .ok (.ifCond .lt 174, 3) := by decide +kernel
theorem dX10_dealt_57 : decode cX10_dealt 57 = .ok (.iconst 0, 1) := by decide +kernel
theorem dX10_dealt_58 : decode cX10_dealt 58 = .ok (.istore_n 3, 1) := by decide +kernel
theorem dX10_dealt_59 : decode cX10_dealt 59 = .ok (.iload_n 3, 1) := by decide +kernel
theorem dX10_dealt_60 : decode cX10_dealt 60 = .ok (.aload_n 0, 1) := by decide +kernel
theorem dX10_dealt_61 : decode cX10_dealt 61 = .ok (.getfield 100, 3) := by decide +kernel
theorem dX10_dealt_64 : decode cX10_dealt 64 = .ok (.if_icmp .ge 22, 3) := by decide +kernel
theorem dX10_dealt_67 : decode cX10_dealt 67 = .ok (.aload_n 0, 1) := by decide +kernel
theorem dX10_dealt_68 : decode cX10_dealt 68 = .ok (.getfield 42, 3) := by decide +kernel
theorem dX10_dealt_71 : decode cX10_dealt 71 = .ok (.iload_n 3, 1) := by decide +kernel
theorem dX10_dealt_72 : decode cX10_dealt 72 = .ok (.aload_n 0, 1) := by decide +kernel
theorem dX10_dealt_73 : decode cX10_dealt 73 = .ok (.iconst (-1), 1) := by decide +kernel
theorem dX10_dealt_74 : decode cX10_dealt 74 = .ok (.iload_n 2, 1) := by decide +kernel
theorem dX10_dealt_75 : decode cX10_dealt 75 = .ok (.iload_n 3, 1) := by decide +kernel
theorem dX10_dealt_76 : decode cX10_dealt 76 = .ok (.invokevirtual 255, 3) := by decide +kernel
theorem dX10_dealt_79 : decode cX10_dealt 79 = .ok (.iastore, 1) := by decide +kernel
theorem dX10_dealt_80 : decode cX10_dealt 80 = .ok (.iinc 3 1, 3) := by decide +kernel
theorem dX10_dealt_83 : decode cX10_dealt 83 = .ok (.goto (-24), 3) := by decide +kernel
theorem dX10_dealt_86 : decode cX10_dealt 86 = .ok (.iconst 0, 1) := by decide +kernel
theorem dX10_dealt_87 : decode cX10_dealt 87 = .ok (.istore_n 3, 1) := by decide +kernel
theorem dX10_dealt_88 : decode cX10_dealt 88 = .ok (.iload_n 3, 1) := by decide +kernel
theorem dX10_dealt_89 : decode cX10_dealt 89 = .ok (.iconst 1, 1) := by decide +kernel
theorem dX10_dealt_90 : decode cX10_dealt 90 = .ok (.aload_n 0, 1) := by decide +kernel
theorem dX10_dealt_91 : decode cX10_dealt 91 = .ok (.getfield 100, 3) := by decide +kernel
theorem dX10_dealt_94 : decode cX10_dealt 94 = .ok (.ishl, 1) := by decide +kernel
theorem dX10_dealt_95 : decode cX10_dealt 95 = .ok (.if_icmp .ge 127, 3) := by decide +kernel
theorem dX10_dealt_98 : decode cX10_dealt 98 = .ok (.aload_n 0, 1) := by decide +kernel
theorem dX10_dealt_99 : decode cX10_dealt 99 = .ok (.getfield 45, 3) := by decide +kernel
theorem dX10_dealt_102 : decode cX10_dealt 102 = .ok (.aload_n 0, 1) := by decide +kernel
theorem dX10_dealt_103 : decode cX10_dealt 103 = .ok (.iload_n 2, 1) := by decide +kernel
theorem dX10_dealt_104 : decode cX10_dealt 104 = .ok (.iconst 1, 1) := by decide +kernel
theorem dX10_dealt_105 : decode cX10_dealt 105 = .ok (.iadd, 1) := by decide +kernel
theorem dX10_dealt_106 : decode cX10_dealt 106 = .ok (.iload_n 3, 1) := by decide +kernel
theorem dX10_dealt_107 : decode cX10_dealt 107 = .ok (.invokevirtual 267, 3) := by decide +kernel
theorem dX10_dealt_110 : decode cX10_dealt 110 = .ok (.iaload, 1) := by decide +kernel
theorem dX10_dealt_111 : decode cX10_dealt 111 = .ok (.istore 4, 2) := by decide +kernel
theorem dX10_dealt_113 : decode cX10_dealt 113 = .ok (.iconst 0, 1) := by decide +kernel
theorem dX10_dealt_114 : decode cX10_dealt 114 = .ok (.istore 5, 2) := by decide +kernel
theorem dX10_dealt_116 : decode cX10_dealt 116 = .ok (.iload 5, 2) := by decide +kernel
theorem dX10_dealt_118 : decode cX10_dealt 118 = .ok (.aload_n 0, 1) := by decide +kernel
theorem dX10_dealt_119 : decode cX10_dealt 119 = .ok (.getfield 100, 3) := by decide +kernel
theorem dX10_dealt_122 : decode cX10_dealt 122 = .ok (.if_icmp .ge 81, 3) := by decide +kernel
theorem dX10_dealt_125 : decode cX10_dealt 125 = .ok (.aload_n 0, 1) := by decide +kernel
theorem dX10_dealt_126 : decode cX10_dealt 126 = .ok (.iload 5, 2) := by decide +kernel
theorem dX10_dealt_128 : decode cX10_dealt 128 = .ok (.invokevirtual 261, 3) := by decide +kernel
theorem dX10_dealt_131 : decode cX10_dealt 131 = .ok (.ifCond .eq 66, 3) := by decide +kernel
theorem dX10_dealt_134 : decode cX10_dealt 134 = .ok (.iload_n 3, 1) := by decide +kernel
theorem dX10_dealt_135 : decode cX10_dealt 135 = .ok (.iload 5, 2) := by decide +kernel
theorem dX10_dealt_137 : decode cX10_dealt 137 = .ok (.invokestatic 258, 3) := by decide +kernel
theorem dX10_dealt_140 : decode cX10_dealt 140 = .ok (.ifCond .ne 57, 3) := by decide +kernel
theorem dX10_dealt_143 : decode cX10_dealt 143 = .ok (.aload_n 0, 1) := by decide +kernel
theorem dX10_dealt_144 : decode cX10_dealt 144 = .ok (.getfield 42, 3) := by decide +kernel
theorem dX10_dealt_147 : decode cX10_dealt 147 = .ok (.iload 5, 2) := by decide +kernel
theorem dX10_dealt_149 : decode cX10_dealt 149 = .ok (.iaload, 1) := by decide +kernel
theorem dX10_dealt_150 : decode cX10_dealt 150 = .ok (.ifCond .lt 47, 3) := by decide +kernel
theorem dX10_dealt_153 : decode cX10_dealt 153 = .ok (.aload_n 0, 1) := by decide +kernel
theorem dX10_dealt_154 : decode cX10_dealt 154 = .ok (.getfield 42, 3) := by decide +kernel
theorem dX10_dealt_157 : decode cX10_dealt 157 = .ok (.iload 5, 2) := by decide +kernel
theorem dX10_dealt_159 : decode cX10_dealt 159 = .ok (.iaload, 1) := by decide +kernel
theorem dX10_dealt_160 : decode cX10_dealt 160 = .ok (.aload_n 0, 1) := by decide +kernel
theorem dX10_dealt_161 : decode cX10_dealt 161 = .ok (.getfield 45, 3) := by decide +kernel
theorem dX10_dealt_164 : decode cX10_dealt 164 = .ok (.aload_n 0, 1) := by decide +kernel
theorem dX10_dealt_165 : decode cX10_dealt 165 = .ok (.iload_n 2, 1) := by decide +kernel
theorem dX10_dealt_166 : decode cX10_dealt 166 = .ok (.iconst 1, 1) := by decide +kernel
theorem dX10_dealt_167 : decode cX10_dealt 167 = .ok (.iadd, 1) := by decide +kernel
theorem dX10_dealt_168 : decode cX10_dealt 168 = .ok (.iload_n 3, 1) := by decide +kernel
theorem dX10_dealt_169 : decode cX10_dealt 169 = .ok (.iconst 1, 1) := by decide +kernel
theorem dX10_dealt_170 : decode cX10_dealt 170 = .ok (.iload 5, 2) := by decide +kernel
theorem dX10_dealt_172 : decode cX10_dealt 172 = .ok (.ishl, 1) := by decide +kernel
theorem dX10_dealt_173 : decode cX10_dealt 173 = .ok (.ior, 1) := by decide +kernel
theorem dX10_dealt_174 : decode cX10_dealt 174 = .ok (.invokevirtual 267, 3) := by decide +kernel
theorem dX10_dealt_177 : decode cX10_dealt 177 = .ok (.iaload, 1) := by decide +kernel
theorem dX10_dealt_178 : decode cX10_dealt 178 = .ok (.iadd, 1) := by decide +kernel
theorem dX10_dealt_179 : decode cX10_dealt 179 = .ok (.istore 6, 2) := by decide +kernel
theorem dX10_dealt_181 : decode cX10_dealt 181 = .ok (.iload 6, 2) := by decide +kernel
theorem dX10_dealt_183 : decode cX10_dealt 183 = .ok (.iload 4, 2) := by decide +kernel
theorem dX10_dealt_185 : decode cX10_dealt 185 = .ok (.if_icmp .le 8, 3) := by decide +kernel
theorem dX10_dealt_188 : decode cX10_dealt 188 = .ok (.iload 6, 2) := by decide +kernel
theorem dX10_dealt_190 : decode cX10_dealt 190 = .ok (.goto 5, 3) := by decide +kernel
theorem dX10_dealt_193 : decode cX10_dealt 193 = .ok (.iload 4, 2) := by decide +kernel
theorem dX10_dealt_195 : decode cX10_dealt 195 = .ok (.istore 4, 2) := by decide +kernel
theorem dX10_dealt_197 : decode cX10_dealt 197 = .ok (.iinc 5 1, 3) := by decide +kernel
theorem dX10_dealt_200 : decode cX10_dealt 200 = .ok (.goto (-84), 3) := by decide +kernel
theorem dX10_dealt_203 : decode cX10_dealt 203 = .ok (.aload_n 0, 1) := by decide +kernel
theorem dX10_dealt_204 : decode cX10_dealt 204 = .ok (.getfield 45, 3) := by decide +kernel
theorem dX10_dealt_207 : decode cX10_dealt 207 = .ok (.aload_n 0, 1) := by decide +kernel
theorem dX10_dealt_208 : decode cX10_dealt 208 = .ok (.iload_n 2, 1) := by decide +kernel
theorem dX10_dealt_209 : decode cX10_dealt 209 = .ok (.iload_n 3, 1) := by decide +kernel
theorem dX10_dealt_210 : decode cX10_dealt 210 = .ok (.invokevirtual 267, 3) := by decide +kernel
theorem dX10_dealt_213 : decode cX10_dealt 213 = .ok (.iload 4, 2) := by decide +kernel
theorem dX10_dealt_215 : decode cX10_dealt 215 = .ok (.iastore, 1) := by decide +kernel
theorem dX10_dealt_216 : decode cX10_dealt 216 = .ok (.iinc 3 1, 3) := by decide +kernel
theorem dX10_dealt_219 : decode cX10_dealt 219 = .ok (.goto (-131), 3) := by decide +kernel
theorem dX10_dealt_222 : decode cX10_dealt 222 = .ok (.iinc 2 (-1), 3) := by decide +kernel
theorem dX10_dealt_225 : decode cX10_dealt 225 = .ok (.goto (-172), 3) := by decide +kernel
theorem dX10_dealt_228 : decode cX10_dealt 228 = .ok (.iload_n 1, 1) := by decide +kernel
theorem dX10_dealt_229 : decode cX10_dealt 229 = .ok (.iconst (-1), 1) := by decide +kernel
theorem dX10_dealt_230 : decode cX10_dealt 230 = .ok (.if_icmp .ne 15, 3) := by decide +kernel
theorem dX10_dealt_233 : decode cX10_dealt 233 = .ok (.aload_n 0, 1) := by decide +kernel
theorem dX10_dealt_234 : decode cX10_dealt 234 = .ok (.getfield 45, 3) := by decide +kernel
theorem dX10_dealt_237 : decode cX10_dealt 237 = .ok (.aload_n 0, 1) := by decide +kernel
theorem dX10_dealt_238 : decode cX10_dealt 238 = .ok (.iconst 0, 1) := by decide +kernel
theorem dX10_dealt_239 : decode cX10_dealt 239 = .ok (.iconst 0, 1) := by decide +kernel
theorem dX10_dealt_240 : decode cX10_dealt 240 = .ok (.invokevirtual 267, 3) := by decide +kernel
theorem dX10_dealt_243 : decode cX10_dealt 243 = .ok (.iaload, 1) := by decide +kernel
theorem dX10_dealt_244 : decode cX10_dealt 244 = .ok (.ireturn, 1) := by decide +kernel
theorem dX10_dealt_245 : decode cX10_dealt 245 = .ok (.iconst 0, 1) := by decide +kernel
theorem dX10_dealt_246 : decode cX10_dealt 246 = .ok (.istore_n 2, 1) := by decide +kernel
theorem dX10_dealt_247 : decode cX10_dealt 247 = .ok (.bipush (-2), 2) := by decide +kernel
theorem dX10_dealt_249 : decode cX10_dealt 249 = .ok (.istore_n 3, 1) := by decide +kernel
theorem dX10_dealt_250 : decode cX10_dealt 250 = .ok (.iconst 0, 1) := by decide +kernel
theorem dX10_dealt_251 : decode cX10_dealt 251 = .ok (.istore 4, 2) := by decide +kernel
theorem dX10_dealt_253 : decode cX10_dealt 253 = .ok (.iload 4, 2) := by decide +kernel
theorem dX10_dealt_255 : decode cX10_dealt 255 = .ok (.iload_n 1, 1) := by decide +kernel
theorem dX10_dealt_256 : decode cX10_dealt 256 = .ok (.if_icmp .gt 139, 3) := by decide +kernel
theorem dX10_dealt_259 : decode cX10_dealt 259 = .ok (.bipush (-2), 2) := by decide +kernel
theorem dX10_dealt_261 : decode cX10_dealt 261 = .ok (.istore_n 3, 1) := by decide +kernel
theorem dX10_dealt_262 : decode cX10_dealt 262 = .ok (.iconst 0, 1) := by decide +kernel
theorem dX10_dealt_263 : decode cX10_dealt 263 = .ok (.istore 5, 2) := by decide +kernel
theorem dX10_dealt_265 : decode cX10_dealt 265 = .ok (.iload 5, 2) := by decide +kernel
theorem dX10_dealt_267 : decode cX10_dealt 267 = .ok (.aload_n 0, 1) := by decide +kernel
theorem dX10_dealt_268 : decode cX10_dealt 268 = .ok (.getfield 100, 3) := by decide +kernel
theorem dX10_dealt_271 : decode cX10_dealt 271 = .ok (.if_icmp .ge 104, 3) := by decide +kernel
theorem dX10_dealt_274 : decode cX10_dealt 274 = .ok (.iload_n 3, 1) := by decide +kernel
theorem dX10_dealt_275 : decode cX10_dealt 275 = .ok (.ifCond .ge 100, 3) := by decide +kernel
theorem dX10_dealt_278 : decode cX10_dealt 278 = .ok (.aload_n 0, 1) := by decide +kernel
theorem dX10_dealt_279 : decode cX10_dealt 279 = .ok (.iconst (-1), 1) := by decide +kernel
theorem dX10_dealt_280 : decode cX10_dealt 280 = .ok (.iload 4, 2) := by decide +kernel
theorem dX10_dealt_282 : decode cX10_dealt 282 = .ok (.iload 5, 2) := by decide +kernel
theorem dX10_dealt_284 : decode cX10_dealt 284 = .ok (.invokevirtual 255, 3) := by decide +kernel
theorem dX10_dealt_287 : decode cX10_dealt 287 = .ok (.istore 6, 2) := by decide +kernel
theorem dX10_dealt_289 : decode cX10_dealt 289 = .ok (.aload_n 0, 1) := by decide +kernel
theorem dX10_dealt_290 : decode cX10_dealt 290 = .ok (.iload 5, 2) := by decide +kernel
theorem dX10_dealt_292 : decode cX10_dealt 292 = .ok (.invokevirtual 261, 3) := by decide +kernel
theorem dX10_dealt_295 : decode cX10_dealt 295 = .ok (.ifCond .eq 58, 3) := by decide +kernel
theorem dX10_dealt_298 : decode cX10_dealt 298 = .ok (.iload_n 2, 1) := by decide +kernel
theorem dX10_dealt_299 : decode cX10_dealt 299 = .ok (.iload 5, 2) := by decide +kernel
theorem dX10_dealt_301 : decode cX10_dealt 301 = .ok (.invokestatic 258, 3) := by decide +kernel
theorem dX10_dealt_304 : decode cX10_dealt 304 = .ok (.ifCond .ne 49, 3) := by decide +kernel
theorem dX10_dealt_307 : decode cX10_dealt 307 = .ok (.iload 6, 2) := by decide +kernel
theorem dX10_dealt_309 : decode cX10_dealt 309 = .ok (.ifCond .lt 44, 3) := by decide +kernel
theorem dX10_dealt_312 : decode cX10_dealt 312 = .ok (.iload 6, 2) := by decide +kernel
theorem dX10_dealt_314 : decode cX10_dealt 314 = .ok (.aload_n 0, 1) := by decide +kernel
theorem dX10_dealt_315 : decode cX10_dealt 315 = .ok (.getfield 45, 3) := by decide +kernel
theorem dX10_dealt_318 : decode cX10_dealt 318 = .ok (.aload_n 0, 1) := by decide +kernel
theorem dX10_dealt_319 : decode cX10_dealt 319 = .ok (.iload 4, 2) := by decide +kernel
theorem dX10_dealt_321 : decode cX10_dealt 321 = .ok (.iconst 1, 1) := by decide +kernel
theorem dX10_dealt_322 : decode cX10_dealt 322 = .ok (.iadd, 1) := by decide +kernel
theorem dX10_dealt_323 : decode cX10_dealt 323 = .ok (.iload_n 2, 1) := by decide +kernel
theorem dX10_dealt_324 : decode cX10_dealt 324 = .ok (.iconst 1, 1) := by decide +kernel
theorem dX10_dealt_325 : decode cX10_dealt 325 = .ok (.iload 5, 2) := by decide +kernel
theorem dX10_dealt_327 : decode cX10_dealt 327 = .ok (.ishl, 1) := by decide +kernel
theorem dX10_dealt_328 : decode cX10_dealt 328 = .ok (.ior, 1) := by decide +kernel
theorem dX10_dealt_329 : decode cX10_dealt 329 = .ok (.invokevirtual 267, 3) := by decide +kernel
theorem dX10_dealt_332 : decode cX10_dealt 332 = .ok (.iaload, 1) := by decide +kernel
theorem dX10_dealt_333 : decode cX10_dealt 333 = .ok (.iadd, 1) := by decide +kernel
theorem dX10_dealt_334 : decode cX10_dealt 334 = .ok (.aload_n 0, 1) := by decide +kernel
theorem dX10_dealt_335 : decode cX10_dealt 335 = .ok (.getfield 45, 3) := by decide +kernel
theorem dX10_dealt_338 : decode cX10_dealt 338 = .ok (.aload_n 0, 1) := by decide +kernel
theorem dX10_dealt_339 : decode cX10_dealt 339 = .ok (.iload 4, 2) := by decide +kernel
theorem dX10_dealt_341 : decode cX10_dealt 341 = .ok (.iload_n 2, 1) := by decide +kernel
theorem dX10_dealt_342 : decode cX10_dealt 342 = .ok (.invokevirtual 267, 3) := by decide +kernel
theorem dX10_dealt_345 : decode cX10_dealt 345 = .ok (.iaload, 1) := by decide +kernel
theorem dX10_dealt_346 : decode cX10_dealt 346 = .ok (.if_icmp .ne 7, 3) := by decide +kernel
theorem dX10_dealt_349 : decode cX10_dealt 349 = .ok (.iconst 1, 1) := by decide +kernel
theorem dX10_dealt_350 : decode cX10_dealt 350 = .ok (.goto 4, 3) := by decide +kernel
theorem dX10_dealt_353 : decode cX10_dealt 353 = .ok (.iconst 0, 1) := by decide +kernel
theorem dX10_dealt_354 : decode cX10_dealt 354 = .ok (.istore 7, 2) := by decide +kernel
theorem dX10_dealt_356 : decode cX10_dealt 356 = .ok (.iload 7, 2) := by decide +kernel
theorem dX10_dealt_358 : decode cX10_dealt 358 = .ok (.ifCond .eq 8, 3) := by decide +kernel
theorem dX10_dealt_361 : decode cX10_dealt 361 = .ok (.iload 5, 2) := by decide +kernel
theorem dX10_dealt_363 : decode cX10_dealt 363 = .ok (.goto 5, 3) := by decide +kernel
theorem dX10_dealt_366 : decode cX10_dealt 366 = .ok (.bipush (-2), 2) := by decide +kernel
theorem dX10_dealt_368 : decode cX10_dealt 368 = .ok (.istore_n 3, 1) := by decide +kernel
theorem dX10_dealt_369 : decode cX10_dealt 369 = .ok (.iinc 5 1, 3) := by decide +kernel
theorem dX10_dealt_372 : decode cX10_dealt 372 = .ok (.goto (-107), 3) := by decide +kernel
theorem dX10_dealt_375 : decode cX10_dealt 375 = .ok (.iload_n 2, 1) := by decide +kernel
theorem dX10_dealt_376 : decode cX10_dealt 376 = .ok (.iload_n 3, 1) := by decide +kernel
theorem dX10_dealt_377 : decode cX10_dealt 377 = .ok (.ifCond .ge 7, 3) := by decide +kernel
theorem dX10_dealt_380 : decode cX10_dealt 380 = .ok (.iconst 0, 1) := by decide +kernel
theorem dX10_dealt_381 : decode cX10_dealt 381 = .ok (.goto 6, 3) := by decide +kernel
theorem dX10_dealt_384 : decode cX10_dealt 384 = .ok (.iconst 1, 1) := by decide +kernel
theorem dX10_dealt_385 : decode cX10_dealt 385 = .ok (.iload_n 3, 1) := by decide +kernel
theorem dX10_dealt_386 : decode cX10_dealt 386 = .ok (.ishl, 1) := by decide +kernel
theorem dX10_dealt_387 : decode cX10_dealt 387 = .ok (.ior, 1) := by decide +kernel
theorem dX10_dealt_388 : decode cX10_dealt 388 = .ok (.istore_n 2, 1) := by decide +kernel
theorem dX10_dealt_389 : decode cX10_dealt 389 = .ok (.iinc 4 1, 3) := by decide +kernel
theorem dX10_dealt_392 : decode cX10_dealt 392 = .ok (.goto (-139), 3) := by decide +kernel
theorem dX10_dealt_395 : decode cX10_dealt 395 = .ok (.iload_n 3, 1) := by decide +kernel
theorem dX10_dealt_396 : decode cX10_dealt 396 = .ok (.ireturn, 1) := by decide +kernel
theorem dX10_groan_0 : decode cX10_groan 0 = .ok (.aload_n 0, 1) := by decide +kernel
theorem dX10_groan_1 : decode cX10_groan 1 = .ok (.iload_n 1, 1) := by decide +kernel
theorem dX10_groan_2 : decode cX10_groan 2 = .ok (.invokevirtual 217, 3) := by decide +kernel
theorem dX10_groan_5 : decode cX10_groan 5 = .ok (.iconst (-1), 1) := by decide +kernel
theorem dX10_groan_6 : decode cX10_groan 6 = .ok (.if_icmp .eq 15, 3) := by decide +kernel
theorem dX10_groan_9 : decode cX10_groan 9 = .ok (.iload_n 2, 1) := by decide +kernel
theorem dX10_groan_10 : decode cX10_groan 10 = .ok (.i2l, 1) := by decide +kernel
theorem dX10_groan_11 : decode cX10_groan 11 = .ok (.lconst 0, 1) := by decide +kernel
theorem dX10_groan_12 : decode cX10_groan 12 = .ok (.ldc2_w 211, 3) := by decide +kernel
theorem dX10_groan_15 : decode cX10_groan 15 = .ok (.invokestatic 96, 3) := by decide +kernel
theorem dX10_groan_18 : decode cX10_groan 18 = .ok (.ifCond .ne 5, 3) := by decide +kernel
theorem dX10_groan_21 : decode cX10_groan 21 = .ok (.iconst (-1), 1) := by decide +kernel
theorem dX10_groan_22 : decode cX10_groan 22 = .ok (.ireturn, 1) := by decide +kernel
theorem dX10_groan_23 : decode cX10_groan 23 = .ok (.aload_n 0, 1) := by decide +kernel
theorem dX10_groan_24 : decode cX10_groan 24 = .ok (.iload_n 1, 1) := by decide +kernel
theorem dX10_groan_25 : decode cX10_groan 25 = .ok (.invokevirtual 217, 3) := by decide +kernel
theorem dX10_groan_28 : decode cX10_groan 28 = .ok (.ifCond .ge 9, 3) := by decide +kernel
theorem dX10_groan_31 : decode cX10_groan 31 = .ok (.aload_n 0, 1) := by decide +kernel
theorem dX10_groan_32 : decode cX10_groan 32 = .ok (.iload_n 1, 1) := by decide +kernel
theorem dX10_groan_33 : decode cX10_groan 33 = .ok (.invokevirtual 217, 3) := by decide +kernel
theorem dX10_groan_36 : decode cX10_groan 36 = .ok (.ireturn, 1) := by decide +kernel
theorem dX10_groan_37 : decode cX10_groan 37 = .ok (.iconst 0, 1) := by decide +kernel
theorem dX10_groan_38 : decode cX10_groan 38 = .ok (.istore_n 3, 1) := by decide +kernel
theorem dX10_groan_39 : decode cX10_groan 39 = .ok (.iconst 0, 1) := by decide +kernel
theorem dX10_groan_40 : decode cX10_groan 40 = .ok (.istore 4, 2) := by decide +kernel
theorem dX10_groan_42 : decode cX10_groan 42 = .ok (.bipush (-2), 2) := by decide +kernel
theorem dX10_groan_44 : decode cX10_groan 44 = .ok (.istore 5, 2) := by decide +kernel
theorem dX10_groan_46 : decode cX10_groan 46 = .ok (.iconst 1, 1) := by decide +kernel
theorem dX10_groan_47 : decode cX10_groan 47 = .ok (.istore 6, 2) := by decide +kernel
theorem dX10_groan_49 : decode cX10_groan 49 = .ok (.iconst 0, 1) := by decide +kernel
theorem dX10_groan_50 : decode cX10_groan 50 = .ok (.istore 7, 2) := by decide +kernel
theorem dX10_groan_52 : decode cX10_groan 52 = .ok (.iload 7, 2) := by decide +kernel
theorem dX10_groan_54 : decode cX10_groan 54 = .ok (.bipush 10, 2) := by decide +kernel
theorem dX10_groan_56 : decode cX10_groan 56 = .ok (.if_icmp .ge 190, 3) := by decide +kernel
theorem dX10_groan_59 : decode cX10_groan 59 = .ok (.iload 6, 2) := by decide +kernel
theorem dX10_groan_61 : decode cX10_groan 61 = .ok (.ifCond .eq 185, 3) := by decide +kernel
theorem dX10_groan_64 : decode cX10_groan 64 = .ok (.bipush 60, 2) := by decide +kernel
theorem dX10_groan_66 : decode cX10_groan 66 = .ok (.iload_n 1, 1) := by decide +kernel
theorem dX10_groan_67 : decode cX10_groan 67 = .ok (.imul, 1) := by decide +kernel
theorem dX10_groan_68 : decode cX10_groan 68 = .ok (.iconst 2, 1) := by decide +kernel
theorem dX10_groan_69 : decode cX10_groan 69 = .ok (.iload 7, 2) := by decide +kernel
theorem dX10_groan_71 : decode cX10_groan 71 = .ok (.imul, 1) := by decide +kernel
theorem dX10_groan_72 : decode cX10_groan 72 = .ok (.iadd, 1) := by decide +kernel
theorem dX10_groan_73 : decode cX10_groan 73 = .ok (.istore 8, 2) := by decide +kernel
theorem dX10_groan_75 : decode cX10_groan 75 = .ok (.iconst 2, 1) := by decide +kernel
theorem dX10_groan_76 : decode cX10_groan 76 = .ok (.iload 7, 2) := by decide +kernel
theorem dX10_groan_78 : decode cX10_groan 78 = .ok (.imul, 1) := by decide +kernel
theorem dX10_groan_79 : decode cX10_groan 79 = .ok (.iconst 1, 1) := by decide +kernel
theorem dX10_groan_80 : decode cX10_groan 80 = .ok (.iadd, 1) := by decide +kernel
theorem dX10_groan_81 : decode cX10_groan 81 = .ok (.aload_n 0, 1) := by decide +kernel
theorem dX10_groan_82 : decode cX10_groan 82 = .ok (.getfield 75, 3) := by decide +kernel
theorem dX10_groan_85 : decode cX10_groan 85 = .ok (.iload_n 1, 1) := by decide +kernel
theorem dX10_groan_86 : decode cX10_groan 86 = .ok (.iaload, 1) := by decide +kernel
theorem dX10_groan_87 : decode cX10_groan 87 = .ok (.if_icmp .ge 36, 3) := by decide +kernel
theorem dX10_groan_90 : decode cX10_groan 90 = .ok (.aload_n 0, 1) := by decide +kernel
theorem dX10_groan_91 : decode cX10_groan 91 = .ok (.aload_n 0, 1) := by decide +kernel
theorem dX10_groan_92 : decode cX10_groan 92 = .ok (.getfield 78, 3) := by decide +kernel
theorem dX10_groan_95 : decode cX10_groan 95 = .ok (.iload 8, 2) := by decide +kernel
theorem dX10_groan_97 : decode cX10_groan 97 = .ok (.laload, 1) := by decide +kernel
theorem dX10_groan_98 : decode cX10_groan 98 = .ok (.invokevirtual 130, 3) := by decide +kernel
theorem dX10_groan_101 : decode cX10_groan 101 = .ok (.ifCond .eq 22, 3) := by decide +kernel
theorem dX10_groan_104 : decode cX10_groan 104 = .ok (.aload_n 0, 1) := by decide +kernel
theorem dX10_groan_105 : decode cX10_groan 105 = .ok (.getfield 78, 3) := by decide +kernel
theorem dX10_groan_108 : decode cX10_groan 108 = .ok (.iload 8, 2) := by decide +kernel
theorem dX10_groan_110 : decode cX10_groan 110 = .ok (.iconst 1, 1) := by decide +kernel
theorem dX10_groan_111 : decode cX10_groan 111 = .ok (.iadd, 1) := by decide +kernel
theorem dX10_groan_112 : decode cX10_groan 112 = .ok (.laload, 1) := by decide +kernel
theorem dX10_groan_113 : decode cX10_groan 113 = .ok (.invokestatic 106, 3) := by decide +kernel
theorem dX10_groan_116 : decode cX10_groan 116 = .ok (.ifCond .eq 7, 3) := by decide +kernel
theorem dX10_groan_119 : decode cX10_groan 119 = .ok (.iconst 1, 1) := by decide +kernel
theorem dX10_groan_120 : decode cX10_groan 120 = .ok (.goto 4, 3) := by decide +kernel
theorem dX10_groan_123 : decode cX10_groan 123 = .ok (.iconst 0, 1) := by decide +kernel
theorem dX10_groan_124 : decode cX10_groan 124 = .ok (.istore 6, 2) := by decide +kernel
theorem dX10_groan_126 : decode cX10_groan 126 = .ok (.iload 6, 2) := by decide +kernel
theorem dX10_groan_128 : decode cX10_groan 128 = .ok (.ifCond .eq 112, 3) := by decide +kernel
theorem dX10_groan_131 : decode cX10_groan 131 = .ok (.aload_n 0, 1) := by decide +kernel
theorem dX10_groan_132 : decode cX10_groan 132 = .ok (.getfield 78, 3) := by decide +kernel
theorem dX10_groan_135 : decode cX10_groan 135 = .ok (.iload 8, 2) := by decide +kernel
theorem dX10_groan_137 : decode cX10_groan 137 = .ok (.laload, 1) := by decide +kernel
theorem dX10_groan_138 : decode cX10_groan 138 = .ok (.l2i, 1) := by decide +kernel
theorem dX10_groan_139 : decode cX10_groan 139 = .ok (.istore 9, 2) := by decide +kernel
theorem dX10_groan_141 : decode cX10_groan 141 = .ok (.aload_n 0, 1) := by decide +kernel
theorem dX10_groan_142 : decode cX10_groan 142 = .ok (.getfield 78, 3) := by decide +kernel
theorem dX10_groan_145 : decode cX10_groan 145 = .ok (.iload 8, 2) := by decide +kernel
theorem dX10_groan_147 : decode cX10_groan 147 = .ok (.iconst 1, 1) := by decide +kernel
theorem dX10_groan_148 : decode cX10_groan 148 = .ok (.iadd, 1) := by decide +kernel
theorem dX10_groan_149 : decode cX10_groan 149 = .ok (.laload, 1) := by decide +kernel
theorem dX10_groan_150 : decode cX10_groan 150 = .ok (.l2i, 1) := by decide +kernel
theorem dX10_groan_151 : decode cX10_groan 151 = .ok (.istore 10, 2) := by decide +kernel
theorem dX10_groan_153 : decode cX10_groan 153 = .ok (.iload 10, 2) := by decide +kernel
theorem dX10_groan_155 : decode cX10_groan 155 = .ok (.aload_n 0, 1) := by decide +kernel
theorem dX10_groan_156 : decode cX10_groan 156 = .ok (.getfield 9, 3) := by decide +kernel
theorem dX10_groan_159 : decode cX10_groan 159 = .ok (.bipush 24, 2) := by decide +kernel
theorem dX10_groan_161 : decode cX10_groan 161 = .ok (.iload 9, 2) := by decide +kernel
theorem dX10_groan_163 : decode cX10_groan 163 = .ok (.iadd, 1) := by decide +kernel
theorem dX10_groan_164 : decode cX10_groan 164 = .ok (.iaload, 1) := by decide +kernel
theorem dX10_groan_165 : decode cX10_groan 165 = .ok (.if_icmp .eq 19, 3) := by decide +kernel
theorem dX10_groan_168 : decode cX10_groan 168 = .ok (.iload_n 3, 1) := by decide +kernel
theorem dX10_groan_169 : decode cX10_groan 169 = .ok (.ifCond .ne 8, 3) := by decide +kernel
theorem dX10_groan_172 : decode cX10_groan 172 = .ok (.iload 9, 2) := by decide +kernel
theorem dX10_groan_174 : decode cX10_groan 174 = .ok (.goto 5, 3) := by decide +kernel
theorem dX10_groan_177 : decode cX10_groan 177 = .ok (.iload 5, 2) := by decide +kernel
theorem dX10_groan_179 : decode cX10_groan 179 = .ok (.istore 5, 2) := by decide +kernel
theorem dX10_groan_181 : decode cX10_groan 181 = .ok (.iinc 3 1, 3) := by decide +kernel
theorem dX10_groan_184 : decode cX10_groan 184 = .ok (.iload 4, 2) := by decide +kernel
theorem dX10_groan_186 : decode cX10_groan 186 = .ok (.aload_n 0, 1) := by decide +kernel
theorem dX10_groan_187 : decode cX10_groan 187 = .ok (.getfield 22, 3) := by decide +kernel
theorem dX10_groan_190 : decode cX10_groan 190 = .ok (.iload 9, 2) := by decide +kernel
theorem dX10_groan_192 : decode cX10_groan 192 = .ok (.iaload, 1) := by decide +kernel
theorem dX10_groan_193 : decode cX10_groan 193 = .ok (.ifCond .lt 43, 3) := by decide +kernel
theorem dX10_groan_196 : decode cX10_groan 196 = .ok (.aload_n 0, 1) := by decide +kernel
theorem dX10_groan_197 : decode cX10_groan 197 = .ok (.aload_n 0, 1) := by decide +kernel
theorem dX10_groan_198 : decode cX10_groan 198 = .ok (.getfield 22, 3) := by decide +kernel
theorem dX10_groan_201 : decode cX10_groan 201 = .ok (.iload 9, 2) := by decide +kernel
theorem dX10_groan_203 : decode cX10_groan 203 = .ok (.iaload, 1) := by decide +kernel
theorem dX10_groan_204 : decode cX10_groan 204 = .ok (.iload 10, 2) := by decide +kernel
theorem dX10_groan_206 : decode cX10_groan 206 = .ok (.aload_n 0, 1) := by decide +kernel
theorem dX10_groan_207 : decode cX10_groan 207 = .ok (.getfield 9, 3) := by decide +kernel
theorem dX10_groan_210 : decode cX10_groan 210 = .ok (.bipush 34, 2) := by decide +kernel
theorem dX10_groan_212 : decode cX10_groan 212 = .ok (.iload 9, 2) := by decide +kernel
theorem dX10_groan_214 : decode cX10_groan 214 = .ok (.iadd, 1) := by decide +kernel
theorem dX10_groan_215 : decode cX10_groan 215 = .ok (.iaload, 1) := by decide +kernel
theorem dX10_groan_216 : decode cX10_groan 216 = .ok (.invokevirtual 207, 3) := by decide +kernel
theorem dX10_groan_219 : decode cX10_groan 219 = .ok (.aload_n 0, 1) := by decide +kernel
theorem dX10_groan_220 : decode cX10_groan 220 = .ok (.getfield 9, 3) := by decide +kernel
theorem dX10_groan_223 : decode cX10_groan 223 = .ok (.bipush 34, 2) := by decide +kernel
theorem dX10_groan_225 : decode cX10_groan 225 = .ok (.iload 9, 2) := by decide +kernel
theorem dX10_groan_227 : decode cX10_groan 227 = .ok (.iadd, 1) := by decide +kernel
theorem dX10_groan_228 : decode cX10_groan 228 = .ok (.iaload, 1) := by decide +kernel
theorem dX10_groan_229 : decode cX10_groan 229 = .ok (.if_icmp .ge 7, 3) := by decide +kernel
theorem dX10_groan_232 : decode cX10_groan 232 = .ok (.iconst 1, 1) := by decide +kernel
theorem dX10_groan_233 : decode cX10_groan 233 = .ok (.goto 4, 3) := by decide +kernel
theorem dX10_groan_236 : decode cX10_groan 236 = .ok (.iconst 0, 1) := by decide +kernel
theorem dX10_groan_237 : decode cX10_groan 237 = .ok (.iadd, 1) := by decide +kernel
theorem dX10_groan_238 : decode cX10_groan 238 = .ok (.istore 4, 2) := by decide +kernel
theorem dX10_groan_240 : decode cX10_groan 240 = .ok (.iinc 7 1, 3) := by decide +kernel
theorem dX10_groan_243 : decode cX10_groan 243 = .ok (.goto (-191), 3) := by decide +kernel
theorem dX10_groan_246 : decode cX10_groan 246 = .ok (.iload_n 2, 1) := by decide +kernel
theorem dX10_groan_247 : decode cX10_groan 247 = .ok (.ifCond .ne 7, 3) := by decide +kernel
theorem dX10_groan_250 : decode cX10_groan 250 = .ok (.iload_n 3, 1) := by decide +kernel
theorem dX10_groan_251 : decode cX10_groan 251 = .ok (.goto 15, 3) := by decide +kernel
theorem dX10_groan_254 : decode cX10_groan 254 = .ok (.iload_n 2, 1) := by decide +kernel
theorem dX10_groan_255 : decode cX10_groan 255 = .ok (.iconst 1, 1) := by decide +kernel
theorem dX10_groan_256 : decode cX10_groan 256 = .ok (.if_icmp .ne 8, 3) := by decide +kernel
theorem dX10_groan_259 : decode cX10_groan 259 = .ok (.iload 4, 2) := by decide +kernel
theorem dX10_groan_261 : decode cX10_groan 261 = .ok (.goto 5, 3) := by decide +kernel
theorem dX10_groan_264 : decode cX10_groan 264 = .ok (.iload 5, 2) := by decide +kernel
theorem dX10_groan_266 : decode cX10_groan 266 = .ok (.ireturn, 1) := by decide +kernel
theorem dX10_stock_0 : decode cX10_stock 0 = .ok (.aload_n 0, 1) := by decide +kernel
theorem dX10_stock_1 : decode cX10_stock 1 = .ok (.iload_n 1, 1) := by decide +kernel
theorem dX10_stock_2 : decode cX10_stock 2 = .ok (.invokevirtual 217, 3) := by decide +kernel
theorem dX10_stock_5 : decode cX10_stock 5 = .ok (.ifCond .lt 46, 3) := by decide +kernel
theorem dX10_stock_8 : decode cX10_stock 8 = .ok (.aload_n 0, 1) := by decide +kernel
theorem dX10_stock_9 : decode cX10_stock 9 = .ok (.getfield 75, 3) := by decide +kernel
theorem dX10_stock_12 : decode cX10_stock 12 = .ok (.iload_n 1, 1) := by decide +kernel
theorem dX10_stock_13 : decode cX10_stock 13 = .ok (.iaload, 1) := by decide +kernel
theorem dX10_stock_14 : decode cX10_stock 14 = .ok (.bipush 6, 2) := by decide +kernel
theorem dX10_stock_16 : decode cX10_stock 16 = .ok (.if_icmp .ne 35, 3) := by decide +kernel
theorem dX10_stock_19 : decode cX10_stock 19 = .ok (.iload_n 2, 1) := by decide +kernel
theorem dX10_stock_20 : decode cX10_stock 20 = .ok (.iconst (-1), 1) := by decide +kernel
theorem dX10_stock_21 : decode cX10_stock 21 = .ok (.if_icmp .eq 34, 3) := by decide +kernel
theorem dX10_stock_24 : decode cX10_stock 24 = .ok (.iload_n 2, 1) := by decide +kernel
theorem dX10_stock_25 : decode cX10_stock 25 = .ok (.ifCond .lt 26, 3) := by decide +kernel
theorem dX10_stock_28 : decode cX10_stock 28 = .ok (.aload_n 0, 1) := by decide +kernel
theorem dX10_stock_29 : decode cX10_stock 29 = .ok (.iload_n 2, 1) := by decide +kernel
theorem dX10_stock_30 : decode cX10_stock 30 = .ok (.bipush 10, 2) := by decide +kernel
theorem dX10_stock_32 : decode cX10_stock 32 = .ok (.idiv, 1) := by decide +kernel
theorem dX10_stock_33 : decode cX10_stock 33 = .ok (.i2l, 1) := by decide +kernel
theorem dX10_stock_34 : decode cX10_stock 34 = .ok (.invokevirtual 130, 3) := by decide +kernel
theorem dX10_stock_37 : decode cX10_stock 37 = .ok (.ifCond .eq 14, 3) := by decide +kernel
theorem dX10_stock_40 : decode cX10_stock 40 = .ok (.iload_n 2, 1) := by decide +kernel
theorem dX10_stock_41 : decode cX10_stock 41 = .ok (.bipush 10, 2) := by decide +kernel
theorem dX10_stock_43 : decode cX10_stock 43 = .ok (.irem, 1) := by decide +kernel
theorem dX10_stock_44 : decode cX10_stock 44 = .ok (.i2l, 1) := by decide +kernel
theorem dX10_stock_45 : decode cX10_stock 45 = .ok (.invokestatic 106, 3) := by decide +kernel
theorem dX10_stock_48 : decode cX10_stock 48 = .ok (.ifCond .ne 7, 3) := by decide +kernel
theorem dX10_stock_51 : decode cX10_stock 51 = .ok (.ldc2_w 225, 3) := by decide +kernel
theorem dX10_stock_54 : decode cX10_stock 54 = .ok (.lreturn, 1) := by decide +kernel
theorem dX10_stock_55 : decode cX10_stock 55 = .ok (.iconst 0, 1) := by decide +kernel
theorem dX10_stock_56 : decode cX10_stock 56 = .ok (.istore_n 3, 1) := by decide +kernel
theorem dX10_stock_57 : decode cX10_stock 57 = .ok (.iconst 0, 1) := by decide +kernel
theorem dX10_stock_58 : decode cX10_stock 58 = .ok (.istore 4, 2) := by decide +kernel
theorem dX10_stock_60 : decode cX10_stock 60 = .ok (.iload 4, 2) := by decide +kernel
theorem dX10_stock_62 : decode cX10_stock 62 = .ok (.bipush 6, 2) := by decide +kernel
theorem dX10_stock_64 : decode cX10_stock 64 = .ok (.if_icmp .ge 55, 3) := by decide +kernel
theorem dX10_stock_67 : decode cX10_stock 67 = .ok (.aload_n 0, 1) := by decide +kernel
theorem dX10_stock_68 : decode cX10_stock 68 = .ok (.getfield 78, 3) := by decide +kernel
theorem dX10_stock_71 : decode cX10_stock 71 = .ok (.bipush 60, 2) := by decide +kernel
theorem dX10_stock_73 : decode cX10_stock 73 = .ok (.iload_n 1, 1) := by decide +kernel
theorem dX10_stock_74 : decode cX10_stock 74 = .ok (.imul, 1) := by decide +kernel
theorem dX10_stock_75 : decode cX10_stock 75 = .ok (.iload 4, 2) := by decide +kernel
theorem dX10_stock_77 : decode cX10_stock 77 = .ok (.iadd, 1) := by decide +kernel
theorem dX10_stock_78 : decode cX10_stock 78 = .ok (.laload, 1) := by decide +kernel
theorem dX10_stock_79 : decode cX10_stock 79 = .ok (.lconst 0, 1) := by decide +kernel
theorem dX10_stock_80 : decode cX10_stock 80 = .ok (.ldc2_w 270, 3) := by decide +kernel
theorem dX10_stock_83 : decode cX10_stock 83 = .ok (.invokestatic 96, 3) := by decide +kernel
theorem dX10_stock_86 : decode cX10_stock 86 = .ok (.ifCond .ne 7, 3) := by decide +kernel
theorem dX10_stock_89 : decode cX10_stock 89 = .ok (.ldc2_w 225, 3) := by decide +kernel
theorem dX10_stock_92 : decode cX10_stock 92 = .ok (.lreturn, 1) := by decide +kernel
theorem dX10_stock_93 : decode cX10_stock 93 = .ok (.aload_n 0, 1) := by decide +kernel
theorem dX10_stock_94 : decode cX10_stock 94 = .ok (.getfield 48, 3) := by decide +kernel
theorem dX10_stock_97 : decode cX10_stock 97 = .ok (.iload 4, 2) := by decide +kernel
theorem dX10_stock_99 : decode cX10_stock 99 = .ok (.aload_n 0, 1) := by decide +kernel
theorem dX10_stock_100 : decode cX10_stock 100 = .ok (.getfield 78, 3) := by decide +kernel
theorem dX10_stock_103 : decode cX10_stock 103 = .ok (.bipush 60, 2) := by decide +kernel
theorem dX10_stock_105 : decode cX10_stock 105 = .ok (.iload_n 1, 1) := by decide +kernel
theorem dX10_stock_106 : decode cX10_stock 106 = .ok (.imul, 1) := by decide +kernel
theorem dX10_stock_107 : decode cX10_stock 107 = .ok (.iload 4, 2) := by decide +kernel
theorem dX10_stock_109 : decode cX10_stock 109 = .ok (.iadd, 1) := by decide +kernel
theorem dX10_stock_110 : decode cX10_stock 110 = .ok (.laload, 1) := by decide +kernel
theorem dX10_stock_111 : decode cX10_stock 111 = .ok (.l2i, 1) := by decide +kernel
theorem dX10_stock_112 : decode cX10_stock 112 = .ok (.iastore, 1) := by decide +kernel
theorem dX10_stock_113 : decode cX10_stock 113 = .ok (.iinc 4 1, 3) := by decide +kernel
theorem dX10_stock_116 : decode cX10_stock 116 = .ok (.goto (-56), 3) := by decide +kernel
theorem dX10_stock_119 : decode cX10_stock 119 = .ok (.iconst 0, 1) := by decide +kernel
theorem dX10_stock_120 : decode cX10_stock 120 = .ok (.istore 4, 2) := by decide +kernel
theorem dX10_stock_122 : decode cX10_stock 122 = .ok (.iconst 0, 1) := by decide +kernel
theorem dX10_stock_123 : decode cX10_stock 123 = .ok (.istore 5, 2) := by decide +kernel
theorem dX10_stock_125 : decode cX10_stock 125 = .ok (.iload 5, 2) := by decide +kernel
theorem dX10_stock_127 : decode cX10_stock 127 = .ok (.aload_n 0, 1) := by decide +kernel
theorem dX10_stock_128 : decode cX10_stock 128 = .ok (.getfield 100, 3) := by decide +kernel
theorem dX10_stock_131 : decode cX10_stock 131 = .ok (.if_icmp .ge 62, 3) := by decide +kernel
theorem dX10_stock_134 : decode cX10_stock 134 = .ok (.aload_n 0, 1) := by decide +kernel
theorem dX10_stock_135 : decode cX10_stock 135 = .ok (.getfield 48, 3) := by decide +kernel
theorem dX10_stock_138 : decode cX10_stock 138 = .ok (.aload_n 0, 1) := by decide +kernel
theorem dX10_stock_139 : decode cX10_stock 139 = .ok (.getfield 9, 3) := by decide +kernel
theorem dX10_stock_142 : decode cX10_stock 142 = .ok (.bipush 24, 2) := by decide +kernel
theorem dX10_stock_144 : decode cX10_stock 144 = .ok (.iload 5, 2) := by decide +kernel
theorem dX10_stock_146 : decode cX10_stock 146 = .ok (.iadd, 1) := by decide +kernel
theorem dX10_stock_147 : decode cX10_stock 147 = .ok (.iaload, 1) := by decide +kernel
theorem dX10_stock_148 : decode cX10_stock 148 = .ok (.dup2, 1) := by decide +kernel
theorem dX10_stock_149 : decode cX10_stock 149 = .ok (.iaload, 1) := by decide +kernel
theorem dX10_stock_150 : decode cX10_stock 150 = .ok (.aload_n 0, 1) := by decide +kernel
theorem dX10_stock_151 : decode cX10_stock 151 = .ok (.getfield 25, 3) := by decide +kernel
theorem dX10_stock_154 : decode cX10_stock 154 = .ok (.iload 5, 2) := by decide +kernel
theorem dX10_stock_156 : decode cX10_stock 156 = .ok (.baload, 1) := by decide +kernel
theorem dX10_stock_157 : decode cX10_stock 157 = .ok (.ifCond .eq 7, 3) := by decide +kernel
theorem dX10_stock_160 : decode cX10_stock 160 = .ok (.iconst 1, 1) := by decide +kernel
theorem dX10_stock_161 : decode cX10_stock 161 = .ok (.goto 4, 3) := by decide +kernel
theorem dX10_stock_164 : decode cX10_stock 164 = .ok (.iconst 0, 1) := by decide +kernel
theorem dX10_stock_165 : decode cX10_stock 165 = .ok (.isub, 1) := by decide +kernel
theorem dX10_stock_166 : decode cX10_stock 166 = .ok (.iastore, 1) := by decide +kernel
theorem dX10_stock_167 : decode cX10_stock 167 = .ok (.iload 4, 2) := by decide +kernel
theorem dX10_stock_169 : decode cX10_stock 169 = .ok (.aload_n 0, 1) := by decide +kernel
theorem dX10_stock_170 : decode cX10_stock 170 = .ok (.getfield 25, 3) := by decide +kernel
theorem dX10_stock_173 : decode cX10_stock 173 = .ok (.iload 5, 2) := by decide +kernel
theorem dX10_stock_175 : decode cX10_stock 175 = .ok (.baload, 1) := by decide +kernel
theorem dX10_stock_176 : decode cX10_stock 176 = .ok (.ifCond .eq 7, 3) := by decide +kernel
theorem dX10_stock_179 : decode cX10_stock 179 = .ok (.iconst 0, 1) := by decide +kernel
theorem dX10_stock_180 : decode cX10_stock 180 = .ok (.goto 4, 3) := by decide +kernel
theorem dX10_stock_183 : decode cX10_stock 183 = .ok (.iconst 1, 1) := by decide +kernel
theorem dX10_stock_184 : decode cX10_stock 184 = .ok (.iadd, 1) := by decide +kernel
theorem dX10_stock_185 : decode cX10_stock 185 = .ok (.istore 4, 2) := by decide +kernel
theorem dX10_stock_187 : decode cX10_stock 187 = .ok (.iinc 5 1, 3) := by decide +kernel
theorem dX10_stock_190 : decode cX10_stock 190 = .ok (.goto (-65), 3) := by decide +kernel
theorem dX10_stock_193 : decode cX10_stock 193 = .ok (.iconst 0, 1) := by decide +kernel
theorem dX10_stock_194 : decode cX10_stock 194 = .ok (.istore 5, 2) := by decide +kernel
theorem dX10_stock_196 : decode cX10_stock 196 = .ok (.iload 5, 2) := by decide +kernel
theorem dX10_stock_198 : decode cX10_stock 198 = .ok (.bipush 6, 2) := by decide +kernel
theorem dX10_stock_200 : decode cX10_stock 200 = .ok (.if_icmp .ge 31, 3) := by decide +kernel
theorem dX10_stock_203 : decode cX10_stock 203 = .ok (.iload_n 3, 1) := by decide +kernel
theorem dX10_stock_204 : decode cX10_stock 204 = .ok (.aload_n 0, 1) := by decide +kernel
theorem dX10_stock_205 : decode cX10_stock 205 = .ok (.getfield 48, 3) := by decide +kernel
theorem dX10_stock_208 : decode cX10_stock 208 = .ok (.iload 5, 2) := by decide +kernel
theorem dX10_stock_210 : decode cX10_stock 210 = .ok (.iaload, 1) := by decide +kernel
theorem dX10_stock_211 : decode cX10_stock 211 = .ok (.iadd, 1) := by decide +kernel
theorem dX10_stock_212 : decode cX10_stock 212 = .ok (.istore_n 3, 1) := by decide +kernel
theorem dX10_stock_213 : decode cX10_stock 213 = .ok (.aload_n 0, 1) := by decide +kernel
theorem dX10_stock_214 : decode cX10_stock 214 = .ok (.getfield 48, 3) := by decide +kernel
theorem dX10_stock_217 : decode cX10_stock 217 = .ok (.iload 5, 2) := by decide +kernel
theorem dX10_stock_219 : decode cX10_stock 219 = .ok (.iaload, 1) := by decide +kernel
theorem dX10_stock_220 : decode cX10_stock 220 = .ok (.ifCond .ge 5, 3) := by decide +kernel
theorem dX10_stock_223 : decode cX10_stock 223 = .ok (.lconst 0, 1) := by decide +kernel
theorem dX10_stock_224 : decode cX10_stock 224 = .ok (.lreturn, 1) := by decide +kernel
theorem dX10_stock_225 : decode cX10_stock 225 = .ok (.iinc 5 1, 3) := by decide +kernel
theorem dX10_stock_228 : decode cX10_stock 228 = .ok (.goto (-32), 3) := by decide +kernel
theorem dX10_stock_231 : decode cX10_stock 231 = .ok (.iload_n 3, 1) := by decide +kernel
theorem dX10_stock_232 : decode cX10_stock 232 = .ok (.iload 4, 2) := by decide +kernel
theorem dX10_stock_234 : decode cX10_stock 234 = .ok (.if_icmp .eq 5, 3) := by decide +kernel
theorem dX10_stock_237 : decode cX10_stock 237 = .ok (.lconst 0, 1) := by decide +kernel
theorem dX10_stock_238 : decode cX10_stock 238 = .ok (.lreturn, 1) := by decide +kernel
theorem dX10_stock_239 : decode cX10_stock 239 = .ok (.lconst 1, 1) := by decide +kernel
theorem dX10_stock_240 : decode cX10_stock 240 = .ok (.lstore 5, 2) := by decide +kernel
theorem dX10_stock_242 : decode cX10_stock 242 = .ok (.iconst 0, 1) := by decide +kernel
theorem dX10_stock_243 : decode cX10_stock 243 = .ok (.istore 7, 2) := by decide +kernel
theorem dX10_stock_245 : decode cX10_stock 245 = .ok (.iconst 0, 1) := by decide +kernel
theorem dX10_stock_246 : decode cX10_stock 246 = .ok (.istore 8, 2) := by decide +kernel
theorem dX10_stock_248 : decode cX10_stock 248 = .ok (.iload 8, 2) := by decide +kernel
theorem dX10_stock_250 : decode cX10_stock 250 = .ok (.bipush 6, 2) := by decide +kernel
theorem dX10_stock_252 : decode cX10_stock 252 = .ok (.if_icmp .ge 45, 3) := by decide +kernel
theorem dX10_stock_255 : decode cX10_stock 255 = .ok (.iconst 1, 1) := by decide +kernel
theorem dX10_stock_256 : decode cX10_stock 256 = .ok (.istore 9, 2) := by decide +kernel
theorem dX10_stock_258 : decode cX10_stock 258 = .ok (.iload 9, 2) := by decide +kernel
theorem dX10_stock_260 : decode cX10_stock 260 = .ok (.aload_n 0, 1) := by decide +kernel
theorem dX10_stock_261 : decode cX10_stock 261 = .ok (.getfield 48, 3) := by decide +kernel
theorem dX10_stock_264 : decode cX10_stock 264 = .ok (.iload 8, 2) := by decide +kernel
theorem dX10_stock_266 : decode cX10_stock 266 = .ok (.iaload, 1) := by decide +kernel
theorem dX10_stock_267 : decode cX10_stock 267 = .ok (.if_icmp .gt 24, 3) := by decide +kernel
theorem dX10_stock_270 : decode cX10_stock 270 = .ok (.iinc 7 1, 3) := by decide +kernel
theorem dX10_stock_273 : decode cX10_stock 273 = .ok (.lload 5, 2) := by decide +kernel
theorem dX10_stock_275 : decode cX10_stock 275 = .ok (.iload 7, 2) := by decide +kernel
theorem dX10_stock_277 : decode cX10_stock 277 = .ok (.i2l, 1) := by decide +kernel
theorem dX10_stock_278 : decode cX10_stock 278 = .ok (.lmul, 1) := by decide +kernel
theorem dX10_stock_279 : decode cX10_stock 279 = .ok (.iload 9, 2) := by decide +kernel
theorem dX10_stock_281 : decode cX10_stock 281 = .ok (.i2l, 1) := by decide +kernel
theorem dX10_stock_282 : decode cX10_stock 282 = .ok (.ldiv, 1) := by decide +kernel
theorem dX10_stock_283 : decode cX10_stock 283 = .ok (.lstore 5, 2) := by decide +kernel
theorem dX10_stock_285 : decode cX10_stock 285 = .ok (.iinc 9 1, 3) := by decide +kernel
theorem dX10_stock_288 : decode cX10_stock 288 = .ok (.goto (-30), 3) := by decide +kernel
theorem dX10_stock_291 : decode cX10_stock 291 = .ok (.iinc 8 1, 3) := by decide +kernel
theorem dX10_stock_294 : decode cX10_stock 294 = .ok (.goto (-46), 3) := by decide +kernel
theorem dX10_stock_297 : decode cX10_stock 297 = .ok (.iload_n 2, 1) := by decide +kernel
theorem dX10_stock_298 : decode cX10_stock 298 = .ok (.iconst (-1), 1) := by decide +kernel
theorem dX10_stock_299 : decode cX10_stock 299 = .ok (.if_icmp .ne 6, 3) := by decide +kernel
theorem dX10_stock_302 : decode cX10_stock 302 = .ok (.lload 5, 2) := by decide +kernel
theorem dX10_stock_304 : decode cX10_stock 304 = .ok (.lreturn, 1) := by decide +kernel
theorem dX10_stock_305 : decode cX10_stock 305 = .ok (.aload_n 0, 1) := by decide +kernel
theorem dX10_stock_306 : decode cX10_stock 306 = .ok (.getfield 25, 3) := by decide +kernel
theorem dX10_stock_309 : decode cX10_stock 309 = .ok (.iload_n 2, 1) := by decide +kernel
theorem dX10_stock_310 : decode cX10_stock 310 = .ok (.bipush 10, 2) := by decide +kernel
theorem dX10_stock_312 : decode cX10_stock 312 = .ok (.idiv, 1) := by decide +kernel
theorem dX10_stock_313 : decode cX10_stock 313 = .ok (.baload, 1) := by decide +kernel
theorem dX10_stock_314 : decode cX10_stock 314 = .ok (.ifCond .eq 29, 3) := by decide +kernel
theorem dX10_stock_317 : decode cX10_stock 317 = .ok (.aload_n 0, 1) := by decide +kernel
theorem dX10_stock_318 : decode cX10_stock 318 = .ok (.getfield 9, 3) := by decide +kernel
theorem dX10_stock_321 : decode cX10_stock 321 = .ok (.bipush 24, 2) := by decide +kernel
theorem dX10_stock_323 : decode cX10_stock 323 = .ok (.iload_n 2, 1) := by decide +kernel
theorem dX10_stock_324 : decode cX10_stock 324 = .ok (.bipush 10, 2) := by decide +kernel
theorem dX10_stock_326 : decode cX10_stock 326 = .ok (.idiv, 1) := by decide +kernel
theorem dX10_stock_327 : decode cX10_stock 327 = .ok (.iadd, 1) := by decide +kernel
theorem dX10_stock_328 : decode cX10_stock 328 = .ok (.iaload, 1) := by decide +kernel
theorem dX10_stock_329 : decode cX10_stock 329 = .ok (.iload_n 2, 1) := by decide +kernel
theorem dX10_stock_330 : decode cX10_stock 330 = .ok (.bipush 10, 2) := by decide +kernel
theorem dX10_stock_332 : decode cX10_stock 332 = .ok (.irem, 1) := by decide +kernel
theorem dX10_stock_333 : decode cX10_stock 333 = .ok (.if_icmp .ne 8, 3) := by decide +kernel
theorem dX10_stock_336 : decode cX10_stock 336 = .ok (.lload 5, 2) := by decide +kernel
theorem dX10_stock_338 : decode cX10_stock 338 = .ok (.goto 4, 3) := by decide +kernel
theorem dX10_stock_341 : decode cX10_stock 341 = .ok (.lconst 0, 1) := by decide +kernel
theorem dX10_stock_342 : decode cX10_stock 342 = .ok (.lreturn, 1) := by decide +kernel
theorem dX10_stock_343 : decode cX10_stock 343 = .ok (.lload 5, 2) := by decide +kernel
theorem dX10_stock_345 : decode cX10_stock 345 = .ok (.aload_n 0, 1) := by decide +kernel
theorem dX10_stock_346 : decode cX10_stock 346 = .ok (.getfield 48, 3) := by decide +kernel
theorem dX10_stock_349 : decode cX10_stock 349 = .ok (.iload_n 2, 1) := by decide +kernel
theorem dX10_stock_350 : decode cX10_stock 350 = .ok (.bipush 10, 2) := by decide +kernel
theorem dX10_stock_352 : decode cX10_stock 352 = .ok (.irem, 1) := by decide +kernel
theorem dX10_stock_353 : decode cX10_stock 353 = .ok (.iaload, 1) := by decide +kernel
theorem dX10_stock_354 : decode cX10_stock 354 = .ok (.i2l, 1) := by decide +kernel
theorem dX10_stock_355 : decode cX10_stock 355 = .ok (.lmul, 1) := by decide +kernel
theorem dX10_stock_356 : decode cX10_stock 356 = .ok (.iload 4, 2) := by decide +kernel
theorem dX10_stock_358 : decode cX10_stock 358 = .ok (.i2l, 1) := by decide +kernel
theorem dX10_stock_359 : decode cX10_stock 359 = .ok (.ldiv, 1) := by decide +kernel
theorem dX10_stock_360 : decode cX10_stock 360 = .ok (.lreturn, 1) := by decide +kernel
theorem dX10_areAlike_0 : decode cX10_areAlike 0 = .ok (.iconst 1, 1) := by decide +kernel
theorem dX10_areAlike_1 : decode cX10_areAlike 1 = .ok (.istore 4, 2) := by decide +kernel
theorem dX10_areAlike_3 : decode cX10_areAlike 3 = .ok (.iconst 0, 1) := by decide +kernel
theorem dX10_areAlike_4 : decode cX10_areAlike 4 = .ok (.istore 5, 2) := by decide +kernel
theorem dX10_areAlike_6 : decode cX10_areAlike 6 = .ok (.iload 5, 2) := by decide +kernel
theorem dX10_areAlike_8 : decode cX10_areAlike 8 = .ok (.iconst 3, 1) := by decide +kernel
theorem dX10_areAlike_9 : decode cX10_areAlike 9 = .ok (.if_icmp .ge 63, 3) := by decide +kernel
theorem dX10_areAlike_12 : decode cX10_areAlike 12 = .ok (.iload 4, 2) := by decide +kernel
theorem dX10_areAlike_14 : decode cX10_areAlike 14 = .ok (.ifCond .eq 49, 3) := by decide +kernel
theorem dX10_areAlike_17 : decode cX10_areAlike 17 = .ok (.iload_n 3, 1) := by decide +kernel
theorem dX10_areAlike_18 : decode cX10_areAlike 18 = .ok (.iload 5, 2) := by decide +kernel
theorem dX10_areAlike_20 : decode cX10_areAlike 20 = .ok (.invokestatic 258, 3) := by decide +kernel
theorem dX10_areAlike_23 : decode cX10_areAlike 23 = .ok (.ifCond .eq 36, 3) := by decide +kernel
theorem dX10_areAlike_26 : decode cX10_areAlike 26 = .ok (.aload_n 0, 1) := by decide +kernel
theorem dX10_areAlike_27 : decode cX10_areAlike 27 = .ok (.getfield 9, 3) := by decide +kernel
theorem dX10_areAlike_30 : decode cX10_areAlike 30 = .ok (.bipush 6, 2) := by decide +kernel
theorem dX10_areAlike_32 : decode cX10_areAlike 32 = .ok (.bipush 6, 2) := by decide +kernel
theorem dX10_areAlike_34 : decode cX10_areAlike 34 = .ok (.iload 5, 2) := by decide +kernel
theorem dX10_areAlike_36 : decode cX10_areAlike 36 = .ok (.imul, 1) := by decide +kernel
theorem dX10_areAlike_37 : decode cX10_areAlike 37 = .ok (.iadd, 1) := by decide +kernel
theorem dX10_areAlike_38 : decode cX10_areAlike 38 = .ok (.iload_n 1, 1) := by decide +kernel
theorem dX10_areAlike_39 : decode cX10_areAlike 39 = .ok (.iadd, 1) := by decide +kernel
theorem dX10_areAlike_40 : decode cX10_areAlike 40 = .ok (.iaload, 1) := by decide +kernel
theorem dX10_areAlike_41 : decode cX10_areAlike 41 = .ok (.aload_n 0, 1) := by decide +kernel
theorem dX10_areAlike_42 : decode cX10_areAlike 42 = .ok (.getfield 9, 3) := by decide +kernel
theorem dX10_areAlike_45 : decode cX10_areAlike 45 = .ok (.bipush 6, 2) := by decide +kernel
theorem dX10_areAlike_47 : decode cX10_areAlike 47 = .ok (.bipush 6, 2) := by decide +kernel
theorem dX10_areAlike_49 : decode cX10_areAlike 49 = .ok (.iload 5, 2) := by decide +kernel
theorem dX10_areAlike_51 : decode cX10_areAlike 51 = .ok (.imul, 1) := by decide +kernel
theorem dX10_areAlike_52 : decode cX10_areAlike 52 = .ok (.iadd, 1) := by decide +kernel
theorem dX10_areAlike_53 : decode cX10_areAlike 53 = .ok (.iload_n 2, 1) := by decide +kernel
theorem dX10_areAlike_54 : decode cX10_areAlike 54 = .ok (.iadd, 1) := by decide +kernel
theorem dX10_areAlike_55 : decode cX10_areAlike 55 = .ok (.iaload, 1) := by decide +kernel
theorem dX10_areAlike_56 : decode cX10_areAlike 56 = .ok (.if_icmp .ne 7, 3) := by decide +kernel
theorem dX10_areAlike_59 : decode cX10_areAlike 59 = .ok (.iconst 1, 1) := by decide +kernel
theorem dX10_areAlike_60 : decode cX10_areAlike 60 = .ok (.goto 4, 3) := by decide +kernel
theorem dX10_areAlike_63 : decode cX10_areAlike 63 = .ok (.iconst 0, 1) := by decide +kernel
theorem dX10_areAlike_64 : decode cX10_areAlike 64 = .ok (.istore 4, 2) := by decide +kernel
theorem dX10_areAlike_66 : decode cX10_areAlike 66 = .ok (.iinc 5 1, 3) := by decide +kernel
theorem dX10_areAlike_69 : decode cX10_areAlike 69 = .ok (.goto (-63), 3) := by decide +kernel
theorem dX10_areAlike_72 : decode cX10_areAlike 72 = .ok (.iload 4, 2) := by decide +kernel
theorem dX10_areAlike_74 : decode cX10_areAlike 74 = .ok (.ireturn, 1) := by decide +kernel
theorem dX10_alikeBy_0 : decode cX10_alikeBy 0 = .ok (.iconst 0, 1) := by decide +kernel
theorem dX10_alikeBy_1 : decode cX10_alikeBy 1 = .ok (.istore_n 2, 1) := by decide +kernel
theorem dX10_alikeBy_2 : decode cX10_alikeBy 2 = .ok (.iconst 0, 1) := by decide +kernel
theorem dX10_alikeBy_3 : decode cX10_alikeBy 3 = .ok (.istore_n 3, 1) := by decide +kernel
theorem dX10_alikeBy_4 : decode cX10_alikeBy 4 = .ok (.iload_n 3, 1) := by decide +kernel
theorem dX10_alikeBy_5 : decode cX10_alikeBy 5 = .ok (.bipush 6, 2) := by decide +kernel
theorem dX10_alikeBy_7 : decode cX10_alikeBy 7 = .ok (.if_icmp .ge 70, 3) := by decide +kernel
theorem dX10_alikeBy_10 : decode cX10_alikeBy 10 = .ok (.iconst 0, 1) := by decide +kernel
theorem dX10_alikeBy_11 : decode cX10_alikeBy 11 = .ok (.istore 4, 2) := by decide +kernel
theorem dX10_alikeBy_13 : decode cX10_alikeBy 13 = .ok (.iconst 0, 1) := by decide +kernel
theorem dX10_alikeBy_14 : decode cX10_alikeBy 14 = .ok (.istore 5, 2) := by decide +kernel
theorem dX10_alikeBy_16 : decode cX10_alikeBy 16 = .ok (.iload 5, 2) := by decide +kernel
theorem dX10_alikeBy_18 : decode cX10_alikeBy 18 = .ok (.bipush 6, 2) := by decide +kernel
theorem dX10_alikeBy_20 : decode cX10_alikeBy 20 = .ok (.if_icmp .ge 38, 3) := by decide +kernel
theorem dX10_alikeBy_23 : decode cX10_alikeBy 23 = .ok (.iload 4, 2) := by decide +kernel
theorem dX10_alikeBy_25 : decode cX10_alikeBy 25 = .ok (.ifCond .ne 20, 3) := by decide +kernel
theorem dX10_alikeBy_28 : decode cX10_alikeBy 28 = .ok (.iload 5, 2) := by decide +kernel
theorem dX10_alikeBy_30 : decode cX10_alikeBy 30 = .ok (.iload_n 3, 1) := by decide +kernel
theorem dX10_alikeBy_31 : decode cX10_alikeBy 31 = .ok (.if_icmp .eq 18, 3) := by decide +kernel
theorem dX10_alikeBy_34 : decode cX10_alikeBy 34 = .ok (.aload_n 0, 1) := by decide +kernel
theorem dX10_alikeBy_35 : decode cX10_alikeBy 35 = .ok (.iload_n 3, 1) := by decide +kernel
theorem dX10_alikeBy_36 : decode cX10_alikeBy 36 = .ok (.iload 5, 2) := by decide +kernel
theorem dX10_alikeBy_38 : decode cX10_alikeBy 38 = .ok (.iload_n 1, 1) := by decide +kernel
theorem dX10_alikeBy_39 : decode cX10_alikeBy 39 = .ok (.invokevirtual 272, 3) := by decide +kernel
theorem dX10_alikeBy_42 : decode cX10_alikeBy 42 = .ok (.ifCond .eq 7, 3) := by decide +kernel
theorem dX10_alikeBy_45 : decode cX10_alikeBy 45 = .ok (.iconst 1, 1) := by decide +kernel
theorem dX10_alikeBy_46 : decode cX10_alikeBy 46 = .ok (.goto 4, 3) := by decide +kernel
theorem dX10_alikeBy_49 : decode cX10_alikeBy 49 = .ok (.iconst 0, 1) := by decide +kernel
theorem dX10_alikeBy_50 : decode cX10_alikeBy 50 = .ok (.istore 4, 2) := by decide +kernel
theorem dX10_alikeBy_52 : decode cX10_alikeBy 52 = .ok (.iinc 5 1, 3) := by decide +kernel
theorem dX10_alikeBy_55 : decode cX10_alikeBy 55 = .ok (.goto (-39), 3) := by decide +kernel
theorem dX10_alikeBy_58 : decode cX10_alikeBy 58 = .ok (.iload_n 2, 1) := by decide +kernel
theorem dX10_alikeBy_59 : decode cX10_alikeBy 59 = .ok (.iload 4, 2) := by decide +kernel
theorem dX10_alikeBy_61 : decode cX10_alikeBy 61 = .ok (.ifCond .eq 7, 3) := by decide +kernel
theorem dX10_alikeBy_64 : decode cX10_alikeBy 64 = .ok (.iconst 1, 1) := by decide +kernel
theorem dX10_alikeBy_65 : decode cX10_alikeBy 65 = .ok (.goto 4, 3) := by decide +kernel
theorem dX10_alikeBy_68 : decode cX10_alikeBy 68 = .ok (.iconst 0, 1) := by decide +kernel
theorem dX10_alikeBy_69 : decode cX10_alikeBy 69 = .ok (.iadd, 1) := by decide +kernel
theorem dX10_alikeBy_70 : decode cX10_alikeBy 70 = .ok (.istore_n 2, 1) := by decide +kernel
theorem dX10_alikeBy_71 : decode cX10_alikeBy 71 = .ok (.iinc 3 1, 3) := by decide +kernel
theorem dX10_alikeBy_74 : decode cX10_alikeBy 74 = .ok (.goto (-70), 3) := by decide +kernel
theorem dX10_alikeBy_77 : decode cX10_alikeBy 77 = .ok (.iload_n 2, 1) := by decide +kernel
theorem dX10_alikeBy_78 : decode cX10_alikeBy 78 = .ok (.ireturn, 1) := by decide +kernel
theorem dX10_tells_0 : decode cX10_tells 0 = .ok (.iload_n 1, 1) := by decide +kernel
theorem dX10_tells_1 : decode cX10_tells 1 = .ok (.i2l, 1) := by decide +kernel
theorem dX10_tells_2 : decode cX10_tells 2 = .ok (.lconst 0, 1) := by decide +kernel
theorem dX10_tells_3 : decode cX10_tells 3 = .ok (.lconst 1, 1) := by decide +kernel
theorem dX10_tells_4 : decode cX10_tells 4 = .ok (.invokestatic 96, 3) := by decide +kernel
theorem dX10_tells_7 : decode cX10_tells 7 = .ok (.ifCond .ne 5, 3) := by decide +kernel
theorem dX10_tells_10 : decode cX10_tells 10 = .ok (.iconst (-1), 1) := by decide +kernel
theorem dX10_tells_11 : decode cX10_tells 11 = .ok (.ireturn, 1) := by decide +kernel
theorem dX10_tells_12 : decode cX10_tells 12 = .ok (.iload_n 1, 1) := by decide +kernel
theorem dX10_tells_13 : decode cX10_tells 13 = .ok (.ifCond .ne 10, 3) := by decide +kernel
theorem dX10_tells_16 : decode cX10_tells 16 = .ok (.aload_n 0, 1) := by decide +kernel
theorem dX10_tells_17 : decode cX10_tells 17 = .ok (.bipush 7, 2) := by decide +kernel
theorem dX10_tells_19 : decode cX10_tells 19 = .ok (.invokevirtual 276, 3) := by decide +kernel
theorem dX10_tells_22 : decode cX10_tells 22 = .ok (.ireturn, 1) := by decide +kernel
theorem dX10_tells_23 : decode cX10_tells 23 = .ok (.bipush (-2), 2) := by decide +kernel
theorem dX10_tells_25 : decode cX10_tells 25 = .ok (.istore_n 2, 1) := by decide +kernel
theorem dX10_tells_26 : decode cX10_tells 26 = .ok (.iconst 0, 1) := by decide +kernel
theorem dX10_tells_27 : decode cX10_tells 27 = .ok (.istore_n 3, 1) := by decide +kernel
theorem dX10_tells_28 : decode cX10_tells 28 = .ok (.iload_n 3, 1) := by decide +kernel
theorem dX10_tells_29 : decode cX10_tells 29 = .ok (.bipush 8, 2) := by decide +kernel
theorem dX10_tells_31 : decode cX10_tells 31 = .ok (.if_icmp .ge 38, 3) := by decide +kernel
theorem dX10_tells_34 : decode cX10_tells 34 = .ok (.aload_n 0, 1) := by decide +kernel
theorem dX10_tells_35 : decode cX10_tells 35 = .ok (.iload_n 3, 1) := by decide +kernel
theorem dX10_tells_36 : decode cX10_tells 36 = .ok (.invokevirtual 276, 3) := by decide +kernel
theorem dX10_tells_39 : decode cX10_tells 39 = .ok (.ifCond .ne 22, 3) := by decide +kernel
theorem dX10_tells_42 : decode cX10_tells 42 = .ok (.iload_n 2, 1) := by decide +kernel
theorem dX10_tells_43 : decode cX10_tells 43 = .ok (.ifCond .lt 14, 3) := by decide +kernel
theorem dX10_tells_46 : decode cX10_tells 46 = .ok (.iload_n 3, 1) := by decide +kernel
theorem dX10_tells_47 : decode cX10_tells 47 = .ok (.invokestatic 264, 3) := by decide +kernel
theorem dX10_tells_50 : decode cX10_tells 50 = .ok (.iload_n 2, 1) := by decide +kernel
theorem dX10_tells_51 : decode cX10_tells 51 = .ok (.invokestatic 264, 3) := by decide +kernel
theorem dX10_tells_54 : decode cX10_tells 54 = .ok (.if_icmp .ge 7, 3) := by decide +kernel
theorem dX10_tells_57 : decode cX10_tells 57 = .ok (.iload_n 3, 1) := by decide +kernel
theorem dX10_tells_58 : decode cX10_tells 58 = .ok (.goto 4, 3) := by decide +kernel
theorem dX10_tells_61 : decode cX10_tells 61 = .ok (.iload_n 2, 1) := by decide +kernel
theorem dX10_tells_62 : decode cX10_tells 62 = .ok (.istore_n 2, 1) := by decide +kernel
theorem dX10_tells_63 : decode cX10_tells 63 = .ok (.iinc 3 1, 3) := by decide +kernel
theorem dX10_tells_66 : decode cX10_tells 66 = .ok (.goto (-38), 3) := by decide +kernel
theorem dX10_tells_69 : decode cX10_tells 69 = .ok (.iload_n 2, 1) := by decide +kernel
theorem dX10_tells_70 : decode cX10_tells 70 = .ok (.ireturn, 1) := by decide +kernel
theorem dX10_paidAt_0 : decode cX10_paidAt 0 = .ok (.aload_n 0, 1) := by decide +kernel
theorem dX10_paidAt_1 : decode cX10_paidAt 1 = .ok (.iconst (-1), 1) := by decide +kernel
theorem dX10_paidAt_2 : decode cX10_paidAt 2 = .ok (.iload_n 1, 1) := by decide +kernel
theorem dX10_paidAt_3 : decode cX10_paidAt 3 = .ok (.iload_n 2, 1) := by decide +kernel
theorem dX10_paidAt_4 : decode cX10_paidAt 4 = .ok (.invokevirtual 227, 3) := by decide +kernel
theorem dX10_paidAt_7 : decode cX10_paidAt 7 = .ok (.aload_n 0, 1) := by decide +kernel
theorem dX10_paidAt_8 : decode cX10_paidAt 8 = .ok (.iload_n 1, 1) := by decide +kernel
theorem dX10_paidAt_9 : decode cX10_paidAt 9 = .ok (.iload_n 2, 1) := by decide +kernel
theorem dX10_paidAt_10 : decode cX10_paidAt 10 = .ok (.iload_n 3, 1) := by decide +kernel
theorem dX10_paidAt_11 : decode cX10_paidAt 11 = .ok (.invokevirtual 242, 3) := by decide +kernel
theorem dX10_paidAt_14 : decode cX10_paidAt 14 = .ok (.aload_n 0, 1) := by decide +kernel
theorem dX10_paidAt_15 : decode cX10_paidAt 15 = .ok (.invokevirtual 231, 3) := by decide +kernel
theorem dX10_paidAt_18 : decode cX10_paidAt 18 = .ok (.ldiv, 1) := by decide +kernel
theorem dX10_paidAt_19 : decode cX10_paidAt 19 = .ok (.lstore 4, 2) := by decide +kernel
theorem dX10_paidAt_21 : decode cX10_paidAt 21 = .ok (.lload 4, 2) := by decide +kernel
theorem dX10_paidAt_23 : decode cX10_paidAt 23 = .ok (.iload_n 3, 1) := by decide +kernel
theorem dX10_paidAt_24 : decode cX10_paidAt 24 = .ok (.i2l, 1) := by decide +kernel
theorem dX10_paidAt_25 : decode cX10_paidAt 25 = .ok (.lcmp, 1) := by decide +kernel
theorem dX10_paidAt_26 : decode cX10_paidAt 26 = .ok (.ifCond .lt 20, 3) := by decide +kernel
theorem dX10_paidAt_29 : decode cX10_paidAt 29 = .ok (.aload_n 0, 1) := by decide +kernel
theorem dX10_paidAt_30 : decode cX10_paidAt 30 = .ok (.getfield 9, 3) := by decide +kernel
theorem dX10_paidAt_33 : decode cX10_paidAt 33 = .ok (.bipush 44, 2) := by decide +kernel
theorem dX10_paidAt_35 : decode cX10_paidAt 35 = .ok (.iload_n 1, 1) := by decide +kernel
theorem dX10_paidAt_36 : decode cX10_paidAt 36 = .ok (.iadd, 1) := by decide +kernel
theorem dX10_paidAt_37 : decode cX10_paidAt 37 = .ok (.iaload, 1) := by decide +kernel
theorem dX10_paidAt_38 : decode cX10_paidAt 38 = .ok (.iload_n 3, 1) := by decide +kernel
theorem dX10_paidAt_39 : decode cX10_paidAt 39 = .ok (.if_icmp .lt 7, 3) := by decide +kernel
theorem dX10_paidAt_42 : decode cX10_paidAt 42 = .ok (.iload_n 3, 1) := by decide +kernel
theorem dX10_paidAt_43 : decode cX10_paidAt 43 = .ok (.goto 4, 3) := by decide +kernel
theorem dX10_paidAt_46 : decode cX10_paidAt 46 = .ok (.iconst (-1), 1) := by decide +kernel
theorem dX10_paidAt_47 : decode cX10_paidAt 47 = .ok (.ireturn, 1) := by decide +kernel
theorem dX10_askedFrom_0 : decode cX10_askedFrom 0 = .ok (.iload_n 3, 1) := by decide +kernel
theorem dX10_askedFrom_1 : decode cX10_askedFrom 1 = .ok (.iload 4, 2) := by decide +kernel
theorem dX10_askedFrom_3 : decode cX10_askedFrom 3 = .ok (.if_icmp .ne 6, 3) := by decide +kernel
theorem dX10_askedFrom_6 : decode cX10_askedFrom 6 = .ok (.iload 5, 2) := by decide +kernel
theorem dX10_askedFrom_8 : decode cX10_askedFrom 8 = .ok (.ireturn, 1) := by decide +kernel
theorem dX10_askedFrom_9 : decode cX10_askedFrom 9 = .ok (.aload_n 0, 1) := by decide +kernel
theorem dX10_askedFrom_10 : decode cX10_askedFrom 10 = .ok (.iload_n 1, 1) := by decide +kernel
theorem dX10_askedFrom_11 : decode cX10_askedFrom 11 = .ok (.iload_n 2, 1) := by decide +kernel
theorem dX10_askedFrom_12 : decode cX10_askedFrom 12 = .ok (.iload_n 3, 1) := by decide +kernel
theorem dX10_askedFrom_13 : decode cX10_askedFrom 13 = .ok (.iconst 1, 1) := by decide +kernel
theorem dX10_askedFrom_14 : decode cX10_askedFrom 14 = .ok (.iadd, 1) := by decide +kernel
theorem dX10_askedFrom_15 : decode cX10_askedFrom 15 = .ok (.iload 4, 2) := by decide +kernel
theorem dX10_askedFrom_17 : decode cX10_askedFrom 17 = .ok (.iload 5, 2) := by decide +kernel
theorem dX10_askedFrom_19 : decode cX10_askedFrom 19 = .ok (.invokevirtual 279, 3) := by decide +kernel
theorem dX10_askedFrom_22 : decode cX10_askedFrom 22 = .ok (.istore 6, 2) := by decide +kernel
theorem dX10_askedFrom_24 : decode cX10_askedFrom 24 = .ok (.aload_n 0, 1) := by decide +kernel
theorem dX10_askedFrom_25 : decode cX10_askedFrom 25 = .ok (.iload_n 1, 1) := by decide +kernel
theorem dX10_askedFrom_26 : decode cX10_askedFrom 26 = .ok (.iload_n 2, 1) := by decide +kernel
theorem dX10_askedFrom_27 : decode cX10_askedFrom 27 = .ok (.iload_n 3, 1) := by decide +kernel
theorem dX10_askedFrom_28 : decode cX10_askedFrom 28 = .ok (.iconst 1, 1) := by decide +kernel
theorem dX10_askedFrom_29 : decode cX10_askedFrom 29 = .ok (.iadd, 1) := by decide +kernel
theorem dX10_askedFrom_30 : decode cX10_askedFrom 30 = .ok (.iload 4, 2) := by decide +kernel
theorem dX10_askedFrom_32 : decode cX10_askedFrom 32 = .ok (.iload_n 3, 1) := by decide +kernel
theorem dX10_askedFrom_33 : decode cX10_askedFrom 33 = .ok (.iload 5, 2) := by decide +kernel
theorem dX10_askedFrom_35 : decode cX10_askedFrom 35 = .ok (.invokestatic 283, 3) := by decide +kernel
theorem dX10_askedFrom_38 : decode cX10_askedFrom 38 = .ok (.invokevirtual 279, 3) := by decide +kernel
theorem dX10_askedFrom_41 : decode cX10_askedFrom 41 = .ok (.istore 7, 2) := by decide +kernel
theorem dX10_askedFrom_43 : decode cX10_askedFrom 43 = .ok (.aload_n 0, 1) := by decide +kernel
theorem dX10_askedFrom_44 : decode cX10_askedFrom 44 = .ok (.iload_n 1, 1) := by decide +kernel
theorem dX10_askedFrom_45 : decode cX10_askedFrom 45 = .ok (.iload_n 2, 1) := by decide +kernel
theorem dX10_askedFrom_46 : decode cX10_askedFrom 46 = .ok (.iload_n 3, 1) := by decide +kernel
theorem dX10_askedFrom_47 : decode cX10_askedFrom 47 = .ok (.iload 7, 2) := by decide +kernel
theorem dX10_askedFrom_49 : decode cX10_askedFrom 49 = .ok (.invokevirtual 286, 3) := by decide +kernel
theorem dX10_askedFrom_52 : decode cX10_askedFrom 52 = .ok (.aload_n 0, 1) := by decide +kernel
theorem dX10_askedFrom_53 : decode cX10_askedFrom 53 = .ok (.iload_n 1, 1) := by decide +kernel
theorem dX10_askedFrom_54 : decode cX10_askedFrom 54 = .ok (.iload_n 2, 1) := by decide +kernel
theorem dX10_askedFrom_55 : decode cX10_askedFrom 55 = .ok (.iload_n 3, 1) := by decide +kernel
theorem dX10_askedFrom_56 : decode cX10_askedFrom 56 = .ok (.iload 6, 2) := by decide +kernel
theorem dX10_askedFrom_58 : decode cX10_askedFrom 58 = .ok (.invokevirtual 286, 3) := by decide +kernel
theorem dX10_askedFrom_61 : decode cX10_askedFrom 61 = .ok (.lcmp, 1) := by decide +kernel
theorem dX10_askedFrom_62 : decode cX10_askedFrom 62 = .ok (.ifCond .le 8, 3) := by decide +kernel
theorem dX10_askedFrom_65 : decode cX10_askedFrom 65 = .ok (.iload 7, 2) := by decide +kernel
theorem dX10_askedFrom_67 : decode cX10_askedFrom 67 = .ok (.goto 5, 3) := by decide +kernel
theorem dX10_askedFrom_70 : decode cX10_askedFrom 70 = .ok (.iload 6, 2) := by decide +kernel
theorem dX10_askedFrom_72 : decode cX10_askedFrom 72 = .ok (.ireturn, 1) := by decide +kernel
theorem dX10_movedBy_0 : decode cX10_movedBy 0 = .ok (.iload_n 0, 1) := by decide +kernel
theorem dX10_movedBy_1 : decode cX10_movedBy 1 = .ok (.iconst 2, 1) := by decide +kernel
theorem dX10_movedBy_2 : decode cX10_movedBy 2 = .ok (.irem, 1) := by decide +kernel
theorem dX10_movedBy_3 : decode cX10_movedBy 3 = .ok (.ifCond .ne 24, 3) := by decide +kernel
theorem dX10_movedBy_6 : decode cX10_movedBy 6 = .ok (.iload_n 1, 1) := by decide +kernel
theorem dX10_movedBy_7 : decode cX10_movedBy 7 = .ok (.bipush 10, 2) := by decide +kernel
theorem dX10_movedBy_9 : decode cX10_movedBy 9 = .ok (.iadd, 1) := by decide +kernel
theorem dX10_movedBy_10 : decode cX10_movedBy 10 = .ok (.bipush 99, 2) := by decide +kernel
theorem dX10_movedBy_12 : decode cX10_movedBy 12 = .ok (.if_icmp .le 8, 3) := by decide +kernel
theorem dX10_movedBy_15 : decode cX10_movedBy 15 = .ok (.bipush 99, 2) := by decide +kernel
theorem dX10_movedBy_17 : decode cX10_movedBy 17 = .ok (.goto 24, 3) := by decide +kernel
theorem dX10_movedBy_20 : decode cX10_movedBy 20 = .ok (.iload_n 1, 1) := by decide +kernel
theorem dX10_movedBy_21 : decode cX10_movedBy 21 = .ok (.bipush 10, 2) := by decide +kernel
theorem dX10_movedBy_23 : decode cX10_movedBy 23 = .ok (.iadd, 1) := by decide +kernel
theorem dX10_movedBy_24 : decode cX10_movedBy 24 = .ok (.goto 17, 3) := by decide +kernel
theorem dX10_movedBy_27 : decode cX10_movedBy 27 = .ok (.iload_n 1, 1) := by decide +kernel
theorem dX10_movedBy_28 : decode cX10_movedBy 28 = .ok (.bipush 10, 2) := by decide +kernel
theorem dX10_movedBy_30 : decode cX10_movedBy 30 = .ok (.if_icmp .ge 7, 3) := by decide +kernel
theorem dX10_movedBy_33 : decode cX10_movedBy 33 = .ok (.iconst 0, 1) := by decide +kernel
theorem dX10_movedBy_34 : decode cX10_movedBy 34 = .ok (.goto 7, 3) := by decide +kernel
theorem dX10_movedBy_37 : decode cX10_movedBy 37 = .ok (.iload_n 1, 1) := by decide +kernel
theorem dX10_movedBy_38 : decode cX10_movedBy 38 = .ok (.bipush 10, 2) := by decide +kernel
theorem dX10_movedBy_40 : decode cX10_movedBy 40 = .ok (.isub, 1) := by decide +kernel
theorem dX10_movedBy_41 : decode cX10_movedBy 41 = .ok (.ireturn, 1) := by decide +kernel
theorem dX10_hasOf_0 : decode cX10_hasOf 0 = .ok (.aload_n 0, 1) := by decide +kernel
theorem dX10_hasOf_1 : decode cX10_hasOf 1 = .ok (.iload_n 1, 1) := by decide +kernel
theorem dX10_hasOf_2 : decode cX10_hasOf 2 = .ok (.iload_n 2, 1) := by decide +kernel
theorem dX10_hasOf_3 : decode cX10_hasOf 3 = .ok (.iload 4, 2) := by decide +kernel
theorem dX10_hasOf_5 : decode cX10_hasOf 5 = .ok (.invokevirtual 290, 3) := by decide +kernel
theorem dX10_hasOf_8 : decode cX10_hasOf 8 = .ok (.istore 5, 2) := by decide +kernel
theorem dX10_hasOf_10 : decode cX10_hasOf 10 = .ok (.iload_n 3, 1) := by decide +kernel
theorem dX10_hasOf_11 : decode cX10_hasOf 11 = .ok (.iconst 2, 1) := by decide +kernel
theorem dX10_hasOf_12 : decode cX10_hasOf 12 = .ok (.irem, 1) := by decide +kernel
theorem dX10_hasOf_13 : decode cX10_hasOf 13 = .ok (.ifCond .ne 16, 3) := by decide +kernel
theorem dX10_hasOf_16 : decode cX10_hasOf 16 = .ok (.iload 5, 2) := by decide +kernel
theorem dX10_hasOf_18 : decode cX10_hasOf 18 = .ok (.ifCond .ge 7, 3) := by decide +kernel
theorem dX10_hasOf_21 : decode cX10_hasOf 21 = .ok (.lconst 0, 1) := by decide +kernel
theorem dX10_hasOf_22 : decode cX10_hasOf 22 = .ok (.goto 6, 3) := by decide +kernel
theorem dX10_hasOf_25 : decode cX10_hasOf 25 = .ok (.iload 5, 2) := by decide +kernel
theorem dX10_hasOf_27 : decode cX10_hasOf 27 = .ok (.i2l, 1) := by decide +kernel
theorem dX10_hasOf_28 : decode cX10_hasOf 28 = .ok (.lreturn, 1) := by decide +kernel
theorem dX10_hasOf_29 : decode cX10_hasOf 29 = .ok (.iload 5, 2) := by decide +kernel
theorem dX10_hasOf_31 : decode cX10_hasOf 31 = .ok (.ifCond .ge 7, 3) := by decide +kernel
theorem dX10_hasOf_34 : decode cX10_hasOf 34 = .ok (.lconst 0, 1) := by decide +kernel
theorem dX10_hasOf_35 : decode cX10_hasOf 35 = .ok (.goto 20, 3) := by decide +kernel
theorem dX10_hasOf_38 : decode cX10_hasOf 38 = .ok (.aload_n 0, 1) := by decide +kernel
theorem dX10_hasOf_39 : decode cX10_hasOf 39 = .ok (.iload_n 1, 1) := by decide +kernel
theorem dX10_hasOf_40 : decode cX10_hasOf 40 = .ok (.iload_n 2, 1) := by decide +kernel
theorem dX10_hasOf_41 : decode cX10_hasOf 41 = .ok (.iload 4, 2) := by decide +kernel
theorem dX10_hasOf_43 : decode cX10_hasOf 43 = .ok (.invokevirtual 242, 3) := by decide +kernel
theorem dX10_hasOf_46 : decode cX10_hasOf 46 = .ok (.aload_n 0, 1) := by decide +kernel
theorem dX10_hasOf_47 : decode cX10_hasOf 47 = .ok (.invokevirtual 231, 3) := by decide +kernel
theorem dX10_hasOf_50 : decode cX10_hasOf 50 = .ok (.ldiv, 1) := by decide +kernel
theorem dX10_hasOf_51 : decode cX10_hasOf 51 = .ok (.iload 5, 2) := by decide +kernel
theorem dX10_hasOf_53 : decode cX10_hasOf 53 = .ok (.i2l, 1) := by decide +kernel
theorem dX10_hasOf_54 : decode cX10_hasOf 54 = .ok (.lsub, 1) := by decide +kernel
theorem dX10_hasOf_55 : decode cX10_hasOf 55 = .ok (.lreturn, 1) := by decide +kernel
theorem dX10_byTurns_0 : decode cX10_byTurns 0 = .ok (.aload_n 0, 1) := by decide +kernel
theorem dX10_byTurns_1 : decode cX10_byTurns 1 = .ok (.iload_n 1, 1) := by decide +kernel
theorem dX10_byTurns_2 : decode cX10_byTurns 2 = .ok (.invokevirtual 220, 3) := by decide +kernel
theorem dX10_byTurns_5 : decode cX10_byTurns 5 = .ok (.ifCond .eq 25, 3) := by decide +kernel
theorem dX10_byTurns_8 : decode cX10_byTurns 8 = .ok (.iload_n 2, 1) := by decide +kernel
theorem dX10_byTurns_9 : decode cX10_byTurns 9 = .ok (.i2l, 1) := by decide +kernel
theorem dX10_byTurns_10 : decode cX10_byTurns 10 = .ok (.lconst 1, 1) := by decide +kernel
theorem dX10_byTurns_11 : decode cX10_byTurns 11 = .ok (.ldc2_w 128, 3) := by decide +kernel
theorem dX10_byTurns_14 : decode cX10_byTurns 14 = .ok (.invokestatic 96, 3) := by decide +kernel
theorem dX10_byTurns_17 : decode cX10_byTurns 17 = .ok (.ifCond .eq 13, 3) := by decide +kernel
theorem dX10_byTurns_20 : decode cX10_byTurns 20 = .ok (.iload_n 3, 1) := by decide +kernel
theorem dX10_byTurns_21 : decode cX10_byTurns 21 = .ok (.i2l, 1) := by decide +kernel
theorem dX10_byTurns_22 : decode cX10_byTurns 22 = .ok (.lconst 0, 1) := by decide +kernel
theorem dX10_byTurns_23 : decode cX10_byTurns 23 = .ok (.lconst 1, 1) := by decide +kernel
theorem dX10_byTurns_24 : decode cX10_byTurns 24 = .ok (.invokestatic 96, 3) := by decide +kernel
theorem dX10_byTurns_27 : decode cX10_byTurns 27 = .ok (.ifCond .ne 5, 3) := by decide +kernel
theorem dX10_byTurns_30 : decode cX10_byTurns 30 = .ok (.iconst (-1), 1) := by decide +kernel
theorem dX10_byTurns_31 : decode cX10_byTurns 31 = .ok (.ireturn, 1) := by decide +kernel
theorem dX10_byTurns_32 : decode cX10_byTurns 32 = .ok (.iload_n 1, 1) := by decide +kernel
theorem dX10_byTurns_33 : decode cX10_byTurns 33 = .ok (.bipush 10, 2) := by decide +kernel
theorem dX10_byTurns_35 : decode cX10_byTurns 35 = .ok (.idiv, 1) := by decide +kernel
theorem dX10_byTurns_36 : decode cX10_byTurns 36 = .ok (.istore 4, 2) := by decide +kernel
theorem dX10_byTurns_38 : decode cX10_byTurns 38 = .ok (.iload_n 1, 1) := by decide +kernel
theorem dX10_byTurns_39 : decode cX10_byTurns 39 = .ok (.bipush 10, 2) := by decide +kernel
theorem dX10_byTurns_41 : decode cX10_byTurns 41 = .ok (.irem, 1) := by decide +kernel
theorem dX10_byTurns_42 : decode cX10_byTurns 42 = .ok (.istore 5, 2) := by decide +kernel
theorem dX10_byTurns_44 : decode cX10_byTurns 44 = .ok (.aload_n 0, 1) := by decide +kernel
theorem dX10_byTurns_45 : decode cX10_byTurns 45 = .ok (.iload 5, 2) := by decide +kernel
theorem dX10_byTurns_47 : decode cX10_byTurns 47 = .ok (.invokevirtual 261, 3) := by decide +kernel
theorem dX10_byTurns_50 : decode cX10_byTurns 50 = .ok (.ifCond .ne 6, 3) := by decide +kernel
theorem dX10_byTurns_53 : decode cX10_byTurns 53 = .ok (.bipush (-5), 2) := by decide +kernel
theorem dX10_byTurns_55 : decode cX10_byTurns 55 = .ok (.ireturn, 1) := by decide +kernel
theorem dX10_byTurns_56 : decode cX10_byTurns 56 = .ok (.aload_n 0, 1) := by decide +kernel
theorem dX10_byTurns_57 : decode cX10_byTurns 57 = .ok (.getfield 9, 3) := by decide +kernel
theorem dX10_byTurns_60 : decode cX10_byTurns 60 = .ok (.bipush 34, 2) := by decide +kernel
theorem dX10_byTurns_62 : decode cX10_byTurns 62 = .ok (.iload 5, 2) := by decide +kernel
theorem dX10_byTurns_64 : decode cX10_byTurns 64 = .ok (.iadd, 1) := by decide +kernel
theorem dX10_byTurns_65 : decode cX10_byTurns 65 = .ok (.iaload, 1) := by decide +kernel
theorem dX10_byTurns_66 : decode cX10_byTurns 66 = .ok (.istore 6, 2) := by decide +kernel
theorem dX10_byTurns_68 : decode cX10_byTurns 68 = .ok (.iload_n 3, 1) := by decide +kernel
theorem dX10_byTurns_69 : decode cX10_byTurns 69 = .ok (.ifCond .ne 37, 3) := by decide +kernel
theorem dX10_byTurns_72 : decode cX10_byTurns 72 = .ok (.aload_n 0, 1) := by decide +kernel
theorem dX10_byTurns_73 : decode cX10_byTurns 73 = .ok (.iload 4, 2) := by decide +kernel
theorem dX10_byTurns_75 : decode cX10_byTurns 75 = .ok (.iload 5, 2) := by decide +kernel
theorem dX10_byTurns_77 : decode cX10_byTurns 77 = .ok (.aload_n 0, 1) := by decide +kernel
theorem dX10_byTurns_78 : decode cX10_byTurns 78 = .ok (.iload 4, 2) := by decide +kernel
theorem dX10_byTurns_80 : decode cX10_byTurns 80 = .ok (.iload 5, 2) := by decide +kernel
theorem dX10_byTurns_82 : decode cX10_byTurns 82 = .ok (.iconst 0, 1) := by decide +kernel
theorem dX10_byTurns_83 : decode cX10_byTurns 83 = .ok (.iload_n 2, 1) := by decide +kernel
theorem dX10_byTurns_84 : decode cX10_byTurns 84 = .ok (.iload 6, 2) := by decide +kernel
theorem dX10_byTurns_86 : decode cX10_byTurns 86 = .ok (.invokevirtual 279, 3) := by decide +kernel
theorem dX10_byTurns_89 : decode cX10_byTurns 89 = .ok (.invokevirtual 290, 3) := by decide +kernel
theorem dX10_byTurns_92 : decode cX10_byTurns 92 = .ok (.istore 7, 2) := by decide +kernel
theorem dX10_byTurns_94 : decode cX10_byTurns 94 = .ok (.iload 7, 2) := by decide +kernel
theorem dX10_byTurns_96 : decode cX10_byTurns 96 = .ok (.ifCond .ge 7, 3) := by decide +kernel
theorem dX10_byTurns_99 : decode cX10_byTurns 99 = .ok (.iconst 0, 1) := by decide +kernel
theorem dX10_byTurns_100 : decode cX10_byTurns 100 = .ok (.goto 5, 3) := by decide +kernel
theorem dX10_byTurns_103 : decode cX10_byTurns 103 = .ok (.iload 7, 2) := by decide +kernel
theorem dX10_byTurns_105 : decode cX10_byTurns 105 = .ok (.ireturn, 1) := by decide +kernel
theorem dX10_byTurns_106 : decode cX10_byTurns 106 = .ok (.aload_n 0, 1) := by decide +kernel
theorem dX10_byTurns_107 : decode cX10_byTurns 107 = .ok (.iload 4, 2) := by decide +kernel
theorem dX10_byTurns_109 : decode cX10_byTurns 109 = .ok (.iload 5, 2) := by decide +kernel
theorem dX10_byTurns_111 : decode cX10_byTurns 111 = .ok (.iconst 1, 1) := by decide +kernel
theorem dX10_byTurns_112 : decode cX10_byTurns 112 = .ok (.iload_n 2, 1) := by decide +kernel
theorem dX10_byTurns_113 : decode cX10_byTurns 113 = .ok (.iload 6, 2) := by decide +kernel
theorem dX10_byTurns_115 : decode cX10_byTurns 115 = .ok (.invokevirtual 279, 3) := by decide +kernel
theorem dX10_byTurns_118 : decode cX10_byTurns 118 = .ok (.istore 7, 2) := by decide +kernel
theorem dX10_byTurns_120 : decode cX10_byTurns 120 = .ok (.aload_n 0, 1) := by decide +kernel
theorem dX10_byTurns_121 : decode cX10_byTurns 121 = .ok (.iload 4, 2) := by decide +kernel
theorem dX10_byTurns_123 : decode cX10_byTurns 123 = .ok (.iload 5, 2) := by decide +kernel
theorem dX10_byTurns_125 : decode cX10_byTurns 125 = .ok (.iconst 1, 1) := by decide +kernel
theorem dX10_byTurns_126 : decode cX10_byTurns 126 = .ok (.iload_n 2, 1) := by decide +kernel
theorem dX10_byTurns_127 : decode cX10_byTurns 127 = .ok (.iconst 0, 1) := by decide +kernel
theorem dX10_byTurns_128 : decode cX10_byTurns 128 = .ok (.iload 6, 2) := by decide +kernel
theorem dX10_byTurns_130 : decode cX10_byTurns 130 = .ok (.invokestatic 283, 3) := by decide +kernel
theorem dX10_byTurns_133 : decode cX10_byTurns 133 = .ok (.invokevirtual 279, 3) := by decide +kernel
theorem dX10_byTurns_136 : decode cX10_byTurns 136 = .ok (.istore 8, 2) := by decide +kernel
theorem dX10_byTurns_138 : decode cX10_byTurns 138 = .ok (.aload_n 0, 1) := by decide +kernel
theorem dX10_byTurns_139 : decode cX10_byTurns 139 = .ok (.iload 4, 2) := by decide +kernel
theorem dX10_byTurns_141 : decode cX10_byTurns 141 = .ok (.iload 5, 2) := by decide +kernel
theorem dX10_byTurns_143 : decode cX10_byTurns 143 = .ok (.iconst 0, 1) := by decide +kernel
theorem dX10_byTurns_144 : decode cX10_byTurns 144 = .ok (.iload 8, 2) := by decide +kernel
theorem dX10_byTurns_146 : decode cX10_byTurns 146 = .ok (.invokevirtual 286, 3) := by decide +kernel
theorem dX10_byTurns_149 : decode cX10_byTurns 149 = .ok (.aload_n 0, 1) := by decide +kernel
theorem dX10_byTurns_150 : decode cX10_byTurns 150 = .ok (.iload 4, 2) := by decide +kernel
theorem dX10_byTurns_152 : decode cX10_byTurns 152 = .ok (.iload 5, 2) := by decide +kernel
theorem dX10_byTurns_154 : decode cX10_byTurns 154 = .ok (.iconst 0, 1) := by decide +kernel
theorem dX10_byTurns_155 : decode cX10_byTurns 155 = .ok (.iload 7, 2) := by decide +kernel
theorem dX10_byTurns_157 : decode cX10_byTurns 157 = .ok (.invokevirtual 286, 3) := by decide +kernel
theorem dX10_byTurns_160 : decode cX10_byTurns 160 = .ok (.lcmp, 1) := by decide +kernel
theorem dX10_byTurns_161 : decode cX10_byTurns 161 = .ok (.ifCond .le 7, 3) := by decide +kernel
theorem dX10_byTurns_164 : decode cX10_byTurns 164 = .ok (.iconst 1, 1) := by decide +kernel
theorem dX10_byTurns_165 : decode cX10_byTurns 165 = .ok (.goto 4, 3) := by decide +kernel
theorem dX10_byTurns_168 : decode cX10_byTurns 168 = .ok (.iconst 0, 1) := by decide +kernel
theorem dX10_byTurns_169 : decode cX10_byTurns 169 = .ok (.ireturn, 1) := by decide +kernel
theorem dX10_drawn_0 : decode cX10_drawn 0 = .ok (.iload_n 2, 1) := by decide +kernel
theorem dX10_drawn_1 : decode cX10_drawn 1 = .ok (.i2l, 1) := by decide +kernel
theorem dX10_drawn_2 : decode cX10_drawn 2 = .ok (.lconst 1, 1) := by decide +kernel
theorem dX10_drawn_3 : decode cX10_drawn 3 = .ok (.ldc2_w 293, 3) := by decide +kernel
theorem dX10_drawn_6 : decode cX10_drawn 6 = .ok (.invokestatic 96, 3) := by decide +kernel
theorem dX10_drawn_9 : decode cX10_drawn 9 = .ok (.ifCond .eq 23, 3) := by decide +kernel
theorem dX10_drawn_12 : decode cX10_drawn 12 = .ok (.aload_n 0, 1) := by decide +kernel
theorem dX10_drawn_13 : decode cX10_drawn 13 = .ok (.iload_n 3, 1) := by decide +kernel
theorem dX10_drawn_14 : decode cX10_drawn 14 = .ok (.i2l, 1) := by decide +kernel
theorem dX10_drawn_15 : decode cX10_drawn 15 = .ok (.invokevirtual 135, 3) := by decide +kernel
theorem dX10_drawn_18 : decode cX10_drawn 18 = .ok (.ifCond .eq 14, 3) := by decide +kernel
theorem dX10_drawn_21 : decode cX10_drawn 21 = .ok (.iload 4, 2) := by decide +kernel
theorem dX10_drawn_23 : decode cX10_drawn 23 = .ok (.i2l, 1) := by decide +kernel
theorem dX10_drawn_24 : decode cX10_drawn 24 = .ok (.lconst 0, 1) := by decide +kernel
theorem dX10_drawn_25 : decode cX10_drawn 25 = .ok (.lconst 1, 1) := by decide +kernel
theorem dX10_drawn_26 : decode cX10_drawn 26 = .ok (.invokestatic 96, 3) := by decide +kernel
theorem dX10_drawn_29 : decode cX10_drawn 29 = .ok (.ifCond .ne 6, 3) := by decide +kernel
theorem dX10_drawn_32 : decode cX10_drawn 32 = .ok (.ldc 151, 2) := by decide +kernel
theorem dX10_drawn_34 : decode cX10_drawn 34 = .ok (.ireturn, 1) := by decide +kernel
theorem dX10_drawn_35 : decode cX10_drawn 35 = .ok (.iload_n 1, 1) := by decide +kernel
theorem dX10_drawn_36 : decode cX10_drawn 36 = .ok (.istore 5, 2) := by decide +kernel
theorem dX10_drawn_38 : decode cX10_drawn 38 = .ok (.iconst 0, 1) := by decide +kernel
theorem dX10_drawn_39 : decode cX10_drawn 39 = .ok (.istore 6, 2) := by decide +kernel
theorem dX10_drawn_41 : decode cX10_drawn 41 = .ok (.iconst 0, 1) := by decide +kernel
theorem dX10_drawn_42 : decode cX10_drawn 42 = .ok (.istore 7, 2) := by decide +kernel
theorem dX10_drawn_44 : decode cX10_drawn 44 = .ok (.iconst 0, 1) := by decide +kernel
theorem dX10_drawn_45 : decode cX10_drawn 45 = .ok (.istore 8, 2) := by decide +kernel
theorem dX10_drawn_47 : decode cX10_drawn 47 = .ok (.iload 8, 2) := by decide +kernel
theorem dX10_drawn_49 : decode cX10_drawn 49 = .ok (.iload_n 2, 1) := by decide +kernel
theorem dX10_drawn_50 : decode cX10_drawn 50 = .ok (.if_icmp .ge 133, 3) := by decide +kernel
theorem dX10_drawn_53 : decode cX10_drawn 53 = .ok (.aload_n 0, 1) := by decide +kernel
theorem dX10_drawn_54 : decode cX10_drawn 54 = .ok (.getfield 9, 3) := by decide +kernel
theorem dX10_drawn_57 : decode cX10_drawn 57 = .ok (.bipush 44, 2) := by decide +kernel
theorem dX10_drawn_59 : decode cX10_drawn 59 = .ok (.iload_n 3, 1) := by decide +kernel
theorem dX10_drawn_60 : decode cX10_drawn 60 = .ok (.iadd, 1) := by decide +kernel
theorem dX10_drawn_61 : decode cX10_drawn 61 = .ok (.iaload, 1) := by decide +kernel
theorem dX10_drawn_62 : decode cX10_drawn 62 = .ok (.istore 9, 2) := by decide +kernel
theorem dX10_drawn_64 : decode cX10_drawn 64 = .ok (.iconst 0, 1) := by decide +kernel
theorem dX10_drawn_65 : decode cX10_drawn 65 = .ok (.istore 10, 2) := by decide +kernel
theorem dX10_drawn_67 : decode cX10_drawn 67 = .ok (.iload 10, 2) := by decide +kernel
theorem dX10_drawn_69 : decode cX10_drawn 69 = .ok (.aload_n 0, 1) := by decide +kernel
theorem dX10_drawn_70 : decode cX10_drawn 70 = .ok (.getfield 100, 3) := by decide +kernel
theorem dX10_drawn_73 : decode cX10_drawn 73 = .ok (.if_icmp .ge 104, 3) := by decide +kernel
theorem dX10_drawn_76 : decode cX10_drawn 76 = .ok (.aload_n 0, 1) := by decide +kernel
theorem dX10_drawn_77 : decode cX10_drawn 77 = .ok (.iload 10, 2) := by decide +kernel
theorem dX10_drawn_79 : decode cX10_drawn 79 = .ok (.invokevirtual 261, 3) := by decide +kernel
theorem dX10_drawn_82 : decode cX10_drawn 82 = .ok (.ifCond .eq 89, 3) := by decide +kernel
theorem dX10_drawn_85 : decode cX10_drawn 85 = .ok (.iload 5, 2) := by decide +kernel
theorem dX10_drawn_87 : decode cX10_drawn 87 = .ok (.ldc_w 295, 3) := by decide +kernel
theorem dX10_drawn_90 : decode cX10_drawn 90 = .ok (.imul, 1) := by decide +kernel
theorem dX10_drawn_91 : decode cX10_drawn 91 = .ok (.sipush 12345, 3) := by decide +kernel
theorem dX10_drawn_94 : decode cX10_drawn 94 = .ok (.iadd, 1) := by decide +kernel
theorem dX10_drawn_95 : decode cX10_drawn 95 = .ok (.istore 5, 2) := by decide +kernel
theorem dX10_drawn_97 : decode cX10_drawn 97 = .ok (.aload_n 0, 1) := by decide +kernel
theorem dX10_drawn_98 : decode cX10_drawn 98 = .ok (.getfield 9, 3) := by decide +kernel
theorem dX10_drawn_101 : decode cX10_drawn 101 = .ok (.bipush 34, 2) := by decide +kernel
theorem dX10_drawn_103 : decode cX10_drawn 103 = .ok (.iload 10, 2) := by decide +kernel
theorem dX10_drawn_105 : decode cX10_drawn 105 = .ok (.iadd, 1) := by decide +kernel
theorem dX10_drawn_106 : decode cX10_drawn 106 = .ok (.iaload, 1) := by decide +kernel
theorem dX10_drawn_107 : decode cX10_drawn 107 = .ok (.istore 11, 2) := by decide +kernel
theorem dX10_drawn_109 : decode cX10_drawn 109 = .ok (.aload_n 0, 1) := by decide +kernel
theorem dX10_drawn_110 : decode cX10_drawn 110 = .ok (.iload_n 3, 1) := by decide +kernel
theorem dX10_drawn_111 : decode cX10_drawn 111 = .ok (.iload 5, 2) := by decide +kernel
theorem dX10_drawn_113 : decode cX10_drawn 113 = .ok (.bipush 8, 2) := by decide +kernel
theorem dX10_drawn_115 : decode cX10_drawn 115 = .ok (.iushr, 1) := by decide +kernel
theorem dX10_drawn_116 : decode cX10_drawn 116 = .ok (.bipush 6, 2) := by decide +kernel
theorem dX10_drawn_118 : decode cX10_drawn 118 = .ok (.irem, 1) := by decide +kernel
theorem dX10_drawn_119 : decode cX10_drawn 119 = .ok (.iload 11, 2) := by decide +kernel
theorem dX10_drawn_121 : decode cX10_drawn 121 = .ok (.invokevirtual 207, 3) := by decide +kernel
theorem dX10_drawn_124 : decode cX10_drawn 124 = .ok (.iload 11, 2) := by decide +kernel
theorem dX10_drawn_126 : decode cX10_drawn 126 = .ok (.if_icmp .lt 45, 3) := by decide +kernel
theorem dX10_drawn_129 : decode cX10_drawn 129 = .ok (.iload 9, 2) := by decide +kernel
theorem dX10_drawn_131 : decode cX10_drawn 131 = .ok (.iload 11, 2) := by decide +kernel
theorem dX10_drawn_133 : decode cX10_drawn 133 = .ok (.if_icmp .lt 38, 3) := by decide +kernel
theorem dX10_drawn_136 : decode cX10_drawn 136 = .ok (.iload 9, 2) := by decide +kernel
theorem dX10_drawn_138 : decode cX10_drawn 138 = .ok (.iload 11, 2) := by decide +kernel
theorem dX10_drawn_140 : decode cX10_drawn 140 = .ok (.isub, 1) := by decide +kernel
theorem dX10_drawn_141 : decode cX10_drawn 141 = .ok (.istore 9, 2) := by decide +kernel
theorem dX10_drawn_143 : decode cX10_drawn 143 = .ok (.iinc 6 1, 3) := by decide +kernel
theorem dX10_drawn_146 : decode cX10_drawn 146 = .ok (.iload 7, 2) := by decide +kernel
theorem dX10_drawn_148 : decode cX10_drawn 148 = .ok (.aload_n 0, 1) := by decide +kernel
theorem dX10_drawn_149 : decode cX10_drawn 149 = .ok (.iload_n 3, 1) := by decide +kernel
theorem dX10_drawn_150 : decode cX10_drawn 150 = .ok (.aload_n 0, 1) := by decide +kernel
theorem dX10_drawn_151 : decode cX10_drawn 151 = .ok (.getfield 9, 3) := by decide +kernel
theorem dX10_drawn_154 : decode cX10_drawn 154 = .ok (.bipush 24, 2) := by decide +kernel
theorem dX10_drawn_156 : decode cX10_drawn 156 = .ok (.iload 10, 2) := by decide +kernel
theorem dX10_drawn_158 : decode cX10_drawn 158 = .ok (.iadd, 1) := by decide +kernel
theorem dX10_drawn_159 : decode cX10_drawn 159 = .ok (.iaload, 1) := by decide +kernel
theorem dX10_drawn_160 : decode cX10_drawn 160 = .ok (.iload 11, 2) := by decide +kernel
theorem dX10_drawn_162 : decode cX10_drawn 162 = .ok (.invokevirtual 207, 3) := by decide +kernel
theorem dX10_drawn_165 : decode cX10_drawn 165 = .ok (.iload 11, 2) := by decide +kernel
theorem dX10_drawn_167 : decode cX10_drawn 167 = .ok (.isub, 1) := by decide +kernel
theorem dX10_drawn_168 : decode cX10_drawn 168 = .ok (.iadd, 1) := by decide +kernel
theorem dX10_drawn_169 : decode cX10_drawn 169 = .ok (.istore 7, 2) := by decide +kernel
theorem dX10_drawn_171 : decode cX10_drawn 171 = .ok (.iinc 10 1, 3) := by decide +kernel
theorem dX10_drawn_174 : decode cX10_drawn 174 = .ok (.goto (-107), 3) := by decide +kernel
theorem dX10_drawn_177 : decode cX10_drawn 177 = .ok (.iinc 8 1, 3) := by decide +kernel
theorem dX10_drawn_180 : decode cX10_drawn 180 = .ok (.goto (-133), 3) := by decide +kernel
theorem dX10_drawn_183 : decode cX10_drawn 183 = .ok (.iload 4, 2) := by decide +kernel
theorem dX10_drawn_185 : decode cX10_drawn 185 = .ok (.ifCond .ne 8, 3) := by decide +kernel
theorem dX10_drawn_188 : decode cX10_drawn 188 = .ok (.iload 6, 2) := by decide +kernel
theorem dX10_drawn_190 : decode cX10_drawn 190 = .ok (.goto 5, 3) := by decide +kernel
theorem dX10_drawn_193 : decode cX10_drawn 193 = .ok (.iload 7, 2) := by decide +kernel
theorem dX10_drawn_195 : decode cX10_drawn 195 = .ok (.ireturn, 1) := by decide +kernel
theorem dX10_sell_0 : decode cX10_sell 0 = .ok (.aload_n 0, 1) := by decide +kernel
theorem dX10_sell_1 : decode cX10_sell 1 = .ok (.iload_n 1, 1) := by decide +kernel
theorem dX10_sell_2 : decode cX10_sell 2 = .ok (.i2l, 1) := by decide +kernel
theorem dX10_sell_3 : decode cX10_sell 3 = .ok (.invokevirtual 130, 3) := by decide +kernel
theorem dX10_sell_6 : decode cX10_sell 6 = .ok (.ifCond .eq 12, 3) := by decide +kernel
theorem dX10_sell_9 : decode cX10_sell 9 = .ok (.aload_n 0, 1) := by decide +kernel
theorem dX10_sell_10 : decode cX10_sell 10 = .ok (.iload_n 2, 1) := by decide +kernel
theorem dX10_sell_11 : decode cX10_sell 11 = .ok (.i2l, 1) := by decide +kernel
theorem dX10_sell_12 : decode cX10_sell 12 = .ok (.invokevirtual 135, 3) := by decide +kernel
theorem dX10_sell_15 : decode cX10_sell 15 = .ok (.ifCond .ne 5, 3) := by decide +kernel
theorem dX10_sell_18 : decode cX10_sell 18 = .ok (.iconst (-1), 1) := by decide +kernel
theorem dX10_sell_19 : decode cX10_sell 19 = .ok (.ireturn, 1) := by decide +kernel
theorem dX10_sell_20 : decode cX10_sell 20 = .ok (.aload_n 0, 1) := by decide +kernel
theorem dX10_sell_21 : decode cX10_sell 21 = .ok (.getfield 9, 3) := by decide +kernel
theorem dX10_sell_24 : decode cX10_sell 24 = .ok (.bipush 34, 2) := by decide +kernel
theorem dX10_sell_26 : decode cX10_sell 26 = .ok (.iload_n 1, 1) := by decide +kernel
theorem dX10_sell_27 : decode cX10_sell 27 = .ok (.iadd, 1) := by decide +kernel
theorem dX10_sell_28 : decode cX10_sell 28 = .ok (.iaload, 1) := by decide +kernel
theorem dX10_sell_29 : decode cX10_sell 29 = .ok (.istore_n 3, 1) := by decide +kernel
theorem dX10_sell_30 : decode cX10_sell 30 = .ok (.aload_n 0, 1) := by decide +kernel
theorem dX10_sell_31 : decode cX10_sell 31 = .ok (.iload_n 1, 1) := by decide +kernel
theorem dX10_sell_32 : decode cX10_sell 32 = .ok (.invokevirtual 261, 3) := by decide +kernel
theorem dX10_sell_35 : decode cX10_sell 35 = .ok (.ifCond .eq 16, 3) := by decide +kernel
theorem dX10_sell_38 : decode cX10_sell 38 = .ok (.aload_n 0, 1) := by decide +kernel
theorem dX10_sell_39 : decode cX10_sell 39 = .ok (.getfield 9, 3) := by decide +kernel
theorem dX10_sell_42 : decode cX10_sell 42 = .ok (.bipush 44, 2) := by decide +kernel
theorem dX10_sell_44 : decode cX10_sell 44 = .ok (.iload_n 2, 1) := by decide +kernel
theorem dX10_sell_45 : decode cX10_sell 45 = .ok (.iadd, 1) := by decide +kernel
theorem dX10_sell_46 : decode cX10_sell 46 = .ok (.iaload, 1) := by decide +kernel
theorem dX10_sell_47 : decode cX10_sell 47 = .ok (.iload_n 3, 1) := by decide +kernel
theorem dX10_sell_48 : decode cX10_sell 48 = .ok (.if_icmp .ge 6, 3) := by decide +kernel
theorem dX10_sell_51 : decode cX10_sell 51 = .ok (.bipush (-5), 2) := by decide +kernel
theorem dX10_sell_53 : decode cX10_sell 53 = .ok (.ireturn, 1) := by decide +kernel
theorem dX10_sell_54 : decode cX10_sell 54 = .ok (.aload_n 0, 1) := by decide +kernel
theorem dX10_sell_55 : decode cX10_sell 55 = .ok (.getfield 22, 3) := by decide +kernel
theorem dX10_sell_58 : decode cX10_sell 58 = .ok (.iload_n 1, 1) := by decide +kernel
theorem dX10_sell_59 : decode cX10_sell 59 = .ok (.iload_n 2, 1) := by decide +kernel
theorem dX10_sell_60 : decode cX10_sell 60 = .ok (.iastore, 1) := by decide +kernel
theorem dX10_sell_61 : decode cX10_sell 61 = .ok (.aload_n 0, 1) := by decide +kernel
theorem dX10_sell_62 : decode cX10_sell 62 = .ok (.getfield 9, 3) := by decide +kernel
theorem dX10_sell_65 : decode cX10_sell 65 = .ok (.bipush 44, 2) := by decide +kernel
theorem dX10_sell_67 : decode cX10_sell 67 = .ok (.iload_n 2, 1) := by decide +kernel
theorem dX10_sell_68 : decode cX10_sell 68 = .ok (.iadd, 1) := by decide +kernel
theorem dX10_sell_69 : decode cX10_sell 69 = .ok (.dup2, 1) := by decide +kernel
theorem dX10_sell_70 : decode cX10_sell 70 = .ok (.iaload, 1) := by decide +kernel
theorem dX10_sell_71 : decode cX10_sell 71 = .ok (.iload_n 3, 1) := by decide +kernel
theorem dX10_sell_72 : decode cX10_sell 72 = .ok (.isub, 1) := by decide +kernel
theorem dX10_sell_73 : decode cX10_sell 73 = .ok (.iastore, 1) := by decide +kernel
theorem dX10_sell_74 : decode cX10_sell 74 = .ok (.aload_n 0, 1) := by decide +kernel
theorem dX10_sell_75 : decode cX10_sell 75 = .ok (.getfield 51, 3) := by decide +kernel
theorem dX10_sell_78 : decode cX10_sell 78 = .ok (.iconst 0, 1) := by decide +kernel
theorem dX10_sell_79 : decode cX10_sell 79 = .ok (.dup2, 1) := by decide +kernel
theorem dX10_sell_80 : decode cX10_sell 80 = .ok (.iaload, 1) := by decide +kernel
theorem dX10_sell_81 : decode cX10_sell 81 = .ok (.iconst 1, 1) := by decide +kernel
theorem dX10_sell_82 : decode cX10_sell 82 = .ok (.iadd, 1) := by decide +kernel
theorem dX10_sell_83 : decode cX10_sell 83 = .ok (.iastore, 1) := by decide +kernel
theorem dX10_sell_84 : decode cX10_sell 84 = .ok (.aload_n 0, 1) := by decide +kernel
theorem dX10_sell_85 : decode cX10_sell 85 = .ok (.getfield 51, 3) := by decide +kernel
theorem dX10_sell_88 : decode cX10_sell 88 = .ok (.iconst 1, 1) := by decide +kernel
theorem dX10_sell_89 : decode cX10_sell 89 = .ok (.dup2, 1) := by decide +kernel
theorem dX10_sell_90 : decode cX10_sell 90 = .ok (.iaload, 1) := by decide +kernel
theorem dX10_sell_91 : decode cX10_sell 91 = .ok (.iload_n 3, 1) := by decide +kernel
theorem dX10_sell_92 : decode cX10_sell 92 = .ok (.iadd, 1) := by decide +kernel
theorem dX10_sell_93 : decode cX10_sell 93 = .ok (.iastore, 1) := by decide +kernel
theorem dX10_sell_94 : decode cX10_sell 94 = .ok (.aload_n 0, 1) := by decide +kernel
theorem dX10_sell_95 : decode cX10_sell 95 = .ok (.getfield 9, 3) := by decide +kernel
theorem dX10_sell_98 : decode cX10_sell 98 = .ok (.bipush 44, 2) := by decide +kernel
theorem dX10_sell_100 : decode cX10_sell 100 = .ok (.iload_n 2, 1) := by decide +kernel
theorem dX10_sell_101 : decode cX10_sell 101 = .ok (.iadd, 1) := by decide +kernel
theorem dX10_sell_102 : decode cX10_sell 102 = .ok (.iaload, 1) := by decide +kernel
theorem dX10_sell_103 : decode cX10_sell 103 = .ok (.ireturn, 1) := by decide +kernel
theorem dX10_opens_0 : decode cX10_opens 0 = .ok (.aload_n 0, 1) := by decide +kernel
theorem dX10_opens_1 : decode cX10_opens 1 = .ok (.getfield 25, 3) := by decide +kernel
theorem dX10_opens_4 : decode cX10_opens 4 = .ok (.iload_n 1, 1) := by decide +kernel
theorem dX10_opens_5 : decode cX10_opens 5 = .ok (.iconst 1, 1) := by decide +kernel
theorem dX10_opens_6 : decode cX10_opens 6 = .ok (.bastore, 1) := by decide +kernel
theorem dX10_opens_7 : decode cX10_opens 7 = .ok (.aload_n 0, 1) := by decide +kernel
theorem dX10_opens_8 : decode cX10_opens 8 = .ok (.getfield 22, 3) := by decide +kernel
theorem dX10_opens_11 : decode cX10_opens 11 = .ok (.iload_n 1, 1) := by decide +kernel
theorem dX10_opens_12 : decode cX10_opens 12 = .ok (.iaload, 1) := by decide +kernel
theorem dX10_opens_13 : decode cX10_opens 13 = .ok (.ifCond .lt 47, 3) := by decide +kernel
theorem dX10_opens_16 : decode cX10_opens 16 = .ok (.aload_n 0, 1) := by decide +kernel
theorem dX10_opens_17 : decode cX10_opens 17 = .ok (.aload_n 0, 1) := by decide +kernel
theorem dX10_opens_18 : decode cX10_opens 18 = .ok (.getfield 22, 3) := by decide +kernel
theorem dX10_opens_21 : decode cX10_opens 21 = .ok (.iload_n 1, 1) := by decide +kernel
theorem dX10_opens_22 : decode cX10_opens 22 = .ok (.iaload, 1) := by decide +kernel
theorem dX10_opens_23 : decode cX10_opens 23 = .ok (.aload_n 0, 1) := by decide +kernel
theorem dX10_opens_24 : decode cX10_opens 24 = .ok (.getfield 9, 3) := by decide +kernel
theorem dX10_opens_27 : decode cX10_opens 27 = .ok (.bipush 24, 2) := by decide +kernel
theorem dX10_opens_29 : decode cX10_opens 29 = .ok (.iload_n 1, 1) := by decide +kernel
theorem dX10_opens_30 : decode cX10_opens 30 = .ok (.iadd, 1) := by decide +kernel
theorem dX10_opens_31 : decode cX10_opens 31 = .ok (.iaload, 1) := by decide +kernel
theorem dX10_opens_32 : decode cX10_opens 32 = .ok (.aload_n 0, 1) := by decide +kernel
theorem dX10_opens_33 : decode cX10_opens 33 = .ok (.getfield 9, 3) := by decide +kernel
theorem dX10_opens_36 : decode cX10_opens 36 = .ok (.bipush 34, 2) := by decide +kernel
theorem dX10_opens_38 : decode cX10_opens 38 = .ok (.iload_n 1, 1) := by decide +kernel
theorem dX10_opens_39 : decode cX10_opens 39 = .ok (.iadd, 1) := by decide +kernel
theorem dX10_opens_40 : decode cX10_opens 40 = .ok (.iaload, 1) := by decide +kernel
theorem dX10_opens_41 : decode cX10_opens 41 = .ok (.invokevirtual 207, 3) := by decide +kernel
theorem dX10_opens_44 : decode cX10_opens 44 = .ok (.aload_n 0, 1) := by decide +kernel
theorem dX10_opens_45 : decode cX10_opens 45 = .ok (.getfield 9, 3) := by decide +kernel
theorem dX10_opens_48 : decode cX10_opens 48 = .ok (.bipush 34, 2) := by decide +kernel
theorem dX10_opens_50 : decode cX10_opens 50 = .ok (.iload_n 1, 1) := by decide +kernel
theorem dX10_opens_51 : decode cX10_opens 51 = .ok (.iadd, 1) := by decide +kernel
theorem dX10_opens_52 : decode cX10_opens 52 = .ok (.iaload, 1) := by decide +kernel
theorem dX10_opens_53 : decode cX10_opens 53 = .ok (.if_icmp .ge 7, 3) := by decide +kernel
theorem dX10_opens_56 : decode cX10_opens 56 = .ok (.iconst 1, 1) := by decide +kernel
theorem dX10_opens_57 : decode cX10_opens 57 = .ok (.goto 4, 3) := by decide +kernel
theorem dX10_opens_60 : decode cX10_opens 60 = .ok (.iconst 0, 1) := by decide +kernel
theorem dX10_opens_61 : decode cX10_opens 61 = .ok (.istore_n 2, 1) := by decide +kernel
theorem dX10_opens_62 : decode cX10_opens 62 = .ok (.aload_n 0, 1) := by decide +kernel
theorem dX10_opens_63 : decode cX10_opens 63 = .ok (.getfield 51, 3) := by decide +kernel
theorem dX10_opens_66 : decode cX10_opens 66 = .ok (.iconst 2, 1) := by decide +kernel
