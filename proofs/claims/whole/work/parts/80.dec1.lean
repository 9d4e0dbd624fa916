theorem dX7_addSack_29 : decode cX7_addSack 29 = .ok (.aaload, 1) := by decide +kernel
theorem dX7_addSack_30 : decode cX7_addSack 30 = .ok (.iload_n 3, 1) := by decide +kernel
theorem dX7_addSack_31 : decode cX7_addSack 31 = .ok (.iload_n 1, 1) := by decide +kernel
theorem dX7_addSack_32 : decode cX7_addSack 32 = .ok (.iastore, 1) := by decide +kernel
theorem dX7_addSack_33 : decode cX7_addSack 33 = .ok (.aload_n 0, 1) := by decide +kernel
theorem dX7_addSack_34 : decode cX7_addSack 34 = .ok (.getfield 11, 3) := by decide +kernel
theorem dX7_addSack_37 : decode cX7_addSack 37 = .ok (.iconst 5, 1) := by decide +kernel
theorem dX7_addSack_38 : decode cX7_addSack 38 = .ok (.aaload, 1) := by decide +kernel
theorem dX7_addSack_39 : decode cX7_addSack 39 = .ok (.iload_n 3, 1) := by decide +kernel
theorem dX7_addSack_40 : decode cX7_addSack 40 = .ok (.iload_n 2, 1) := by decide +kernel
theorem dX7_addSack_41 : decode cX7_addSack 41 = .ok (.iastore, 1) := by decide +kernel
theorem dX7_addSack_42 : decode cX7_addSack 42 = .ok (.aload_n 0, 1) := by decide +kernel
theorem dX7_addSack_43 : decode cX7_addSack 43 = .ok (.getfield 11, 3) := by decide +kernel
theorem dX7_addSack_46 : decode cX7_addSack 46 = .ok (.bipush 9, 2) := by decide +kernel
theorem dX7_addSack_48 : decode cX7_addSack 48 = .ok (.aaload, 1) := by decide +kernel
theorem dX7_addSack_49 : decode cX7_addSack 49 = .ok (.iload_n 3, 1) := by decide +kernel
theorem dX7_addSack_50 : decode cX7_addSack 50 = .ok (.iconst (-1), 1) := by decide +kernel
theorem dX7_addSack_51 : decode cX7_addSack 51 = .ok (.iastore, 1) := by decide +kernel
theorem dX7_addSack_52 : decode cX7_addSack 52 = .ok (.aload_n 0, 1) := by decide +kernel
theorem dX7_addSack_53 : decode cX7_addSack 53 = .ok (.getfield 11, 3) := by decide +kernel
theorem dX7_addSack_56 : decode cX7_addSack 56 = .ok (.bipush 10, 2) := by decide +kernel
theorem dX7_addSack_58 : decode cX7_addSack 58 = .ok (.aaload, 1) := by decide +kernel
theorem dX7_addSack_59 : decode cX7_addSack 59 = .ok (.iload_n 3, 1) := by decide +kernel
theorem dX7_addSack_60 : decode cX7_addSack 60 = .ok (.iconst 0, 1) := by decide +kernel
theorem dX7_addSack_61 : decode cX7_addSack 61 = .ok (.iastore, 1) := by decide +kernel
theorem dX7_addSack_62 : decode cX7_addSack 62 = .ok (.iload_n 3, 1) := by decide +kernel
theorem dX7_addSack_63 : decode cX7_addSack 63 = .ok (.ireturn, 1) := by decide +kernel
theorem dX7_addBuyer_0 : decode cX7_addBuyer 0 = .ok (.aload_n 0, 1) := by decide +kernel
theorem dX7_addBuyer_1 : decode cX7_addBuyer 1 = .ok (.getfield 27, 3) := by decide +kernel
theorem dX7_addBuyer_4 : decode cX7_addBuyer 4 = .ok (.bipush 6, 2) := by decide +kernel
theorem dX7_addBuyer_6 : decode cX7_addBuyer 6 = .ok (.if_icmp .lt 6, 3) := by decide +kernel
theorem dX7_addBuyer_9 : decode cX7_addBuyer 9 = .ok (.bipush (-3), 2) := by decide +kernel
theorem dX7_addBuyer_11 : decode cX7_addBuyer 11 = .ok (.ireturn, 1) := by decide +kernel
theorem dX7_addBuyer_12 : decode cX7_addBuyer 12 = .ok (.aload_n 0, 1) := by decide +kernel
theorem dX7_addBuyer_13 : decode cX7_addBuyer 13 = .ok (.dup, 1) := by decide +kernel
theorem dX7_addBuyer_14 : decode cX7_addBuyer 14 = .ok (.getfield 27, 3) := by decide +kernel
theorem dX7_addBuyer_17 : decode cX7_addBuyer 17 = .ok (.dup_x1, 1) := by decide +kernel
theorem dX7_addBuyer_18 : decode cX7_addBuyer 18 = .ok (.iconst 1, 1) := by decide +kernel
theorem dX7_addBuyer_19 : decode cX7_addBuyer 19 = .ok (.iadd, 1) := by decide +kernel
theorem dX7_addBuyer_20 : decode cX7_addBuyer 20 = .ok (.putfield 27, 3) := by decide +kernel
theorem dX7_addBuyer_23 : decode cX7_addBuyer 23 = .ok (.istore_n 3, 1) := by decide +kernel
theorem dX7_addBuyer_24 : decode cX7_addBuyer 24 = .ok (.aload_n 0, 1) := by decide +kernel
theorem dX7_addBuyer_25 : decode cX7_addBuyer 25 = .ok (.getfield 11, 3) := by decide +kernel
theorem dX7_addBuyer_28 : decode cX7_addBuyer 28 = .ok (.bipush 6, 2) := by decide +kernel
theorem dX7_addBuyer_30 : decode cX7_addBuyer 30 = .ok (.aaload, 1) := by decide +kernel
theorem dX7_addBuyer_31 : decode cX7_addBuyer 31 = .ok (.iload_n 3, 1) := by decide +kernel
theorem dX7_addBuyer_32 : decode cX7_addBuyer 32 = .ok (.iload_n 1, 1) := by decide +kernel
theorem dX7_addBuyer_33 : decode cX7_addBuyer 33 = .ok (.iastore, 1) := by decide +kernel
theorem dX7_addBuyer_34 : decode cX7_addBuyer 34 = .ok (.aload_n 0, 1) := by decide +kernel
theorem dX7_addBuyer_35 : decode cX7_addBuyer 35 = .ok (.getfield 11, 3) := by decide +kernel
theorem dX7_addBuyer_38 : decode cX7_addBuyer 38 = .ok (.bipush 7, 2) := by decide +kernel
theorem dX7_addBuyer_40 : decode cX7_addBuyer 40 = .ok (.aaload, 1) := by decide +kernel
theorem dX7_addBuyer_41 : decode cX7_addBuyer 41 = .ok (.iload_n 3, 1) := by decide +kernel
theorem dX7_addBuyer_42 : decode cX7_addBuyer 42 = .ok (.iload_n 2, 1) := by decide +kernel
theorem dX7_addBuyer_43 : decode cX7_addBuyer 43 = .ok (.iastore, 1) := by decide +kernel
theorem dX7_addBuyer_44 : decode cX7_addBuyer 44 = .ok (.aload_n 0, 1) := by decide +kernel
theorem dX7_addBuyer_45 : decode cX7_addBuyer 45 = .ok (.getfield 11, 3) := by decide +kernel
theorem dX7_addBuyer_48 : decode cX7_addBuyer 48 = .ok (.bipush 8, 2) := by decide +kernel
theorem dX7_addBuyer_50 : decode cX7_addBuyer 50 = .ok (.aaload, 1) := by decide +kernel
theorem dX7_addBuyer_51 : decode cX7_addBuyer 51 = .ok (.iload_n 3, 1) := by decide +kernel
theorem dX7_addBuyer_52 : decode cX7_addBuyer 52 = .ok (.bipush 9, 2) := by decide +kernel
theorem dX7_addBuyer_54 : decode cX7_addBuyer 54 = .ok (.iastore, 1) := by decide +kernel
theorem dX7_addBuyer_55 : decode cX7_addBuyer 55 = .ok (.iload_n 3, 1) := by decide +kernel
theorem dX7_addBuyer_56 : decode cX7_addBuyer 56 = .ok (.ireturn, 1) := by decide +kernel
theorem dX7_isOpen_0 : decode cX7_isOpen 0 = .ok (.aload_n 0, 1) := by decide +kernel
theorem dX7_isOpen_1 : decode cX7_isOpen 1 = .ok (.bipush 10, 2) := by decide +kernel
theorem dX7_isOpen_3 : decode cX7_isOpen 3 = .ok (.iload_n 1, 1) := by decide +kernel
theorem dX7_isOpen_4 : decode cX7_isOpen 4 = .ok (.invokevirtual 38, 3) := by decide +kernel
theorem dX7_isOpen_7 : decode cX7_isOpen 7 = .ok (.iconst 1, 1) := by decide +kernel
theorem dX7_isOpen_8 : decode cX7_isOpen 8 = .ok (.if_icmp .ne 7, 3) := by decide +kernel
theorem dX7_isOpen_11 : decode cX7_isOpen 11 = .ok (.iconst 1, 1) := by decide +kernel
theorem dX7_isOpen_12 : decode cX7_isOpen 12 = .ok (.goto 4, 3) := by decide +kernel
theorem dX7_isOpen_15 : decode cX7_isOpen 15 = .ok (.iconst 0, 1) := by decide +kernel
theorem dX7_isOpen_16 : decode cX7_isOpen 16 = .ok (.ireturn, 1) := by decide +kernel
theorem dX7_isFree_0 : decode cX7_isFree 0 = .ok (.aload_n 0, 1) := by decide +kernel
theorem dX7_isFree_1 : decode cX7_isFree 1 = .ok (.bipush 9, 2) := by decide +kernel
theorem dX7_isFree_3 : decode cX7_isFree 3 = .ok (.iload_n 1, 1) := by decide +kernel
theorem dX7_isFree_4 : decode cX7_isFree 4 = .ok (.invokevirtual 38, 3) := by decide +kernel
theorem dX7_isFree_7 : decode cX7_isFree 7 = .ok (.ifCond .ge 15, 3) := by decide +kernel
theorem dX7_isFree_10 : decode cX7_isFree 10 = .ok (.aload_n 0, 1) := by decide +kernel
theorem dX7_isFree_11 : decode cX7_isFree 11 = .ok (.iload_n 1, 1) := by decide +kernel
theorem dX7_isFree_12 : decode cX7_isFree 12 = .ok (.invokevirtual 42, 3) := by decide +kernel
theorem dX7_isFree_15 : decode cX7_isFree 15 = .ok (.ifCond .ne 7, 3) := by decide +kernel
theorem dX7_isFree_18 : decode cX7_isFree 18 = .ok (.iconst 1, 1) := by decide +kernel
theorem dX7_isFree_19 : decode cX7_isFree 19 = .ok (.goto 4, 3) := by decide +kernel
theorem dX7_isFree_22 : decode cX7_isFree 22 = .ok (.iconst 0, 1) := by decide +kernel
theorem dX7_isFree_23 : decode cX7_isFree 23 = .ok (.ireturn, 1) := by decide +kernel
theorem dX7_openWith_0 : decode cX7_openWith 0 = .ok (.iconst 0, 1) := by decide +kernel
theorem dX7_openWith_1 : decode cX7_openWith 1 = .ok (.istore_n 2, 1) := by decide +kernel
theorem dX7_openWith_2 : decode cX7_openWith 2 = .ok (.iconst 0, 1) := by decide +kernel
theorem dX7_openWith_3 : decode cX7_openWith 3 = .ok (.istore_n 3, 1) := by decide +kernel
theorem dX7_openWith_4 : decode cX7_openWith 4 = .ok (.iload_n 3, 1) := by decide +kernel
theorem dX7_openWith_5 : decode cX7_openWith 5 = .ok (.aload_n 0, 1) := by decide +kernel
theorem dX7_openWith_6 : decode cX7_openWith 6 = .ok (.getfield 31, 3) := by decide +kernel
theorem dX7_openWith_9 : decode cX7_openWith 9 = .ok (.if_icmp .ge 35, 3) := by decide +kernel
theorem dX7_openWith_12 : decode cX7_openWith 12 = .ok (.iload_n 2, 1) := by decide +kernel
theorem dX7_openWith_13 : decode cX7_openWith 13 = .ok (.aload_n 0, 1) := by decide +kernel
theorem dX7_openWith_14 : decode cX7_openWith 14 = .ok (.iload_n 3, 1) := by decide +kernel
theorem dX7_openWith_15 : decode cX7_openWith 15 = .ok (.invokevirtual 42, 3) := by decide +kernel
theorem dX7_openWith_18 : decode cX7_openWith 18 = .ok (.ifCond .eq 17, 3) := by decide +kernel
theorem dX7_openWith_21 : decode cX7_openWith 21 = .ok (.aload_n 0, 1) := by decide +kernel
theorem dX7_openWith_22 : decode cX7_openWith 22 = .ok (.iconst 4, 1) := by decide +kernel
theorem dX7_openWith_23 : decode cX7_openWith 23 = .ok (.iload_n 3, 1) := by decide +kernel
theorem dX7_openWith_24 : decode cX7_openWith 24 = .ok (.invokevirtual 38, 3) := by decide +kernel
theorem dX7_openWith_27 : decode cX7_openWith 27 = .ok (.iload_n 1, 1) := by decide +kernel
theorem dX7_openWith_28 : decode cX7_openWith 28 = .ok (.if_icmp .ne 7, 3) := by decide +kernel
theorem dX7_openWith_31 : decode cX7_openWith 31 = .ok (.iconst 1, 1) := by decide +kernel
theorem dX7_openWith_32 : decode cX7_openWith 32 = .ok (.goto 4, 3) := by decide +kernel
theorem dX7_openWith_35 : decode cX7_openWith 35 = .ok (.iconst 0, 1) := by decide +kernel
theorem dX7_openWith_36 : decode cX7_openWith 36 = .ok (.iadd, 1) := by decide +kernel
theorem dX7_openWith_37 : decode cX7_openWith 37 = .ok (.istore_n 2, 1) := by decide +kernel
theorem dX7_openWith_38 : decode cX7_openWith 38 = .ok (.iinc 3 1, 3) := by decide +kernel
theorem dX7_openWith_41 : decode cX7_openWith 41 = .ok (.goto (-37), 3) := by decide +kernel
theorem dX7_openWith_44 : decode cX7_openWith 44 = .ok (.iload_n 2, 1) := by decide +kernel
theorem dX7_openWith_45 : decode cX7_openWith 45 = .ok (.ireturn, 1) := by decide +kernel
theorem dX7_soldNow_0 : decode cX7_soldNow 0 = .ok (.iconst 0, 1) := by decide +kernel
theorem dX7_soldNow_1 : decode cX7_soldNow 1 = .ok (.istore_n 1, 1) := by decide +kernel
theorem dX7_soldNow_2 : decode cX7_soldNow 2 = .ok (.iconst 0, 1) := by decide +kernel
theorem dX7_soldNow_3 : decode cX7_soldNow 3 = .ok (.istore_n 2, 1) := by decide +kernel
theorem dX7_soldNow_4 : decode cX7_soldNow 4 = .ok (.iload_n 2, 1) := by decide +kernel
theorem dX7_soldNow_5 : decode cX7_soldNow 5 = .ok (.aload_n 0, 1) := by decide +kernel
theorem dX7_soldNow_6 : decode cX7_soldNow 6 = .ok (.getfield 31, 3) := by decide +kernel
theorem dX7_soldNow_9 : decode cX7_soldNow 9 = .ok (.if_icmp .ge 29, 3) := by decide +kernel
theorem dX7_soldNow_12 : decode cX7_soldNow 12 = .ok (.iload_n 1, 1) := by decide +kernel
theorem dX7_soldNow_13 : decode cX7_soldNow 13 = .ok (.aload_n 0, 1) := by decide +kernel
theorem dX7_soldNow_14 : decode cX7_soldNow 14 = .ok (.getfield 11, 3) := by decide +kernel
theorem dX7_soldNow_17 : decode cX7_soldNow 17 = .ok (.bipush 9, 2) := by decide +kernel
theorem dX7_soldNow_19 : decode cX7_soldNow 19 = .ok (.aaload, 1) := by decide +kernel
theorem dX7_soldNow_20 : decode cX7_soldNow 20 = .ok (.iload_n 2, 1) := by decide +kernel
theorem dX7_soldNow_21 : decode cX7_soldNow 21 = .ok (.iaload, 1) := by decide +kernel
theorem dX7_soldNow_22 : decode cX7_soldNow 22 = .ok (.ifCond .lt 7, 3) := by decide +kernel
theorem dX7_soldNow_25 : decode cX7_soldNow 25 = .ok (.iconst 1, 1) := by decide +kernel
theorem dX7_soldNow_26 : decode cX7_soldNow 26 = .ok (.goto 4, 3) := by decide +kernel
theorem dX7_soldNow_29 : decode cX7_soldNow 29 = .ok (.iconst 0, 1) := by decide +kernel
theorem dX7_soldNow_30 : decode cX7_soldNow 30 = .ok (.iadd, 1) := by decide +kernel
theorem dX7_soldNow_31 : decode cX7_soldNow 31 = .ok (.istore_n 1, 1) := by decide +kernel
theorem dX7_soldNow_32 : decode cX7_soldNow 32 = .ok (.iinc 2 1, 3) := by decide +kernel
theorem dX7_soldNow_35 : decode cX7_soldNow 35 = .ok (.goto (-31), 3) := by decide +kernel
theorem dX7_soldNow_38 : decode cX7_soldNow 38 = .ok (.iload_n 1, 1) := by decide +kernel
theorem dX7_soldNow_39 : decode cX7_soldNow 39 = .ok (.ireturn, 1) := by decide +kernel
theorem dX7_worthTo_0 : decode cX7_worthTo 0 = .ok (.aload_n 0, 1) := by decide +kernel
theorem dX7_worthTo_1 : decode cX7_worthTo 1 = .ok (.iconst 0, 1) := by decide +kernel
theorem dX7_worthTo_2 : decode cX7_worthTo 2 = .ok (.iload_n 2, 1) := by decide +kernel
theorem dX7_worthTo_3 : decode cX7_worthTo 3 = .ok (.invokevirtual 38, 3) := by decide +kernel
theorem dX7_worthTo_6 : decode cX7_worthTo 6 = .ok (.istore 4, 2) := by decide +kernel
theorem dX7_worthTo_8 : decode cX7_worthTo 8 = .ok (.aload_n 0, 1) := by decide +kernel
theorem dX7_worthTo_9 : decode cX7_worthTo 9 = .ok (.bipush 7, 2) := by decide +kernel
theorem dX7_worthTo_11 : decode cX7_worthTo 11 = .ok (.iload_n 1, 1) := by decide +kernel
theorem dX7_worthTo_12 : decode cX7_worthTo 12 = .ok (.invokevirtual 38, 3) := by decide +kernel
theorem dX7_worthTo_15 : decode cX7_worthTo 15 = .ok (.iload_n 2, 1) := by decide +kernel
theorem dX7_worthTo_16 : decode cX7_worthTo 16 = .ok (.if_icmp .ne 7, 3) := by decide +kernel
theorem dX7_worthTo_19 : decode cX7_worthTo 19 = .ok (.iconst 1, 1) := by decide +kernel
theorem dX7_worthTo_20 : decode cX7_worthTo 20 = .ok (.goto 4, 3) := by decide +kernel
theorem dX7_worthTo_23 : decode cX7_worthTo 23 = .ok (.iconst 0, 1) := by decide +kernel
theorem dX7_worthTo_24 : decode cX7_worthTo 24 = .ok (.istore 5, 2) := by decide +kernel
theorem dX7_worthTo_26 : decode cX7_worthTo 26 = .ok (.aload_n 0, 1) := by decide +kernel
theorem dX7_worthTo_27 : decode cX7_worthTo 27 = .ok (.getfield 23, 3) := by decide +kernel
theorem dX7_worthTo_30 : decode cX7_worthTo 30 = .ok (.invokevirtual 46, 3) := by decide +kernel
theorem dX7_worthTo_33 : decode cX7_worthTo 33 = .ok (.ifCond .ne 12, 3) := by decide +kernel
theorem dX7_worthTo_36 : decode cX7_worthTo 36 = .ok (.iload 4, 2) := by decide +kernel
theorem dX7_worthTo_38 : decode cX7_worthTo 38 = .ok (.iload 4, 2) := by decide +kernel
theorem dX7_worthTo_40 : decode cX7_worthTo 40 = .ok (.iload 5, 2) := by decide +kernel
theorem dX7_worthTo_42 : decode cX7_worthTo 42 = .ok (.imul, 1) := by decide +kernel
theorem dX7_worthTo_43 : decode cX7_worthTo 43 = .ok (.iadd, 1) := by decide +kernel
theorem dX7_worthTo_44 : decode cX7_worthTo 44 = .ok (.ireturn, 1) := by decide +kernel
theorem dX7_worthTo_45 : decode cX7_worthTo 45 = .ok (.aload_n 0, 1) := by decide +kernel
theorem dX7_worthTo_46 : decode cX7_worthTo 46 = .ok (.getfield 16, 3) := by decide +kernel
theorem dX7_worthTo_49 : decode cX7_worthTo 49 = .ok (.iconst 0, 1) := by decide +kernel
theorem dX7_worthTo_50 : decode cX7_worthTo 50 = .ok (.iload 4, 2) := by decide +kernel
theorem dX7_worthTo_52 : decode cX7_worthTo 52 = .ok (.iastore, 1) := by decide +kernel
theorem dX7_worthTo_53 : decode cX7_worthTo 53 = .ok (.aload_n 0, 1) := by decide +kernel
theorem dX7_worthTo_54 : decode cX7_worthTo 54 = .ok (.getfield 16, 3) := by decide +kernel
theorem dX7_worthTo_57 : decode cX7_worthTo 57 = .ok (.iconst 1, 1) := by decide +kernel
theorem dX7_worthTo_58 : decode cX7_worthTo 58 = .ok (.iload 5, 2) := by decide +kernel
theorem dX7_worthTo_60 : decode cX7_worthTo 60 = .ok (.iastore, 1) := by decide +kernel
theorem dX7_worthTo_61 : decode cX7_worthTo 61 = .ok (.aload_n 0, 1) := by decide +kernel
theorem dX7_worthTo_62 : decode cX7_worthTo 62 = .ok (.getfield 16, 3) := by decide +kernel
theorem dX7_worthTo_65 : decode cX7_worthTo 65 = .ok (.iconst 2, 1) := by decide +kernel
theorem dX7_worthTo_66 : decode cX7_worthTo 66 = .ok (.iload_n 3, 1) := by decide +kernel
theorem dX7_worthTo_67 : decode cX7_worthTo 67 = .ok (.iastore, 1) := by decide +kernel
theorem dX7_worthTo_68 : decode cX7_worthTo 68 = .ok (.aload_n 0, 1) := by decide +kernel
theorem dX7_worthTo_69 : decode cX7_worthTo 69 = .ok (.getfield 16, 3) := by decide +kernel
theorem dX7_worthTo_72 : decode cX7_worthTo 72 = .ok (.iconst 3, 1) := by decide +kernel
theorem dX7_worthTo_73 : decode cX7_worthTo 73 = .ok (.aload_n 0, 1) := by decide +kernel
theorem dX7_worthTo_74 : decode cX7_worthTo 74 = .ok (.invokevirtual 50, 3) := by decide +kernel
theorem dX7_worthTo_77 : decode cX7_worthTo 77 = .ok (.iastore, 1) := by decide +kernel
theorem dX7_worthTo_78 : decode cX7_worthTo 78 = .ok (.aload_n 0, 1) := by decide +kernel
theorem dX7_worthTo_79 : decode cX7_worthTo 79 = .ok (.getfield 16, 3) := by decide +kernel
theorem dX7_worthTo_82 : decode cX7_worthTo 82 = .ok (.iconst 4, 1) := by decide +kernel
theorem dX7_worthTo_83 : decode cX7_worthTo 83 = .ok (.iload_n 2, 1) := by decide +kernel
theorem dX7_worthTo_84 : decode cX7_worthTo 84 = .ok (.iastore, 1) := by decide +kernel
theorem dX7_worthTo_85 : decode cX7_worthTo 85 = .ok (.aload_n 0, 1) := by decide +kernel
theorem dX7_worthTo_86 : decode cX7_worthTo 86 = .ok (.getfield 16, 3) := by decide +kernel
theorem dX7_worthTo_89 : decode cX7_worthTo 89 = .ok (.iconst 5, 1) := by decide +kernel
theorem dX7_worthTo_90 : decode cX7_worthTo 90 = .ok (.iload_n 1, 1) := by decide +kernel
theorem dX7_worthTo_91 : decode cX7_worthTo 91 = .ok (.iastore, 1) := by decide +kernel
theorem dX7_worthTo_92 : decode cX7_worthTo 92 = .ok (.iconst 0, 1) := by decide +kernel
theorem dX7_worthTo_93 : decode cX7_worthTo 93 = .ok (.sipush 999, 3) := by decide +kernel
theorem dX7_worthTo_96 : decode cX7_worthTo 96 = .ok (.aload_n 0, 1) := by decide +kernel
theorem dX7_worthTo_97 : decode cX7_worthTo 97 = .ok (.getfield 23, 3) := by decide +kernel
theorem dX7_worthTo_100 : decode cX7_worthTo 100 = .ok (.aload_n 0, 1) := by decide +kernel
theorem dX7_worthTo_101 : decode cX7_worthTo 101 = .ok (.getfield 16, 3) := by decide +kernel
theorem dX7_worthTo_104 : decode cX7_worthTo 104 = .ok (.invokevirtual 54, 3) := by decide +kernel
theorem dX7_worthTo_107 : decode cX7_worthTo 107 = .ok (.invokestatic 58, 3) := by decide +kernel
theorem dX7_worthTo_110 : decode cX7_worthTo 110 = .ok (.invokestatic 63, 3) := by decide +kernel
theorem dX7_worthTo_113 : decode cX7_worthTo 113 = .ok (.ireturn, 1) := by decide +kernel
theorem dX7_plainWorth_0 : decode cX7_plainWorth 0 = .ok (.iconst 0, 1) := by decide +kernel
theorem dX7_plainWorth_1 : decode cX7_plainWorth 1 = .ok (.istore_n 3, 1) := by decide +kernel
theorem dX7_plainWorth_2 : decode cX7_plainWorth 2 = .ok (.iconst 0, 1) := by decide +kernel
theorem dX7_plainWorth_3 : decode cX7_plainWorth 3 = .ok (.istore 4, 2) := by decide +kernel
theorem dX7_plainWorth_5 : decode cX7_plainWorth 5 = .ok (.iload 4, 2) := by decide +kernel
theorem dX7_plainWorth_7 : decode cX7_plainWorth 7 = .ok (.bipush 6, 2) := by decide +kernel
theorem dX7_plainWorth_9 : decode cX7_plainWorth 9 = .ok (.if_icmp .ge 20, 3) := by decide +kernel
theorem dX7_plainWorth_12 : decode cX7_plainWorth 12 = .ok (.iload_n 3, 1) := by decide +kernel
theorem dX7_plainWorth_13 : decode cX7_plainWorth 13 = .ok (.aload_n 0, 1) := by decide +kernel
theorem dX7_plainWorth_14 : decode cX7_plainWorth 14 = .ok (.iload_n 1, 1) := by decide +kernel
theorem dX7_plainWorth_15 : decode cX7_plainWorth 15 = .ok (.iload 4, 2) := by decide +kernel
theorem dX7_plainWorth_17 : decode cX7_plainWorth 17 = .ok (.iload_n 2, 1) := by decide +kernel
theorem dX7_plainWorth_18 : decode cX7_plainWorth 18 = .ok (.invokevirtual 66, 3) := by decide +kernel
theorem dX7_plainWorth_21 : decode cX7_plainWorth 21 = .ok (.iadd, 1) := by decide +kernel
theorem dX7_plainWorth_22 : decode cX7_plainWorth 22 = .ok (.istore_n 3, 1) := by decide +kernel
theorem dX7_plainWorth_23 : decode cX7_plainWorth 23 = .ok (.iinc 4 1, 3) := by decide +kernel
theorem dX7_plainWorth_26 : decode cX7_plainWorth 26 = .ok (.goto (-21), 3) := by decide +kernel
theorem dX7_plainWorth_29 : decode cX7_plainWorth 29 = .ok (.iload_n 3, 1) := by decide +kernel
theorem dX7_plainWorth_30 : decode cX7_plainWorth 30 = .ok (.bipush 6, 2) := by decide +kernel
theorem dX7_plainWorth_32 : decode cX7_plainWorth 32 = .ok (.idiv, 1) := by decide +kernel
theorem dX7_plainWorth_33 : decode cX7_plainWorth 33 = .ok (.ireturn, 1) := by decide +kernel
theorem dX7_groans_0 : decode cX7_groans 0 = .ok (.aload_n 0, 1) := by decide +kernel
theorem dX7_groans_1 : decode cX7_groans 1 = .ok (.bipush 9, 2) := by decide +kernel
theorem dX7_groans_3 : decode cX7_groans 3 = .ok (.iload_n 1, 1) := by decide +kernel
theorem dX7_groans_4 : decode cX7_groans 4 = .ok (.invokevirtual 38, 3) := by decide +kernel
theorem dX7_groans_7 : decode cX7_groans 7 = .ok (.istore_n 3, 1) := by decide +kernel
theorem dX7_groans_8 : decode cX7_groans 8 = .ok (.aload_n 0, 1) := by decide +kernel
theorem dX7_groans_9 : decode cX7_groans 9 = .ok (.iconst 5, 1) := by decide +kernel
theorem dX7_groans_10 : decode cX7_groans 10 = .ok (.iload_n 1, 1) := by decide +kernel
theorem dX7_groans_11 : decode cX7_groans 11 = .ok (.invokevirtual 38, 3) := by decide +kernel
theorem dX7_groans_14 : decode cX7_groans 14 = .ok (.istore 4, 2) := by decide +kernel
theorem dX7_groans_16 : decode cX7_groans 16 = .ok (.iload_n 3, 1) := by decide +kernel
theorem dX7_groans_17 : decode cX7_groans 17 = .ok (.ifCond .lt 20, 3) := by decide +kernel
theorem dX7_groans_20 : decode cX7_groans 20 = .ok (.aload_n 0, 1) := by decide +kernel
theorem dX7_groans_21 : decode cX7_groans 21 = .ok (.iload_n 3, 1) := by decide +kernel
theorem dX7_groans_22 : decode cX7_groans 22 = .ok (.iload_n 2, 1) := by decide +kernel
theorem dX7_groans_23 : decode cX7_groans 23 = .ok (.iload 4, 2) := by decide +kernel
theorem dX7_groans_25 : decode cX7_groans 25 = .ok (.invokevirtual 66, 3) := by decide +kernel
theorem dX7_groans_28 : decode cX7_groans 28 = .ok (.iload 4, 2) := by decide +kernel
theorem dX7_groans_30 : decode cX7_groans 30 = .ok (.if_icmp .ge 7, 3) := by decide +kernel
theorem dX7_groans_33 : decode cX7_groans 33 = .ok (.iconst 1, 1) := by decide +kernel
theorem dX7_groans_34 : decode cX7_groans 34 = .ok (.goto 4, 3) := by decide +kernel
theorem dX7_groans_37 : decode cX7_groans 37 = .ok (.iconst 0, 1) := by decide +kernel
theorem dX7_groans_38 : decode cX7_groans 38 = .ok (.ireturn, 1) := by decide +kernel
theorem dX7_alike_0 : decode cX7_alike 0 = .ok (.iconst 0, 1) := by decide +kernel
theorem dX7_alike_1 : decode cX7_alike 1 = .ok (.istore_n 2, 1) := by decide +kernel
theorem dX7_alike_2 : decode cX7_alike 2 = .ok (.iconst 0, 1) := by decide +kernel
theorem dX7_alike_3 : decode cX7_alike 3 = .ok (.istore_n 3, 1) := by decide +kernel
theorem dX7_alike_4 : decode cX7_alike 4 = .ok (.iload_n 3, 1) := by decide +kernel
theorem dX7_alike_5 : decode cX7_alike 5 = .ok (.bipush 6, 2) := by decide +kernel
theorem dX7_alike_7 : decode cX7_alike 7 = .ok (.if_icmp .ge 68, 3) := by decide +kernel
theorem dX7_alike_10 : decode cX7_alike 10 = .ok (.iconst 0, 1) := by decide +kernel
theorem dX7_alike_11 : decode cX7_alike 11 = .ok (.istore 4, 2) := by decide +kernel
theorem dX7_alike_13 : decode cX7_alike 13 = .ok (.iconst 0, 1) := by decide +kernel
theorem dX7_alike_14 : decode cX7_alike 14 = .ok (.istore 5, 2) := by decide +kernel
theorem dX7_alike_16 : decode cX7_alike 16 = .ok (.iload 5, 2) := by decide +kernel
theorem dX7_alike_18 : decode cX7_alike 18 = .ok (.bipush 6, 2) := by decide +kernel
theorem dX7_alike_20 : decode cX7_alike 20 = .ok (.if_icmp .ge 36, 3) := by decide +kernel
theorem dX7_alike_23 : decode cX7_alike 23 = .ok (.iload 4, 2) := by decide +kernel
theorem dX7_alike_25 : decode cX7_alike 25 = .ok (.iload 5, 2) := by decide +kernel
theorem dX7_alike_27 : decode cX7_alike 27 = .ok (.iload_n 3, 1) := by decide +kernel
theorem dX7_alike_28 : decode cX7_alike 28 = .ok (.if_icmp .eq 18, 3) := by decide +kernel
theorem dX7_alike_31 : decode cX7_alike 31 = .ok (.aload_n 0, 1) := by decide +kernel
theorem dX7_alike_32 : decode cX7_alike 32 = .ok (.iload_n 1, 1) := by decide +kernel
theorem dX7_alike_33 : decode cX7_alike 33 = .ok (.iload_n 3, 1) := by decide +kernel
theorem dX7_alike_34 : decode cX7_alike 34 = .ok (.iload 5, 2) := by decide +kernel
theorem dX7_alike_36 : decode cX7_alike 36 = .ok (.invokevirtual 70, 3) := by decide +kernel
theorem dX7_alike_39 : decode cX7_alike 39 = .ok (.ifCond .eq 7, 3) := by decide +kernel
theorem dX7_alike_42 : decode cX7_alike 42 = .ok (.iconst 1, 1) := by decide +kernel
theorem dX7_alike_43 : decode cX7_alike 43 = .ok (.goto 4, 3) := by decide +kernel
theorem dX7_alike_46 : decode cX7_alike 46 = .ok (.iconst 0, 1) := by decide +kernel
theorem dX7_alike_47 : decode cX7_alike 47 = .ok (.ior, 1) := by decide +kernel
theorem dX7_alike_48 : decode cX7_alike 48 = .ok (.istore 4, 2) := by decide +kernel
theorem dX7_alike_50 : decode cX7_alike 50 = .ok (.iinc 5 1, 3) := by decide +kernel
theorem dX7_alike_53 : decode cX7_alike 53 = .ok (.goto (-37), 3) := by decide +kernel
theorem dX7_alike_56 : decode cX7_alike 56 = .ok (.iload_n 2, 1) := by decide +kernel
theorem dX7_alike_57 : decode cX7_alike 57 = .ok (.iload 4, 2) := by decide +kernel
theorem dX7_alike_59 : decode cX7_alike 59 = .ok (.ifCond .eq 7, 3) := by decide +kernel
theorem dX7_alike_62 : decode cX7_alike 62 = .ok (.iconst 1, 1) := by decide +kernel
theorem dX7_alike_63 : decode cX7_alike 63 = .ok (.goto 4, 3) := by decide +kernel
theorem dX7_alike_66 : decode cX7_alike 66 = .ok (.iconst 0, 1) := by decide +kernel
theorem dX7_alike_67 : decode cX7_alike 67 = .ok (.iadd, 1) := by decide +kernel
theorem dX7_alike_68 : decode cX7_alike 68 = .ok (.istore_n 2, 1) := by decide +kernel
theorem dX7_alike_69 : decode cX7_alike 69 = .ok (.iinc 3 1, 3) := by decide +kernel
theorem dX7_alike_72 : decode cX7_alike 72 = .ok (.goto (-68), 3) := by decide +kernel
theorem dX7_alike_75 : decode cX7_alike 75 = .ok (.iload_n 2, 1) := by decide +kernel
theorem dX7_alike_76 : decode cX7_alike 76 = .ok (.ireturn, 1) := by decide +kernel
theorem dX7_sameBy_0 : decode cX7_sameBy 0 = .ok (.iconst 0, 1) := by decide +kernel
theorem dX7_sameBy_1 : decode cX7_sameBy 1 = .ok (.istore 4, 2) := by decide +kernel
theorem dX7_sameBy_3 : decode cX7_sameBy 3 = .ok (.iload 4, 2) := by decide +kernel
theorem dX7_sameBy_5 : decode cX7_sameBy 5 = .ok (.iconst 3, 1) := by decide +kernel
theorem dX7_sameBy_6 : decode cX7_sameBy 6 = .ok (.if_icmp .ge 42, 3) := by decide +kernel
theorem dX7_sameBy_9 : decode cX7_sameBy 9 = .ok (.iload_n 1, 1) := by decide +kernel
theorem dX7_sameBy_10 : decode cX7_sameBy 10 = .ok (.iload 4, 2) := by decide +kernel
theorem dX7_sameBy_12 : decode cX7_sameBy 12 = .ok (.ishr, 1) := by decide +kernel
theorem dX7_sameBy_13 : decode cX7_sameBy 13 = .ok (.iconst 1, 1) := by decide +kernel
theorem dX7_sameBy_14 : decode cX7_sameBy 14 = .ok (.iand, 1) := by decide +kernel
theorem dX7_sameBy_15 : decode cX7_sameBy 15 = .ok (.iconst 1, 1) := by decide +kernel
theorem dX7_sameBy_16 : decode cX7_sameBy 16 = .ok (.if_icmp .ne 26, 3) := by decide +kernel
theorem dX7_sameBy_19 : decode cX7_sameBy 19 = .ok (.aload_n 0, 1) := by decide +kernel
theorem dX7_sameBy_20 : decode cX7_sameBy 20 = .ok (.iconst 1, 1) := by decide +kernel
theorem dX7_sameBy_21 : decode cX7_sameBy 21 = .ok (.iload 4, 2) := by decide +kernel
theorem dX7_sameBy_23 : decode cX7_sameBy 23 = .ok (.iadd, 1) := by decide +kernel
theorem dX7_sameBy_24 : decode cX7_sameBy 24 = .ok (.iload_n 2, 1) := by decide +kernel
theorem dX7_sameBy_25 : decode cX7_sameBy 25 = .ok (.invokevirtual 38, 3) := by decide +kernel
theorem dX7_sameBy_28 : decode cX7_sameBy 28 = .ok (.aload_n 0, 1) := by decide +kernel
theorem dX7_sameBy_29 : decode cX7_sameBy 29 = .ok (.iconst 1, 1) := by decide +kernel
theorem dX7_sameBy_30 : decode cX7_sameBy 30 = .ok (.iload 4, 2) := by decide +kernel
theorem dX7_sameBy_32 : decode cX7_sameBy 32 = .ok (.iadd, 1) := by decide +kernel
theorem dX7_sameBy_33 : decode cX7_sameBy 33 = .ok (.iload_n 3, 1) := by decide +kernel
theorem dX7_sameBy_34 : decode cX7_sameBy 34 = .ok (.invokevirtual 38, 3) := by decide +kernel
theorem dX7_sameBy_37 : decode cX7_sameBy 37 = .ok (.if_icmp .eq 5, 3) := by decide +kernel
theorem dX7_sameBy_40 : decode cX7_sameBy 40 = .ok (.iconst 0, 1) := by decide +kernel
theorem dX7_sameBy_41 : decode cX7_sameBy 41 = .ok (.ireturn, 1) := by decide +kernel
theorem dX7_sameBy_42 : decode cX7_sameBy 42 = .ok (.iinc 4 1, 3) := by decide +kernel
theorem dX7_sameBy_45 : decode cX7_sameBy 45 = .ok (.goto (-42), 3) := by decide +kernel
theorem dX7_sameBy_48 : decode cX7_sameBy 48 = .ok (.iconst 1, 1) := by decide +kernel
theorem dX7_sameBy_49 : decode cX7_sameBy 49 = .ok (.ireturn, 1) := by decide +kernel
theorem dX7_tellingBits_0 : decode cX7_tellingBits 0 = .ok (.bipush (-2), 2) := by decide +kernel
theorem dX7_tellingBits_2 : decode cX7_tellingBits 2 = .ok (.istore_n 1, 1) := by decide +kernel
theorem dX7_tellingBits_3 : decode cX7_tellingBits 3 = .ok (.iconst 0, 1) := by decide +kernel
theorem dX7_tellingBits_4 : decode cX7_tellingBits 4 = .ok (.istore_n 2, 1) := by decide +kernel
theorem dX7_tellingBits_5 : decode cX7_tellingBits 5 = .ok (.iload_n 2, 1) := by decide +kernel
theorem dX7_tellingBits_6 : decode cX7_tellingBits 6 = .ok (.bipush 8, 2) := by decide +kernel
theorem dX7_tellingBits_8 : decode cX7_tellingBits 8 = .ok (.if_icmp .ge 34, 3) := by decide +kernel
theorem dX7_tellingBits_11 : decode cX7_tellingBits 11 = .ok (.aload_n 0, 1) := by decide +kernel
theorem dX7_tellingBits_12 : decode cX7_tellingBits 12 = .ok (.iload_n 2, 1) := by decide +kernel
theorem dX7_tellingBits_13 : decode cX7_tellingBits 13 = .ok (.invokevirtual 74, 3) := by decide +kernel
theorem dX7_tellingBits_16 : decode cX7_tellingBits 16 = .ok (.ifCond .ne 20, 3) := by decide +kernel
theorem dX7_tellingBits_19 : decode cX7_tellingBits 19 = .ok (.iload_n 1, 1) := by decide +kernel
theorem dX7_tellingBits_20 : decode cX7_tellingBits 20 = .ok (.ifCond .lt 14, 3) := by decide +kernel
theorem dX7_tellingBits_23 : decode cX7_tellingBits 23 = .ok (.iload_n 2, 1) := by decide +kernel
theorem dX7_tellingBits_24 : decode cX7_tellingBits 24 = .ok (.invokestatic 78, 3) := by decide +kernel
theorem dX7_tellingBits_27 : decode cX7_tellingBits 27 = .ok (.iload_n 1, 1) := by decide +kernel
theorem dX7_tellingBits_28 : decode cX7_tellingBits 28 = .ok (.invokestatic 78, 3) := by decide +kernel
theorem dX7_tellingBits_31 : decode cX7_tellingBits 31 = .ok (.if_icmp .ge 5, 3) := by decide +kernel
theorem dX7_tellingBits_34 : decode cX7_tellingBits 34 = .ok (.iload_n 2, 1) := by decide +kernel
theorem dX7_tellingBits_35 : decode cX7_tellingBits 35 = .ok (.istore_n 1, 1) := by decide +kernel
theorem dX7_tellingBits_36 : decode cX7_tellingBits 36 = .ok (.iinc 2 1, 3) := by decide +kernel
theorem dX7_tellingBits_39 : decode cX7_tellingBits 39 = .ok (.goto (-34), 3) := by decide +kernel
theorem dX7_tellingBits_42 : decode cX7_tellingBits 42 = .ok (.iload_n 1, 1) := by decide +kernel
theorem dX7_tellingBits_43 : decode cX7_tellingBits 43 = .ok (.ireturn, 1) := by decide +kernel
theorem dX8_init_0 : decode cX8_init 0 = .ok (.aload_n 0, 1) := by decide +kernel
theorem dX8_init_1 : decode cX8_init 1 = .ok (.invokespecial 3, 3) := by decide +kernel
theorem dX8_init_4 : decode cX8_init 4 = .ok (.aload_n 0, 1) := by decide +kernel
theorem dX8_init_5 : decode cX8_init 5 = .ok (.bipush 60, 2) := by decide +kernel
theorem dX8_init_7 : decode cX8_init 7 = .ok (.newarray .long, 2) := by decide +kernel
theorem dX8_init_9 : decode cX8_init 9 = .ok (.putfield 11, 3) := by decide +kernel
theorem dX8_init_12 : decode cX8_init 12 = .ok (.aload_n 0, 1) := by decide +kernel
theorem dX8_init_13 : decode cX8_init 13 = .ok (.iconst 0, 1) := by decide +kernel
theorem dX8_init_14 : decode cX8_init 14 = .ok (.putfield 15, 3) := by decide +kernel
theorem dX8_init_17 : decode cX8_init 17 = .ok (.return_, 1) := by decide +kernel
theorem dX8_lay_0 : decode cX8_lay 0 = .ok (.aload_n 0, 1) := by decide +kernel
theorem dX8_lay_1 : decode cX8_lay 1 = .ok (.iload_n 1, 1) := by decide +kernel
theorem dX8_lay_2 : decode cX8_lay 2 = .ok (.ifCond .ge 7, 3) := by decide +kernel
theorem dX8_lay_5 : decode cX8_lay 5 = .ok (.iconst 0, 1) := by decide +kernel
theorem dX8_lay_6 : decode cX8_lay 6 = .ok (.goto 4, 3) := by decide +kernel
theorem dX8_lay_9 : decode cX8_lay 9 = .ok (.iconst 1, 1) := by decide +kernel
theorem dX8_lay_10 : decode cX8_lay 10 = .ok (.putfield 15, 3) := by decide +kernel
theorem dX8_lay_13 : decode cX8_lay 13 = .ok (.aload_n 0, 1) := by decide +kernel
theorem dX8_lay_14 : decode cX8_lay 14 = .ok (.iload_n 1, 1) := by decide +kernel
theorem dX8_lay_15 : decode cX8_lay 15 = .ok (.putfield 19, 3) := by decide +kernel
theorem dX8_lay_18 : decode cX8_lay 18 = .ok (.return_, 1) := by decide +kernel
theorem dX8_layRow_0 : decode cX8_layRow 0 = .ok (.aload_n 0, 1) := by decide +kernel
theorem dX8_layRow_1 : decode cX8_layRow 1 = .ok (.iconst 2, 1) := by decide +kernel
theorem dX8_layRow_2 : decode cX8_layRow 2 = .ok (.putfield 15, 3) := by decide +kernel
theorem dX8_layRow_5 : decode cX8_layRow 5 = .ok (.aload_n 0, 1) := by decide +kernel
theorem dX8_layRow_6 : decode cX8_layRow 6 = .ok (.iload_n 1, 1) := by decide +kernel
theorem dX8_layRow_7 : decode cX8_layRow 7 = .ok (.putfield 22, 3) := by decide +kernel
theorem dX8_layRow_10 : decode cX8_layRow 10 = .ok (.aload_n 0, 1) := by decide +kernel
theorem dX8_layRow_11 : decode cX8_layRow 11 = .ok (.iload_n 2, 1) := by decide +kernel
theorem dX8_layRow_12 : decode cX8_layRow 12 = .ok (.putfield 25, 3) := by decide +kernel
theorem dX8_layRow_15 : decode cX8_layRow 15 = .ok (.aload_n 0, 1) := by decide +kernel
theorem dX8_layRow_16 : decode cX8_layRow 16 = .ok (.getfield 11, 3) := by decide +kernel
theorem dX8_layRow_19 : decode cX8_layRow 19 = .ok (.lconst 0, 1) := by decide +kernel
theorem dX8_layRow_20 : decode cX8_layRow 20 = .ok (.invokestatic 28, 3) := by decide +kernel
theorem dX8_layRow_23 : decode cX8_layRow 23 = .ok (.return_, 1) := by decide +kernel
theorem dX8_bytesRefusal_0 : decode cX8_bytesRefusal 0 = .ok (.aload_n 0, 1) := by decide +kernel
theorem dX8_bytesRefusal_1 : decode cX8_bytesRefusal 1 = .ok (.getfield 15, 3) := by decide +kernel
theorem dX8_bytesRefusal_4 : decode cX8_bytesRefusal 4 = .ok (.ifCond .ne 6, 3) := by decide +kernel
theorem dX8_bytesRefusal_7 : decode cX8_bytesRefusal 7 = .ok (.bipush (-11), 2) := by decide +kernel
theorem dX8_bytesRefusal_9 : decode cX8_bytesRefusal 9 = .ok (.ireturn, 1) := by decide +kernel
theorem dX8_bytesRefusal_10 : decode cX8_bytesRefusal 10 = .ok (.aload_n 0, 1) := by decide +kernel
theorem dX8_bytesRefusal_11 : decode cX8_bytesRefusal 11 = .ok (.getfield 15, 3) := by decide +kernel
theorem dX8_bytesRefusal_14 : decode cX8_bytesRefusal 14 = .ok (.iconst 2, 1) := by decide +kernel
theorem dX8_bytesRefusal_15 : decode cX8_bytesRefusal 15 = .ok (.if_icmp .ne 14, 3) := by decide +kernel
theorem dX8_bytesRefusal_18 : decode cX8_bytesRefusal 18 = .ok (.aload_n 0, 1) := by decide +kernel
theorem dX8_bytesRefusal_19 : decode cX8_bytesRefusal 19 = .ok (.getfield 22, 3) := by decide +kernel
theorem dX8_bytesRefusal_22 : decode cX8_bytesRefusal 22 = .ok (.ifCond .ne 7, 3) := by decide +kernel
theorem dX8_bytesRefusal_25 : decode cX8_bytesRefusal 25 = .ok (.iconst 0, 1) := by decide +kernel
theorem dX8_bytesRefusal_26 : decode cX8_bytesRefusal 26 = .ok (.goto 5, 3) := by decide +kernel
theorem dX8_bytesRefusal_29 : decode cX8_bytesRefusal 29 = .ok (.bipush (-12), 2) := by decide +kernel
theorem dX8_bytesRefusal_31 : decode cX8_bytesRefusal 31 = .ok (.ireturn, 1) := by decide +kernel
theorem dX8_byteAt_0 : decode cX8_byteAt 0 = .ok (.aload_n 0, 1) := by decide +kernel
theorem dX8_byteAt_1 : decode cX8_byteAt 1 = .ok (.iload_n 1, 1) := by decide +kernel
theorem dX8_byteAt_2 : decode cX8_byteAt 2 = .ok (.iconst 1, 1) := by decide +kernel
theorem dX8_byteAt_3 : decode cX8_byteAt 3 = .ok (.invokevirtual 34, 3) := by decide +kernel
theorem dX8_byteAt_6 : decode cX8_byteAt 6 = .ok (.ifCond .eq 13, 3) := by decide +kernel
theorem dX8_byteAt_9 : decode cX8_byteAt 9 = .ok (.aload_n 0, 1) := by decide +kernel
theorem dX8_byteAt_10 : decode cX8_byteAt 10 = .ok (.getfield 11, 3) := by decide +kernel
theorem dX8_byteAt_13 : decode cX8_byteAt 13 = .ok (.iload_n 1, 1) := by decide +kernel
theorem dX8_byteAt_14 : decode cX8_byteAt 14 = .ok (.laload, 1) := by decide +kernel
theorem dX8_byteAt_15 : decode cX8_byteAt 15 = .ok (.l2i, 1) := by decide +kernel
theorem dX8_byteAt_16 : decode cX8_byteAt 16 = .ok (.goto 6, 3) := by decide +kernel
theorem dX8_byteAt_19 : decode cX8_byteAt 19 = .ok (.sipush (-1000), 3) := by decide +kernel
theorem dX8_byteAt_22 : decode cX8_byteAt 22 = .ok (.ireturn, 1) := by decide +kernel
theorem dX8_hasPlaces_0 : decode cX8_hasPlaces 0 = .ok (.iload_n 1, 1) := by decide +kernel
theorem dX8_hasPlaces_1 : decode cX8_hasPlaces 1 = .ok (.ifCond .lt 29, 3) := by decide +kernel
theorem dX8_hasPlaces_4 : decode cX8_hasPlaces 4 = .ok (.iload_n 2, 1) := by decide +kernel
theorem dX8_hasPlaces_5 : decode cX8_hasPlaces 5 = .ok (.ifCond .lt 25, 3) := by decide +kernel
theorem dX8_hasPlaces_8 : decode cX8_hasPlaces 8 = .ok (.iload_n 2, 1) := by decide +kernel
theorem dX8_hasPlaces_9 : decode cX8_hasPlaces 9 = .ok (.aload_n 0, 1) := by decide +kernel
theorem dX8_hasPlaces_10 : decode cX8_hasPlaces 10 = .ok (.getfield 25, 3) := by decide +kernel
theorem dX8_hasPlaces_13 : decode cX8_hasPlaces 13 = .ok (.if_icmp .gt 17, 3) := by decide +kernel
theorem dX8_hasPlaces_16 : decode cX8_hasPlaces 16 = .ok (.iload_n 1, 1) := by decide +kernel
theorem dX8_hasPlaces_17 : decode cX8_hasPlaces 17 = .ok (.aload_n 0, 1) := by decide +kernel
theorem dX8_hasPlaces_18 : decode cX8_hasPlaces 18 = .ok (.getfield 25, 3) := by decide +kernel
theorem dX8_hasPlaces_21 : decode cX8_hasPlaces 21 = .ok (.iload_n 2, 1) := by decide +kernel
theorem dX8_hasPlaces_22 : decode cX8_hasPlaces 22 = .ok (.isub, 1) := by decide +kernel
theorem dX8_hasPlaces_23 : decode cX8_hasPlaces 23 = .ok (.if_icmp .gt 7, 3) := by decide +kernel
theorem dX8_hasPlaces_26 : decode cX8_hasPlaces 26 = .ok (.iconst 1, 1) := by decide +kernel
theorem dX8_hasPlaces_27 : decode cX8_hasPlaces 27 = .ok (.goto 4, 3) := by decide +kernel
theorem dX8_hasPlaces_30 : decode cX8_hasPlaces 30 = .ok (.iconst 0, 1) := by decide +kernel
theorem dX8_hasPlaces_31 : decode cX8_hasPlaces 31 = .ok (.ireturn, 1) := by decide +kernel
theorem dX8_set_0 : decode cX8_set 0 = .ok (.aload_n 0, 1) := by decide +kernel
theorem dX8_set_1 : decode cX8_set 1 = .ok (.iload_n 1, 1) := by decide +kernel
theorem dX8_set_2 : decode cX8_set 2 = .ok (.iconst 1, 1) := by decide +kernel
theorem dX8_set_3 : decode cX8_set 3 = .ok (.invokevirtual 34, 3) := by decide +kernel
theorem dX8_set_6 : decode cX8_set 6 = .ok (.ifCond .eq 14, 3) := by decide +kernel
theorem dX8_set_9 : decode cX8_set 9 = .ok (.aload_n 0, 1) := by decide +kernel
theorem dX8_set_10 : decode cX8_set 10 = .ok (.getfield 11, 3) := by decide +kernel
theorem dX8_set_13 : decode cX8_set 13 = .ok (.iload_n 1, 1) := by decide +kernel
theorem dX8_set_14 : decode cX8_set 14 = .ok (.aload_n 0, 1) := by decide +kernel
theorem dX8_set_15 : decode cX8_set 15 = .ok (.lload_n 2, 1) := by decide +kernel
theorem dX8_set_16 : decode cX8_set 16 = .ok (.invokevirtual 38, 3) := by decide +kernel
theorem dX8_set_19 : decode cX8_set 19 = .ok (.lastore, 1) := by decide +kernel
theorem dX8_set_20 : decode cX8_set 20 = .ok (.return_, 1) := by decide +kernel
theorem dX8_fitted_0 : decode cX8_fitted 0 = .ok (.aload_n 0, 1) := by decide +kernel
theorem dX8_fitted_1 : decode cX8_fitted 1 = .ok (.getfield 22, 3) := by decide +kernel
theorem dX8_fitted_4 : decode cX8_fitted 4 = .ok (.tableswitch 62 0 4 #[36, 41, 46, 62, 50], 36) := by decide +kernel
theorem dX8_fitted_40 : decode cX8_fitted 40 = .ok (.lload_n 1, 1) := by decide +kernel
theorem dX8_fitted_41 : decode cX8_fitted 41 = .ok (.l2i, 1) := by decide +kernel
theorem dX8_fitted_42 : decode cX8_fitted 42 = .ok (.i2b, 1) := by decide +kernel
theorem dX8_fitted_43 : decode cX8_fitted 43 = .ok (.i2l, 1) := by decide +kernel
theorem dX8_fitted_44 : decode cX8_fitted 44 = .ok (.lreturn, 1) := by decide +kernel
theorem dX8_fitted_45 : decode cX8_fitted 45 = .ok (.lload_n 1, 1) := by decide +kernel
theorem dX8_fitted_46 : decode cX8_fitted 46 = .ok (.l2i, 1) := by decide +kernel
theorem dX8_fitted_47 : decode cX8_fitted 47 = .ok (.i2s, 1) := by decide +kernel
theorem dX8_fitted_48 : decode cX8_fitted 48 = .ok (.i2l, 1) := by decide +kernel
theorem dX8_fitted_49 : decode cX8_fitted 49 = .ok (.lreturn, 1) := by decide +kernel
theorem dX8_fitted_50 : decode cX8_fitted 50 = .ok (.lload_n 1, 1) := by decide +kernel
theorem dX8_fitted_51 : decode cX8_fitted 51 = .ok (.l2i, 1) := by decide +kernel
theorem dX8_fitted_52 : decode cX8_fitted 52 = .ok (.i2l, 1) := by decide +kernel
theorem dX8_fitted_53 : decode cX8_fitted 53 = .ok (.lreturn, 1) := by decide +kernel
theorem dX8_fitted_54 : decode cX8_fitted 54 = .ok (.lload_n 1, 1) := by decide +kernel
theorem dX8_fitted_55 : decode cX8_fitted 55 = .ok (.lconst 0, 1) := by decide +kernel
theorem dX8_fitted_56 : decode cX8_fitted 56 = .ok (.lcmp, 1) := by decide +kernel
theorem dX8_fitted_57 : decode cX8_fitted 57 = .ok (.ifCond .eq 7, 3) := by decide +kernel
theorem dX8_fitted_60 : decode cX8_fitted 60 = .ok (.lconst 1, 1) := by decide +kernel
theorem dX8_fitted_61 : decode cX8_fitted 61 = .ok (.goto 4, 3) := by decide +kernel
theorem dX8_fitted_64 : decode cX8_fitted 64 = .ok (.lconst 0, 1) := by decide +kernel
theorem dX8_fitted_65 : decode cX8_fitted 65 = .ok (.lreturn, 1) := by decide +kernel
theorem dX8_fitted_66 : decode cX8_fitted 66 = .ok (.lload_n 1, 1) := by decide +kernel
theorem dX8_fitted_67 : decode cX8_fitted 67 = .ok (.lreturn, 1) := by decide +kernel
theorem dX9_init_0 : decode cX9_init 0 = .ok (.aload_n 0, 1) := by decide +kernel
theorem dX9_init_1 : decode cX9_init 1 = .ok (.invokespecial 1, 3) := by decide +kernel
theorem dX9_init_4 : decode cX9_init 4 = .ok (.aload_n 0, 1) := by decide +kernel
theorem dX9_init_5 : decode cX9_init 5 = .ok (.new 7, 3) := by decide +kernel
theorem dX9_init_8 : decode cX9_init 8 = .ok (.dup, 1) := by decide +kernel
theorem dX9_init_9 : decode cX9_init 9 = .ok (.invokespecial 9, 3) := by decide +kernel
theorem dX9_init_12 : decode cX9_init 12 = .ok (.putfield 10, 3) := by decide +kernel
theorem dX9_init_15 : decode cX9_init 15 = .ok (.aload_n 0, 1) := by decide +kernel
theorem dX9_init_16 : decode cX9_init 16 = .ok (.new 16, 3) := by decide +kernel
theorem dX9_init_19 : decode cX9_init 19 = .ok (.dup, 1) := by decide +kernel
theorem dX9_init_20 : decode cX9_init 20 = .ok (.invokespecial 18, 3) := by decide +kernel
theorem dX9_init_23 : decode cX9_init 23 = .ok (.putfield 19, 3) := by decide +kernel
theorem dX9_init_26 : decode cX9_init 26 = .ok (.aload_n 0, 1) := by decide +kernel
theorem dX9_init_27 : decode cX9_init 27 = .ok (.new 23, 3) := by decide +kernel
theorem dX9_init_30 : decode cX9_init 30 = .ok (.dup, 1) := by decide +kernel
theorem dX9_init_31 : decode cX9_init 31 = .ok (.aload_n 0, 1) := by decide +kernel
theorem dX9_init_32 : decode cX9_init 32 = .ok (.getfield 10, 3) := by decide +kernel
theorem dX9_init_35 : decode cX9_init 35 = .ok (.invokespecial 25, 3) := by decide +kernel
theorem dX9_init_38 : decode cX9_init 38 = .ok (.putfield 28, 3) := by decide +kernel
theorem dX9_init_41 : decode cX9_init 41 = .ok (.aload_n 0, 1) := by decide +kernel
theorem dX9_init_42 : decode cX9_init 42 = .ok (.new 32, 3) := by decide +kernel
theorem dX9_init_45 : decode cX9_init 45 = .ok (.dup, 1) := by decide +kernel
theorem dX9_init_46 : decode cX9_init 46 = .ok (.aload_n 0, 1) := by decide +kernel
theorem dX9_init_47 : decode cX9_init 47 = .ok (.getfield 10, 3) := by decide +kernel
theorem dX9_init_50 : decode cX9_init 50 = .ok (.invokespecial 34, 3) := by decide +kernel
theorem dX9_init_53 : decode cX9_init 53 = .ok (.putfield 35, 3) := by decide +kernel
theorem dX9_init_56 : decode cX9_init 56 = .ok (.aload_n 0, 1) := by decide +kernel
theorem dX9_init_57 : decode cX9_init 57 = .ok (.new 39, 3) := by decide +kernel
theorem dX9_init_60 : decode cX9_init 60 = .ok (.dup, 1) := by decide +kernel
theorem dX9_init_61 : decode cX9_init 61 = .ok (.aload_n 0, 1) := by decide +kernel
theorem dX9_init_62 : decode cX9_init 62 = .ok (.getfield 10, 3) := by decide +kernel
theorem dX9_init_65 : decode cX9_init 65 = .ok (.invokespecial 41, 3) := by decide +kernel
theorem dX9_init_68 : decode cX9_init 68 = .ok (.putfield 42, 3) := by decide +kernel
theorem dX9_init_71 : decode cX9_init 71 = .ok (.aload_n 0, 1) := by decide +kernel
theorem dX9_init_72 : decode cX9_init 72 = .ok (.new 46, 3) := by decide +kernel
theorem dX9_init_75 : decode cX9_init 75 = .ok (.dup, 1) := by decide +kernel
theorem dX9_init_76 : decode cX9_init 76 = .ok (.invokespecial 48, 3) := by decide +kernel
theorem dX9_init_79 : decode cX9_init 79 = .ok (.putfield 49, 3) := by decide +kernel
theorem dX9_init_82 : decode cX9_init 82 = .ok (.aload_n 0, 1) := by decide +kernel
theorem dX9_init_83 : decode cX9_init 83 = .ok (.new 53, 3) := by decide +kernel
theorem dX9_init_86 : decode cX9_init 86 = .ok (.dup, 1) := by decide +kernel
theorem dX9_init_87 : decode cX9_init 87 = .ok (.invokespecial 55, 3) := by decide +kernel
theorem dX9_init_90 : decode cX9_init 90 = .ok (.putfield 56, 3) := by decide +kernel
theorem dX9_init_93 : decode cX9_init 93 = .ok (.aload_n 0, 1) := by decide +kernel
theorem dX9_init_94 : decode cX9_init 94 = .ok (.bipush 6, 2) := by decide +kernel
theorem dX9_init_96 : decode cX9_init 96 = .ok (.anewarray 60, 3) := by decide +kernel
theorem dX9_init_99 : decode cX9_init 99 = .ok (.putfield 62, 3) := by decide +kernel
theorem dX9_init_102 : decode cX9_init 102 = .ok (.iconst 0, 1) := by decide +kernel
theorem dX9_init_103 : decode cX9_init 103 = .ok (.istore_n 1, 1) := by decide +kernel
theorem dX9_init_104 : decode cX9_init 104 = .ok (.iload_n 1, 1) := by decide +kernel
theorem dX9_init_105 : decode cX9_init 105 = .ok (.bipush 6, 2) := by decide +kernel
theorem dX9_init_107 : decode cX9_init 107 = .ok (.if_icmp .ge 22, 3) := by decide +kernel
theorem dX9_init_110 : decode cX9_init 110 = .ok (.aload_n 0, 1) := by decide +kernel
theorem dX9_init_111 : decode cX9_init 111 = .ok (.getfield 62, 3) := by decide +kernel
theorem dX9_init_114 : decode cX9_init 114 = .ok (.iload_n 1, 1) := by decide +kernel
theorem dX9_init_115 : decode cX9_init 115 = .ok (.new 60, 3) := by decide +kernel
theorem dX9_init_118 : decode cX9_init 118 = .ok (.dup, 1) := by decide +kernel
theorem dX9_init_119 : decode cX9_init 119 = .ok (.invokespecial 66, 3) := by decide +kernel
theorem dX9_init_122 : decode cX9_init 122 = .ok (.aastore, 1) := by decide +kernel
theorem dX9_init_123 : decode cX9_init 123 = .ok (.iinc 1 1, 3) := by decide +kernel
theorem dX9_init_126 : decode cX9_init 126 = .ok (.goto (-22), 3) := by decide +kernel
theorem dX9_init_129 : decode cX9_init 129 = .ok (.return_, 1) := by decide +kernel
theorem dX9_sack_0 : decode cX9_sack 0 = .ok (.aload_n 0, 1) := by decide +kernel
theorem dX9_sack_1 : decode cX9_sack 1 = .ok (.getfield 10, 3) := by decide +kernel
theorem dX9_sack_4 : decode cX9_sack 4 = .ok (.iconst 0, 1) := by decide +kernel
theorem dX9_sack_5 : decode cX9_sack 5 = .ok (.iload_n 1, 1) := by decide +kernel
theorem dX9_sack_6 : decode cX9_sack 6 = .ok (.invokevirtual 67, 3) := by decide +kernel
theorem dX9_sack_9 : decode cX9_sack 9 = .ok (.ifCond .ne 5, 3) := by decide +kernel
theorem dX9_sack_12 : decode cX9_sack 12 = .ok (.iconst (-1), 1) := by decide +kernel
theorem dX9_sack_13 : decode cX9_sack 13 = .ok (.ireturn, 1) := by decide +kernel
theorem dX9_sack_14 : decode cX9_sack 14 = .ok (.aload_n 0, 1) := by decide +kernel
theorem dX9_sack_15 : decode cX9_sack 15 = .ok (.getfield 10, 3) := by decide +kernel
theorem dX9_sack_18 : decode cX9_sack 18 = .ok (.iload_n 1, 1) := by decide +kernel
theorem dX9_sack_19 : decode cX9_sack 19 = .ok (.bipush 10, 2) := by decide +kernel
theorem dX9_sack_21 : decode cX9_sack 21 = .ok (.invokevirtual 71, 3) := by decide +kernel
theorem dX9_sack_24 : decode cX9_sack 24 = .ok (.ireturn, 1) := by decide +kernel
theorem dX9_sacks_0 : decode cX9_sacks 0 = .ok (.iload_n 1, 1) := by decide +kernel
theorem dX9_sacks_1 : decode cX9_sacks 1 = .ok (.invokestatic 75, 3) := by decide +kernel
theorem dX9_sacks_4 : decode cX9_sacks 4 = .ok (.ifCond .eq 14, 3) := by decide +kernel
theorem dX9_sacks_7 : decode cX9_sacks 7 = .ok (.iload_n 3, 1) := by decide +kernel
theorem dX9_sacks_8 : decode cX9_sacks 8 = .ok (.iconst 1, 1) := by decide +kernel
theorem dX9_sacks_9 : decode cX9_sacks 9 = .ok (.if_icmp .lt 9, 3) := by decide +kernel
theorem dX9_sacks_12 : decode cX9_sacks 12 = .ok (.iload_n 3, 1) := by decide +kernel
theorem dX9_sacks_13 : decode cX9_sacks 13 = .ok (.bipush 10, 2) := by decide +kernel
theorem dX9_sacks_15 : decode cX9_sacks 15 = .ok (.if_icmp .le 5, 3) := by decide +kernel
theorem dX9_sacks_18 : decode cX9_sacks 18 = .ok (.iconst (-1), 1) := by decide +kernel
theorem dX9_sacks_19 : decode cX9_sacks 19 = .ok (.ireturn, 1) := by decide +kernel
theorem dX9_sacks_20 : decode cX9_sacks 20 = .ok (.aload_n 0, 1) := by decide +kernel
theorem dX9_sacks_21 : decode cX9_sacks 21 = .ok (.getfield 62, 3) := by decide +kernel
theorem dX9_sacks_24 : decode cX9_sacks 24 = .ok (.iload_n 1, 1) := by decide +kernel
theorem dX9_sacks_25 : decode cX9_sacks 25 = .ok (.aaload, 1) := by decide +kernel
theorem dX9_sacks_26 : decode cX9_sacks 26 = .ok (.invokevirtual 79, 3) := by decide +kernel
theorem dX9_sacks_29 : decode cX9_sacks 29 = .ok (.istore 4, 2) := by decide +kernel
theorem dX9_sacks_31 : decode cX9_sacks 31 = .ok (.iload 4, 2) := by decide +kernel
theorem dX9_sacks_33 : decode cX9_sacks 33 = .ok (.bipush (-11), 2) := by decide +kernel
theorem dX9_sacks_35 : decode cX9_sacks 35 = .ok (.if_icmp .ne 5, 3) := by decide +kernel
theorem dX9_sacks_38 : decode cX9_sacks 38 = .ok (.iconst 0, 1) := by decide +kernel
theorem dX9_sacks_39 : decode cX9_sacks 39 = .ok (.ireturn, 1) := by decide +kernel
theorem dX9_sacks_40 : decode cX9_sacks 40 = .ok (.iload 4, 2) := by decide +kernel
theorem dX9_sacks_42 : decode cX9_sacks 42 = .ok (.ifCond .eq 6, 3) := by decide +kernel
theorem dX9_sacks_45 : decode cX9_sacks 45 = .ok (.iload 4, 2) := by decide +kernel
theorem dX9_sacks_47 : decode cX9_sacks 47 = .ok (.ireturn, 1) := by decide +kernel
theorem dX9_sacks_48 : decode cX9_sacks 48 = .ok (.iconst 0, 1) := by decide +kernel
theorem dX9_sacks_49 : decode cX9_sacks 49 = .ok (.istore 5, 2) := by decide +kernel
theorem dX9_sacks_51 : decode cX9_sacks 51 = .ok (.iload 5, 2) := by decide +kernel
theorem dX9_sacks_53 : decode cX9_sacks 53 = .ok (.iload_n 3, 1) := by decide +kernel
theorem dX9_sacks_54 : decode cX9_sacks 54 = .ok (.if_icmp .ge 28, 3) := by decide +kernel
theorem dX9_sacks_57 : decode cX9_sacks 57 = .ok (.aload_n 0, 1) := by decide +kernel
theorem dX9_sacks_58 : decode cX9_sacks 58 = .ok (.aload_n 0, 1) := by decide +kernel
theorem dX9_sacks_59 : decode cX9_sacks 59 = .ok (.getfield 62, 3) := by decide +kernel
theorem dX9_sacks_62 : decode cX9_sacks 62 = .ok (.iload_n 1, 1) := by decide +kernel
theorem dX9_sacks_63 : decode cX9_sacks 63 = .ok (.aaload, 1) := by decide +kernel
theorem dX9_sacks_64 : decode cX9_sacks 64 = .ok (.iload_n 2, 1) := by decide +kernel
theorem dX9_sacks_65 : decode cX9_sacks 65 = .ok (.iconst 2, 1) := by decide +kernel
theorem dX9_sacks_66 : decode cX9_sacks 66 = .ok (.iload 5, 2) := by decide +kernel
theorem dX9_sacks_68 : decode cX9_sacks 68 = .ok (.imul, 1) := by decide +kernel
theorem dX9_sacks_69 : decode cX9_sacks 69 = .ok (.iadd, 1) := by decide +kernel
theorem dX9_sacks_70 : decode cX9_sacks 70 = .ok (.invokevirtual 83, 3) := by decide +kernel
theorem dX9_sacks_73 : decode cX9_sacks 73 = .ok (.ifCond .eq 9, 3) := by decide +kernel
theorem dX9_sacks_76 : decode cX9_sacks 76 = .ok (.iinc 5 1, 3) := by decide +kernel
theorem dX9_sacks_79 : decode cX9_sacks 79 = .ok (.goto (-28), 3) := by decide +kernel
theorem dX9_sacks_82 : decode cX9_sacks 82 = .ok (.iload 5, 2) := by decide +kernel
theorem dX9_sacks_84 : decode cX9_sacks 84 = .ok (.ireturn, 1) := by decide +kernel
theorem dX9_cameFrom_0 : decode cX9_cameFrom 0 = .ok (.aload_n 1, 1) := by decide +kernel
theorem dX9_cameFrom_1 : decode cX9_cameFrom 1 = .ok (.iload_n 2, 1) := by decide +kernel
theorem dX9_cameFrom_2 : decode cX9_cameFrom 2 = .ok (.invokevirtual 87, 3) := by decide +kernel
theorem dX9_cameFrom_5 : decode cX9_cameFrom 5 = .ok (.istore_n 3, 1) := by decide +kernel
theorem dX9_cameFrom_6 : decode cX9_cameFrom 6 = .ok (.aload_n 1, 1) := by decide +kernel
theorem dX9_cameFrom_7 : decode cX9_cameFrom 7 = .ok (.iload_n 2, 1) := by decide +kernel
theorem dX9_cameFrom_8 : decode cX9_cameFrom 8 = .ok (.iconst 1, 1) := by decide +kernel
theorem dX9_cameFrom_9 : decode cX9_cameFrom 9 = .ok (.iadd, 1) := by decide +kernel
theorem dX9_cameFrom_10 : decode cX9_cameFrom 10 = .ok (.invokevirtual 87, 3) := by decide +kernel
theorem dX9_cameFrom_13 : decode cX9_cameFrom 13 = .ok (.istore 4, 2) := by decide +kernel
theorem dX9_cameFrom_15 : decode cX9_cameFrom 15 = .ok (.iconst 4, 1) := by decide +kernel
theorem dX9_cameFrom_16 : decode cX9_cameFrom 16 = .ok (.iload_n 3, 1) := by decide +kernel
theorem dX9_cameFrom_17 : decode cX9_cameFrom 17 = .ok (.invokestatic 91, 3) := by decide +kernel
theorem dX9_cameFrom_20 : decode cX9_cameFrom 20 = .ok (.ifCond .eq 29, 3) := by decide +kernel
theorem dX9_cameFrom_23 : decode cX9_cameFrom 23 = .ok (.iconst 5, 1) := by decide +kernel
theorem dX9_cameFrom_24 : decode cX9_cameFrom 24 = .ok (.iload 4, 2) := by decide +kernel
theorem dX9_cameFrom_26 : decode cX9_cameFrom 26 = .ok (.invokestatic 91, 3) := by decide +kernel
theorem dX9_cameFrom_29 : decode cX9_cameFrom 29 = .ok (.ifCond .eq 20, 3) := by decide +kernel
theorem dX9_cameFrom_32 : decode cX9_cameFrom 32 = .ok (.aload_n 0, 1) := by decide +kernel
theorem dX9_cameFrom_33 : decode cX9_cameFrom 33 = .ok (.getfield 10, 3) := by decide +kernel
theorem dX9_cameFrom_36 : decode cX9_cameFrom 36 = .ok (.iload_n 3, 1) := by decide +kernel
theorem dX9_cameFrom_37 : decode cX9_cameFrom 37 = .ok (.iload 4, 2) := by decide +kernel
theorem dX9_cameFrom_39 : decode cX9_cameFrom 39 = .ok (.invokevirtual 71, 3) := by decide +kernel
theorem dX9_cameFrom_42 : decode cX9_cameFrom 42 = .ok (.ifCond .lt 7, 3) := by decide +kernel
theorem dX9_cameFrom_45 : decode cX9_cameFrom 45 = .ok (.iconst 1, 1) := by decide +kernel
theorem dX9_cameFrom_46 : decode cX9_cameFrom 46 = .ok (.goto 4, 3) := by decide +kernel
theorem dX9_cameFrom_49 : decode cX9_cameFrom 49 = .ok (.iconst 0, 1) := by decide +kernel
theorem dX9_cameFrom_50 : decode cX9_cameFrom 50 = .ok (.ireturn, 1) := by decide +kernel
theorem dX9_buyer_0 : decode cX9_buyer 0 = .ok (.bipush 6, 2) := by decide +kernel
theorem dX9_buyer_2 : decode cX9_buyer 2 = .ok (.iload_n 1, 1) := by decide +kernel
theorem dX9_buyer_3 : decode cX9_buyer 3 = .ok (.invokestatic 91, 3) := by decide +kernel
theorem dX9_buyer_6 : decode cX9_buyer 6 = .ok (.ifCond .eq 12, 3) := by decide +kernel
theorem dX9_buyer_9 : decode cX9_buyer 9 = .ok (.bipush 7, 2) := by decide +kernel
theorem dX9_buyer_11 : decode cX9_buyer 11 = .ok (.iload_n 2, 1) := by decide +kernel
theorem dX9_buyer_12 : decode cX9_buyer 12 = .ok (.invokestatic 91, 3) := by decide +kernel
theorem dX9_buyer_15 : decode cX9_buyer 15 = .ok (.ifCond .ne 5, 3) := by decide +kernel
theorem dX9_buyer_18 : decode cX9_buyer 18 = .ok (.iconst (-1), 1) := by decide +kernel
theorem dX9_buyer_19 : decode cX9_buyer 19 = .ok (.ireturn, 1) := by decide +kernel
theorem dX9_buyer_20 : decode cX9_buyer 20 = .ok (.aload_n 0, 1) := by decide +kernel
theorem dX9_buyer_21 : decode cX9_buyer 21 = .ok (.getfield 10, 3) := by decide +kernel
theorem dX9_buyer_24 : decode cX9_buyer 24 = .ok (.iload_n 1, 1) := by decide +kernel
theorem dX9_buyer_25 : decode cX9_buyer 25 = .ok (.iload_n 2, 1) := by decide +kernel
theorem dX9_buyer_26 : decode cX9_buyer 26 = .ok (.invokevirtual 94, 3) := by decide +kernel
theorem dX9_buyer_29 : decode cX9_buyer 29 = .ok (.ireturn, 1) := by decide +kernel
theorem dX9_mend_0 : decode cX9_mend 0 = .ok (.iload_n 2, 1) := by decide +kernel
theorem dX9_mend_1 : decode cX9_mend 1 = .ok (.ifCond .lt 29, 3) := by decide +kernel
theorem dX9_mend_4 : decode cX9_mend 4 = .ok (.iload_n 2, 1) := by decide +kernel
theorem dX9_mend_5 : decode cX9_mend 5 = .ok (.bipush 8, 2) := by decide +kernel
theorem dX9_mend_7 : decode cX9_mend 7 = .ok (.if_icmp .gt 23, 3) := by decide +kernel
theorem dX9_mend_10 : decode cX9_mend 10 = .ok (.aload_n 0, 1) := by decide +kernel
theorem dX9_mend_11 : decode cX9_mend 11 = .ok (.getfield 10, 3) := by decide +kernel
theorem dX9_mend_14 : decode cX9_mend 14 = .ok (.iload_n 2, 1) := by decide +kernel
theorem dX9_mend_15 : decode cX9_mend 15 = .ok (.iload_n 1, 1) := by decide +kernel
theorem dX9_mend_16 : decode cX9_mend 16 = .ok (.invokevirtual 67, 3) := by decide +kernel
theorem dX9_mend_19 : decode cX9_mend 19 = .ok (.ifCond .eq 11, 3) := by decide +kernel
theorem dX9_mend_22 : decode cX9_mend 22 = .ok (.iload_n 2, 1) := by decide +kernel
theorem dX9_mend_23 : decode cX9_mend 23 = .ok (.iload_n 3, 1) := by decide +kernel
theorem dX9_mend_24 : decode cX9_mend 24 = .ok (.invokestatic 91, 3) := by decide +kernel
theorem dX9_mend_27 : decode cX9_mend 27 = .ok (.ifCond .ne 6, 3) := by decide +kernel
theorem dX9_mend_30 : decode cX9_mend 30 = .ok (.ldc 97, 2) := by decide +kernel
theorem dX9_mend_32 : decode cX9_mend 32 = .ok (.ireturn, 1) := by decide +kernel
theorem dX9_mend_33 : decode cX9_mend 33 = .ok (.aload_n 0, 1) := by decide +kernel
theorem dX9_mend_34 : decode cX9_mend 34 = .ok (.getfield 10, 3) := by decide +kernel
theorem dX9_mend_37 : decode cX9_mend 37 = .ok (.iload_n 2, 1) := by decide +kernel
theorem dX9_mend_38 : decode cX9_mend 38 = .ok (.iload_n 1, 1) := by decide +kernel
theorem dX9_mend_39 : decode cX9_mend 39 = .ok (.invokevirtual 98, 3) := by decide +kernel
theorem dX9_mend_42 : decode cX9_mend 42 = .ok (.istore 4, 2) := by decide +kernel
theorem dX9_mend_44 : decode cX9_mend 44 = .ok (.iload 4, 2) := by decide +kernel
theorem dX9_mend_46 : decode cX9_mend 46 = .ok (.iload_n 3, 1) := by decide +kernel
theorem dX9_mend_47 : decode cX9_mend 47 = .ok (.if_icmp .eq 25, 3) := by decide +kernel
theorem dX9_mend_50 : decode cX9_mend 50 = .ok (.aload_n 0, 1) := by decide +kernel
theorem dX9_mend_51 : decode cX9_mend 51 = .ok (.getfield 10, 3) := by decide +kernel
theorem dX9_mend_54 : decode cX9_mend 54 = .ok (.iload_n 2, 1) := by decide +kernel
theorem dX9_mend_55 : decode cX9_mend 55 = .ok (.iload_n 1, 1) := by decide +kernel
theorem dX9_mend_56 : decode cX9_mend 56 = .ok (.iload_n 3, 1) := by decide +kernel
theorem dX9_mend_57 : decode cX9_mend 57 = .ok (.invokevirtual 101, 3) := by decide +kernel
theorem dX9_mend_60 : decode cX9_mend 60 = .ok (.aload_n 0, 1) := by decide +kernel
theorem dX9_mend_61 : decode cX9_mend 61 = .ok (.getfield 49, 3) := by decide +kernel
theorem dX9_mend_64 : decode cX9_mend 64 = .ok (.iload_n 2, 1) := by decide +kernel
theorem dX9_mend_65 : decode cX9_mend 65 = .ok (.iload_n 1, 1) := by decide +kernel
theorem dX9_mend_66 : decode cX9_mend 66 = .ok (.iload 4, 2) := by decide +kernel
theorem dX9_mend_68 : decode cX9_mend 68 = .ok (.iload_n 3, 1) := by decide +kernel
theorem dX9_mend_69 : decode cX9_mend 69 = .ok (.invokevirtual 105, 3) := by decide +kernel
theorem dX9_mend_72 : decode cX9_mend 72 = .ok (.iload 4, 2) := by decide +kernel
theorem dX9_mend_74 : decode cX9_mend 74 = .ok (.ireturn, 1) := by decide +kernel
theorem dX9_of_0 : decode cX9_of 0 = .ok (.aload_n 0, 1) := by decide +kernel
theorem dX9_of_1 : decode cX9_of 1 = .ok (.getfield 10, 3) := by decide +kernel
theorem dX9_of_4 : decode cX9_of 4 = .ok (.iload_n 2, 1) := by decide +kernel
theorem dX9_of_5 : decode cX9_of 5 = .ok (.iload_n 1, 1) := by decide +kernel
theorem dX9_of_6 : decode cX9_of 6 = .ok (.invokevirtual 67, 3) := by decide +kernel
theorem dX9_of_9 : decode cX9_of 9 = .ok (.ifCond .eq 15, 3) := by decide +kernel
theorem dX9_of_12 : decode cX9_of 12 = .ok (.aload_n 0, 1) := by decide +kernel
theorem dX9_of_13 : decode cX9_of 13 = .ok (.getfield 10, 3) := by decide +kernel
theorem dX9_of_16 : decode cX9_of 16 = .ok (.iload_n 2, 1) := by decide +kernel
theorem dX9_of_17 : decode cX9_of 17 = .ok (.iload_n 1, 1) := by decide +kernel
theorem dX9_of_18 : decode cX9_of 18 = .ok (.invokevirtual 98, 3) := by decide +kernel
theorem dX9_of_21 : decode cX9_of 21 = .ok (.goto 5, 3) := by decide +kernel
theorem dX9_of_24 : decode cX9_of 24 = .ok (.ldc 97, 2) := by decide +kernel
theorem dX9_of_26 : decode cX9_of 26 = .ok (.ireturn, 1) := by decide +kernel
theorem dX9_feed_0 : decode cX9_feed 0 = .ok (.iload_n 1, 1) := by decide +kernel
theorem dX9_feed_1 : decode cX9_feed 1 = .ok (.ifCond .lt 10, 3) := by decide +kernel
theorem dX9_feed_4 : decode cX9_feed 4 = .ok (.iload_n 1, 1) := by decide +kernel
theorem dX9_feed_5 : decode cX9_feed 5 = .ok (.sipush 255, 3) := by decide +kernel
theorem dX9_feed_8 : decode cX9_feed 8 = .ok (.if_icmp .le 7, 3) := by decide +kernel
theorem dX9_feed_11 : decode cX9_feed 11 = .ok (.iconst (-1), 1) := by decide +kernel
theorem dX9_feed_12 : decode cX9_feed 12 = .ok (.goto 11, 3) := by decide +kernel
theorem dX9_feed_15 : decode cX9_feed 15 = .ok (.aload_n 0, 1) := by decide +kernel
theorem dX9_feed_16 : decode cX9_feed 16 = .ok (.getfield 19, 3) := by decide +kernel
theorem dX9_feed_19 : decode cX9_feed 19 = .ok (.iload_n 1, 1) := by decide +kernel
theorem dX9_feed_20 : decode cX9_feed 20 = .ok (.invokevirtual 109, 3) := by decide +kernel
theorem dX9_feed_23 : decode cX9_feed 23 = .ok (.ireturn, 1) := by decide +kernel
theorem dX9_law_0 : decode cX9_law 0 = .ok (.aload_n 0, 1) := by decide +kernel
theorem dX9_law_1 : decode cX9_law 1 = .ok (.getfield 19, 3) := by decide +kernel
theorem dX9_law_4 : decode cX9_law 4 = .ok (.invokevirtual 112, 3) := by decide +kernel
theorem dX9_law_7 : decode cX9_law 7 = .ok (.istore_n 1, 1) := by decide +kernel
theorem dX9_law_8 : decode cX9_law 8 = .ok (.iload_n 1, 1) := by decide +kernel
theorem dX9_law_9 : decode cX9_law 9 = .ok (.ifCond .lt 8, 3) := by decide +kernel
theorem dX9_law_12 : decode cX9_law 12 = .ok (.bipush (-100), 2) := by decide +kernel
theorem dX9_law_14 : decode cX9_law 14 = .ok (.iload_n 1, 1) := by decide +kernel
theorem dX9_law_15 : decode cX9_law 15 = .ok (.isub, 1) := by decide +kernel
theorem dX9_law_16 : decode cX9_law 16 = .ok (.ireturn, 1) := by decide +kernel
theorem dX9_law_17 : decode cX9_law 17 = .ok (.aload_n 0, 1) := by decide +kernel
theorem dX9_law_18 : decode cX9_law 18 = .ok (.getfield 10, 3) := by decide +kernel
theorem dX9_law_21 : decode cX9_law 21 = .ok (.getfield 115, 3) := by decide +kernel
theorem dX9_law_24 : decode cX9_law 24 = .ok (.astore_n 2, 1) := by decide +kernel
theorem dX9_law_25 : decode cX9_law 25 = .ok (.aload_n 0, 1) := by decide +kernel
theorem dX9_law_26 : decode cX9_law 26 = .ok (.getfield 10, 3) := by decide +kernel
theorem dX9_law_29 : decode cX9_law 29 = .ok (.aload_n 0, 1) := by decide +kernel
theorem dX9_law_30 : decode cX9_law 30 = .ok (.getfield 19, 3) := by decide +kernel
theorem dX9_law_33 : decode cX9_law 33 = .ok (.aload_n 2, 1) := by decide +kernel
theorem dX9_law_34 : decode cX9_law 34 = .ok (.invokevirtual 119, 3) := by decide +kernel
theorem dX9_law_37 : decode cX9_law 37 = .ok (.putfield 115, 3) := by decide +kernel
theorem dX9_law_40 : decode cX9_law 40 = .ok (.iconst 1, 1) := by decide +kernel
theorem dX9_law_41 : decode cX9_law 41 = .ok (.ireturn, 1) := by decide +kernel
theorem dX9_worthOf_0 : decode cX9_worthOf 0 = .ok (.aload_n 0, 1) := by decide +kernel
theorem dX9_worthOf_1 : decode cX9_worthOf 1 = .ok (.getfield 10, 3) := by decide +kernel
theorem dX9_worthOf_4 : decode cX9_worthOf 4 = .ok (.bipush 6, 2) := by decide +kernel
theorem dX9_worthOf_6 : decode cX9_worthOf 6 = .ok (.iload_n 1, 1) := by decide +kernel
theorem dX9_worthOf_7 : decode cX9_worthOf 7 = .ok (.invokevirtual 67, 3) := by decide +kernel
theorem dX9_worthOf_10 : decode cX9_worthOf 10 = .ok (.ifCond .eq 11, 3) := by decide +kernel
theorem dX9_worthOf_13 : decode cX9_worthOf 13 = .ok (.aload_n 0, 1) := by decide +kernel
theorem dX9_worthOf_14 : decode cX9_worthOf 14 = .ok (.iload_n 2, 1) := by decide +kernel
theorem dX9_worthOf_15 : decode cX9_worthOf 15 = .ok (.invokevirtual 123, 3) := by decide +kernel
theorem dX9_worthOf_18 : decode cX9_worthOf 18 = .ok (.ifCond .ne 5, 3) := by decide +kernel
theorem dX9_worthOf_21 : decode cX9_worthOf 21 = .ok (.iconst (-1), 1) := by decide +kernel
theorem dX9_worthOf_22 : decode cX9_worthOf 22 = .ok (.ireturn, 1) := by decide +kernel
theorem dX9_worthOf_23 : decode cX9_worthOf 23 = .ok (.aload_n 0, 1) := by decide +kernel
theorem dX9_worthOf_24 : decode cX9_worthOf 24 = .ok (.getfield 10, 3) := by decide +kernel
theorem dX9_worthOf_27 : decode cX9_worthOf 27 = .ok (.iload_n 1, 1) := by decide +kernel
theorem dX9_worthOf_28 : decode cX9_worthOf 28 = .ok (.iload_n 2, 1) := by decide +kernel
theorem dX9_worthOf_29 : decode cX9_worthOf 29 = .ok (.bipush 10, 2) := by decide +kernel
theorem dX9_worthOf_31 : decode cX9_worthOf 31 = .ok (.irem, 1) := by decide +kernel
theorem dX9_worthOf_32 : decode cX9_worthOf 32 = .ok (.aload_n 0, 1) := by decide +kernel
theorem dX9_worthOf_33 : decode cX9_worthOf 33 = .ok (.getfield 10, 3) := by decide +kernel
theorem dX9_worthOf_36 : decode cX9_worthOf 36 = .ok (.iconst 5, 1) := by decide +kernel
theorem dX9_worthOf_37 : decode cX9_worthOf 37 = .ok (.iload_n 2, 1) := by decide +kernel
theorem dX9_worthOf_38 : decode cX9_worthOf 38 = .ok (.bipush 10, 2) := by decide +kernel
theorem dX9_worthOf_40 : decode cX9_worthOf 40 = .ok (.idiv, 1) := by decide +kernel
theorem dX9_worthOf_41 : decode cX9_worthOf 41 = .ok (.invokevirtual 98, 3) := by decide +kernel
theorem dX9_worthOf_44 : decode cX9_worthOf 44 = .ok (.invokevirtual 126, 3) := by decide +kernel
theorem dX9_worthOf_47 : decode cX9_worthOf 47 = .ok (.ireturn, 1) := by decide +kernel
theorem dX9_belief_0 : decode cX9_belief 0 = .ok (.aload_n 0, 1) := by decide +kernel
theorem dX9_belief_1 : decode cX9_belief 1 = .ok (.getfield 10, 3) := by decide +kernel
theorem dX9_belief_4 : decode cX9_belief 4 = .ok (.iconst 0, 1) := by decide +kernel
theorem dX9_belief_5 : decode cX9_belief 5 = .ok (.iload_n 3, 1) := by decide +kernel
theorem dX9_belief_6 : decode cX9_belief 6 = .ok (.invokevirtual 67, 3) := by decide +kernel
theorem dX9_belief_9 : decode cX9_belief 9 = .ok (.ifCond .eq 20, 3) := by decide +kernel
theorem dX9_belief_12 : decode cX9_belief 12 = .ok (.iload 4, 2) := by decide +kernel
theorem dX9_belief_14 : decode cX9_belief 14 = .ok (.invokestatic 130, 3) := by decide +kernel
theorem dX9_belief_17 : decode cX9_belief 17 = .ok (.ifCond .eq 12, 3) := by decide +kernel
theorem dX9_belief_20 : decode cX9_belief 20 = .ok (.aload_n 0, 1) := by decide +kernel
theorem dX9_belief_21 : decode cX9_belief 21 = .ok (.iload_n 1, 1) := by decide +kernel
theorem dX9_belief_22 : decode cX9_belief 22 = .ok (.iload_n 2, 1) := by decide +kernel
theorem dX9_belief_23 : decode cX9_belief 23 = .ok (.invokevirtual 133, 3) := by decide +kernel
theorem dX9_belief_26 : decode cX9_belief 26 = .ok (.ifCond .eq 7, 3) := by decide +kernel
theorem dX9_belief_29 : decode cX9_belief 29 = .ok (.ldc2_w 138, 3) := by decide +kernel
theorem dX9_belief_32 : decode cX9_belief 32 = .ok (.lreturn, 1) := by decide +kernel
theorem dX9_belief_33 : decode cX9_belief 33 = .ok (.aload_n 0, 1) := by decide +kernel
theorem dX9_belief_34 : decode cX9_belief 34 = .ok (.getfield 28, 3) := by decide +kernel
theorem dX9_belief_37 : decode cX9_belief 37 = .ok (.aload_n 0, 1) := by decide +kernel
theorem dX9_belief_38 : decode cX9_belief 38 = .ok (.getfield 62, 3) := by decide +kernel
theorem dX9_belief_41 : decode cX9_belief 41 = .ok (.iload_n 1, 1) := by decide +kernel
theorem dX9_belief_42 : decode cX9_belief 42 = .ok (.aaload, 1) := by decide +kernel
theorem dX9_belief_43 : decode cX9_belief 43 = .ok (.iload_n 2, 1) := by decide +kernel
theorem dX9_belief_44 : decode cX9_belief 44 = .ok (.bipush 10, 2) := by decide +kernel
theorem dX9_belief_46 : decode cX9_belief 46 = .ok (.idiv, 1) := by decide +kernel
theorem dX9_belief_47 : decode cX9_belief 47 = .ok (.iload_n 2, 1) := by decide +kernel
theorem dX9_belief_48 : decode cX9_belief 48 = .ok (.bipush 10, 2) := by decide +kernel
theorem dX9_belief_50 : decode cX9_belief 50 = .ok (.irem, 1) := by decide +kernel
theorem dX9_belief_51 : decode cX9_belief 51 = .ok (.invokevirtual 140, 3) := by decide +kernel
theorem dX9_belief_54 : decode cX9_belief 54 = .ok (.aload_n 0, 1) := by decide +kernel
theorem dX9_belief_55 : decode cX9_belief 55 = .ok (.getfield 28, 3) := by decide +kernel
theorem dX9_belief_58 : decode cX9_belief 58 = .ok (.iload_n 3, 1) := by decide +kernel
theorem dX9_belief_59 : decode cX9_belief 59 = .ok (.invokevirtual 144, 3) := by decide +kernel
theorem dX9_belief_62 : decode cX9_belief 62 = .ok (.aload_n 0, 1) := by decide +kernel
theorem dX9_belief_63 : decode cX9_belief 63 = .ok (.getfield 28, 3) := by decide +kernel
theorem dX9_belief_66 : decode cX9_belief 66 = .ok (.invokevirtual 148, 3) := by decide +kernel
theorem dX9_belief_69 : decode cX9_belief 69 = .ok (.iload 4, 2) := by decide +kernel
theorem dX9_belief_71 : decode cX9_belief 71 = .ok (.invokestatic 152, 3) := by decide +kernel
theorem dX9_belief_74 : decode cX9_belief 74 = .ok (.lreturn, 1) := by decide +kernel
theorem dX9_likeliest_0 : decode cX9_likeliest 0 = .ok (.iload_n 3, 1) := by decide +kernel
theorem dX9_likeliest_1 : decode cX9_likeliest 1 = .ok (.invokestatic 130, 3) := by decide +kernel
theorem dX9_likeliest_4 : decode cX9_likeliest 4 = .ok (.ifCond .eq 12, 3) := by decide +kernel
theorem dX9_likeliest_7 : decode cX9_likeliest 7 = .ok (.aload_n 0, 1) := by decide +kernel
theorem dX9_likeliest_8 : decode cX9_likeliest 8 = .ok (.iload_n 1, 1) := by decide +kernel
theorem dX9_likeliest_9 : decode cX9_likeliest 9 = .ok (.iload_n 2, 1) := by decide +kernel
theorem dX9_likeliest_10 : decode cX9_likeliest 10 = .ok (.invokevirtual 133, 3) := by decide +kernel
theorem dX9_likeliest_13 : decode cX9_likeliest 13 = .ok (.goto 4, 3) := by decide +kernel
theorem dX9_likeliest_16 : decode cX9_likeliest 16 = .ok (.iconst (-1), 1) := by decide +kernel
theorem dX9_likeliest_17 : decode cX9_likeliest 17 = .ok (.istore 4, 2) := by decide +kernel
theorem dX9_likeliest_19 : decode cX9_likeliest 19 = .ok (.iload 4, 2) := by decide +kernel
theorem dX9_likeliest_21 : decode cX9_likeliest 21 = .ok (.ifCond .eq 6, 3) := by decide +kernel
theorem dX9_likeliest_24 : decode cX9_likeliest 24 = .ok (.iload 4, 2) := by decide +kernel
theorem dX9_likeliest_26 : decode cX9_likeliest 26 = .ok (.ireturn, 1) := by decide +kernel
theorem dX9_likeliest_27 : decode cX9_likeliest 27 = .ok (.iload_n 2, 1) := by decide +kernel
theorem dX9_likeliest_28 : decode cX9_likeliest 28 = .ok (.bipush 10, 2) := by decide +kernel
theorem dX9_likeliest_30 : decode cX9_likeliest 30 = .ok (.idiv, 1) := by decide +kernel
theorem dX9_likeliest_31 : decode cX9_likeliest 31 = .ok (.istore 5, 2) := by decide +kernel
theorem dX9_likeliest_33 : decode cX9_likeliest 33 = .ok (.iload_n 2, 1) := by decide +kernel
theorem dX9_likeliest_34 : decode cX9_likeliest 34 = .ok (.bipush 10, 2) := by decide +kernel
theorem dX9_likeliest_36 : decode cX9_likeliest 36 = .ok (.irem, 1) := by decide +kernel
theorem dX9_likeliest_37 : decode cX9_likeliest 37 = .ok (.istore 6, 2) := by decide +kernel
theorem dX9_likeliest_39 : decode cX9_likeliest 39 = .ok (.aload_n 0, 1) := by decide +kernel
theorem dX9_likeliest_40 : decode cX9_likeliest 40 = .ok (.getfield 28, 3) := by decide +kernel
theorem dX9_likeliest_43 : decode cX9_likeliest 43 = .ok (.aload_n 0, 1) := by decide +kernel
theorem dX9_likeliest_44 : decode cX9_likeliest 44 = .ok (.getfield 62, 3) := by decide +kernel
theorem dX9_likeliest_47 : decode cX9_likeliest 47 = .ok (.iload_n 1, 1) := by decide +kernel
theorem dX9_likeliest_48 : decode cX9_likeliest 48 = .ok (.aaload, 1) := by decide +kernel
theorem dX9_likeliest_49 : decode cX9_likeliest 49 = .ok (.iload 5, 2) := by decide +kernel
theorem dX9_likeliest_51 : decode cX9_likeliest 51 = .ok (.iload 6, 2) := by decide +kernel
theorem dX9_likeliest_53 : decode cX9_likeliest 53 = .ok (.invokevirtual 140, 3) := by decide +kernel
theorem dX9_likeliest_56 : decode cX9_likeliest 56 = .ok (.iload_n 3, 1) := by decide +kernel
theorem dX9_likeliest_57 : decode cX9_likeliest 57 = .ok (.ifCond .ne 11, 3) := by decide +kernel
theorem dX9_likeliest_60 : decode cX9_likeliest 60 = .ok (.aload_n 0, 1) := by decide +kernel
theorem dX9_likeliest_61 : decode cX9_likeliest 61 = .ok (.getfield 28, 3) := by decide +kernel
theorem dX9_likeliest_64 : decode cX9_likeliest 64 = .ok (.invokevirtual 156, 3) := by decide +kernel
theorem dX9_likeliest_67 : decode cX9_likeliest 67 = .ok (.ireturn, 1) := by decide +kernel
theorem dX9_likeliest_68 : decode cX9_likeliest 68 = .ok (.aload_n 0, 1) := by decide +kernel
theorem dX9_likeliest_69 : decode cX9_likeliest 69 = .ok (.getfield 28, 3) := by decide +kernel
theorem dX9_likeliest_72 : decode cX9_likeliest 72 = .ok (.iload 5, 2) := by decide +kernel
theorem dX9_likeliest_74 : decode cX9_likeliest 74 = .ok (.iload 6, 2) := by decide +kernel
theorem dX9_likeliest_76 : decode cX9_likeliest 76 = .ok (.invokevirtual 159, 3) := by decide +kernel
theorem dX9_likeliest_79 : decode cX9_likeliest 79 = .ok (.aload_n 0, 1) := by decide +kernel
theorem dX9_likeliest_80 : decode cX9_likeliest 80 = .ok (.getfield 10, 3) := by decide +kernel
theorem dX9_likeliest_83 : decode cX9_likeliest 83 = .ok (.iconst 5, 1) := by decide +kernel
theorem dX9_likeliest_84 : decode cX9_likeliest 84 = .ok (.iload 6, 2) := by decide +kernel
theorem dX9_likeliest_86 : decode cX9_likeliest 86 = .ok (.invokevirtual 98, 3) := by decide +kernel
theorem dX9_likeliest_89 : decode cX9_likeliest 89 = .ok (.i2l, 1) := by decide +kernel
theorem dX9_likeliest_90 : decode cX9_likeliest 90 = .ok (.aload_n 0, 1) := by decide +kernel
theorem dX9_likeliest_91 : decode cX9_likeliest 91 = .ok (.getfield 28, 3) := by decide +kernel
theorem dX9_likeliest_94 : decode cX9_likeliest 94 = .ok (.invokevirtual 148, 3) := by decide +kernel
theorem dX9_likeliest_97 : decode cX9_likeliest 97 = .ok (.lmul, 1) := by decide +kernel
theorem dX9_likeliest_98 : decode cX9_likeliest 98 = .ok (.lcmp, 1) := by decide +kernel
theorem dX9_likeliest_99 : decode cX9_likeliest 99 = .ok (.ifCond .le 7, 3) := by decide +kernel
theorem dX9_likeliest_102 : decode cX9_likeliest 102 = .ok (.iconst 1, 1) := by decide +kernel
theorem dX9_likeliest_103 : decode cX9_likeliest 103 = .ok (.goto 4, 3) := by decide +kernel
theorem dX9_likeliest_106 : decode cX9_likeliest 106 = .ok (.iconst 0, 1) := by decide +kernel
theorem dX9_likeliest_107 : decode cX9_likeliest 107 = .ok (.ireturn, 1) := by decide +kernel
theorem dX9_worth_0 : decode cX9_worth 0 = .ok (.iload_n 3, 1) := by decide +kernel
theorem dX9_worth_1 : decode cX9_worth 1 = .ok (.invokestatic 130, 3) := by decide +kernel
theorem dX9_worth_4 : decode cX9_worth 4 = .ok (.ifCond .eq 12, 3) := by decide +kernel
theorem dX9_worth_7 : decode cX9_worth 7 = .ok (.aload_n 0, 1) := by decide +kernel
theorem dX9_worth_8 : decode cX9_worth 8 = .ok (.iload_n 1, 1) := by decide +kernel
theorem dX9_worth_9 : decode cX9_worth 9 = .ok (.iload_n 2, 1) := by decide +kernel
theorem dX9_worth_10 : decode cX9_worth 10 = .ok (.invokevirtual 133, 3) := by decide +kernel
theorem dX9_worth_13 : decode cX9_worth 13 = .ok (.ifCond .eq 7, 3) := by decide +kernel
theorem dX9_worth_16 : decode cX9_worth 16 = .ok (.ldc2_w 138, 3) := by decide +kernel
theorem dX9_worth_19 : decode cX9_worth 19 = .ok (.lreturn, 1) := by decide +kernel
theorem dX9_worth_20 : decode cX9_worth 20 = .ok (.aload_n 0, 1) := by decide +kernel
theorem dX9_worth_21 : decode cX9_worth 21 = .ok (.getfield 28, 3) := by decide +kernel
theorem dX9_worth_24 : decode cX9_worth 24 = .ok (.aload_n 0, 1) := by decide +kernel
theorem dX9_worth_25 : decode cX9_worth 25 = .ok (.getfield 62, 3) := by decide +kernel
theorem dX9_worth_28 : decode cX9_worth 28 = .ok (.iload_n 1, 1) := by decide +kernel
theorem dX9_worth_29 : decode cX9_worth 29 = .ok (.aaload, 1) := by decide +kernel
theorem dX9_worth_30 : decode cX9_worth 30 = .ok (.iload_n 2, 1) := by decide +kernel
theorem dX9_worth_31 : decode cX9_worth 31 = .ok (.bipush 10, 2) := by decide +kernel
theorem dX9_worth_33 : decode cX9_worth 33 = .ok (.idiv, 1) := by decide +kernel
theorem dX9_worth_34 : decode cX9_worth 34 = .ok (.iload_n 2, 1) := by decide +kernel
theorem dX9_worth_35 : decode cX9_worth 35 = .ok (.bipush 10, 2) := by decide +kernel
theorem dX9_worth_37 : decode cX9_worth 37 = .ok (.irem, 1) := by decide +kernel
theorem dX9_worth_38 : decode cX9_worth 38 = .ok (.invokevirtual 140, 3) := by decide +kernel
theorem dX9_worth_41 : decode cX9_worth 41 = .ok (.aload_n 0, 1) := by decide +kernel
theorem dX9_worth_42 : decode cX9_worth 42 = .ok (.getfield 28, 3) := by decide +kernel
theorem dX9_worth_45 : decode cX9_worth 45 = .ok (.iload_n 2, 1) := by decide +kernel
theorem dX9_worth_46 : decode cX9_worth 46 = .ok (.bipush 10, 2) := by decide +kernel
theorem dX9_worth_48 : decode cX9_worth 48 = .ok (.idiv, 1) := by decide +kernel
theorem dX9_worth_49 : decode cX9_worth 49 = .ok (.iload_n 2, 1) := by decide +kernel
theorem dX9_worth_50 : decode cX9_worth 50 = .ok (.bipush 10, 2) := by decide +kernel
theorem dX9_worth_52 : decode cX9_worth 52 = .ok (.irem, 1) := by decide +kernel
theorem dX9_worth_53 : decode cX9_worth 53 = .ok (.invokevirtual 159, 3) := by decide +kernel
theorem dX9_worth_56 : decode cX9_worth 56 = .ok (.aload_n 0, 1) := by decide +kernel
theorem dX9_worth_57 : decode cX9_worth 57 = .ok (.getfield 28, 3) := by decide +kernel
theorem dX9_worth_60 : decode cX9_worth 60 = .ok (.invokevirtual 148, 3) := by decide +kernel
theorem dX9_worth_63 : decode cX9_worth 63 = .ok (.iload_n 3, 1) := by decide +kernel
theorem dX9_worth_64 : decode cX9_worth 64 = .ok (.invokestatic 152, 3) := by decide +kernel
theorem dX9_worth_67 : decode cX9_worth 67 = .ok (.lreturn, 1) := by decide +kernel
theorem dX9_next_0 : decode cX9_next 0 = .ok (.aload_n 0, 1) := by decide +kernel
theorem dX9_next_1 : decode cX9_next 1 = .ok (.iload_n 1, 1) := by decide +kernel
theorem dX9_next_2 : decode cX9_next 2 = .ok (.iload_n 2, 1) := by decide +kernel
theorem dX9_next_3 : decode cX9_next 3 = .ok (.invokevirtual 133, 3) := by decide +kernel
theorem dX9_next_6 : decode cX9_next 6 = .ok (.istore_n 3, 1) := by decide +kernel
theorem dX9_next_7 : decode cX9_next 7 = .ok (.iload_n 3, 1) := by decide +kernel
theorem dX9_next_8 : decode cX9_next 8 = .ok (.ifCond .eq 5, 3) := by decide +kernel
theorem dX9_next_11 : decode cX9_next 11 = .ok (.iload_n 3, 1) := by decide +kernel
theorem dX9_next_12 : decode cX9_next 12 = .ok (.ireturn, 1) := by decide +kernel
theorem dX9_next_13 : decode cX9_next 13 = .ok (.aload_n 0, 1) := by decide +kernel
theorem dX9_next_14 : decode cX9_next 14 = .ok (.getfield 10, 3) := by decide +kernel
theorem dX9_next_17 : decode cX9_next 17 = .ok (.iload_n 2, 1) := by decide +kernel
theorem dX9_next_18 : decode cX9_next 18 = .ok (.bipush 10, 2) := by decide +kernel
theorem dX9_next_20 : decode cX9_next 20 = .ok (.irem, 1) := by decide +kernel
theorem dX9_next_21 : decode cX9_next 21 = .ok (.invokevirtual 163, 3) := by decide +kernel
theorem dX9_next_24 : decode cX9_next 24 = .ok (.ifCond .eq 6, 3) := by decide +kernel
theorem dX9_next_27 : decode cX9_next 27 = .ok (.bipush (-5), 2) := by decide +kernel
theorem dX9_next_29 : decode cX9_next 29 = .ok (.ireturn, 1) := by decide +kernel
theorem dX9_next_30 : decode cX9_next 30 = .ok (.aload_n 0, 1) := by decide +kernel
theorem dX9_next_31 : decode cX9_next 31 = .ok (.getfield 28, 3) := by decide +kernel
theorem dX9_next_34 : decode cX9_next 34 = .ok (.aload_n 0, 1) := by decide +kernel
theorem dX9_next_35 : decode cX9_next 35 = .ok (.getfield 62, 3) := by decide +kernel
theorem dX9_next_38 : decode cX9_next 38 = .ok (.iload_n 1, 1) := by decide +kernel
theorem dX9_next_39 : decode cX9_next 39 = .ok (.aaload, 1) := by decide +kernel
theorem dX9_next_40 : decode cX9_next 40 = .ok (.iload_n 2, 1) := by decide +kernel
theorem dX9_next_41 : decode cX9_next 41 = .ok (.bipush 10, 2) := by decide +kernel
theorem dX9_next_43 : decode cX9_next 43 = .ok (.idiv, 1) := by decide +kernel
theorem dX9_next_44 : decode cX9_next 44 = .ok (.iload_n 2, 1) := by decide +kernel
theorem dX9_next_45 : decode cX9_next 45 = .ok (.bipush 10, 2) := by decide +kernel
theorem dX9_next_47 : decode cX9_next 47 = .ok (.irem, 1) := by decide +kernel
theorem dX9_next_48 : decode cX9_next 48 = .ok (.invokevirtual 140, 3) := by decide +kernel
theorem dX9_next_51 : decode cX9_next 51 = .ok (.aload_n 0, 1) := by decide +kernel
theorem dX9_next_52 : decode cX9_next 52 = .ok (.getfield 28, 3) := by decide +kernel
theorem dX9_next_55 : decode cX9_next 55 = .ok (.iload_n 2, 1) := by decide +kernel
theorem dX9_next_56 : decode cX9_next 56 = .ok (.bipush 10, 2) := by decide +kernel
theorem dX9_next_58 : decode cX9_next 58 = .ok (.idiv, 1) := by decide +kernel
theorem dX9_next_59 : decode cX9_next 59 = .ok (.invokevirtual 166, 3) := by decide +kernel
theorem dX9_next_62 : decode cX9_next 62 = .ok (.ireturn, 1) := by decide +kernel
theorem dX9_right_0 : decode cX9_right 0 = .ok (.iload_n 3, 1) := by decide +kernel
theorem dX9_right_1 : decode cX9_right 1 = .ok (.invokestatic 130, 3) := by decide +kernel
theorem dX9_right_4 : decode cX9_right 4 = .ok (.ifCond .eq 12, 3) := by decide +kernel
theorem dX9_right_7 : decode cX9_right 7 = .ok (.aload_n 0, 1) := by decide +kernel
theorem dX9_right_8 : decode cX9_right 8 = .ok (.iload_n 1, 1) := by decide +kernel
theorem dX9_right_9 : decode cX9_right 9 = .ok (.iload_n 2, 1) := by decide +kernel
theorem dX9_right_10 : decode cX9_right 10 = .ok (.invokevirtual 133, 3) := by decide +kernel
theorem dX9_right_13 : decode cX9_right 13 = .ok (.ifCond .eq 7, 3) := by decide +kernel
theorem dX9_right_16 : decode cX9_right 16 = .ok (.ldc2_w 138, 3) := by decide +kernel
theorem dX9_right_19 : decode cX9_right 19 = .ok (.lreturn, 1) := by decide +kernel
theorem dX9_right_20 : decode cX9_right 20 = .ok (.aload_n 0, 1) := by decide +kernel
theorem dX9_right_21 : decode cX9_right 21 = .ok (.getfield 10, 3) := by decide +kernel
theorem dX9_right_24 : decode cX9_right 24 = .ok (.iload_n 2, 1) := by decide +kernel
theorem dX9_right_25 : decode cX9_right 25 = .ok (.bipush 10, 2) := by decide +kernel
theorem dX9_right_27 : decode cX9_right 27 = .ok (.irem, 1) := by decide +kernel
theorem dX9_right_28 : decode cX9_right 28 = .ok (.invokevirtual 163, 3) := by decide +kernel
theorem dX9_right_31 : decode cX9_right 31 = .ok (.ifCond .eq 5, 3) := by decide +kernel
theorem dX9_right_34 : decode cX9_right 34 = .ok (.lconst 1, 1) := by decide +kernel
theorem dX9_right_35 : decode cX9_right 35 = .ok (.lreturn, 1) := by decide +kernel
theorem dX9_right_36 : decode cX9_right 36 = .ok (.iload_n 2, 1) := by decide +kernel
theorem dX9_right_37 : decode cX9_right 37 = .ok (.bipush 10, 2) := by decide +kernel
theorem dX9_right_39 : decode cX9_right 39 = .ok (.idiv, 1) := by decide +kernel
theorem dX9_right_40 : decode cX9_right 40 = .ok (.istore 4, 2) := by decide +kernel
theorem dX9_right_42 : decode cX9_right 42 = .ok (.aload_n 0, 1) := by decide +kernel
theorem dX9_right_43 : decode cX9_right 43 = .ok (.getfield 28, 3) := by decide +kernel
theorem dX9_right_46 : decode cX9_right 46 = .ok (.aload_n 0, 1) := by decide +kernel
theorem dX9_right_47 : decode cX9_right 47 = .ok (.getfield 62, 3) := by decide +kernel
theorem dX9_right_50 : decode cX9_right 50 = .ok (.iload_n 1, 1) := by decide +kernel
theorem dX9_right_51 : decode cX9_right 51 = .ok (.aaload, 1) := by decide +kernel
theorem dX9_right_52 : decode cX9_right 52 = .ok (.iload 4, 2) := by decide +kernel
theorem dX9_right_54 : decode cX9_right 54 = .ok (.iload_n 2, 1) := by decide +kernel
theorem dX9_right_55 : decode cX9_right 55 = .ok (.bipush 10, 2) := by decide +kernel
theorem dX9_right_57 : decode cX9_right 57 = .ok (.irem, 1) := by decide +kernel
theorem dX9_right_58 : decode cX9_right 58 = .ok (.invokevirtual 140, 3) := by decide +kernel
theorem dX9_right_61 : decode cX9_right 61 = .ok (.aload_n 0, 1) := by decide +kernel
theorem dX9_right_62 : decode cX9_right 62 = .ok (.getfield 28, 3) := by decide +kernel
theorem dX9_right_65 : decode cX9_right 65 = .ok (.iload 4, 2) := by decide +kernel
theorem dX9_right_67 : decode cX9_right 67 = .ok (.aload_n 0, 1) := by decide +kernel
theorem dX9_right_68 : decode cX9_right 68 = .ok (.getfield 28, 3) := by decide +kernel
theorem dX9_right_71 : decode cX9_right 71 = .ok (.iload 4, 2) := by decide +kernel
theorem dX9_right_73 : decode cX9_right 73 = .ok (.invokevirtual 166, 3) := by decide +kernel
theorem dX9_right_76 : decode cX9_right 76 = .ok (.invokevirtual 169, 3) := by decide +kernel
theorem dX9_right_79 : decode cX9_right 79 = .ok (.ldc2_w 172, 3) := by decide +kernel
theorem dX9_right_82 : decode cX9_right 82 = .ok (.aload_n 0, 1) := by decide +kernel
theorem dX9_right_83 : decode cX9_right 83 = .ok (.getfield 28, 3) := by decide +kernel
theorem dX9_right_86 : decode cX9_right 86 = .ok (.invokevirtual 148, 3) := by decide +kernel
theorem dX9_right_89 : decode cX9_right 89 = .ok (.lmul, 1) := by decide +kernel
theorem dX9_right_90 : decode cX9_right 90 = .ok (.iload_n 3, 1) := by decide +kernel
theorem dX9_right_91 : decode cX9_right 91 = .ok (.invokestatic 152, 3) := by decide +kernel
theorem dX9_right_94 : decode cX9_right 94 = .ok (.lreturn, 1) := by decide +kernel
theorem dX9_buys_0 : decode cX9_buys 0 = .ok (.iload_n 1, 1) := by decide +kernel
theorem dX9_buys_1 : decode cX9_buys 1 = .ok (.invokestatic 75, 3) := by decide +kernel
theorem dX9_buys_4 : decode cX9_buys 4 = .ok (.ifCond .eq 23, 3) := by decide +kernel
theorem dX9_buys_7 : decode cX9_buys 7 = .ok (.aload_n 0, 1) := by decide +kernel
theorem dX9_buys_8 : decode cX9_buys 8 = .ok (.getfield 10, 3) := by decide +kernel
theorem dX9_buys_11 : decode cX9_buys 11 = .ok (.bipush 6, 2) := by decide +kernel
theorem dX9_buys_13 : decode cX9_buys 13 = .ok (.iload_n 2, 1) := by decide +kernel
theorem dX9_buys_14 : decode cX9_buys 14 = .ok (.invokevirtual 67, 3) := by decide +kernel
theorem dX9_buys_17 : decode cX9_buys 17 = .ok (.ifCond .eq 10, 3) := by decide +kernel
theorem dX9_buys_20 : decode cX9_buys 20 = .ok (.iload_n 3, 1) := by decide +kernel
theorem dX9_buys_21 : decode cX9_buys 21 = .ok (.invokestatic 130, 3) := by decide +kernel
theorem dX9_buys_24 : decode cX9_buys 24 = .ok (.ifCond .ne 5, 3) := by decide +kernel
theorem dX9_buys_27 : decode cX9_buys 27 = .ok (.iconst (-1), 1) := by decide +kernel
theorem dX9_buys_28 : decode cX9_buys 28 = .ok (.ireturn, 1) := by decide +kernel
theorem dX9_buys_29 : decode cX9_buys 29 = .ok (.aload_n 0, 1) := by decide +kernel
theorem dX9_buys_30 : decode cX9_buys 30 = .ok (.getfield 62, 3) := by decide +kernel
theorem dX9_buys_33 : decode cX9_buys 33 = .ok (.iload_n 1, 1) := by decide +kernel
theorem dX9_buys_34 : decode cX9_buys 34 = .ok (.aaload, 1) := by decide +kernel
theorem dX9_buys_35 : decode cX9_buys 35 = .ok (.invokevirtual 79, 3) := by decide +kernel
theorem dX9_buys_38 : decode cX9_buys 38 = .ok (.istore 4, 2) := by decide +kernel
theorem dX9_buys_40 : decode cX9_buys 40 = .ok (.iload 4, 2) := by decide +kernel
theorem dX9_buys_42 : decode cX9_buys 42 = .ok (.ifCond .eq 6, 3) := by decide +kernel
theorem dX9_buys_45 : decode cX9_buys 45 = .ok (.iload 4, 2) := by decide +kernel
theorem dX9_buys_47 : decode cX9_buys 47 = .ok (.ireturn, 1) := by decide +kernel
theorem dX9_buys_48 : decode cX9_buys 48 = .ok (.aload_n 0, 1) := by decide +kernel
theorem dX9_buys_49 : decode cX9_buys 49 = .ok (.getfield 35, 3) := by decide +kernel
theorem dX9_buys_52 : decode cX9_buys 52 = .ok (.invokevirtual 174, 3) := by decide +kernel
theorem dX9_buys_55 : decode cX9_buys 55 = .ok (.iconst 0, 1) := by decide +kernel
theorem dX9_buys_56 : decode cX9_buys 56 = .ok (.istore 5, 2) := by decide +kernel
theorem dX9_buys_58 : decode cX9_buys 58 = .ok (.iload 5, 2) := by decide +kernel
theorem dX9_buys_60 : decode cX9_buys 60 = .ok (.aload_n 0, 1) := by decide +kernel
theorem dX9_buys_61 : decode cX9_buys 61 = .ok (.getfield 10, 3) := by decide +kernel
theorem dX9_buys_64 : decode cX9_buys 64 = .ok (.getfield 177, 3) := by decide +kernel
theorem dX9_buys_67 : decode cX9_buys 67 = .ok (.if_icmp .ge 44, 3) := by decide +kernel
theorem dX9_buys_70 : decode cX9_buys 70 = .ok (.aload_n 0, 1) := by decide +kernel
theorem dX9_buys_71 : decode cX9_buys 71 = .ok (.getfield 28, 3) := by decide +kernel
theorem dX9_buys_74 : decode cX9_buys 74 = .ok (.aload_n 0, 1) := by decide +kernel
theorem dX9_buys_75 : decode cX9_buys 75 = .ok (.getfield 62, 3) := by decide +kernel
theorem dX9_buys_78 : decode cX9_buys 78 = .ok (.iload_n 1, 1) := by decide +kernel
theorem dX9_buys_79 : decode cX9_buys 79 = .ok (.aaload, 1) := by decide +kernel
theorem dX9_buys_80 : decode cX9_buys 80 = .ok (.iload_n 2, 1) := by decide +kernel
theorem dX9_buys_81 : decode cX9_buys 81 = .ok (.iload 5, 2) := by decide +kernel
theorem dX9_buys_83 : decode cX9_buys 83 = .ok (.invokevirtual 140, 3) := by decide +kernel
theorem dX9_buys_86 : decode cX9_buys 86 = .ok (.aload_n 0, 1) := by decide +kernel
theorem dX9_buys_87 : decode cX9_buys 87 = .ok (.getfield 35, 3) := by decide +kernel
theorem dX9_buys_90 : decode cX9_buys 90 = .ok (.iload 5, 2) := by decide +kernel
theorem dX9_buys_92 : decode cX9_buys 92 = .ok (.aload_n 0, 1) := by decide +kernel
theorem dX9_buys_93 : decode cX9_buys 93 = .ok (.getfield 28, 3) := by decide +kernel
theorem dX9_buys_96 : decode cX9_buys 96 = .ok (.iload_n 2, 1) := by decide +kernel
theorem dX9_buys_97 : decode cX9_buys 97 = .ok (.iload 5, 2) := by decide +kernel
theorem dX9_buys_99 : decode cX9_buys 99 = .ok (.invokevirtual 181, 3) := by decide +kernel
theorem dX9_buys_102 : decode cX9_buys 102 = .ok (.invokevirtual 184, 3) := by decide +kernel
theorem dX9_buys_105 : decode cX9_buys 105 = .ok (.iinc 5 1, 3) := by decide +kernel
theorem dX9_buys_108 : decode cX9_buys 108 = .ok (.goto (-50), 3) := by decide +kernel
theorem dX9_buys_111 : decode cX9_buys 111 = .ok (.aload_n 0, 1) := by decide +kernel
theorem dX9_buys_112 : decode cX9_buys 112 = .ok (.getfield 35, 3) := by decide +kernel
theorem dX9_buys_115 : decode cX9_buys 115 = .ok (.aload_n 0, 1) := by decide +kernel
theorem dX9_buys_116 : decode cX9_buys 116 = .ok (.getfield 10, 3) := by decide +kernel
theorem dX9_buys_119 : decode cX9_buys 119 = .ok (.bipush 6, 2) := by decide +kernel
theorem dX9_buys_121 : decode cX9_buys 121 = .ok (.iload_n 2, 1) := by decide +kernel
theorem dX9_buys_122 : decode cX9_buys 122 = .ok (.invokevirtual 98, 3) := by decide +kernel
theorem dX9_buys_125 : decode cX9_buys 125 = .ok (.invokevirtual 188, 3) := by decide +kernel
theorem dX9_buys_128 : decode cX9_buys 128 = .ok (.iload_n 3, 1) := by decide +kernel
theorem dX9_buys_129 : decode cX9_buys 129 = .ok (.ifCond .ne 13, 3) := by decide +kernel
theorem dX9_buys_132 : decode cX9_buys 132 = .ok (.aload_n 0, 1) := by decide +kernel
theorem dX9_buys_133 : decode cX9_buys 133 = .ok (.getfield 35, 3) := by decide +kernel
theorem dX9_buys_136 : decode cX9_buys 136 = .ok (.getfield 192, 3) := by decide +kernel
theorem dX9_buys_139 : decode cX9_buys 139 = .ok (.goto 10, 3) := by decide +kernel
theorem dX9_buys_142 : decode cX9_buys 142 = .ok (.aload_n 0, 1) := by decide +kernel
theorem dX9_buys_143 : decode cX9_buys 143 = .ok (.getfield 35, 3) := by decide +kernel
theorem dX9_buys_146 : decode cX9_buys 146 = .ok (.getfield 195, 3) := by decide +kernel
theorem dX9_buys_149 : decode cX9_buys 149 = .ok (.ireturn, 1) := by decide +kernel
theorem dX9_dealt_0 : decode cX9_dealt 0 = .ok (.iload_n 1, 1) := by decide +kernel
theorem dX9_dealt_1 : decode cX9_dealt 1 = .ok (.iconst (-1), 1) := by decide +kernel
theorem dX9_dealt_2 : decode cX9_dealt 2 = .ok (.if_icmp .eq 18, 3) := by decide +kernel
theorem dX9_dealt_5 : decode cX9_dealt 5 = .ok (.aload_n 0, 1) := by decide +kernel
theorem dX9_dealt_6 : decode cX9_dealt 6 = .ok (.getfield 10, 3) := by decide +kernel
theorem dX9_dealt_9 : decode cX9_dealt 9 = .ok (.bipush 6, 2) := by decide +kernel
theorem dX9_dealt_11 : decode cX9_dealt 11 = .ok (.iload_n 1, 1) := by decide +kernel
theorem dX9_dealt_12 : decode cX9_dealt 12 = .ok (.invokevirtual 67, 3) := by decide +kernel
theorem dX9_dealt_15 : decode cX9_dealt 15 = .ok (.ifCond .ne 5, 3) := by decide +kernel
theorem dX9_dealt_18 : decode cX9_dealt 18 = .ok (.iconst (-1), 1) := by decide +kernel
theorem dX9_dealt_19 : decode cX9_dealt 19 = .ok (.ireturn, 1) := by decide +kernel
theorem dX9_dealt_20 : decode cX9_dealt 20 = .ok (.aload_n 0, 1) := by decide +kernel
theorem dX9_dealt_21 : decode cX9_dealt 21 = .ok (.getfield 35, 3) := by decide +kernel
theorem dX9_dealt_24 : decode cX9_dealt 24 = .ok (.invokevirtual 198, 3) := by decide +kernel
theorem dX9_dealt_27 : decode cX9_dealt 27 = .ok (.lstore_n 2, 1) := by decide +kernel
theorem dX9_dealt_28 : decode cX9_dealt 28 = .ok (.iload_n 1, 1) := by decide +kernel
theorem dX9_dealt_29 : decode cX9_dealt 29 = .ok (.iconst (-1), 1) := by decide +kernel
theorem dX9_dealt_30 : decode cX9_dealt 30 = .ok (.if_icmp .ne 14, 3) := by decide +kernel
theorem dX9_dealt_33 : decode cX9_dealt 33 = .ok (.aload_n 0, 1) := by decide +kernel
theorem dX9_dealt_34 : decode cX9_dealt 34 = .ok (.getfield 35, 3) := by decide +kernel
theorem dX9_dealt_37 : decode cX9_dealt 37 = .ok (.lload_n 2, 1) := by decide +kernel
theorem dX9_dealt_38 : decode cX9_dealt 38 = .ok (.invokevirtual 201, 3) := by decide +kernel
theorem dX9_dealt_41 : decode cX9_dealt 41 = .ok (.goto 12, 3) := by decide +kernel
theorem dX9_dealt_44 : decode cX9_dealt 44 = .ok (.aload_n 0, 1) := by decide +kernel
theorem dX9_dealt_45 : decode cX9_dealt 45 = .ok (.getfield 35, 3) := by decide +kernel
theorem dX9_dealt_48 : decode cX9_dealt 48 = .ok (.lload_n 2, 1) := by decide +kernel
theorem dX9_dealt_49 : decode cX9_dealt 49 = .ok (.iload_n 1, 1) := by decide +kernel
theorem dX9_dealt_50 : decode cX9_dealt 50 = .ok (.invokevirtual 205, 3) := by decide +kernel
theorem dX9_dealt_53 : decode cX9_dealt 53 = .ok (.ireturn, 1) := by decide +kernel
theorem dX9_groan_0 : decode cX9_groan 0 = .ok (.iload_n 1, 1) := by decide +kernel
theorem dX9_groan_1 : decode cX9_groan 1 = .ok (.invokestatic 75, 3) := by decide +kernel
theorem dX9_groan_4 : decode cX9_groan 4 = .ok (.ifCond .eq 12, 3) := by decide +kernel
theorem dX9_groan_7 : decode cX9_groan 7 = .ok (.iload_n 2, 1) := by decide +kernel
theorem dX9_groan_8 : decode cX9_groan 8 = .ok (.ifCond .lt 8, 3) := by decide +kernel
theorem dX9_groan_11 : decode cX9_groan 11 = .ok (.iload_n 2, 1) := by decide +kernel
theorem dX9_groan_12 : decode cX9_groan 12 = .ok (.iconst 2, 1) := by decide +kernel
theorem dX9_groan_13 : decode cX9_groan 13 = .ok (.if_icmp .le 5, 3) := by decide +kernel
theorem dX9_groan_16 : decode cX9_groan 16 = .ok (.iconst (-1), 1) := by decide +kernel
theorem dX9_groan_17 : decode cX9_groan 17 = .ok (.ireturn, 1) := by decide +kernel
theorem dX9_groan_18 : decode cX9_groan 18 = .ok (.aload_n 0, 1) := by decide +kernel
theorem dX9_groan_19 : decode cX9_groan 19 = .ok (.getfield 62, 3) := by decide +kernel
theorem dX9_groan_22 : decode cX9_groan 22 = .ok (.iload_n 1, 1) := by decide +kernel
theorem dX9_groan_23 : decode cX9_groan 23 = .ok (.aaload, 1) := by decide +kernel
theorem dX9_groan_24 : decode cX9_groan 24 = .ok (.invokevirtual 79, 3) := by decide +kernel
theorem dX9_groan_27 : decode cX9_groan 27 = .ok (.istore_n 3, 1) := by decide +kernel
theorem dX9_groan_28 : decode cX9_groan 28 = .ok (.iload_n 3, 1) := by decide +kernel
theorem dX9_groan_29 : decode cX9_groan 29 = .ok (.ifCond .eq 7, 3) := by decide +kernel
theorem dX9_groan_32 : decode cX9_groan 32 = .ok (.iload_n 3, 1) := by decide +kernel
theorem dX9_groan_33 : decode cX9_groan 33 = .ok (.goto 14, 3) := by decide +kernel
theorem dX9_groan_36 : decode cX9_groan 36 = .ok (.aload_n 0, 1) := by decide +kernel
theorem dX9_groan_37 : decode cX9_groan 37 = .ok (.aload_n 0, 1) := by decide +kernel
theorem dX9_groan_38 : decode cX9_groan 38 = .ok (.getfield 62, 3) := by decide +kernel
theorem dX9_groan_41 : decode cX9_groan 41 = .ok (.iload_n 1, 1) := by decide +kernel
theorem dX9_groan_42 : decode cX9_groan 42 = .ok (.aaload, 1) := by decide +kernel
theorem dX9_groan_43 : decode cX9_groan 43 = .ok (.iload_n 2, 1) := by decide +kernel
theorem dX9_groan_44 : decode cX9_groan 44 = .ok (.invokevirtual 209, 3) := by decide +kernel
theorem dX9_groan_47 : decode cX9_groan 47 = .ok (.ireturn, 1) := by decide +kernel
theorem dX9_groansTold_0 : decode cX9_groansTold 0 = .ok (.iconst 0, 1) := by decide +kernel
theorem dX9_groansTold_1 : decode cX9_groansTold 1 = .ok (.istore_n 3, 1) := by decide +kernel
theorem dX9_groansTold_2 : decode cX9_groansTold 2 = .ok (.iconst 0, 1) := by decide +kernel
theorem dX9_groansTold_3 : decode cX9_groansTold 3 = .ok (.istore 4, 2) := by decide +kernel
theorem dX9_groansTold_5 : decode cX9_groansTold 5 = .ok (.bipush (-2), 2) := by decide +kernel
theorem dX9_groansTold_7 : decode cX9_groansTold 7 = .ok (.istore 5, 2) := by decide +kernel
theorem dX9_groansTold_9 : decode cX9_groansTold 9 = .ok (.iconst 0, 1) := by decide +kernel
theorem dX9_groansTold_10 : decode cX9_groansTold 10 = .ok (.istore 6, 2) := by decide +kernel
theorem dX9_groansTold_12 : decode cX9_groansTold 12 = .ok (.iload 6, 2) := by decide +kernel
theorem dX9_groansTold_14 : decode cX9_groansTold 14 = .ok (.bipush 10, 2) := by decide +kernel
theorem dX9_groansTold_16 : decode cX9_groansTold 16 = .ok (.if_icmp .ge 108, 3) := by decide +kernel
theorem dX9_groansTold_19 : decode cX9_groansTold 19 = .ok (.aload_n 1, 1) := by decide +kernel
theorem dX9_groansTold_20 : decode cX9_groansTold 20 = .ok (.iconst 2, 1) := by decide +kernel
theorem dX9_groansTold_21 : decode cX9_groansTold 21 = .ok (.iload 6, 2) := by decide +kernel
theorem dX9_groansTold_23 : decode cX9_groansTold 23 = .ok (.imul, 1) := by decide +kernel
theorem dX9_groansTold_24 : decode cX9_groansTold 24 = .ok (.invokevirtual 87, 3) := by decide +kernel
theorem dX9_groansTold_27 : decode cX9_groansTold 27 = .ok (.istore 7, 2) := by decide +kernel
theorem dX9_groansTold_29 : decode cX9_groansTold 29 = .ok (.aload_n 1, 1) := by decide +kernel
theorem dX9_groansTold_30 : decode cX9_groansTold 30 = .ok (.iconst 2, 1) := by decide +kernel
theorem dX9_groansTold_31 : decode cX9_groansTold 31 = .ok (.iload 6, 2) := by decide +kernel
theorem dX9_groansTold_33 : decode cX9_groansTold 33 = .ok (.imul, 1) := by decide +kernel
theorem dX9_groansTold_34 : decode cX9_groansTold 34 = .ok (.iconst 1, 1) := by decide +kernel
theorem dX9_groansTold_35 : decode cX9_groansTold 35 = .ok (.iadd, 1) := by decide +kernel
theorem dX9_groansTold_36 : decode cX9_groansTold 36 = .ok (.invokevirtual 87, 3) := by decide +kernel
theorem dX9_groansTold_39 : decode cX9_groansTold 39 = .ok (.istore 8, 2) := by decide +kernel
theorem dX9_groansTold_41 : decode cX9_groansTold 41 = .ok (.aload_n 0, 1) := by decide +kernel
theorem dX9_groansTold_42 : decode cX9_groansTold 42 = .ok (.getfield 10, 3) := by decide +kernel
theorem dX9_groansTold_45 : decode cX9_groansTold 45 = .ok (.iconst 4, 1) := by decide +kernel
theorem dX9_groansTold_46 : decode cX9_groansTold 46 = .ok (.iload 7, 2) := by decide +kernel
theorem dX9_groansTold_48 : decode cX9_groansTold 48 = .ok (.invokevirtual 67, 3) := by decide +kernel
theorem dX9_groansTold_51 : decode cX9_groansTold 51 = .ok (.ifCond .eq 73, 3) := by decide +kernel
theorem dX9_groansTold_54 : decode cX9_groansTold 54 = .ok (.aload_n 0, 1) := by decide +kernel
theorem dX9_groansTold_55 : decode cX9_groansTold 55 = .ok (.getfield 10, 3) := by decide +kernel
theorem dX9_groansTold_58 : decode cX9_groansTold 58 = .ok (.iconst 0, 1) := by decide +kernel
theorem dX9_groansTold_59 : decode cX9_groansTold 59 = .ok (.iload 8, 2) := by decide +kernel
theorem dX9_groansTold_61 : decode cX9_groansTold 61 = .ok (.invokevirtual 67, 3) := by decide +kernel
theorem dX9_groansTold_64 : decode cX9_groansTold 64 = .ok (.ifCond .ne 6, 3) := by decide +kernel
theorem dX9_groansTold_67 : decode cX9_groansTold 67 = .ok (.goto 57, 3) := by decide +kernel
theorem dX9_groansTold_70 : decode cX9_groansTold 70 = .ok (.iload 8, 2) := by decide +kernel
theorem dX9_groansTold_72 : decode cX9_groansTold 72 = .ok (.aload_n 0, 1) := by decide +kernel
theorem dX9_groansTold_73 : decode cX9_groansTold 73 = .ok (.getfield 10, 3) := by decide +kernel
theorem dX9_groansTold_76 : decode cX9_groansTold 76 = .ok (.iconst 4, 1) := by decide +kernel
theorem dX9_groansTold_77 : decode cX9_groansTold 77 = .ok (.iload 7, 2) := by decide +kernel
theorem dX9_groansTold_79 : decode cX9_groansTold 79 = .ok (.invokevirtual 98, 3) := by decide +kernel
theorem dX9_groansTold_82 : decode cX9_groansTold 82 = .ok (.if_icmp .eq 19, 3) := by decide +kernel
theorem dX9_groansTold_85 : decode cX9_groansTold 85 = .ok (.iload_n 3, 1) := by decide +kernel
theorem dX9_groansTold_86 : decode cX9_groansTold 86 = .ok (.ifCond .ne 8, 3) := by decide +kernel
theorem dX9_groansTold_89 : decode cX9_groansTold 89 = .ok (.iload 7, 2) := by decide +kernel
theorem dX9_groansTold_91 : decode cX9_groansTold 91 = .ok (.goto 5, 3) := by decide +kernel
theorem dX9_groansTold_94 : decode cX9_groansTold 94 = .ok (.iload 5, 2) := by decide +kernel
theorem dX9_groansTold_96 : decode cX9_groansTold 96 = .ok (.istore 5, 2) := by decide +kernel
theorem dX9_groansTold_98 : decode cX9_groansTold 98 = .ok (.iinc 3 1, 3) := by decide +kernel
theorem dX9_groansTold_101 : decode cX9_groansTold 101 = .ok (.aload_n 0, 1) := by decide +kernel
theorem dX9_groansTold_102 : decode cX9_groansTold 102 = .ok (.getfield 10, 3) := by decide +kernel
theorem dX9_groansTold_105 : decode cX9_groansTold 105 = .ok (.iload 7, 2) := by decide +kernel
theorem dX9_groansTold_107 : decode cX9_groansTold 107 = .ok (.iload 8, 2) := by decide +kernel
theorem dX9_groansTold_109 : decode cX9_groansTold 109 = .ok (.invokevirtual 213, 3) := by decide +kernel
theorem dX9_groansTold_112 : decode cX9_groansTold 112 = .ok (.ifCond .eq 6, 3) := by decide +kernel
theorem dX9_groansTold_115 : decode cX9_groansTold 115 = .ok (.iinc 4 1, 3) := by decide +kernel
theorem dX9_groansTold_118 : decode cX9_groansTold 118 = .ok (.iinc 6 1, 3) := by decide +kernel
theorem dX9_groansTold_121 : decode cX9_groansTold 121 = .ok (.goto (-109), 3) := by decide +kernel
theorem dX9_groansTold_124 : decode cX9_groansTold 124 = .ok (.iload_n 2, 1) := by decide +kernel
theorem dX9_groansTold_125 : decode cX9_groansTold 125 = .ok (.ifCond .ne 7, 3) := by decide +kernel
theorem dX9_groansTold_128 : decode cX9_groansTold 128 = .ok (.iload_n 3, 1) := by decide +kernel
theorem dX9_groansTold_129 : decode cX9_groansTold 129 = .ok (.goto 15, 3) := by decide +kernel
theorem dX9_groansTold_132 : decode cX9_groansTold 132 = .ok (.iload_n 2, 1) := by decide +kernel
theorem dX9_groansTold_133 : decode cX9_groansTold 133 = .ok (.iconst 1, 1) := by decide +kernel
theorem dX9_groansTold_134 : decode cX9_groansTold 134 = .ok (.if_icmp .ne 8, 3) := by decide +kernel
theorem dX9_groansTold_137 : decode cX9_groansTold 137 = .ok (.iload 4, 2) := by decide +kernel
theorem dX9_groansTold_139 : decode cX9_groansTold 139 = .ok (.goto 5, 3) := by decide +kernel
theorem dX9_groansTold_142 : decode cX9_groansTold 142 = .ok (.iload 5, 2) := by decide +kernel
theorem dX9_groansTold_144 : decode cX9_groansTold 144 = .ok (.ireturn, 1) := by decide +kernel
theorem dX9_stock_0 : decode cX9_stock 0 = .ok (.iload_n 1, 1) := by decide +kernel
theorem dX9_stock_1 : decode cX9_stock 1 = .ok (.invokestatic 75, 3) := by decide +kernel
theorem dX9_stock_4 : decode cX9_stock 4 = .ok (.ifCond .eq 16, 3) := by decide +kernel
theorem dX9_stock_7 : decode cX9_stock 7 = .ok (.iload_n 2, 1) := by decide +kernel
theorem dX9_stock_8 : decode cX9_stock 8 = .ok (.iconst (-1), 1) := by decide +kernel
theorem dX9_stock_9 : decode cX9_stock 9 = .ok (.if_icmp .eq 15, 3) := by decide +kernel
theorem dX9_stock_12 : decode cX9_stock 12 = .ok (.aload_n 0, 1) := by decide +kernel
theorem dX9_stock_13 : decode cX9_stock 13 = .ok (.iload_n 2, 1) := by decide +kernel
theorem dX9_stock_14 : decode cX9_stock 14 = .ok (.invokevirtual 123, 3) := by decide +kernel
theorem dX9_stock_17 : decode cX9_stock 17 = .ok (.ifCond .ne 7, 3) := by decide +kernel
theorem dX9_stock_20 : decode cX9_stock 20 = .ok (.ldc2_w 138, 3) := by decide +kernel
theorem dX9_stock_23 : decode cX9_stock 23 = .ok (.lreturn, 1) := by decide +kernel
theorem dX9_stock_24 : decode cX9_stock 24 = .ok (.aload_n 0, 1) := by decide +kernel
theorem dX9_stock_25 : decode cX9_stock 25 = .ok (.getfield 62, 3) := by decide +kernel
theorem dX9_stock_28 : decode cX9_stock 28 = .ok (.iload_n 1, 1) := by decide +kernel
theorem dX9_stock_29 : decode cX9_stock 29 = .ok (.aaload, 1) := by decide +kernel
theorem dX9_stock_30 : decode cX9_stock 30 = .ok (.invokevirtual 79, 3) := by decide +kernel
theorem dX9_stock_33 : decode cX9_stock 33 = .ok (.ifCond .ne 19, 3) := by decide +kernel
theorem dX9_stock_36 : decode cX9_stock 36 = .ok (.aload_n 0, 1) := by decide +kernel
theorem dX9_stock_37 : decode cX9_stock 37 = .ok (.getfield 35, 3) := by decide +kernel
theorem dX9_stock_40 : decode cX9_stock 40 = .ok (.aload_n 0, 1) := by decide +kernel
theorem dX9_stock_41 : decode cX9_stock 41 = .ok (.getfield 62, 3) := by decide +kernel
theorem dX9_stock_44 : decode cX9_stock 44 = .ok (.iload_n 1, 1) := by decide +kernel
theorem dX9_stock_45 : decode cX9_stock 45 = .ok (.aaload, 1) := by decide +kernel
theorem dX9_stock_46 : decode cX9_stock 46 = .ok (.invokevirtual 216, 3) := by decide +kernel
theorem dX9_stock_49 : decode cX9_stock 49 = .ok (.ifCond .ne 7, 3) := by decide +kernel
theorem dX9_stock_52 : decode cX9_stock 52 = .ok (.ldc2_w 138, 3) := by decide +kernel
theorem dX9_stock_55 : decode cX9_stock 55 = .ok (.lreturn, 1) := by decide +kernel
theorem dX9_stock_56 : decode cX9_stock 56 = .ok (.iload_n 2, 1) := by decide +kernel
theorem dX9_stock_57 : decode cX9_stock 57 = .ok (.iconst (-1), 1) := by decide +kernel
theorem dX9_stock_58 : decode cX9_stock 58 = .ok (.if_icmp .ne 13, 3) := by decide +kernel
theorem dX9_stock_61 : decode cX9_stock 61 = .ok (.aload_n 0, 1) := by decide +kernel
theorem dX9_stock_62 : decode cX9_stock 62 = .ok (.getfield 35, 3) := by decide +kernel
theorem dX9_stock_65 : decode cX9_stock 65 = .ok (.invokevirtual 220, 3) := by decide +kernel
theorem dX9_stock_68 : decode cX9_stock 68 = .ok (.goto 18, 3) := by decide +kernel
theorem dX9_stock_71 : decode cX9_stock 71 = .ok (.aload_n 0, 1) := by decide +kernel
theorem dX9_stock_72 : decode cX9_stock 72 = .ok (.getfield 35, 3) := by decide +kernel
theorem dX9_stock_75 : decode cX9_stock 75 = .ok (.iload_n 2, 1) := by decide +kernel
theorem dX9_stock_76 : decode cX9_stock 76 = .ok (.bipush 10, 2) := by decide +kernel
theorem dX9_stock_78 : decode cX9_stock 78 = .ok (.idiv, 1) := by decide +kernel
theorem dX9_stock_79 : decode cX9_stock 79 = .ok (.iload_n 2, 1) := by decide +kernel
theorem dX9_stock_80 : decode cX9_stock 80 = .ok (.bipush 10, 2) := by decide +kernel
theorem dX9_stock_82 : decode cX9_stock 82 = .ok (.irem, 1) := by decide +kernel
theorem dX9_stock_83 : decode cX9_stock 83 = .ok (.invokevirtual 223, 3) := by decide +kernel
theorem dX9_stock_86 : decode cX9_stock 86 = .ok (.lreturn, 1) := by decide +kernel
theorem dX9_tells_0 : decode cX9_tells 0 = .ok (.iload_n 1, 1) := by decide +kernel
theorem dX9_tells_1 : decode cX9_tells 1 = .ok (.invokestatic 130, 3) := by decide +kernel
theorem dX9_tells_4 : decode cX9_tells 4 = .ok (.ifCond .ne 5, 3) := by decide +kernel
theorem dX9_tells_7 : decode cX9_tells 7 = .ok (.iconst (-1), 1) := by decide +kernel
theorem dX9_tells_8 : decode cX9_tells 8 = .ok (.ireturn, 1) := by decide +kernel
theorem dX9_tells_9 : decode cX9_tells 9 = .ok (.iload_n 1, 1) := by decide +kernel
theorem dX9_tells_10 : decode cX9_tells 10 = .ok (.ifCond .ne 15, 3) := by decide +kernel
theorem dX9_tells_13 : decode cX9_tells 13 = .ok (.aload_n 0, 1) := by decide +kernel
theorem dX9_tells_14 : decode cX9_tells 14 = .ok (.getfield 10, 3) := by decide +kernel
theorem dX9_tells_17 : decode cX9_tells 17 = .ok (.bipush 7, 2) := by decide +kernel
theorem dX9_tells_19 : decode cX9_tells 19 = .ok (.invokevirtual 226, 3) := by decide +kernel
theorem dX9_tells_22 : decode cX9_tells 22 = .ok (.goto 10, 3) := by decide +kernel
theorem dX9_tells_25 : decode cX9_tells 25 = .ok (.aload_n 0, 1) := by decide +kernel
theorem dX9_tells_26 : decode cX9_tells 26 = .ok (.getfield 10, 3) := by decide +kernel
theorem dX9_tells_29 : decode cX9_tells 29 = .ok (.invokevirtual 229, 3) := by decide +kernel
theorem dX9_tells_32 : decode cX9_tells 32 = .ok (.ireturn, 1) := by decide +kernel
theorem dX9_byTurns_0 : decode cX9_byTurns 0 = .ok (.aload_n 0, 1) := by decide +kernel
theorem dX9_byTurns_1 : decode cX9_byTurns 1 = .ok (.iload_n 1, 1) := by decide +kernel
theorem dX9_byTurns_2 : decode cX9_byTurns 2 = .ok (.invokevirtual 232, 3) := by decide +kernel
theorem dX9_byTurns_5 : decode cX9_byTurns 5 = .ok (.ifCond .eq 20, 3) := by decide +kernel
theorem dX9_byTurns_8 : decode cX9_byTurns 8 = .ok (.iload_n 2, 1) := by decide +kernel
theorem dX9_byTurns_9 : decode cX9_byTurns 9 = .ok (.iconst 1, 1) := by decide +kernel
theorem dX9_byTurns_10 : decode cX9_byTurns 10 = .ok (.if_icmp .lt 15, 3) := by decide +kernel
theorem dX9_byTurns_13 : decode cX9_byTurns 13 = .ok (.iload_n 2, 1) := by decide +kernel
theorem dX9_byTurns_14 : decode cX9_byTurns 14 = .ok (.iconst 4, 1) := by decide +kernel
theorem dX9_byTurns_15 : decode cX9_byTurns 15 = .ok (.if_icmp .gt 10, 3) := by decide +kernel
theorem dX9_byTurns_18 : decode cX9_byTurns 18 = .ok (.iload_n 3, 1) := by decide +kernel
theorem dX9_byTurns_19 : decode cX9_byTurns 19 = .ok (.invokestatic 130, 3) := by decide +kernel
theorem dX9_byTurns_22 : decode cX9_byTurns 22 = .ok (.ifCond .ne 5, 3) := by decide +kernel
theorem dX9_byTurns_25 : decode cX9_byTurns 25 = .ok (.iconst (-1), 1) := by decide +kernel
theorem dX9_byTurns_26 : decode cX9_byTurns 26 = .ok (.ireturn, 1) := by decide +kernel
theorem dX9_byTurns_27 : decode cX9_byTurns 27 = .ok (.aload_n 0, 1) := by decide +kernel
theorem dX9_byTurns_28 : decode cX9_byTurns 28 = .ok (.getfield 10, 3) := by decide +kernel
theorem dX9_byTurns_31 : decode cX9_byTurns 31 = .ok (.iload_n 1, 1) := by decide +kernel
theorem dX9_byTurns_32 : decode cX9_byTurns 32 = .ok (.bipush 10, 2) := by decide +kernel
theorem dX9_byTurns_34 : decode cX9_byTurns 34 = .ok (.irem, 1) := by decide +kernel
theorem dX9_byTurns_35 : decode cX9_byTurns 35 = .ok (.invokevirtual 235, 3) := by decide +kernel
theorem dX9_byTurns_38 : decode cX9_byTurns 38 = .ok (.ifCond .ne 6, 3) := by decide +kernel
theorem dX9_byTurns_41 : decode cX9_byTurns 41 = .ok (.bipush (-5), 2) := by decide +kernel
theorem dX9_byTurns_43 : decode cX9_byTurns 43 = .ok (.ireturn, 1) := by decide +kernel
theorem dX9_byTurns_44 : decode cX9_byTurns 44 = .ok (.iload_n 3, 1) := by decide +kernel
theorem dX9_byTurns_45 : decode cX9_byTurns 45 = .ok (.ifCond .ne 22, 3) := by decide +kernel
theorem dX9_byTurns_48 : decode cX9_byTurns 48 = .ok (.aload_n 0, 1) := by decide +kernel
theorem dX9_byTurns_49 : decode cX9_byTurns 49 = .ok (.getfield 35, 3) := by decide +kernel
theorem dX9_byTurns_52 : decode cX9_byTurns 52 = .ok (.iload_n 1, 1) := by decide +kernel
theorem dX9_byTurns_53 : decode cX9_byTurns 53 = .ok (.bipush 10, 2) := by decide +kernel
theorem dX9_byTurns_55 : decode cX9_byTurns 55 = .ok (.idiv, 1) := by decide +kernel
theorem dX9_byTurns_56 : decode cX9_byTurns 56 = .ok (.iload_n 1, 1) := by decide +kernel
theorem dX9_byTurns_57 : decode cX9_byTurns 57 = .ok (.bipush 10, 2) := by decide +kernel
theorem dX9_byTurns_59 : decode cX9_byTurns 59 = .ok (.irem, 1) := by decide +kernel
theorem dX9_byTurns_60 : decode cX9_byTurns 60 = .ok (.iload_n 2, 1) := by decide +kernel
theorem dX9_byTurns_61 : decode cX9_byTurns 61 = .ok (.invokevirtual 238, 3) := by decide +kernel
theorem dX9_byTurns_64 : decode cX9_byTurns 64 = .ok (.goto 19, 3) := by decide +kernel
theorem dX9_byTurns_67 : decode cX9_byTurns 67 = .ok (.aload_n 0, 1) := by decide +kernel
theorem dX9_byTurns_68 : decode cX9_byTurns 68 = .ok (.getfield 35, 3) := by decide +kernel
theorem dX9_byTurns_71 : decode cX9_byTurns 71 = .ok (.iload_n 1, 1) := by decide +kernel
theorem dX9_byTurns_72 : decode cX9_byTurns 72 = .ok (.bipush 10, 2) := by decide +kernel
theorem dX9_byTurns_74 : decode cX9_byTurns 74 = .ok (.idiv, 1) := by decide +kernel
theorem dX9_byTurns_75 : decode cX9_byTurns 75 = .ok (.iload_n 1, 1) := by decide +kernel
theorem dX9_byTurns_76 : decode cX9_byTurns 76 = .ok (.bipush 10, 2) := by decide +kernel
theorem dX9_byTurns_78 : decode cX9_byTurns 78 = .ok (.irem, 1) := by decide +kernel
theorem dX9_byTurns_79 : decode cX9_byTurns 79 = .ok (.iload_n 2, 1) := by decide +kernel
theorem dX9_byTurns_80 : decode cX9_byTurns 80 = .ok (.invokevirtual 241, 3) := by decide +kernel
theorem dX9_byTurns_83 : decode cX9_byTurns 83 = .ok (.ireturn, 1) := by decide +kernel
theorem dX9_drawn_0 : decode cX9_drawn 0 = .ok (.iload_n 2, 1) := by decide +kernel
theorem dX9_drawn_1 : decode cX9_drawn 1 = .ok (.iconst 1, 1) := by decide +kernel
theorem dX9_drawn_2 : decode cX9_drawn 2 = .ok (.if_icmp .lt 30, 3) := by decide +kernel
theorem dX9_drawn_5 : decode cX9_drawn 5 = .ok (.iload_n 2, 1) := by decide +kernel
theorem dX9_drawn_6 : decode cX9_drawn 6 = .ok (.bipush 30, 2) := by decide +kernel
theorem dX9_drawn_8 : decode cX9_drawn 8 = .ok (.if_icmp .gt 24, 3) := by decide +kernel
theorem dX9_drawn_11 : decode cX9_drawn 11 = .ok (.aload_n 0, 1) := by decide +kernel
theorem dX9_drawn_12 : decode cX9_drawn 12 = .ok (.getfield 10, 3) := by decide +kernel
theorem dX9_drawn_15 : decode cX9_drawn 15 = .ok (.bipush 6, 2) := by decide +kernel
theorem dX9_drawn_17 : decode cX9_drawn 17 = .ok (.iload_n 3, 1) := by decide +kernel
theorem dX9_drawn_18 : decode cX9_drawn 18 = .ok (.invokevirtual 67, 3) := by decide +kernel
theorem dX9_drawn_21 : decode cX9_drawn 21 = .ok (.ifCond .eq 11, 3) := by decide +kernel
theorem dX9_drawn_24 : decode cX9_drawn 24 = .ok (.iload 4, 2) := by decide +kernel
theorem dX9_drawn_26 : decode cX9_drawn 26 = .ok (.invokestatic 130, 3) := by decide +kernel
theorem dX9_drawn_29 : decode cX9_drawn 29 = .ok (.ifCond .ne 6, 3) := by decide +kernel
theorem dX9_drawn_32 : decode cX9_drawn 32 = .ok (.ldc 97, 2) := by decide +kernel
theorem dX9_drawn_34 : decode cX9_drawn 34 = .ok (.ireturn, 1) := by decide +kernel
theorem dX9_drawn_35 : decode cX9_drawn 35 = .ok (.aload_n 0, 1) := by decide +kernel
theorem dX9_drawn_36 : decode cX9_drawn 36 = .ok (.getfield 35, 3) := by decide +kernel
theorem dX9_drawn_39 : decode cX9_drawn 39 = .ok (.iload_n 1, 1) := by decide +kernel
theorem dX9_drawn_40 : decode cX9_drawn 40 = .ok (.iload_n 2, 1) := by decide +kernel
theorem dX9_drawn_41 : decode cX9_drawn 41 = .ok (.iload_n 3, 1) := by decide +kernel
theorem dX9_drawn_42 : decode cX9_drawn 42 = .ok (.iload 4, 2) := by decide +kernel
theorem dX9_drawn_44 : decode cX9_drawn 44 = .ok (.invokevirtual 244, 3) := by decide +kernel
theorem dX9_drawn_47 : decode cX9_drawn 47 = .ok (.ireturn, 1) := by decide +kernel
theorem dX9_sell_0 : decode cX9_sell 0 = .ok (.aload_n 0, 1) := by decide +kernel
theorem dX9_sell_1 : decode cX9_sell 1 = .ok (.getfield 10, 3) := by decide +kernel
theorem dX9_sell_4 : decode cX9_sell 4 = .ok (.iconst 4, 1) := by decide +kernel
theorem dX9_sell_5 : decode cX9_sell 5 = .ok (.iload_n 1, 1) := by decide +kernel
theorem dX9_sell_6 : decode cX9_sell 6 = .ok (.invokevirtual 67, 3) := by decide +kernel
theorem dX9_sell_9 : decode cX9_sell 9 = .ok (.ifCond .eq 16, 3) := by decide +kernel
theorem dX9_sell_12 : decode cX9_sell 12 = .ok (.aload_n 0, 1) := by decide +kernel
theorem dX9_sell_13 : decode cX9_sell 13 = .ok (.getfield 10, 3) := by decide +kernel
theorem dX9_sell_16 : decode cX9_sell 16 = .ok (.bipush 6, 2) := by decide +kernel
theorem dX9_sell_18 : decode cX9_sell 18 = .ok (.iload_n 2, 1) := by decide +kernel
theorem dX9_sell_19 : decode cX9_sell 19 = .ok (.invokevirtual 67, 3) := by decide +kernel
theorem dX9_sell_22 : decode cX9_sell 22 = .ok (.ifCond .ne 5, 3) := by decide +kernel
theorem dX9_sell_25 : decode cX9_sell 25 = .ok (.iconst (-1), 1) := by decide +kernel
theorem dX9_sell_26 : decode cX9_sell 26 = .ok (.ireturn, 1) := by decide +kernel
theorem dX9_sell_27 : decode cX9_sell 27 = .ok (.aload_n 0, 1) := by decide +kernel
theorem dX9_sell_28 : decode cX9_sell 28 = .ok (.getfield 10, 3) := by decide +kernel
theorem dX9_sell_31 : decode cX9_sell 31 = .ok (.iload_n 1, 1) := by decide +kernel
theorem dX9_sell_32 : decode cX9_sell 32 = .ok (.invokevirtual 235, 3) := by decide +kernel
theorem dX9_sell_35 : decode cX9_sell 35 = .ok (.ifCond .eq 25, 3) := by decide +kernel
theorem dX9_sell_38 : decode cX9_sell 38 = .ok (.aload_n 0, 1) := by decide +kernel
theorem dX9_sell_39 : decode cX9_sell 39 = .ok (.getfield 10, 3) := by decide +kernel
theorem dX9_sell_42 : decode cX9_sell 42 = .ok (.bipush 6, 2) := by decide +kernel
theorem dX9_sell_44 : decode cX9_sell 44 = .ok (.iload_n 2, 1) := by decide +kernel
theorem dX9_sell_45 : decode cX9_sell 45 = .ok (.invokevirtual 98, 3) := by decide +kernel
theorem dX9_sell_48 : decode cX9_sell 48 = .ok (.aload_n 0, 1) := by decide +kernel
theorem dX9_sell_49 : decode cX9_sell 49 = .ok (.getfield 10, 3) := by decide +kernel
theorem dX9_sell_52 : decode cX9_sell 52 = .ok (.iconst 5, 1) := by decide +kernel
theorem dX9_sell_53 : decode cX9_sell 53 = .ok (.iload_n 1, 1) := by decide +kernel
theorem dX9_sell_54 : decode cX9_sell 54 = .ok (.invokevirtual 98, 3) := by decide +kernel
theorem dX9_sell_57 : decode cX9_sell 57 = .ok (.if_icmp .ge 6, 3) := by decide +kernel
theorem dX9_sell_60 : decode cX9_sell 60 = .ok (.bipush (-5), 2) := by decide +kernel
theorem dX9_sell_62 : decode cX9_sell 62 = .ok (.ireturn, 1) := by decide +kernel
theorem dX9_sell_63 : decode cX9_sell 63 = .ok (.aload_n 0, 1) := by decide +kernel
theorem dX9_sell_64 : decode cX9_sell 64 = .ok (.getfield 42, 3) := by decide +kernel
theorem dX9_sell_67 : decode cX9_sell 67 = .ok (.iload_n 1, 1) := by decide +kernel
theorem dX9_sell_68 : decode cX9_sell 68 = .ok (.iload_n 2, 1) := by decide +kernel
theorem dX9_sell_69 : decode cX9_sell 69 = .ok (.invokevirtual 248, 3) := by decide +kernel
theorem dX9_sell_72 : decode cX9_sell 72 = .ok (.ireturn, 1) := by decide +kernel
theorem dX9_open_0 : decode cX9_open 0 = .ok (.aload_n 0, 1) := by decide +kernel
theorem dX9_open_1 : decode cX9_open 1 = .ok (.getfield 10, 3) := by decide +kernel
theorem dX9_open_4 : decode cX9_open 4 = .ok (.iconst 4, 1) := by decide +kernel
theorem dX9_open_5 : decode cX9_open 5 = .ok (.iload_n 1, 1) := by decide +kernel
theorem dX9_open_6 : decode cX9_open 6 = .ok (.invokevirtual 67, 3) := by decide +kernel
theorem dX9_open_9 : decode cX9_open 9 = .ok (.ifCond .ne 5, 3) := by decide +kernel
theorem dX9_open_12 : decode cX9_open 12 = .ok (.iconst (-1), 1) := by decide +kernel
theorem dX9_open_13 : decode cX9_open 13 = .ok (.ireturn, 1) := by decide +kernel
theorem dX9_open_14 : decode cX9_open 14 = .ok (.aload_n 0, 1) := by decide +kernel
theorem dX9_open_15 : decode cX9_open 15 = .ok (.getfield 10, 3) := by decide +kernel
theorem dX9_open_18 : decode cX9_open 18 = .ok (.iload_n 1, 1) := by decide +kernel
theorem dX9_open_19 : decode cX9_open 19 = .ok (.invokevirtual 163, 3) := by decide +kernel
theorem dX9_open_22 : decode cX9_open 22 = .ok (.ifCond .eq 6, 3) := by decide +kernel
theorem dX9_open_25 : decode cX9_open 25 = .ok (.bipush (-5), 2) := by decide +kernel
theorem dX9_open_27 : decode cX9_open 27 = .ok (.ireturn, 1) := by decide +kernel
theorem dX9_open_28 : decode cX9_open 28 = .ok (.aload_n 0, 1) := by decide +kernel
theorem dX9_open_29 : decode cX9_open 29 = .ok (.getfield 42, 3) := by decide +kernel
theorem dX9_open_32 : decode cX9_open 32 = .ok (.iload_n 1, 1) := by decide +kernel
theorem dX9_open_33 : decode cX9_open 33 = .ok (.invokevirtual 251, 3) := by decide +kernel
theorem dX9_open_36 : decode cX9_open 36 = .ok (.aload_n 0, 1) := by decide +kernel
theorem dX9_open_37 : decode cX9_open 37 = .ok (.getfield 10, 3) := by decide +kernel
theorem dX9_open_40 : decode cX9_open 40 = .ok (.iconst 4, 1) := by decide +kernel
theorem dX9_open_41 : decode cX9_open 41 = .ok (.iload_n 1, 1) := by decide +kernel
theorem dX9_open_42 : decode cX9_open 42 = .ok (.invokevirtual 98, 3) := by decide +kernel
theorem dX9_open_45 : decode cX9_open 45 = .ok (.ireturn, 1) := by decide +kernel
theorem dX9_dusk_0 : decode cX9_dusk 0 = .ok (.aload_n 0, 1) := by decide +kernel
theorem dX9_dusk_1 : decode cX9_dusk 1 = .ok (.getfield 42, 3) := by decide +kernel
theorem dX9_dusk_4 : decode cX9_dusk 4 = .ok (.invokevirtual 254, 3) := by decide +kernel
theorem dX9_dusk_7 : decode cX9_dusk 7 = .ok (.ireturn, 1) := by decide +kernel
theorem dX9_led_0 : decode cX9_led 0 = .ok (.iload_n 1, 1) := by decide +kernel
theorem dX9_led_1 : decode cX9_led 1 = .ok (.ifCond .lt 8, 3) := by decide +kernel
theorem dX9_led_4 : decode cX9_led 4 = .ok (.iload_n 1, 1) := by decide +kernel
theorem dX9_led_5 : decode cX9_led 5 = .ok (.iconst 5, 1) := by decide +kernel
theorem dX9_led_6 : decode cX9_led 6 = .ok (.if_icmp .lt 7, 3) := by decide +kernel
theorem dX9_led_9 : decode cX9_led 9 = .ok (.iconst (-1), 1) := by decide +kernel
theorem dX9_led_10 : decode cX9_led 10 = .ok (.goto 11, 3) := by decide +kernel
theorem dX9_led_13 : decode cX9_led 13 = .ok (.aload_n 0, 1) := by decide +kernel
theorem dX9_led_14 : decode cX9_led 14 = .ok (.getfield 42, 3) := by decide +kernel
theorem dX9_led_17 : decode cX9_led 17 = .ok (.iload_n 1, 1) := by decide +kernel
theorem dX9_led_18 : decode cX9_led 18 = .ok (.invokevirtual 257, 3) := by decide +kernel
theorem dX9_led_21 : decode cX9_led 21 = .ok (.ireturn, 1) := by decide +kernel
theorem dX9_image_0 : decode cX9_image 0 = .ok (.aload_n 0, 1) := by decide +kernel
theorem dX9_image_1 : decode cX9_image 1 = .ok (.getfield 42, 3) := by decide +kernel
theorem dX9_image_4 : decode cX9_image 4 = .ok (.invokevirtual 260, 3) := by decide +kernel
theorem dX9_image_7 : decode cX9_image 7 = .ok (.aload_n 0, 1) := by decide +kernel
theorem dX9_image_8 : decode cX9_image 8 = .ok (.getfield 42, 3) := by decide +kernel
theorem dX9_image_11 : decode cX9_image 11 = .ok (.iconst 0, 1) := by decide +kernel
theorem dX9_image_12 : decode cX9_image 12 = .ok (.invokevirtual 257, 3) := by decide +kernel
theorem dX9_image_15 : decode cX9_image 15 = .ok (.ireturn, 1) := by decide +kernel
theorem dX9_back_0 : decode cX9_back 0 = .ok (.aload_n 0, 1) := by decide +kernel
theorem dX9_back_1 : decode cX9_back 1 = .ok (.getfield 42, 3) := by decide +kernel
theorem dX9_back_4 : decode cX9_back 4 = .ok (.getfield 263, 3) := by decide +kernel
theorem dX9_back_7 : decode cX9_back 7 = .ok (.ifCond .ne 6, 3) := by decide +kernel
theorem dX9_back_10 : decode cX9_back 10 = .ok (.bipush (-5), 2) := by decide +kernel
theorem dX9_back_12 : decode cX9_back 12 = .ok (.ireturn, 1) := by decide +kernel
theorem dX9_back_13 : decode cX9_back 13 = .ok (.aload_n 0, 1) := by decide +kernel
theorem dX9_back_14 : decode cX9_back 14 = .ok (.getfield 42, 3) := by decide +kernel
theorem dX9_back_17 : decode cX9_back 17 = .ok (.invokevirtual 267, 3) := by decide +kernel
theorem dX9_back_20 : decode cX9_back 20 = .ok (.aload_n 0, 1) := by decide +kernel
theorem dX9_back_21 : decode cX9_back 21 = .ok (.getfield 42, 3) := by decide +kernel
theorem dX9_back_24 : decode cX9_back 24 = .ok (.iconst 0, 1) := by decide +kernel
theorem dX9_back_25 : decode cX9_back 25 = .ok (.invokevirtual 257, 3) := by decide +kernel
theorem dX9_back_28 : decode cX9_back 28 = .ok (.ireturn, 1) := by decide +kernel
theorem dX9_undo_0 : decode cX9_undo 0 = .ok (.aload_n 0, 1) := by decide +kernel
theorem dX9_undo_1 : decode cX9_undo 1 = .ok (.getfield 49, 3) := by decide +kernel
theorem dX9_undo_4 : decode cX9_undo 4 = .ok (.aload_n 0, 1) := by decide +kernel
theorem dX9_undo_5 : decode cX9_undo 5 = .ok (.getfield 10, 3) := by decide +kernel
theorem dX9_undo_8 : decode cX9_undo 8 = .ok (.invokevirtual 270, 3) := by decide +kernel
theorem dX9_undo_11 : decode cX9_undo 11 = .ok (.ifCond .eq 13, 3) := by decide +kernel
theorem dX9_undo_14 : decode cX9_undo 14 = .ok (.aload_n 0, 1) := by decide +kernel
theorem dX9_undo_15 : decode cX9_undo 15 = .ok (.getfield 49, 3) := by decide +kernel
theorem dX9_undo_18 : decode cX9_undo 18 = .ok (.getfield 274, 3) := by decide +kernel
theorem dX9_undo_21 : decode cX9_undo 21 = .ok (.goto 5, 3) := by decide +kernel
theorem dX9_undo_24 : decode cX9_undo 24 = .ok (.bipush (-5), 2) := by decide +kernel
theorem dX9_undo_26 : decode cX9_undo 26 = .ok (.ireturn, 1) := by decide +kernel
theorem dX9_redo_0 : decode cX9_redo 0 = .ok (.aload_n 0, 1) := by decide +kernel
theorem dX9_redo_1 : decode cX9_redo 1 = .ok (.getfield 49, 3) := by decide +kernel
theorem dX9_redo_4 : decode cX9_redo 4 = .ok (.aload_n 0, 1) := by decide +kernel
theorem dX9_redo_5 : decode cX9_redo 5 = .ok (.getfield 10, 3) := by decide +kernel
theorem dX9_redo_8 : decode cX9_redo 8 = .ok (.invokevirtual 277, 3) := by decide +kernel
theorem dX9_redo_11 : decode cX9_redo 11 = .ok (.ifCond .eq 21, 3) := by decide +kernel
theorem dX9_redo_14 : decode cX9_redo 14 = .ok (.aload_n 0, 1) := by decide +kernel
theorem dX9_redo_15 : decode cX9_redo 15 = .ok (.getfield 49, 3) := by decide +kernel
theorem dX9_redo_18 : decode cX9_redo 18 = .ok (.getfield 280, 3) := by decide +kernel
theorem dX9_redo_21 : decode cX9_redo 21 = .ok (.aload_n 0, 1) := by decide +kernel
theorem dX9_redo_22 : decode cX9_redo 22 = .ok (.getfield 49, 3) := by decide +kernel
theorem dX9_redo_25 : decode cX9_redo 25 = .ok (.getfield 274, 3) := by decide +kernel
theorem dX9_redo_28 : decode cX9_redo 28 = .ok (.isub, 1) := by decide +kernel
theorem dX9_redo_29 : decode cX9_redo 29 = .ok (.goto 5, 3) := by decide +kernel
theorem dX9_redo_32 : decode cX9_redo 32 = .ok (.bipush (-5), 2) := by decide +kernel
theorem dX9_redo_34 : decode cX9_redo 34 = .ok (.ireturn, 1) := by decide +kernel
theorem dX9_body_0 : decode cX9_body 0 = .ok (.iload_n 1, 1) := by decide +kernel
theorem dX9_body_1 : decode cX9_body 1 = .ok (.ifCond .lt 9, 3) := by decide +kernel
theorem dX9_body_4 : decode cX9_body 4 = .ok (.iload_n 1, 1) := by decide +kernel
theorem dX9_body_5 : decode cX9_body 5 = .ok (.bipush 8, 2) := by decide +kernel
theorem dX9_body_7 : decode cX9_body 7 = .ok (.if_icmp .lt 7, 3) := by decide +kernel
theorem dX9_body_10 : decode cX9_body 10 = .ok (.iconst (-1), 1) := by decide +kernel
theorem dX9_body_11 : decode cX9_body 11 = .ok (.goto 11, 3) := by decide +kernel
theorem dX9_body_14 : decode cX9_body 14 = .ok (.aload_n 0, 1) := by decide +kernel
theorem dX9_body_15 : decode cX9_body 15 = .ok (.getfield 56, 3) := by decide +kernel
theorem dX9_body_18 : decode cX9_body 18 = .ok (.iload_n 1, 1) := by decide +kernel
theorem dX9_body_19 : decode cX9_body 19 = .ok (.invokevirtual 283, 3) := by decide +kernel
theorem dX9_body_22 : decode cX9_body 22 = .ok (.ireturn, 1) := by decide +kernel
theorem dX9_act_0 : decode cX9_act 0 = .ok (.aload_n 0, 1) := by decide +kernel
theorem dX9_act_1 : decode cX9_act 1 = .ok (.getfield 56, 3) := by decide +kernel
theorem dX9_act_4 : decode cX9_act 4 = .ok (.iload_n 1, 1) := by decide +kernel
theorem dX9_act_5 : decode cX9_act 5 = .ok (.iload_n 2, 1) := by decide +kernel
theorem dX9_act_6 : decode cX9_act 6 = .ok (.iload_n 3, 1) := by decide +kernel
theorem dX9_act_7 : decode cX9_act 7 = .ok (.invokevirtual 286, 3) := by decide +kernel
theorem dX9_act_10 : decode cX9_act 10 = .ok (.ireturn, 1) := by decide +kernel
theorem dX9_trace_0 : decode cX9_trace 0 = .ok (.aload_n 0, 1) := by decide +kernel
theorem dX9_trace_1 : decode cX9_trace 1 = .ok (.getfield 56, 3) := by decide +kernel
theorem dX9_trace_4 : decode cX9_trace 4 = .ok (.iload_n 1, 1) := by decide +kernel
theorem dX9_trace_5 : decode cX9_trace 5 = .ok (.invokevirtual 289, 3) := by decide +kernel
theorem dX9_trace_8 : decode cX9_trace 8 = .ok (.ireturn, 1) := by decide +kernel
theorem dX9_keep_0 : decode cX9_keep 0 = .ok (.iload_n 1, 1) := by decide +kernel
theorem dX9_keep_1 : decode cX9_keep 1 = .ok (.invokestatic 75, 3) := by decide +kernel
theorem dX9_keep_4 : decode cX9_keep 4 = .ok (.ifCond .eq 19, 3) := by decide +kernel
theorem dX9_keep_7 : decode cX9_keep 7 = .ok (.iload_n 2, 1) := by decide +kernel
theorem dX9_keep_8 : decode cX9_keep 8 = .ok (.iconst (-1), 1) := by decide +kernel
theorem dX9_keep_9 : decode cX9_keep 9 = .ok (.if_icmp .eq 16, 3) := by decide +kernel
theorem dX9_keep_12 : decode cX9_keep 12 = .ok (.aload_n 0, 1) := by decide +kernel
theorem dX9_keep_13 : decode cX9_keep 13 = .ok (.getfield 56, 3) := by decide +kernel
theorem dX9_keep_16 : decode cX9_keep 16 = .ok (.iload_n 2, 1) := by decide +kernel
theorem dX9_keep_17 : decode cX9_keep 17 = .ok (.invokevirtual 292, 3) := by decide +kernel
theorem dX9_keep_20 : decode cX9_keep 20 = .ok (.ifCond .ne 5, 3) := by decide +kernel
theorem dX9_keep_23 : decode cX9_keep 23 = .ok (.iconst (-1), 1) := by decide +kernel
theorem dX9_keep_24 : decode cX9_keep 24 = .ok (.ireturn, 1) := by decide +kernel
theorem dX9_keep_25 : decode cX9_keep 25 = .ok (.aload_n 0, 1) := by decide +kernel
theorem dX9_keep_26 : decode cX9_keep 26 = .ok (.getfield 62, 3) := by decide +kernel
theorem dX9_keep_29 : decode cX9_keep 29 = .ok (.iload_n 1, 1) := by decide +kernel
theorem dX9_keep_30 : decode cX9_keep 30 = .ok (.aaload, 1) := by decide +kernel
theorem dX9_keep_31 : decode cX9_keep 31 = .ok (.iload_n 2, 1) := by decide +kernel
theorem dX9_keep_32 : decode cX9_keep 32 = .ok (.invokevirtual 295, 3) := by decide +kernel
theorem dX9_keep_35 : decode cX9_keep 35 = .ok (.iconst 1, 1) := by decide +kernel
theorem dX9_keep_36 : decode cX9_keep 36 = .ok (.ireturn, 1) := by decide +kernel
theorem dX9_row_0 : decode cX9_row 0 = .ok (.iload_n 1, 1) := by decide +kernel
theorem dX9_row_1 : decode cX9_row 1 = .ok (.invokestatic 75, 3) := by decide +kernel
theorem dX9_row_4 : decode cX9_row 4 = .ok (.ifCond .eq 18, 3) := by decide +kernel
theorem dX9_row_7 : decode cX9_row 7 = .ok (.iload_n 2, 1) := by decide +kernel
theorem dX9_row_8 : decode cX9_row 8 = .ok (.ifCond .lt 14, 3) := by decide +kernel
theorem dX9_row_11 : decode cX9_row 11 = .ok (.iload_n 2, 1) := by decide +kernel
theorem dX9_row_12 : decode cX9_row 12 = .ok (.iconst 4, 1) := by decide +kernel
theorem dX9_row_13 : decode cX9_row 13 = .ok (.if_icmp .gt 9, 3) := by decide +kernel
theorem dX9_row_16 : decode cX9_row 16 = .ok (.iload_n 3, 1) := by decide +kernel
theorem dX9_row_17 : decode cX9_row 17 = .ok (.bipush 60, 2) := by decide +kernel
theorem dX9_row_19 : decode cX9_row 19 = .ok (.if_icmp .le 5, 3) := by decide +kernel
theorem dX9_row_22 : decode cX9_row 22 = .ok (.iconst (-1), 1) := by decide +kernel
theorem dX9_row_23 : decode cX9_row 23 = .ok (.ireturn, 1) := by decide +kernel
theorem dX9_row_24 : decode cX9_row 24 = .ok (.iload_n 3, 1) := by decide +kernel
theorem dX9_row_25 : decode cX9_row 25 = .ok (.ifCond .ge 6, 3) := by decide +kernel
theorem dX9_row_28 : decode cX9_row 28 = .ok (.bipush (-14), 2) := by decide +kernel
theorem dX9_row_30 : decode cX9_row 30 = .ok (.ireturn, 1) := by decide +kernel
theorem dX9_row_31 : decode cX9_row 31 = .ok (.aload_n 0, 1) := by decide +kernel
theorem dX9_row_32 : decode cX9_row 32 = .ok (.getfield 62, 3) := by decide +kernel
theorem dX9_row_35 : decode cX9_row 35 = .ok (.iload_n 1, 1) := by decide +kernel
theorem dX9_row_36 : decode cX9_row 36 = .ok (.aaload, 1) := by decide +kernel
theorem dX9_row_37 : decode cX9_row 37 = .ok (.iload_n 2, 1) := by decide +kernel
theorem dX9_row_38 : decode cX9_row 38 = .ok (.iload_n 3, 1) := by decide +kernel
theorem dX9_row_39 : decode cX9_row 39 = .ok (.invokevirtual 298, 3) := by decide +kernel
theorem dX9_row_42 : decode cX9_row 42 = .ok (.iconst 1, 1) := by decide +kernel
theorem dX9_row_43 : decode cX9_row 43 = .ok (.ireturn, 1) := by decide +kernel
theorem dX9_put_0 : decode cX9_put 0 = .ok (.aload_n 0, 1) := by decide +kernel
theorem dX9_put_1 : decode cX9_put 1 = .ok (.iload_n 1, 1) := by decide +kernel
theorem dX9_put_2 : decode cX9_put 2 = .ok (.iload_n 2, 1) := by decide +kernel
theorem dX9_put_3 : decode cX9_put 3 = .ok (.invokevirtual 301, 3) := by decide +kernel
theorem dX9_put_6 : decode cX9_put 6 = .ok (.istore 5, 2) := by decide +kernel
theorem dX9_put_8 : decode cX9_put 8 = .ok (.iload 5, 2) := by decide +kernel
theorem dX9_put_10 : decode cX9_put 10 = .ok (.ifCond .eq 6, 3) := by decide +kernel
theorem dX9_put_13 : decode cX9_put 13 = .ok (.iload 5, 2) := by decide +kernel
theorem dX9_put_15 : decode cX9_put 15 = .ok (.ireturn, 1) := by decide +kernel
theorem dX9_put_16 : decode cX9_put 16 = .ok (.aload_n 0, 1) := by decide +kernel
theorem dX9_put_17 : decode cX9_put 17 = .ok (.getfield 62, 3) := by decide +kernel
theorem dX9_put_20 : decode cX9_put 20 = .ok (.iload_n 1, 1) := by decide +kernel
theorem dX9_put_21 : decode cX9_put 21 = .ok (.aaload, 1) := by decide +kernel
theorem dX9_put_22 : decode cX9_put 22 = .ok (.iload_n 2, 1) := by decide +kernel
theorem dX9_put_23 : decode cX9_put 23 = .ok (.lload_n 3, 1) := by decide +kernel
theorem dX9_put_24 : decode cX9_put 24 = .ok (.invokevirtual 304, 3) := by decide +kernel
theorem dX9_put_27 : decode cX9_put 27 = .ok (.iconst 1, 1) := by decide +kernel
theorem dX9_put_28 : decode cX9_put 28 = .ok (.ireturn, 1) := by decide +kernel
theorem dX9_element_0 : decode cX9_element 0 = .ok (.aload_n 0, 1) := by decide +kernel
theorem dX9_element_1 : decode cX9_element 1 = .ok (.iload_n 1, 1) := by decide +kernel
theorem dX9_element_2 : decode cX9_element 2 = .ok (.iload_n 2, 1) := by decide +kernel
theorem dX9_element_3 : decode cX9_element 3 = .ok (.invokevirtual 301, 3) := by decide +kernel
theorem dX9_element_6 : decode cX9_element 6 = .ok (.ifCond .eq 9, 3) := by decide +kernel
theorem dX9_element_9 : decode cX9_element 9 = .ok (.ldc2_w 138, 3) := by decide +kernel
theorem dX9_element_12 : decode cX9_element 12 = .ok (.goto 14, 3) := by decide +kernel
theorem dX9_element_15 : decode cX9_element 15 = .ok (.aload_n 0, 1) := by decide +kernel
theorem dX9_element_16 : decode cX9_element 16 = .ok (.getfield 62, 3) := by decide +kernel
theorem dX9_element_19 : decode cX9_element 19 = .ok (.iload_n 1, 1) := by decide +kernel
theorem dX9_element_20 : decode cX9_element 20 = .ok (.aaload, 1) := by decide +kernel
theorem dX9_element_21 : decode cX9_element 21 = .ok (.getfield 307, 3) := by decide +kernel
theorem dX9_element_24 : decode cX9_element 24 = .ok (.iload_n 2, 1) := by decide +kernel
theorem dX9_element_25 : decode cX9_element 25 = .ok (.laload, 1) := by decide +kernel
theorem dX9_element_26 : decode cX9_element 26 = .ok (.lreturn, 1) := by decide +kernel
theorem dX9_shift_0 : decode cX9_shift 0 = .ok (.iload_n 1, 1) := by decide +kernel
theorem dX9_shift_1 : decode cX9_shift 1 = .ok (.invokestatic 75, 3) := by decide +kernel
theorem dX9_shift_4 : decode cX9_shift 4 = .ok (.ifCond .eq 10, 3) := by decide +kernel
theorem dX9_shift_7 : decode cX9_shift 7 = .ok (.iload_n 3, 1) := by decide +kernel
theorem dX9_shift_8 : decode cX9_shift 8 = .ok (.invokestatic 75, 3) := by decide +kernel
theorem dX9_shift_11 : decode cX9_shift 11 = .ok (.ifCond .ne 5, 3) := by decide +kernel
theorem dX9_shift_14 : decode cX9_shift 14 = .ok (.iconst (-1), 1) := by decide +kernel
theorem dX9_shift_15 : decode cX9_shift 15 = .ok (.ireturn, 1) := by decide +kernel
theorem dX9_shift_16 : decode cX9_shift 16 = .ok (.aload_n 0, 1) := by decide +kernel
theorem dX9_shift_17 : decode cX9_shift 17 = .ok (.getfield 62, 3) := by decide +kernel
theorem dX9_shift_20 : decode cX9_shift 20 = .ok (.iload_n 1, 1) := by decide +kernel
theorem dX9_shift_21 : decode cX9_shift 21 = .ok (.aaload, 1) := by decide +kernel
theorem dX9_shift_22 : decode cX9_shift 22 = .ok (.astore 6, 2) := by decide +kernel
theorem dX9_shift_24 : decode cX9_shift 24 = .ok (.aload_n 0, 1) := by decide +kernel
theorem dX9_shift_25 : decode cX9_shift 25 = .ok (.getfield 62, 3) := by decide +kernel
theorem dX9_shift_28 : decode cX9_shift 28 = .ok (.iload_n 3, 1) := by decide +kernel
theorem dX9_shift_29 : decode cX9_shift 29 = .ok (.aaload, 1) := by decide +kernel
theorem dX9_shift_30 : decode cX9_shift 30 = .ok (.astore 7, 2) := by decide +kernel
theorem dX9_shift_32 : decode cX9_shift 32 = .ok (.aload 6, 2) := by decide +kernel
theorem dX9_shift_34 : decode cX9_shift 34 = .ok (.getfield 311, 3) := by decide +kernel
theorem dX9_shift_37 : decode cX9_shift 37 = .ok (.ifCond .eq 11, 3) := by decide +kernel
theorem dX9_shift_40 : decode cX9_shift 40 = .ok (.aload 7, 2) := by decide +kernel
theorem dX9_shift_42 : decode cX9_shift 42 = .ok (.getfield 311, 3) := by decide +kernel
theorem dX9_shift_45 : decode cX9_shift 45 = .ok (.ifCond .ne 6, 3) := by decide +kernel
theorem dX9_shift_48 : decode cX9_shift 48 = .ok (.bipush (-11), 2) := by decide +kernel
theorem dX9_shift_50 : decode cX9_shift 50 = .ok (.ireturn, 1) := by decide +kernel
theorem dX9_shift_51 : decode cX9_shift 51 = .ok (.aload 6, 2) := by decide +kernel
theorem dX9_shift_53 : decode cX9_shift 53 = .ok (.getfield 311, 3) := by decide +kernel
theorem dX9_shift_56 : decode cX9_shift 56 = .ok (.iconst 2, 1) := by decide +kernel
theorem dX9_shift_57 : decode cX9_shift 57 = .ok (.if_icmp .ne 25, 3) := by decide +kernel
theorem dX9_shift_60 : decode cX9_shift 60 = .ok (.aload 7, 2) := by decide +kernel
theorem dX9_shift_62 : decode cX9_shift 62 = .ok (.getfield 311, 3) := by decide +kernel
theorem dX9_shift_65 : decode cX9_shift 65 = .ok (.iconst 2, 1) := by decide +kernel
theorem dX9_shift_66 : decode cX9_shift 66 = .ok (.if_icmp .ne 16, 3) := by decide +kernel
theorem dX9_shift_69 : decode cX9_shift 69 = .ok (.aload 6, 2) := by decide +kernel
theorem dX9_shift_71 : decode cX9_shift 71 = .ok (.getfield 313, 3) := by decide +kernel
theorem dX9_shift_74 : decode cX9_shift 74 = .ok (.aload 7, 2) := by decide +kernel
theorem dX9_shift_76 : decode cX9_shift 76 = .ok (.getfield 313, 3) := by decide +kernel
theorem dX9_shift_79 : decode cX9_shift 79 = .ok (.if_icmp .eq 6, 3) := by decide +kernel
theorem dX9_shift_82 : decode cX9_shift 82 = .ok (.bipush (-12), 2) := by decide +kernel
theorem dX9_shift_84 : decode cX9_shift 84 = .ok (.ireturn, 1) := by decide +kernel
theorem dX9_shift_85 : decode cX9_shift 85 = .ok (.aload 6, 2) := by decide +kernel
theorem dX9_shift_87 : decode cX9_shift 87 = .ok (.iload_n 2, 1) := by decide +kernel
theorem dX9_shift_88 : decode cX9_shift 88 = .ok (.iload 5, 2) := by decide +kernel
theorem dX9_shift_90 : decode cX9_shift 90 = .ok (.invokevirtual 316, 3) := by decide +kernel
theorem dX9_shift_93 : decode cX9_shift 93 = .ok (.ifCond .eq 15, 3) := by decide +kernel
theorem dX9_shift_96 : decode cX9_shift 96 = .ok (.aload 7, 2) := by decide +kernel
theorem dX9_shift_98 : decode cX9_shift 98 = .ok (.iload 4, 2) := by decide +kernel
theorem dX9_shift_100 : decode cX9_shift 100 = .ok (.iload 5, 2) := by decide +kernel
theorem dX9_shift_102 : decode cX9_shift 102 = .ok (.invokevirtual 316, 3) := by decide +kernel
theorem dX9_shift_105 : decode cX9_shift 105 = .ok (.ifCond .ne 6, 3) := by decide +kernel
theorem dX9_shift_108 : decode cX9_shift 108 = .ok (.bipush (-13), 2) := by decide +kernel
theorem dX9_shift_110 : decode cX9_shift 110 = .ok (.ireturn, 1) := by decide +kernel
theorem dX9_shift_111 : decode cX9_shift 111 = .ok (.aload 6, 2) := by decide +kernel
theorem dX9_shift_113 : decode cX9_shift 113 = .ok (.getfield 307, 3) := by decide +kernel
theorem dX9_shift_116 : decode cX9_shift 116 = .ok (.iload_n 2, 1) := by decide +kernel
theorem dX9_shift_117 : decode cX9_shift 117 = .ok (.aload 7, 2) := by decide +kernel
theorem dX9_shift_119 : decode cX9_shift 119 = .ok (.getfield 307, 3) := by decide +kernel
theorem dX9_shift_122 : decode cX9_shift 122 = .ok (.iload 4, 2) := by decide +kernel
theorem dX9_shift_124 : decode cX9_shift 124 = .ok (.iload 5, 2) := by decide +kernel
theorem dX9_shift_126 : decode cX9_shift 126 = .ok (.invokestatic 319, 3) := by decide +kernel
theorem dX9_shift_129 : decode cX9_shift 129 = .ok (.iload 5, 2) := by decide +kernel
theorem dX9_shift_131 : decode cX9_shift 131 = .ok (.ireturn, 1) := by decide +kernel
theorem dX9_taken_0 : decode cX9_taken 0 = .ok (.iload_n 1, 1) := by decide +kernel
theorem dX9_taken_1 : decode cX9_taken 1 = .ok (.invokestatic 75, 3) := by decide +kernel
theorem dX9_taken_4 : decode cX9_taken 4 = .ok (.ifCond .eq 13, 3) := by decide +kernel
theorem dX9_taken_7 : decode cX9_taken 7 = .ok (.iload_n 2, 1) := by decide +kernel
theorem dX9_taken_8 : decode cX9_taken 8 = .ok (.ifCond .lt 9, 3) := by decide +kernel
theorem dX9_taken_11 : decode cX9_taken 11 = .ok (.iload_n 2, 1) := by decide +kernel
theorem dX9_taken_12 : decode cX9_taken 12 = .ok (.bipush 8, 2) := by decide +kernel
theorem dX9_taken_14 : decode cX9_taken 14 = .ok (.if_icmp .lt 5, 3) := by decide +kernel
theorem dX9_taken_17 : decode cX9_taken 17 = .ok (.iconst (-1), 1) := by decide +kernel
theorem dX9_taken_18 : decode cX9_taken 18 = .ok (.ireturn, 1) := by decide +kernel
theorem dX9_taken_19 : decode cX9_taken 19 = .ok (.aload_n 0, 1) := by decide +kernel
theorem dX9_taken_20 : decode cX9_taken 20 = .ok (.getfield 62, 3) := by decide +kernel
theorem dX9_taken_23 : decode cX9_taken 23 = .ok (.iload_n 1, 1) := by decide +kernel
theorem dX9_taken_24 : decode cX9_taken 24 = .ok (.aaload, 1) := by decide +kernel
theorem dX9_taken_25 : decode cX9_taken 25 = .ok (.astore_n 3, 1) := by decide +kernel
theorem dX9_taken_26 : decode cX9_taken 26 = .ok (.aload_n 3, 1) := by decide +kernel
theorem dX9_taken_27 : decode cX9_taken 27 = .ok (.getfield 311, 3) := by decide +kernel
theorem dX9_taken_30 : decode cX9_taken 30 = .ok (.ifCond .ne 6, 3) := by decide +kernel
theorem dX9_taken_33 : decode cX9_taken 33 = .ok (.bipush (-11), 2) := by decide +kernel
theorem dX9_taken_35 : decode cX9_taken 35 = .ok (.ireturn, 1) := by decide +kernel
theorem dX9_taken_36 : decode cX9_taken 36 = .ok (.aload_n 3, 1) := by decide +kernel
theorem dX9_taken_37 : decode cX9_taken 37 = .ok (.getfield 311, 3) := by decide +kernel
theorem dX9_taken_40 : decode cX9_taken 40 = .ok (.iconst 1, 1) := by decide +kernel
theorem dX9_taken_41 : decode cX9_taken 41 = .ok (.if_icmp .ne 18, 3) := by decide +kernel
theorem dX9_taken_44 : decode cX9_taken 44 = .ok (.aload_n 0, 1) := by decide +kernel
theorem dX9_taken_45 : decode cX9_taken 45 = .ok (.getfield 56, 3) := by decide +kernel
theorem dX9_taken_48 : decode cX9_taken 48 = .ok (.aload_n 3, 1) := by decide +kernel
theorem dX9_taken_49 : decode cX9_taken 49 = .ok (.getfield 325, 3) := by decide +kernel
theorem dX9_taken_52 : decode cX9_taken 52 = .ok (.iload_n 2, 1) := by decide +kernel
theorem dX9_taken_53 : decode cX9_taken 53 = .ok (.invokevirtual 328, 3) := by decide +kernel
theorem dX9_taken_56 : decode cX9_taken 56 = .ok (.ifCond .ne 6, 3) := by decide +kernel
theorem dX9_taken_59 : decode cX9_taken 59 = .ok (.bipush (-12), 2) := by decide +kernel
theorem dX9_taken_61 : decode cX9_taken 61 = .ok (.ireturn, 1) := by decide +kernel
theorem dX9_taken_62 : decode cX9_taken 62 = .ok (.aload_n 0, 1) := by decide +kernel
theorem dX9_taken_63 : decode cX9_taken 63 = .ok (.getfield 56, 3) := by decide +kernel
theorem dX9_taken_66 : decode cX9_taken 66 = .ok (.aload_n 3, 1) := by decide +kernel
theorem dX9_taken_67 : decode cX9_taken 67 = .ok (.getfield 325, 3) := by decide +kernel
theorem dX9_taken_70 : decode cX9_taken 70 = .ok (.invokevirtual 331, 3) := by decide +kernel
theorem dX9_taken_73 : decode cX9_taken 73 = .ok (.ireturn, 1) := by decide +kernel
theorem dX9_count_0 : decode cX9_count 0 = .ok (.iload_n 1, 1) := by decide +kernel
theorem dX9_count_1 : decode cX9_count 1 = .ok (.tableswitch 87 0 5 #[39, 47, 55, 63, 71, 79], 39) := by decide +kernel
theorem dX9_count_40 : decode cX9_count 40 = .ok (.aload_n 0, 1) := by decide +kernel
theorem dX9_count_41 : decode cX9_count 41 = .ok (.getfield 10, 3) := by decide +kernel
theorem dX9_count_44 : decode cX9_count 44 = .ok (.getfield 177, 3) := by decide +kernel
theorem dX9_count_47 : decode cX9_count 47 = .ok (.ireturn, 1) := by decide +kernel
theorem dX9_count_48 : decode cX9_count 48 = .ok (.aload_n 0, 1) := by decide +kernel
theorem dX9_count_49 : decode cX9_count 49 = .ok (.getfield 10, 3) := by decide +kernel
theorem dX9_count_52 : decode cX9_count 52 = .ok (.getfield 334, 3) := by decide +kernel
theorem dX9_count_55 : decode cX9_count 55 = .ok (.ireturn, 1) := by decide +kernel
theorem dX9_count_56 : decode cX9_count 56 = .ok (.aload_n 0, 1) := by decide +kernel
theorem dX9_count_57 : decode cX9_count 57 = .ok (.getfield 19, 3) := by decide +kernel
theorem dX9_count_60 : decode cX9_count 60 = .ok (.getfield 337, 3) := by decide +kernel
theorem dX9_count_63 : decode cX9_count 63 = .ok (.ireturn, 1) := by decide +kernel
theorem dX9_count_64 : decode cX9_count 64 = .ok (.aload_n 0, 1) := by decide +kernel
theorem dX9_count_65 : decode cX9_count 65 = .ok (.getfield 49, 3) := by decide +kernel
theorem dX9_count_68 : decode cX9_count 68 = .ok (.getfield 274, 3) := by decide +kernel
theorem dX9_count_71 : decode cX9_count 71 = .ok (.ireturn, 1) := by decide +kernel
theorem dX9_count_72 : decode cX9_count 72 = .ok (.aload_n 0, 1) := by decide +kernel
theorem dX9_count_73 : decode cX9_count 73 = .ok (.getfield 56, 3) := by decide +kernel
theorem dX9_count_76 : decode cX9_count 76 = .ok (.getfield 340, 3) := by decide +kernel
theorem dX9_count_79 : decode cX9_count 79 = .ok (.ireturn, 1) := by decide +kernel
theorem dX9_count_80 : decode cX9_count 80 = .ok (.aload_n 0, 1) := by decide +kernel
theorem dX9_count_81 : decode cX9_count 81 = .ok (.getfield 56, 3) := by decide +kernel
theorem dX9_count_84 : decode cX9_count 84 = .ok (.getfield 343, 3) := by decide +kernel
theorem dX9_count_87 : decode cX9_count 87 = .ok (.ireturn, 1) := by decide +kernel
theorem dX9_count_88 : decode cX9_count 88 = .ok (.iconst (-1), 1) := by decide +kernel
theorem dX9_count_89 : decode cX9_count 89 = .ok (.ireturn, 1) := by decide +kernel
theorem dX9_isShelf_0 : decode cX9_isShelf 0 = .ok (.iload_n 0, 1) := by decide +kernel
theorem dX9_isShelf_1 : decode cX9_isShelf 1 = .ok (.ifCond .lt 13, 3) := by decide +kernel
theorem dX9_isShelf_4 : decode cX9_isShelf 4 = .ok (.iload_n 0, 1) := by decide +kernel
theorem dX9_isShelf_5 : decode cX9_isShelf 5 = .ok (.bipush 6, 2) := by decide +kernel
theorem dX9_isShelf_7 : decode cX9_isShelf 7 = .ok (.if_icmp .ge 7, 3) := by decide +kernel
theorem dX9_isShelf_10 : decode cX9_isShelf 10 = .ok (.iconst 1, 1) := by decide +kernel
theorem dX9_isShelf_11 : decode cX9_isShelf 11 = .ok (.goto 4, 3) := by decide +kernel
theorem dX9_isShelf_14 : decode cX9_isShelf 14 = .ok (.iconst 0, 1) := by decide +kernel
theorem dX9_isShelf_15 : decode cX9_isShelf 15 = .ok (.ireturn, 1) := by decide +kernel
theorem dX9_isPart_0 : decode cX9_isPart 0 = .ok (.iload_n 0, 1) := by decide +kernel
theorem dX9_isPart_1 : decode cX9_isPart 1 = .ok (.ifCond .eq 8, 3) := by decide +kernel
theorem dX9_isPart_4 : decode cX9_isPart 4 = .ok (.iload_n 0, 1) := by decide +kernel
theorem dX9_isPart_5 : decode cX9_isPart 5 = .ok (.iconst 1, 1) := by decide +kernel
theorem dX9_isPart_6 : decode cX9_isPart 6 = .ok (.if_icmp .ne 7, 3) := by decide +kernel
theorem dX9_isPart_9 : decode cX9_isPart 9 = .ok (.iconst 1, 1) := by decide +kernel
theorem dX9_isPart_10 : decode cX9_isPart 10 = .ok (.goto 4, 3) := by decide +kernel
theorem dX9_isPart_13 : decode cX9_isPart 13 = .ok (.iconst 0, 1) := by decide +kernel
theorem dX9_isPart_14 : decode cX9_isPart 14 = .ok (.ireturn, 1) := by decide +kernel
theorem dX9_isBuyerAndSack_0 : decode cX9_isBuyerAndSack 0 = .ok (.iload_n 1, 1) := by decide +kernel
theorem dX9_isBuyerAndSack_1 : decode cX9_isBuyerAndSack 1 = .ok (.ifCond .lt 38, 3) := by decide +kernel
theorem dX9_isBuyerAndSack_4 : decode cX9_isBuyerAndSack 4 = .ok (.aload_n 0, 1) := by decide +kernel
theorem dX9_isBuyerAndSack_5 : decode cX9_isBuyerAndSack 5 = .ok (.getfield 10, 3) := by decide +kernel
theorem dX9_isBuyerAndSack_8 : decode cX9_isBuyerAndSack 8 = .ok (.bipush 6, 2) := by decide +kernel
theorem dX9_isBuyerAndSack_10 : decode cX9_isBuyerAndSack 10 = .ok (.iload_n 1, 1) := by decide +kernel
theorem dX9_isBuyerAndSack_11 : decode cX9_isBuyerAndSack 11 = .ok (.bipush 10, 2) := by decide +kernel
theorem dX9_isBuyerAndSack_13 : decode cX9_isBuyerAndSack 13 = .ok (.idiv, 1) := by decide +kernel
theorem dX9_isBuyerAndSack_14 : decode cX9_isBuyerAndSack 14 = .ok (.invokevirtual 67, 3) := by decide +kernel
theorem dX9_isBuyerAndSack_17 : decode cX9_isBuyerAndSack 17 = .ok (.ifCond .eq 22, 3) := by decide +kernel
theorem dX9_isBuyerAndSack_20 : decode cX9_isBuyerAndSack 20 = .ok (.aload_n 0, 1) := by decide +kernel
theorem dX9_isBuyerAndSack_21 : decode cX9_isBuyerAndSack 21 = .ok (.getfield 10, 3) := by decide +kernel
theorem dX9_isBuyerAndSack_24 : decode cX9_isBuyerAndSack 24 = .ok (.iconst 4, 1) := by decide +kernel
theorem dX9_isBuyerAndSack_25 : decode cX9_isBuyerAndSack 25 = .ok (.iload_n 1, 1) := by decide +kernel
theorem dX9_isBuyerAndSack_26 : decode cX9_isBuyerAndSack 26 = .ok (.bipush 10, 2) := by decide +kernel
theorem dX9_isBuyerAndSack_28 : decode cX9_isBuyerAndSack 28 = .ok (.irem, 1) := by decide +kernel
theorem dX9_isBuyerAndSack_29 : decode cX9_isBuyerAndSack 29 = .ok (.invokevirtual 67, 3) := by decide +kernel
theorem dX9_isBuyerAndSack_32 : decode cX9_isBuyerAndSack 32 = .ok (.ifCond .eq 7, 3) := by decide +kernel
theorem dX9_isBuyerAndSack_35 : decode cX9_isBuyerAndSack 35 = .ok (.iconst 1, 1) := by decide +kernel
theorem dX9_isBuyerAndSack_36 : decode cX9_isBuyerAndSack 36 = .ok (.goto 4, 3) := by decide +kernel
theorem dX9_isBuyerAndSack_39 : decode cX9_isBuyerAndSack 39 = .ok (.iconst 0, 1) := by decide +kernel
theorem dX9_isBuyerAndSack_40 : decode cX9_isBuyerAndSack 40 = .ok (.ireturn, 1) := by decide +kernel
theorem dX9_isSackAndGood_0 : decode cX9_isSackAndGood 0 = .ok (.iload_n 1, 1) := by decide +kernel
theorem dX9_isSackAndGood_1 : decode cX9_isSackAndGood 1 = .ok (.ifCond .lt 37, 3) := by decide +kernel
theorem dX9_isSackAndGood_4 : decode cX9_isSackAndGood 4 = .ok (.aload_n 0, 1) := by decide +kernel
theorem dX9_isSackAndGood_5 : decode cX9_isSackAndGood 5 = .ok (.getfield 10, 3) := by decide +kernel
theorem dX9_isSackAndGood_8 : decode cX9_isSackAndGood 8 = .ok (.iconst 4, 1) := by decide +kernel
theorem dX9_isSackAndGood_9 : decode cX9_isSackAndGood 9 = .ok (.iload_n 1, 1) := by decide +kernel
theorem dX9_isSackAndGood_10 : decode cX9_isSackAndGood 10 = .ok (.bipush 10, 2) := by decide +kernel
theorem dX9_isSackAndGood_12 : decode cX9_isSackAndGood 12 = .ok (.idiv, 1) := by decide +kernel
theorem dX9_isSackAndGood_13 : decode cX9_isSackAndGood 13 = .ok (.invokevirtual 67, 3) := by decide +kernel
theorem dX9_isSackAndGood_16 : decode cX9_isSackAndGood 16 = .ok (.ifCond .eq 22, 3) := by decide +kernel
theorem dX9_isSackAndGood_19 : decode cX9_isSackAndGood 19 = .ok (.aload_n 0, 1) := by decide +kernel
theorem dX9_isSackAndGood_20 : decode cX9_isSackAndGood 20 = .ok (.getfield 10, 3) := by decide +kernel
theorem dX9_isSackAndGood_23 : decode cX9_isSackAndGood 23 = .ok (.iconst 0, 1) := by decide +kernel
theorem dX9_isSackAndGood_24 : decode cX9_isSackAndGood 24 = .ok (.iload_n 1, 1) := by decide +kernel
theorem dX9_isSackAndGood_25 : decode cX9_isSackAndGood 25 = .ok (.bipush 10, 2) := by decide +kernel
theorem dX9_isSackAndGood_27 : decode cX9_isSackAndGood 27 = .ok (.irem, 1) := by decide +kernel
theorem dX9_isSackAndGood_28 : decode cX9_isSackAndGood 28 = .ok (.invokevirtual 67, 3) := by decide +kernel
theorem dX9_isSackAndGood_31 : decode cX9_isSackAndGood 31 = .ok (.ifCond .eq 7, 3) := by decide +kernel
theorem dX9_isSackAndGood_34 : decode cX9_isSackAndGood 34 = .ok (.iconst 1, 1) := by decide +kernel
theorem dX9_isSackAndGood_35 : decode cX9_isSackAndGood 35 = .ok (.goto 4, 3) := by decide +kernel
theorem dX9_isSackAndGood_38 : decode cX9_isSackAndGood 38 = .ok (.iconst 0, 1) := by decide +kernel
theorem dX9_isSackAndGood_39 : decode cX9_isSackAndGood 39 = .ok (.ireturn, 1) := by decide +kernel
theorem dX9_within_0 : decode cX9_within 0 = .ok (.iload_n 0, 1) := by decide +kernel
theorem dX9_within_1 : decode cX9_within 1 = .ok (.ifCond .lt 33, 3) := by decide +kernel
theorem dX9_within_4 : decode cX9_within 4 = .ok (.iload_n 0, 1) := by decide +kernel
theorem dX9_within_5 : decode cX9_within 5 = .ok (.getstatic 346, 3) := by decide +kernel
theorem dX9_within_8 : decode cX9_within 8 = .ok (.arraylength, 1) := by decide +kernel
theorem dX9_within_9 : decode cX9_within 9 = .ok (.if_icmp .ge 25, 3) := by decide +kernel
theorem dX9_within_12 : decode cX9_within 12 = .ok (.iload_n 1, 1) := by decide +kernel
theorem dX9_within_13 : decode cX9_within 13 = .ok (.getstatic 346, 3) := by decide +kernel
theorem dX9_within_16 : decode cX9_within 16 = .ok (.iload_n 0, 1) := by decide +kernel
theorem dX9_within_17 : decode cX9_within 17 = .ok (.iaload, 1) := by decide +kernel
theorem dX9_within_18 : decode cX9_within 18 = .ok (.if_icmp .lt 16, 3) := by decide +kernel
theorem dX9_within_21 : decode cX9_within 21 = .ok (.iload_n 1, 1) := by decide +kernel
theorem dX9_within_22 : decode cX9_within 22 = .ok (.getstatic 350, 3) := by decide +kernel
theorem dX9_within_25 : decode cX9_within 25 = .ok (.iload_n 0, 1) := by decide +kernel
theorem dX9_within_26 : decode cX9_within 26 = .ok (.iaload, 1) := by decide +kernel
theorem dX9_within_27 : decode cX9_within 27 = .ok (.if_icmp .gt 7, 3) := by decide +kernel
theorem dX9_within_30 : decode cX9_within 30 = .ok (.iconst 1, 1) := by decide +kernel
theorem dX9_within_31 : decode cX9_within 31 = .ok (.goto 4, 3) := by decide +kernel
theorem dX9_within_34 : decode cX9_within 34 = .ok (.iconst 0, 1) := by decide +kernel
theorem dX9_within_35 : decode cX9_within 35 = .ok (.ireturn, 1) := by decide +kernel
theorem dX9_looksRefusal_0 : decode cX9_looksRefusal 0 = .ok (.iload_n 1, 1) := by decide +kernel
theorem dX9_looksRefusal_1 : decode cX9_looksRefusal 1 = .ok (.invokestatic 75, 3) := by decide +kernel
theorem dX9_looksRefusal_4 : decode cX9_looksRefusal 4 = .ok (.ifCond .eq 23, 3) := by decide +kernel
theorem dX9_looksRefusal_7 : decode cX9_looksRefusal 7 = .ok (.aload_n 0, 1) := by decide +kernel
theorem dX9_looksRefusal_8 : decode cX9_looksRefusal 8 = .ok (.iload_n 2, 1) := by decide +kernel
theorem dX9_looksRefusal_9 : decode cX9_looksRefusal 9 = .ok (.invokevirtual 232, 3) := by decide +kernel
theorem dX9_looksRefusal_12 : decode cX9_looksRefusal 12 = .ok (.ifCond .eq 15, 3) := by decide +kernel
theorem dX9_looksRefusal_15 : decode cX9_looksRefusal 15 = .ok (.aload_n 0, 1) := by decide +kernel
theorem dX9_looksRefusal_16 : decode cX9_looksRefusal 16 = .ok (.getfield 62, 3) := by decide +kernel
theorem dX9_looksRefusal_19 : decode cX9_looksRefusal 19 = .ok (.iload_n 1, 1) := by decide +kernel
theorem dX9_looksRefusal_20 : decode cX9_looksRefusal 20 = .ok (.aaload, 1) := by decide +kernel
theorem dX9_looksRefusal_21 : decode cX9_looksRefusal 21 = .ok (.invokevirtual 79, 3) := by decide +kernel
theorem dX9_looksRefusal_24 : decode cX9_looksRefusal 24 = .ok (.goto 4, 3) := by decide +kernel
theorem dX9_looksRefusal_27 : decode cX9_looksRefusal 27 = .ok (.iconst (-1), 1) := by decide +kernel
theorem dX9_looksRefusal_28 : decode cX9_looksRefusal 28 = .ok (.ireturn, 1) := by decide +kernel
theorem dX9_placeRefusal_0 : decode cX9_placeRefusal 0 = .ok (.iload_n 1, 1) := by decide +kernel
theorem dX9_placeRefusal_1 : decode cX9_placeRefusal 1 = .ok (.invokestatic 75, 3) := by decide +kernel
theorem dX9_placeRefusal_4 : decode cX9_placeRefusal 4 = .ok (.ifCond .ne 5, 3) := by decide +kernel
theorem dX9_placeRefusal_7 : decode cX9_placeRefusal 7 = .ok (.iconst (-1), 1) := by decide +kernel
theorem dX9_placeRefusal_8 : decode cX9_placeRefusal 8 = .ok (.ireturn, 1) := by decide +kernel
theorem dX9_placeRefusal_9 : decode cX9_placeRefusal 9 = .ok (.aload_n 0, 1) := by decide +kernel
theorem dX9_placeRefusal_10 : decode cX9_placeRefusal 10 = .ok (.getfield 62, 3) := by decide +kernel
theorem dX9_placeRefusal_13 : decode cX9_placeRefusal 13 = .ok (.iload_n 1, 1) := by decide +kernel
theorem dX9_placeRefusal_14 : decode cX9_placeRefusal 14 = .ok (.aaload, 1) := by decide +kernel
theorem dX9_placeRefusal_15 : decode cX9_placeRefusal 15 = .ok (.astore_n 3, 1) := by decide +kernel
theorem dX9_placeRefusal_16 : decode cX9_placeRefusal 16 = .ok (.aload_n 3, 1) := by decide +kernel
theorem dX9_placeRefusal_17 : decode cX9_placeRefusal 17 = .ok (.getfield 311, 3) := by decide +kernel
theorem dX9_placeRefusal_20 : decode cX9_placeRefusal 20 = .ok (.ifCond .ne 6, 3) := by decide +kernel
theorem dX9_placeRefusal_23 : decode cX9_placeRefusal 23 = .ok (.bipush (-11), 2) := by decide +kernel
theorem dX9_placeRefusal_25 : decode cX9_placeRefusal 25 = .ok (.ireturn, 1) := by decide +kernel
theorem dX9_placeRefusal_26 : decode cX9_placeRefusal 26 = .ok (.aload_n 3, 1) := by decide +kernel
theorem dX9_placeRefusal_27 : decode cX9_placeRefusal 27 = .ok (.getfield 311, 3) := by decide +kernel
theorem dX9_placeRefusal_30 : decode cX9_placeRefusal 30 = .ok (.iconst 2, 1) := by decide +kernel
theorem dX9_placeRefusal_31 : decode cX9_placeRefusal 31 = .ok (.if_icmp .eq 6, 3) := by decide +kernel
theorem dX9_placeRefusal_34 : decode cX9_placeRefusal 34 = .ok (.bipush (-12), 2) := by decide +kernel
theorem dX9_placeRefusal_36 : decode cX9_placeRefusal 36 = .ok (.ireturn, 1) := by decide +kernel
theorem dX9_placeRefusal_37 : decode cX9_placeRefusal 37 = .ok (.aload_n 3, 1) := by decide +kernel
theorem dX9_placeRefusal_38 : decode cX9_placeRefusal 38 = .ok (.iload_n 2, 1) := by decide +kernel
theorem dX9_placeRefusal_39 : decode cX9_placeRefusal 39 = .ok (.iconst 1, 1) := by decide +kernel
theorem dX9_placeRefusal_40 : decode cX9_placeRefusal 40 = .ok (.invokevirtual 316, 3) := by decide +kernel
theorem dX9_placeRefusal_43 : decode cX9_placeRefusal 43 = .ok (.ifCond .eq 7, 3) := by decide +kernel
theorem dX9_placeRefusal_46 : decode cX9_placeRefusal 46 = .ok (.iconst 0, 1) := by decide +kernel
theorem dX9_placeRefusal_47 : decode cX9_placeRefusal 47 = .ok (.goto 5, 3) := by decide +kernel
theorem dX9_placeRefusal_50 : decode cX9_placeRefusal 50 = .ok (.bipush (-13), 2) := by decide +kernel
theorem dX9_placeRefusal_52 : decode cX9_placeRefusal 52 = .ok (.ireturn, 1) := by decide +kernel
theorem dX9_reduced_0 : decode cX9_reduced 0 = .ok (.lload_n 0, 1) := by decide +kernel
theorem dX9_reduced_1 : decode cX9_reduced 1 = .ok (.lstore 5, 2) := by decide +kernel
theorem dX9_reduced_3 : decode cX9_reduced 3 = .ok (.lload_n 2, 1) := by decide +kernel
theorem dX9_reduced_4 : decode cX9_reduced 4 = .ok (.lstore 7, 2) := by decide +kernel
theorem dX9_reduced_6 : decode cX9_reduced 6 = .ok (.iconst 0, 1) := by decide +kernel
theorem dX9_reduced_7 : decode cX9_reduced 7 = .ok (.istore 9, 2) := by decide +kernel
theorem dX9_reduced_9 : decode cX9_reduced 9 = .ok (.iload 9, 2) := by decide +kernel
theorem dX9_reduced_11 : decode cX9_reduced 11 = .ok (.sipush 200, 3) := by decide +kernel
theorem dX9_reduced_14 : decode cX9_reduced 14 = .ok (.if_icmp .ge 31, 3) := by decide +kernel
theorem dX9_reduced_17 : decode cX9_reduced 17 = .ok (.lload 7, 2) := by decide +kernel
theorem dX9_reduced_19 : decode cX9_reduced 19 = .ok (.lconst 0, 1) := by decide +kernel
theorem dX9_reduced_20 : decode cX9_reduced 20 = .ok (.lcmp, 1) := by decide +kernel
theorem dX9_reduced_21 : decode cX9_reduced 21 = .ok (.ifCond .eq 24, 3) := by decide +kernel
theorem dX9_reduced_24 : decode cX9_reduced 24 = .ok (.lload 5, 2) := by decide +kernel
theorem dX9_reduced_26 : decode cX9_reduced 26 = .ok (.lload 7, 2) := by decide +kernel
theorem dX9_reduced_28 : decode cX9_reduced 28 = .ok (.lrem, 1) := by decide +kernel
theorem dX9_reduced_29 : decode cX9_reduced 29 = .ok (.lstore 10, 2) := by decide +kernel
theorem dX9_reduced_31 : decode cX9_reduced 31 = .ok (.lload 7, 2) := by decide +kernel
theorem dX9_reduced_33 : decode cX9_reduced 33 = .ok (.lstore 5, 2) := by decide +kernel
theorem dX9_reduced_35 : decode cX9_reduced 35 = .ok (.lload 10, 2) := by decide +kernel
theorem dX9_reduced_37 : decode cX9_reduced 37 = .ok (.lstore 7, 2) := by decide +kernel
theorem dX9_reduced_39 : decode cX9_reduced 39 = .ok (.iinc 9 1, 3) := by decide +kernel
theorem dX9_reduced_42 : decode cX9_reduced 42 = .ok (.goto (-33), 3) := by decide +kernel
theorem dX9_reduced_45 : decode cX9_reduced 45 = .ok (.iload 4, 2) := by decide +kernel
theorem dX9_reduced_47 : decode cX9_reduced 47 = .ok (.ifCond .ne 7, 3) := by decide +kernel
theorem dX9_reduced_50 : decode cX9_reduced 50 = .ok (.lload_n 0, 1) := by decide +kernel
theorem dX9_reduced_51 : decode cX9_reduced 51 = .ok (.goto 4, 3) := by decide +kernel
theorem dX9_reduced_54 : decode cX9_reduced 54 = .ok (.lload_n 2, 1) := by decide +kernel
theorem dX9_reduced_55 : decode cX9_reduced 55 = .ok (.lstore 9, 2) := by decide +kernel
theorem dX9_reduced_57 : decode cX9_reduced 57 = .ok (.lload 5, 2) := by decide +kernel
theorem dX9_reduced_59 : decode cX9_reduced 59 = .ok (.lconst 0, 1) := by decide +kernel
theorem dX9_reduced_60 : decode cX9_reduced 60 = .ok (.lcmp, 1) := by decide +kernel
theorem dX9_reduced_61 : decode cX9_reduced 61 = .ok (.ifCond .ne 8, 3) := by decide +kernel
theorem dX9_reduced_64 : decode cX9_reduced 64 = .ok (.lload 9, 2) := by decide +kernel
theorem dX9_reduced_66 : decode cX9_reduced 66 = .ok (.goto 8, 3) := by decide +kernel
theorem dX9_reduced_69 : decode cX9_reduced 69 = .ok (.lload 9, 2) := by decide +kernel
theorem dX9_reduced_71 : decode cX9_reduced 71 = .ok (.lload 5, 2) := by decide +kernel
theorem dX9_reduced_73 : decode cX9_reduced 73 = .ok (.ldiv, 1) := by decide +kernel
theorem dX9_reduced_74 : decode cX9_reduced 74 = .ok (.lreturn, 1) := by decide +kernel
theorem dX10_within_0 : decode cX10_within 0 = .ok (.lload_n 0, 1) := by decide +kernel
theorem dX10_within_1 : decode cX10_within 1 = .ok (.lload_n 2, 1) := by decide +kernel
theorem dX10_within_2 : decode cX10_within 2 = .ok (.lcmp, 1) := by decide +kernel
theorem dX10_within_3 : decode cX10_within 3 = .ok (.ifCond .lt 14, 3) := by decide +kernel
theorem dX10_within_6 : decode cX10_within 6 = .ok (.lload_n 0, 1) := by decide +kernel
theorem dX10_within_7 : decode cX10_within 7 = .ok (.lload 4, 2) := by decide +kernel
theorem dX10_within_9 : decode cX10_within 9 = .ok (.lcmp, 1) := by decide +kernel
theorem dX10_within_10 : decode cX10_within 10 = .ok (.ifCond .gt 7, 3) := by decide +kernel
theorem dX10_within_13 : decode cX10_within 13 = .ok (.iconst 1, 1) := by decide +kernel
theorem dX10_within_14 : decode cX10_within 14 = .ok (.goto 4, 3) := by decide +kernel
theorem dX10_within_17 : decode cX10_within 17 = .ok (.iconst 0, 1) := by decide +kernel
theorem dX10_within_18 : decode cX10_within 18 = .ok (.ireturn, 1) := by decide +kernel
theorem dX10_isIn_0 : decode cX10_isIn 0 = .ok (.iload_n 0, 1) := by decide +kernel
theorem dX10_isIn_1 : decode cX10_isIn 1 = .ok (.iload_n 1, 1) := by decide +kernel
theorem dX10_isIn_2 : decode cX10_isIn 2 = .ok (.ishr, 1) := by decide +kernel
theorem dX10_isIn_3 : decode cX10_isIn 3 = .ok (.iconst 1, 1) := by decide +kernel
theorem dX10_isIn_4 : decode cX10_isIn 4 = .ok (.iand, 1) := by decide +kernel
theorem dX10_isIn_5 : decode cX10_isIn 5 = .ok (.iconst 1, 1) := by decide +kernel
theorem dX10_isIn_6 : decode cX10_isIn 6 = .ok (.if_icmp .ne 7, 3) := by decide +kernel
theorem dX10_isIn_9 : decode cX10_isIn 9 = .ok (.iconst 1, 1) := by decide +kernel
theorem dX10_isIn_10 : decode cX10_isIn 10 = .ok (.goto 4, 3) := by decide +kernel
theorem dX10_isIn_13 : decode cX10_isIn 13 = .ok (.iconst 0, 1) := by decide +kernel
theorem dX10_isIn_14 : decode cX10_isIn 14 = .ok (.ireturn, 1) := by decide +kernel
theorem dX10_bitsOf_0 : decode cX10_bitsOf 0 = .ok (.iconst 0, 1) := by decide +kernel
theorem dX10_bitsOf_1 : decode cX10_bitsOf 1 = .ok (.istore_n 1, 1) := by decide +kernel
theorem dX10_bitsOf_2 : decode cX10_bitsOf 2 = .ok (.iconst 0, 1) := by decide +kernel
theorem dX10_bitsOf_3 : decode cX10_bitsOf 3 = .ok (.istore_n 2, 1) := by decide +kernel
theorem dX10_bitsOf_4 : decode cX10_bitsOf 4 = .ok (.iload_n 2, 1) := by decide +kernel
theorem dX10_bitsOf_5 : decode cX10_bitsOf 5 = .ok (.bipush 10, 2) := by decide +kernel
theorem dX10_bitsOf_7 : decode cX10_bitsOf 7 = .ok (.if_icmp .ge 17, 3) := by decide +kernel
theorem dX10_bitsOf_10 : decode cX10_bitsOf 10 = .ok (.iload_n 1, 1) := by decide +kernel
theorem dX10_bitsOf_11 : decode cX10_bitsOf 11 = .ok (.iload_n 0, 1) := by decide +kernel
theorem dX10_bitsOf_12 : decode cX10_bitsOf 12 = .ok (.iload_n 2, 1) := by decide +kernel
theorem dX10_bitsOf_13 : decode cX10_bitsOf 13 = .ok (.ishr, 1) := by decide +kernel
theorem dX10_bitsOf_14 : decode cX10_bitsOf 14 = .ok (.iconst 1, 1) := by decide +kernel
theorem dX10_bitsOf_15 : decode cX10_bitsOf 15 = .ok (.iand, 1) := by decide +kernel
theorem dX10_bitsOf_16 : decode cX10_bitsOf 16 = .ok (.iadd, 1) := by decide +kernel
theorem dX10_bitsOf_17 : decode cX10_bitsOf 17 = .ok (.istore_n 1, 1) := by decide +kernel
theorem dX10_bitsOf_18 : decode cX10_bitsOf 18 = .ok (.iinc 2 1, 3) := by decide +kernel
theorem dX10_bitsOf_21 : decode cX10_bitsOf 21 = .ok (.goto (-17), 3) := by decide +kernel
theorem dX10_bitsOf_24 : decode cX10_bitsOf 24 = .ok (.iload_n 1, 1) := by decide +kernel
theorem dX10_bitsOf_25 : decode cX10_bitsOf 25 = .ok (.ireturn, 1) := by decide +kernel
theorem dX10_init_0 : decode cX10_init 0 = .ok (.aload_n 0, 1) := by decide +kernel
theorem dX10_init_1 : decode cX10_init 1 = .ok (.invokespecial 3, 3) := by decide +kernel
theorem dX10_init_4 : decode cX10_init 4 = .ok (.aload_n 0, 1) := by decide +kernel
theorem dX10_init_5 : decode cX10_init 5 = .ok (.bipush 62, 2) := by decide +kernel
theorem dX10_init_7 : decode cX10_init 7 = .ok (.newarray .int, 2) := by decide +kernel
theorem dX10_init_9 : decode cX10_init 9 = .ok (.putfield 9, 3) := by decide +kernel
theorem dX10_init_12 : decode cX10_init 12 = .ok (.aload_n 0, 1) := by decide +kernel
theorem dX10_init_13 : decode cX10_init 13 = .ok (.bipush 40, 2) := by decide +kernel
theorem dX10_init_15 : decode cX10_init 15 = .ok (.newarray .int, 2) := by decide +kernel
theorem dX10_init_17 : decode cX10_init 17 = .ok (.putfield 13, 3) := by decide +kernel
theorem dX10_init_20 : decode cX10_init 20 = .ok (.aload_n 0, 1) := by decide +kernel
theorem dX10_init_21 : decode cX10_init 21 = .ok (.bipush 40, 2) := by decide +kernel
theorem dX10_init_23 : decode cX10_init 23 = .ok (.newarray .int, 2) := by decide +kernel
theorem dX10_init_25 : decode cX10_init 25 = .ok (.putfield 16, 3) := by decide +kernel
theorem dX10_init_28 : decode cX10_init 28 = .ok (.aload_n 0, 1) := by decide +kernel
theorem dX10_init_29 : decode cX10_init 29 = .ok (.bipush 40, 2) := by decide +kernel
theorem dX10_init_31 : decode cX10_init 31 = .ok (.newarray .int, 2) := by decide +kernel
theorem dX10_init_33 : decode cX10_init 33 = .ok (.putfield 19, 3) := by decide +kernel
theorem dX10_init_36 : decode cX10_init 36 = .ok (.aload_n 0, 1) := by decide +kernel
theorem dX10_init_37 : decode cX10_init 37 = .ok (.bipush 10, 2) := by decide +kernel
theorem dX10_init_39 : decode cX10_init 39 = .ok (.newarray .int, 2) := by decide +kernel
theorem dX10_init_41 : decode cX10_init 41 = .ok (.putfield 22, 3) := by decide +kernel
theorem dX10_init_44 : decode cX10_init 44 = .ok (.aload_n 0, 1) := by decide +kernel
theorem dX10_init_45 : decode cX10_init 45 = .ok (.bipush 10, 2) := by decide +kernel
theorem dX10_init_47 : decode cX10_init 47 = .ok (.newarray .boolean, 2) := by decide +kernel
theorem dX10_init_49 : decode cX10_init 49 = .ok (.putfield 25, 3) := by decide +kernel
theorem dX10_init_52 : decode cX10_init 52 = .ok (.aload_n 0, 1) := by decide +kernel
theorem dX10_init_53 : decode cX10_init 53 = .ok (.bipush 120, 2) := by decide +kernel
theorem dX10_init_55 : decode cX10_init 55 = .ok (.newarray .int, 2) := by decide +kernel
theorem dX10_init_57 : decode cX10_init 57 = .ok (.putfield 29, 3) := by decide +kernel
theorem dX10_init_60 : decode cX10_init 60 = .ok (.aload_n 0, 1) := by decide +kernel
theorem dX10_init_61 : decode cX10_init 61 = .ok (.bipush 120, 2) := by decide +kernel
theorem dX10_init_63 : decode cX10_init 63 = .ok (.newarray .int, 2) := by decide +kernel
theorem dX10_init_65 : decode cX10_init 65 = .ok (.putfield 32, 3) := by decide +kernel
theorem dX10_init_68 : decode cX10_init 68 = .ok (.aload_n 0, 1) := by decide +kernel
theorem dX10_init_69 : decode cX10_init 69 = .ok (.bipush 6, 2) := by decide +kernel
theorem dX10_init_71 : decode cX10_init 71 = .ok (.newarray .int, 2) := by decide +kernel
theorem dX10_init_73 : decode cX10_init 73 = .ok (.putfield 35, 3) := by decide +kernel
theorem dX10_init_76 : decode cX10_init 76 = .ok (.aload_n 0, 1) := by decide +kernel
theorem dX10_init_77 : decode cX10_init 77 = .ok (.bipush 6, 2) := by decide +kernel
theorem dX10_init_79 : decode cX10_init 79 = .ok (.newarray .long, 2) := by decide +kernel
theorem dX10_init_81 : decode cX10_init 81 = .ok (.putfield 38, 3) := by decide +kernel
theorem dX10_init_84 : decode cX10_init 84 = .ok (.aload_n 0, 1) := by decide +kernel
theorem dX10_init_85 : decode cX10_init 85 = .ok (.bipush 10, 2) := by decide +kernel
theorem dX10_init_87 : decode cX10_init 87 = .ok (.newarray .int, 2) := by decide +kernel
theorem dX10_init_89 : decode cX10_init 89 = .ok (.putfield 42, 3) := by decide +kernel
theorem dX10_init_92 : decode cX10_init 92 = .ok (.aload_n 0, 1) := by decide +kernel
theorem dX10_init_93 : decode cX10_init 93 = .ok (.sipush 7168, 3) := by decide +kernel
theorem dX10_init_96 : decode cX10_init 96 = .ok (.newarray .int, 2) := by decide +kernel
theorem dX10_init_98 : decode cX10_init 98 = .ok (.putfield 45, 3) := by decide +kernel
theorem dX10_init_101 : decode cX10_init 101 = .ok (.aload_n 0, 1) := by decide +kernel
theorem dX10_init_102 : decode cX10_init 102 = .ok (.bipush 6, 2) := by decide +kernel
theorem dX10_init_104 : decode cX10_init 104 = .ok (.newarray .int, 2) := by decide +kernel
theorem dX10_init_106 : decode cX10_init 106 = .ok (.putfield 48, 3) := by decide +kernel
theorem dX10_init_109 : decode cX10_init 109 = .ok (.aload_n 0, 1) := by decide +kernel
theorem dX10_init_110 : decode cX10_init 110 = .ok (.iconst 5, 1) := by decide +kernel
theorem dX10_init_111 : decode cX10_init 111 = .ok (.newarray .int, 2) := by decide +kernel
theorem dX10_init_113 : decode cX10_init 113 = .ok (.putfield 51, 3) := by decide +kernel
theorem dX10_init_116 : decode cX10_init 116 = .ok (.aload_n 0, 1) := by decide +kernel
theorem dX10_init_117 : decode cX10_init 117 = .ok (.bipush 10, 2) := by decide +kernel
theorem dX10_init_119 : decode cX10_init 119 = .ok (.newarray .int, 2) := by decide +kernel
theorem dX10_init_121 : decode cX10_init 121 = .ok (.putfield 54, 3) := by decide +kernel
theorem dX10_init_124 : decode cX10_init 124 = .ok (.aload_n 0, 1) := by decide +kernel
theorem dX10_init_125 : decode cX10_init 125 = .ok (.bipush 10, 2) := by decide +kernel
theorem dX10_init_127 : decode cX10_init 127 = .ok (.newarray .boolean, 2) := by decide +kernel
theorem dX10_init_129 : decode cX10_init 129 = .ok (.putfield 57, 3) := by decide +kernel
theorem dX10_init_132 : decode cX10_init 132 = .ok (.aload_n 0, 1) := by decide +kernel
theorem dX10_init_133 : decode cX10_init 133 = .ok (.bipush 6, 2) := by decide +kernel
theorem dX10_init_135 : decode cX10_init 135 = .ok (.newarray .int, 2) := by decide +kernel
theorem dX10_init_137 : decode cX10_init 137 = .ok (.putfield 60, 3) := by decide +kernel
theorem dX10_init_140 : decode cX10_init 140 = .ok (.aload_n 0, 1) := by decide +kernel
theorem dX10_init_141 : decode cX10_init 141 = .ok (.iconst 5, 1) := by decide +kernel
theorem dX10_init_142 : decode cX10_init 142 = .ok (.newarray .int, 2) := by decide +kernel
theorem dX10_init_144 : decode cX10_init 144 = .ok (.putfield 63, 3) := by decide +kernel
theorem dX10_init_147 : decode cX10_init 147 = .ok (.aload_n 0, 1) := by decide +kernel
theorem dX10_init_148 : decode cX10_init 148 = .ok (.bipush 50, 2) := by decide +kernel
theorem dX10_init_150 : decode cX10_init 150 = .ok (.newarray .int, 2) := by decide +kernel
theorem dX10_init_152 : decode cX10_init 152 = .ok (.putfield 66, 3) := by decide +kernel
theorem dX10_init_155 : decode cX10_init 155 = .ok (.aload_n 0, 1) := by decide +kernel
theorem dX10_init_156 : decode cX10_init 156 = .ok (.bipush 24, 2) := by decide +kernel
theorem dX10_init_158 : decode cX10_init 158 = .ok (.newarray .int, 2) := by decide +kernel
theorem dX10_init_160 : decode cX10_init 160 = .ok (.putfield 69, 3) := by decide +kernel
theorem dX10_init_163 : decode cX10_init 163 = .ok (.aload_n 0, 1) := by decide +kernel
theorem dX10_init_164 : decode cX10_init 164 = .ok (.bipush 6, 2) := by decide +kernel
theorem dX10_init_166 : decode cX10_init 166 = .ok (.newarray .int, 2) := by decide +kernel
theorem dX10_init_168 : decode cX10_init 168 = .ok (.putfield 72, 3) := by decide +kernel
theorem dX10_init_171 : decode cX10_init 171 = .ok (.aload_n 0, 1) := by decide +kernel
theorem dX10_init_172 : decode cX10_init 172 = .ok (.bipush 6, 2) := by decide +kernel
theorem dX10_init_174 : decode cX10_init 174 = .ok (.newarray .int, 2) := by decide +kernel
theorem dX10_init_176 : decode cX10_init 176 = .ok (.putfield 75, 3) := by decide +kernel
theorem dX10_init_179 : decode cX10_init 179 = .ok (.aload_n 0, 1) := by decide +kernel
theorem dX10_init_180 : decode cX10_init 180 = .ok (.sipush 360, 3) := by decide +kernel
theorem dX10_init_183 : decode cX10_init 183 = .ok (.newarray .long, 2) := by decide +kernel
theorem dX10_init_185 : decode cX10_init 185 = .ok (.putfield 78, 3) := by decide +kernel
theorem dX10_init_188 : decode cX10_init 188 = .ok (.aload_n 0, 1) := by decide +kernel
theorem dX10_init_189 : decode cX10_init 189 = .ok (.bipush 60, 2) := by decide +kernel
theorem dX10_init_191 : decode cX10_init 191 = .ok (.newarray .long, 2) := by decide +kernel
theorem dX10_init_193 : decode cX10_init 193 = .ok (.putfield 81, 3) := by decide +kernel
theorem dX10_init_196 : decode cX10_init 196 = .ok (.iconst 0, 1) := by decide +kernel
theorem dX10_init_197 : decode cX10_init 197 = .ok (.istore_n 1, 1) := by decide +kernel
theorem dX10_init_198 : decode cX10_init 198 = .ok (.iload_n 1, 1) := by decide +kernel
theorem dX10_init_199 : decode cX10_init 199 = .ok (.bipush 6, 2) := by decide +kernel
theorem dX10_init_201 : decode cX10_init 201 = .ok (.if_icmp .ge 16, 3) := by decide +kernel
theorem dX10_init_204 : decode cX10_init 204 = .ok (.aload_n 0, 1) := by decide +kernel
theorem dX10_init_205 : decode cX10_init 205 = .ok (.getfield 72, 3) := by decide +kernel
theorem dX10_init_208 : decode cX10_init 208 = .ok (.iload_n 1, 1) := by decide +kernel
theorem dX10_init_209 : decode cX10_init 209 = .ok (.iconst (-1), 1) := by decide +kernel
theorem dX10_init_210 : decode cX10_init 210 = .ok (.iastore, 1) := by decide +kernel
theorem dX10_init_211 : decode cX10_init 211 = .ok (.iinc 1 1, 3) := by decide +kernel
theorem dX10_init_214 : decode cX10_init 214 = .ok (.goto (-16), 3) := by decide +kernel
theorem dX10_init_217 : decode cX10_init 217 = .ok (.aload_n 0, 1) := by decide +kernel
theorem dX10_init_218 : decode cX10_init 218 = .ok (.iconst (-1), 1) := by decide +kernel
theorem dX10_init_219 : decode cX10_init 219 = .ok (.putfield 84, 3) := by decide +kernel
theorem dX10_init_222 : decode cX10_init 222 = .ok (.iconst 0, 1) := by decide +kernel
theorem dX10_init_223 : decode cX10_init 223 = .ok (.istore_n 1, 1) := by decide +kernel
theorem dX10_init_224 : decode cX10_init 224 = .ok (.iload_n 1, 1) := by decide +kernel
theorem dX10_init_225 : decode cX10_init 225 = .ok (.bipush 6, 2) := by decide +kernel
theorem dX10_init_227 : decode cX10_init 227 = .ok (.if_icmp .ge 19, 3) := by decide +kernel
theorem dX10_init_230 : decode cX10_init 230 = .ok (.aload_n 0, 1) := by decide +kernel
theorem dX10_init_231 : decode cX10_init 231 = .ok (.getfield 9, 3) := by decide +kernel
theorem dX10_init_234 : decode cX10_init 234 = .ok (.iload_n 1, 1) := by decide +kernel
theorem dX10_init_235 : decode cX10_init 235 = .ok (.bipush 10, 2) := by decide +kernel
theorem dX10_init_237 : decode cX10_init 237 = .ok (.iload_n 1, 1) := by decide +kernel
theorem dX10_init_238 : decode cX10_init 238 = .ok (.imul, 1) := by decide +kernel
theorem dX10_init_239 : decode cX10_init 239 = .ok (.iastore, 1) := by decide +kernel
theorem dX10_init_240 : decode cX10_init 240 = .ok (.iinc 1 1, 3) := by decide +kernel
theorem dX10_init_243 : decode cX10_init 243 = .ok (.goto (-19), 3) := by decide +kernel
theorem dX10_init_246 : decode cX10_init 246 = .ok (.return_, 1) := by decide +kernel
theorem dX10_becomes_0 : decode cX10_becomes 0 = .ok (.aload_n 0, 1) := by decide +kernel
theorem dX10_becomes_1 : decode cX10_becomes 1 = .ok (.getfield 9, 3) := by decide +kernel
theorem dX10_becomes_4 : decode cX10_becomes 4 = .ok (.iload_n 1, 1) := by decide +kernel
theorem dX10_becomes_5 : decode cX10_becomes 5 = .ok (.iaload, 1) := by decide +kernel
theorem dX10_becomes_6 : decode cX10_becomes 6 = .ok (.istore_n 3, 1) := by decide +kernel
theorem dX10_becomes_7 : decode cX10_becomes 7 = .ok (.iload_n 3, 1) := by decide +kernel
theorem dX10_becomes_8 : decode cX10_becomes 8 = .ok (.iload_n 2, 1) := by decide +kernel
theorem dX10_becomes_9 : decode cX10_becomes 9 = .ok (.if_icmp .ne 5, 3) := by decide +kernel
theorem dX10_becomes_12 : decode cX10_becomes 12 = .ok (.iload_n 3, 1) := by decide +kernel
theorem dX10_becomes_13 : decode cX10_becomes 13 = .ok (.ireturn, 1) := by decide +kernel
theorem dX10_becomes_14 : decode cX10_becomes 14 = .ok (.aload_n 0, 1) := by decide +kernel
theorem dX10_becomes_15 : decode cX10_becomes 15 = .ok (.getfield 88, 3) := by decide +kernel
theorem dX10_becomes_18 : decode cX10_becomes 18 = .ok (.bipush 40, 2) := by decide +kernel
theorem dX10_becomes_20 : decode cX10_becomes 20 = .ok (.if_icmp .ne 77, 3) := by decide +kernel
theorem dX10_becomes_23 : decode cX10_becomes 23 = .ok (.iconst 1, 1) := by decide +kernel
theorem dX10_becomes_24 : decode cX10_becomes 24 = .ok (.istore 4, 2) := by decide +kernel
theorem dX10_becomes_26 : decode cX10_becomes 26 = .ok (.iload 4, 2) := by decide +kernel
theorem dX10_becomes_28 : decode cX10_becomes 28 = .ok (.bipush 40, 2) := by decide +kernel
theorem dX10_becomes_30 : decode cX10_becomes 30 = .ok (.if_icmp .ge 57, 3) := by decide +kernel
theorem dX10_becomes_33 : decode cX10_becomes 33 = .ok (.aload_n 0, 1) := by decide +kernel
theorem dX10_becomes_34 : decode cX10_becomes 34 = .ok (.getfield 13, 3) := by decide +kernel
theorem dX10_becomes_37 : decode cX10_becomes 37 = .ok (.iload 4, 2) := by decide +kernel
theorem dX10_becomes_39 : decode cX10_becomes 39 = .ok (.iconst 1, 1) := by decide +kernel
theorem dX10_becomes_40 : decode cX10_becomes 40 = .ok (.isub, 1) := by decide +kernel
theorem dX10_becomes_41 : decode cX10_becomes 41 = .ok (.aload_n 0, 1) := by decide +kernel
theorem dX10_becomes_42 : decode cX10_becomes 42 = .ok (.getfield 13, 3) := by decide +kernel
theorem dX10_becomes_45 : decode cX10_becomes 45 = .ok (.iload 4, 2) := by decide +kernel
theorem dX10_becomes_47 : decode cX10_becomes 47 = .ok (.iaload, 1) := by decide +kernel
theorem dX10_becomes_48 : decode cX10_becomes 48 = .ok (.iastore, 1) := by decide +kernel
theorem dX10_becomes_49 : decode cX10_becomes 49 = .ok (.aload_n 0, 1) := by decide +kernel
theorem dX10_becomes_50 : decode cX10_becomes 50 = .ok (.getfield 16, 3) := by decide +kernel
theorem dX10_becomes_53 : decode cX10_becomes 53 = .ok (.iload 4, 2) := by decide +kernel
theorem dX10_becomes_55 : decode cX10_becomes 55 = .ok (.iconst 1, 1) := by decide +kernel
theorem dX10_becomes_56 : decode cX10_becomes 56 = .ok (.isub, 1) := by decide +kernel
theorem dX10_becomes_57 : decode cX10_becomes 57 = .ok (.aload_n 0, 1) := by decide +kernel
theorem dX10_becomes_58 : decode cX10_becomes 58 = .ok (.getfield 16, 3) := by decide +kernel
theorem dX10_becomes_61 : decode cX10_becomes 61 = .ok (.iload 4, 2) := by decide +kernel
theorem dX10_becomes_63 : decode cX10_becomes 63 = .ok (.iaload, 1) := by decide +kernel
theorem dX10_becomes_64 : decode cX10_becomes 64 = .ok (.iastore, 1) := by decide +kernel
theorem dX10_becomes_65 : decode cX10_becomes 65 = .ok (.aload_n 0, 1) := by decide +kernel
theorem dX10_becomes_66 : decode cX10_becomes 66 = .ok (.getfield 19, 3) := by decide +kernel
theorem dX10_becomes_69 : decode cX10_becomes 69 = .ok (.iload 4, 2) := by decide +kernel
theorem dX10_becomes_71 : decode cX10_becomes 71 = .ok (.iconst 1, 1) := by decide +kernel
theorem dX10_becomes_72 : decode cX10_becomes 72 = .ok (.isub, 1) := by decide +kernel
theorem dX10_becomes_73 : decode cX10_becomes 73 = .ok (.aload_n 0, 1) := by decide +kernel
theorem dX10_becomes_74 : decode cX10_becomes 74 = .ok (.getfield 19, 3) := by decide +kernel
theorem dX10_becomes_77 : decode cX10_becomes 77 = .ok (.iload 4, 2) := by decide +kernel
theorem dX10_becomes_79 : decode cX10_becomes 79 = .ok (.iaload, 1) := by decide +kernel
theorem dX10_becomes_80 : decode cX10_becomes 80 = .ok (.iastore, 1) := by decide +kernel
theorem dX10_becomes_81 : decode cX10_becomes 81 = .ok (.iinc 4 1, 3) := by decide +kernel
theorem dX10_becomes_84 : decode cX10_becomes 84 = .ok (.goto (-58), 3) := by decide +kernel
theorem dX10_becomes_87 : decode cX10_becomes 87 = .ok (.aload_n 0, 1) := by decide +kernel
theorem dX10_becomes_88 : decode cX10_becomes 88 = .ok (.dup, 1) := by decide +kernel
theorem dX10_becomes_89 : decode cX10_becomes 89 = .ok (.getfield 88, 3) := by decide +kernel
theorem dX10_becomes_92 : decode cX10_becomes 92 = .ok (.iconst 1, 1) := by decide +kernel
theorem dX10_becomes_93 : decode cX10_becomes 93 = .ok (.isub, 1) := by decide +kernel
theorem dX10_becomes_94 : decode cX10_becomes 94 = .ok (.putfield 88, 3) := by decide +kernel
theorem dX10_becomes_97 : decode cX10_becomes 97 = .ok (.aload_n 0, 1) := by decide +kernel
theorem dX10_becomes_98 : decode cX10_becomes 98 = .ok (.getfield 13, 3) := by decide +kernel
theorem dX10_becomes_101 : decode cX10_becomes 101 = .ok (.aload_n 0, 1) := by decide +kernel
theorem dX10_becomes_102 : decode cX10_becomes 102 = .ok (.getfield 88, 3) := by decide +kernel
theorem dX10_becomes_105 : decode cX10_becomes 105 = .ok (.iload_n 1, 1) := by decide +kernel
theorem dX10_becomes_106 : decode cX10_becomes 106 = .ok (.iastore, 1) := by decide +kernel
theorem dX10_becomes_107 : decode cX10_becomes 107 = .ok (.aload_n 0, 1) := by decide +kernel
theorem dX10_becomes_108 : decode cX10_becomes 108 = .ok (.getfield 16, 3) := by decide +kernel
theorem dX10_becomes_111 : decode cX10_becomes 111 = .ok (.aload_n 0, 1) := by decide +kernel
theorem dX10_becomes_112 : decode cX10_becomes 112 = .ok (.getfield 88, 3) := by decide +kernel
theorem dX10_becomes_115 : decode cX10_becomes 115 = .ok (.iload_n 3, 1) := by decide +kernel
theorem dX10_becomes_116 : decode cX10_becomes 116 = .ok (.iastore, 1) := by decide +kernel
theorem dX10_becomes_117 : decode cX10_becomes 117 = .ok (.aload_n 0, 1) := by decide +kernel
theorem dX10_becomes_118 : decode cX10_becomes 118 = .ok (.getfield 19, 3) := by decide +kernel
theorem dX10_becomes_121 : decode cX10_becomes 121 = .ok (.aload_n 0, 1) := by decide +kernel
theorem dX10_becomes_122 : decode cX10_becomes 122 = .ok (.getfield 88, 3) := by decide +kernel
theorem dX10_becomes_125 : decode cX10_becomes 125 = .ok (.iload_n 2, 1) := by decide +kernel
theorem dX10_becomes_126 : decode cX10_becomes 126 = .ok (.iastore, 1) := by decide +kernel
theorem dX10_becomes_127 : decode cX10_becomes 127 = .ok (.aload_n 0, 1) := by decide +kernel
theorem dX10_becomes_128 : decode cX10_becomes 128 = .ok (.dup, 1) := by decide +kernel
theorem dX10_becomes_129 : decode cX10_becomes 129 = .ok (.getfield 88, 3) := by decide +kernel
theorem dX10_becomes_132 : decode cX10_becomes 132 = .ok (.iconst 1, 1) := by decide +kernel
theorem dX10_becomes_133 : decode cX10_becomes 133 = .ok (.iadd, 1) := by decide +kernel
theorem dX10_becomes_134 : decode cX10_becomes 134 = .ok (.putfield 88, 3) := by decide +kernel
theorem dX10_becomes_137 : decode cX10_becomes 137 = .ok (.aload_n 0, 1) := by decide +kernel
theorem dX10_becomes_138 : decode cX10_becomes 138 = .ok (.aload_n 0, 1) := by decide +kernel
theorem dX10_becomes_139 : decode cX10_becomes 139 = .ok (.getfield 88, 3) := by decide +kernel
theorem dX10_becomes_142 : decode cX10_becomes 142 = .ok (.putfield 91, 3) := by decide +kernel
theorem dX10_becomes_145 : decode cX10_becomes 145 = .ok (.aload_n 0, 1) := by decide +kernel
theorem dX10_becomes_146 : decode cX10_becomes 146 = .ok (.getfield 9, 3) := by decide +kernel
theorem dX10_becomes_149 : decode cX10_becomes 149 = .ok (.iload_n 1, 1) := by decide +kernel
theorem dX10_becomes_150 : decode cX10_becomes 150 = .ok (.iload_n 2, 1) := by decide +kernel
theorem dX10_becomes_151 : decode cX10_becomes 151 = .ok (.iastore, 1) := by decide +kernel
theorem dX10_becomes_152 : decode cX10_becomes 152 = .ok (.iload_n 3, 1) := by decide +kernel
theorem dX10_becomes_153 : decode cX10_becomes 153 = .ok (.ireturn, 1) := by decide +kernel
theorem dX10_undo_0 : decode cX10_undo 0 = .ok (.aload_n 0, 1) := by decide +kernel
theorem dX10_undo_1 : decode cX10_undo 1 = .ok (.getfield 88, 3) := by decide +kernel
theorem dX10_undo_4 : decode cX10_undo 4 = .ok (.ifCond .ne 6, 3) := by decide +kernel
theorem dX10_undo_7 : decode cX10_undo 7 = .ok (.bipush (-5), 2) := by decide +kernel
theorem dX10_undo_9 : decode cX10_undo 9 = .ok (.ireturn, 1) := by decide +kernel
theorem dX10_undo_10 : decode cX10_undo 10 = .ok (.aload_n 0, 1) := by decide +kernel
theorem dX10_undo_11 : decode cX10_undo 11 = .ok (.dup, 1) := by decide +kernel
theorem dX10_undo_12 : decode cX10_undo 12 = .ok (.getfield 88, 3) := by decide +kernel
theorem dX10_undo_15 : decode cX10_undo 15 = .ok (.iconst 1, 1) := by decide +kernel
theorem dX10_undo_16 : decode cX10_undo 16 = .ok (.isub, 1) := by decide +kernel
theorem dX10_undo_17 : decode cX10_undo 17 = .ok (.putfield 88, 3) := by decide +kernel
theorem dX10_undo_20 : decode cX10_undo 20 = .ok (.aload_n 0, 1) := by decide +kernel
theorem dX10_undo_21 : decode cX10_undo 21 = .ok (.getfield 9, 3) := by decide +kernel
theorem dX10_undo_24 : decode cX10_undo 24 = .ok (.aload_n 0, 1) := by decide +kernel
theorem dX10_undo_25 : decode cX10_undo 25 = .ok (.getfield 13, 3) := by decide +kernel
theorem dX10_undo_28 : decode cX10_undo 28 = .ok (.aload_n 0, 1) := by decide +kernel
theorem dX10_undo_29 : decode cX10_undo 29 = .ok (.getfield 88, 3) := by decide +kernel
theorem dX10_undo_32 : decode cX10_undo 32 = .ok (.iaload, 1) := by decide +kernel
theorem dX10_undo_33 : decode cX10_undo 33 = .ok (.aload_n 0, 1) := by decide +kernel
theorem dX10_undo_34 : decode cX10_undo 34 = .ok (.getfield 16, 3) := by decide +kernel
theorem dX10_undo_37 : decode cX10_undo 37 = .ok (.aload_n 0, 1) := by decide +kernel
theorem dX10_undo_38 : decode cX10_undo 38 = .ok (.getfield 88, 3) := by decide +kernel
theorem dX10_undo_41 : decode cX10_undo 41 = .ok (.iaload, 1) := by decide +kernel
theorem dX10_undo_42 : decode cX10_undo 42 = .ok (.iastore, 1) := by decide +kernel
theorem dX10_undo_43 : decode cX10_undo 43 = .ok (.aload_n 0, 1) := by decide +kernel
theorem dX10_undo_44 : decode cX10_undo 44 = .ok (.getfield 88, 3) := by decide +kernel
theorem dX10_undo_47 : decode cX10_undo 47 = .ok (.ireturn, 1) := by decide +kernel
theorem dX10_redo_0 : decode cX10_redo 0 = .ok (.aload_n 0, 1) := by decide +kernel
theorem dX10_redo_1 : decode cX10_redo 1 = .ok (.getfield 88, 3) := by decide +kernel
theorem dX10_redo_4 : decode cX10_redo 4 = .ok (.aload_n 0, 1) := by decide +kernel
theorem dX10_redo_5 : decode cX10_redo 5 = .ok (.getfield 91, 3) := by decide +kernel
theorem dX10_redo_8 : decode cX10_redo 8 = .ok (.if_icmp .ne 6, 3) := by decide +kernel
theorem dX10_redo_11 : decode cX10_redo 11 = .ok (.bipush (-5), 2) := by decide +kernel
theorem dX10_redo_13 : decode cX10_redo 13 = .ok (.ireturn, 1) := by decide +kernel
theorem dX10_redo_14 : decode cX10_redo 14 = .ok (.aload_n 0, 1) := by decide +kernel
theorem dX10_redo_15 : decode cX10_redo 15 = .ok (.getfield 9, 3) := by decide +kernel
theorem dX10_redo_18 : decode cX10_redo 18 = .ok (.aload_n 0, 1) := by decide +kernel
theorem dX10_redo_19 : decode cX10_redo 19 = .ok (.getfield 13, 3) := by decide +kernel
theorem dX10_redo_22 : decode cX10_redo 22 = .ok (.aload_n 0, 1) := by decide +kernel
theorem dX10_redo_23 : decode cX10_redo 23 = .ok (.getfield 88, 3) := by decide +kernel
theorem dX10_redo_26 : decode cX10_redo 26 = .ok (.iaload, 1) := by decide +kernel
theorem dX10_redo_27 : decode cX10_redo 27 = .ok (.aload_n 0, 1) := by decide +kernel
theorem dX10_redo_28 : decode cX10_redo 28 = .ok (.getfield 19, 3) := by decide +kernel
theorem dX10_redo_31 : decode cX10_redo 31 = .ok (.aload_n 0, 1) := by decide +kernel
theorem dX10_redo_32 : decode cX10_redo 32 = .ok (.getfield 88, 3) := by decide +kernel
theorem dX10_redo_35 : decode cX10_redo 35 = .ok (.iaload, 1) := by decide +kernel
theorem dX10_redo_36 : decode cX10_redo 36 = .ok (.iastore, 1) := by decide +kernel
theorem dX10_redo_37 : decode cX10_redo 37 = .ok (.aload_n 0, 1) := by decide +kernel
theorem dX10_redo_38 : decode cX10_redo 38 = .ok (.dup, 1) := by decide +kernel
theorem dX10_redo_39 : decode cX10_redo 39 = .ok (.getfield 88, 3) := by decide +kernel
theorem dX10_redo_42 : decode cX10_redo 42 = .ok (.iconst 1, 1) := by decide +kernel
theorem dX10_redo_43 : decode cX10_redo 43 = .ok (.iadd, 1) := by decide +kernel
theorem dX10_redo_44 : decode cX10_redo 44 = .ok (.putfield 88, 3) := by decide +kernel
theorem dX10_redo_47 : decode cX10_redo 47 = .ok (.aload_n 0, 1) := by decide +kernel
theorem dX10_redo_48 : decode cX10_redo 48 = .ok (.getfield 91, 3) := by decide +kernel
theorem dX10_redo_51 : decode cX10_redo 51 = .ok (.aload_n 0, 1) := by decide +kernel
theorem dX10_redo_52 : decode cX10_redo 52 = .ok (.getfield 88, 3) := by decide +kernel
theorem dX10_redo_55 : decode cX10_redo 55 = .ok (.isub, 1) := by decide +kernel
theorem dX10_redo_56 : decode cX10_redo 56 = .ok (.ireturn, 1) := by decide +kernel
theorem dX10_isGood_0 : decode cX10_isGood 0 = .ok (.lload_n 0, 1) := by decide +kernel
theorem dX10_isGood_1 : decode cX10_isGood 1 = .ok (.lconst 0, 1) := by decide +kernel
theorem dX10_isGood_2 : decode cX10_isGood 2 = .ok (.ldc2_w 94, 3) := by decide +kernel
theorem dX10_isGood_5 : decode cX10_isGood 5 = .ok (.invokestatic 96, 3) := by decide +kernel
theorem dX10_isGood_8 : decode cX10_isGood 8 = .ok (.ireturn, 1) := by decide +kernel
theorem dX10_isSack_0 : decode cX10_isSack 0 = .ok (.lload_n 1, 1) := by decide +kernel
theorem dX10_isSack_1 : decode cX10_isSack 1 = .ok (.lconst 0, 1) := by decide +kernel
theorem dX10_isSack_2 : decode cX10_isSack 2 = .ok (.aload_n 0, 1) := by decide +kernel
theorem dX10_isSack_3 : decode cX10_isSack 3 = .ok (.getfield 100, 3) := by decide +kernel
theorem dX10_isSack_6 : decode cX10_isSack 6 = .ok (.iconst 1, 1) := by decide +kernel
theorem dX10_isSack_7 : decode cX10_isSack 7 = .ok (.isub, 1) := by decide +kernel
theorem dX10_isSack_8 : decode cX10_isSack 8 = .ok (.i2l, 1) := by decide +kernel
theorem dX10_isSack_9 : decode cX10_isSack 9 = .ok (.invokestatic 96, 3) := by decide +kernel
theorem dX10_isSack_12 : decode cX10_isSack 12 = .ok (.ireturn, 1) := by decide +kernel
theorem dX10_isBuyer_0 : decode cX10_isBuyer 0 = .ok (.lload_n 1, 1) := by decide +kernel
theorem dX10_isBuyer_1 : decode cX10_isBuyer 1 = .ok (.lconst 0, 1) := by decide +kernel
theorem dX10_isBuyer_2 : decode cX10_isBuyer 2 = .ok (.aload_n 0, 1) := by decide +kernel
theorem dX10_isBuyer_3 : decode cX10_isBuyer 3 = .ok (.getfield 103, 3) := by decide +kernel
theorem dX10_isBuyer_6 : decode cX10_isBuyer 6 = .ok (.iconst 1, 1) := by decide +kernel
theorem dX10_isBuyer_7 : decode cX10_isBuyer 7 = .ok (.isub, 1) := by decide +kernel
theorem dX10_isBuyer_8 : decode cX10_isBuyer 8 = .ok (.i2l, 1) := by decide +kernel
theorem dX10_isBuyer_9 : decode cX10_isBuyer 9 = .ok (.invokestatic 96, 3) := by decide +kernel
theorem dX10_isBuyer_12 : decode cX10_isBuyer 12 = .ok (.ireturn, 1) := by decide +kernel
theorem dX10_isFree_0 : decode cX10_isFree 0 = .ok (.aload_n 0, 1) := by decide +kernel
theorem dX10_isFree_1 : decode cX10_isFree 1 = .ok (.getfield 22, 3) := by decide +kernel
theorem dX10_isFree_4 : decode cX10_isFree 4 = .ok (.iload_n 1, 1) := by decide +kernel
theorem dX10_isFree_5 : decode cX10_isFree 5 = .ok (.iaload, 1) := by decide +kernel
theorem dX10_isFree_6 : decode cX10_isFree 6 = .ok (.ifCond .ge 16, 3) := by decide +kernel
theorem dX10_isFree_9 : decode cX10_isFree 9 = .ok (.aload_n 0, 1) := by decide +kernel
theorem dX10_isFree_10 : decode cX10_isFree 10 = .ok (.getfield 25, 3) := by decide +kernel
theorem dX10_isFree_13 : decode cX10_isFree 13 = .ok (.iload_n 1, 1) := by decide +kernel
theorem dX10_isFree_14 : decode cX10_isFree 14 = .ok (.baload, 1) := by decide +kernel
theorem dX10_isFree_15 : decode cX10_isFree 15 = .ok (.ifCond .ne 7, 3) := by decide +kernel
theorem dX10_isFree_18 : decode cX10_isFree 18 = .ok (.iconst 1, 1) := by decide +kernel
theorem dX10_isFree_19 : decode cX10_isFree 19 = .ok (.goto 4, 3) := by decide +kernel
theorem dX10_isFree_22 : decode cX10_isFree 22 = .ok (.iconst 0, 1) := by decide +kernel
theorem dX10_isFree_23 : decode cX10_isFree 23 = .ok (.ireturn, 1) := by decide +kernel
theorem dX10_adds_0 : decode cX10_adds 0 = .ok (.aload_n 0, 1) := by decide +kernel
theorem dX10_adds_1 : decode cX10_adds 1 = .ok (.getfield 9, 3) := by decide +kernel
theorem dX10_adds_4 : decode cX10_adds 4 = .ok (.bipush 24, 2) := by decide +kernel
theorem dX10_adds_6 : decode cX10_adds 6 = .ok (.aload_n 0, 1) := by decide +kernel
theorem dX10_adds_7 : decode cX10_adds 7 = .ok (.getfield 100, 3) := by decide +kernel
theorem dX10_adds_10 : decode cX10_adds 10 = .ok (.iadd, 1) := by decide +kernel
theorem dX10_adds_11 : decode cX10_adds 11 = .ok (.iload_n 1, 1) := by decide +kernel
theorem dX10_adds_12 : decode cX10_adds 12 = .ok (.iastore, 1) := by decide +kernel
theorem dX10_adds_13 : decode cX10_adds 13 = .ok (.aload_n 0, 1) := by decide +kernel
theorem dX10_adds_14 : decode cX10_adds 14 = .ok (.getfield 9, 3) := by decide +kernel
theorem dX10_adds_17 : decode cX10_adds 17 = .ok (.bipush 34, 2) := by decide +kernel
theorem dX10_adds_19 : decode cX10_adds 19 = .ok (.aload_n 0, 1) := by decide +kernel
theorem dX10_adds_20 : decode cX10_adds 20 = .ok (.getfield 100, 3) := by decide +kernel
theorem dX10_adds_23 : decode cX10_adds 23 = .ok (.iadd, 1) := by decide +kernel
theorem dX10_adds_24 : decode cX10_adds 24 = .ok (.iload_n 2, 1) := by decide +kernel
theorem dX10_adds_25 : decode cX10_adds 25 = .ok (.iastore, 1) := by decide +kernel
theorem dX10_adds_26 : decode cX10_adds 26 = .ok (.aload_n 0, 1) := by decide +kernel
theorem dX10_adds_27 : decode cX10_adds 27 = .ok (.getfield 22, 3) := by decide +kernel
theorem dX10_adds_30 : decode cX10_adds 30 = .ok (.aload_n 0, 1) := by decide +kernel
theorem dX10_adds_31 : decode cX10_adds 31 = .ok (.getfield 100, 3) := by decide +kernel
theorem dX10_adds_34 : decode cX10_adds 34 = .ok (.iconst (-1), 1) := by decide +kernel
theorem dX10_adds_35 : decode cX10_adds 35 = .ok (.iastore, 1) := by decide +kernel
theorem dX10_adds_36 : decode cX10_adds 36 = .ok (.aload_n 0, 1) := by decide +kernel
theorem dX10_adds_37 : decode cX10_adds 37 = .ok (.dup, 1) := by decide +kernel
theorem dX10_adds_38 : decode cX10_adds 38 = .ok (.getfield 100, 3) := by decide +kernel
theorem dX10_adds_41 : decode cX10_adds 41 = .ok (.iconst 1, 1) := by decide +kernel
theorem dX10_adds_42 : decode cX10_adds 42 = .ok (.iadd, 1) := by decide +kernel
theorem dX10_adds_43 : decode cX10_adds 43 = .ok (.putfield 100, 3) := by decide +kernel
theorem dX10_adds_46 : decode cX10_adds 46 = .ok (.return_, 1) := by decide +kernel
theorem dX10_sack_0 : decode cX10_sack 0 = .ok (.iload_n 1, 1) := by decide +kernel
theorem dX10_sack_1 : decode cX10_sack 1 = .ok (.i2l, 1) := by decide +kernel
theorem dX10_sack_2 : decode cX10_sack 2 = .ok (.invokestatic 106, 3) := by decide +kernel
theorem dX10_sack_5 : decode cX10_sack 5 = .ok (.ifCond .ne 5, 3) := by decide +kernel
theorem dX10_sack_8 : decode cX10_sack 8 = .ok (.iconst (-1), 1) := by decide +kernel
theorem dX10_sack_9 : decode cX10_sack 9 = .ok (.ireturn, 1) := by decide +kernel
theorem dX10_sack_10 : decode cX10_sack 10 = .ok (.aload_n 0, 1) := by decide +kernel
theorem dX10_sack_11 : decode cX10_sack 11 = .ok (.getfield 100, 3) := by decide +kernel
theorem dX10_sack_14 : decode cX10_sack 14 = .ok (.bipush 10, 2) := by decide +kernel
theorem dX10_sack_16 : decode cX10_sack 16 = .ok (.if_icmp .ne 6, 3) := by decide +kernel
theorem dX10_sack_19 : decode cX10_sack 19 = .ok (.bipush (-3), 2) := by decide +kernel
theorem dX10_sack_21 : decode cX10_sack 21 = .ok (.ireturn, 1) := by decide +kernel
theorem dX10_sack_22 : decode cX10_sack 22 = .ok (.aload_n 0, 1) := by decide +kernel
theorem dX10_sack_23 : decode cX10_sack 23 = .ok (.iload_n 1, 1) := by decide +kernel
theorem dX10_sack_24 : decode cX10_sack 24 = .ok (.bipush 10, 2) := by decide +kernel
theorem dX10_sack_26 : decode cX10_sack 26 = .ok (.invokevirtual 110, 3) := by decide +kernel
theorem dX10_sack_29 : decode cX10_sack 29 = .ok (.aload_n 0, 1) := by decide +kernel
theorem dX10_sack_30 : decode cX10_sack 30 = .ok (.getfield 100, 3) := by decide +kernel
theorem dX10_sack_33 : decode cX10_sack 33 = .ok (.iconst 1, 1) := by decide +kernel
theorem dX10_sack_34 : decode cX10_sack 34 = .ok (.isub, 1) := by decide +kernel
theorem dX10_sack_35 : decode cX10_sack 35 = .ok (.ireturn, 1) := by decide +kernel
theorem dX10_sacks_0 : decode cX10_sacks 0 = .ok (.iload_n 1, 1) := by decide +kernel
theorem dX10_sacks_1 : decode cX10_sacks 1 = .ok (.invokestatic 114, 3) := by decide +kernel
theorem dX10_sacks_4 : decode cX10_sacks 4 = .ok (.ifCond .eq 15, 3) := by decide +kernel
theorem dX10_sacks_7 : decode cX10_sacks 7 = .ok (.iload_n 3, 1) := by decide +kernel
theorem dX10_sacks_8 : decode cX10_sacks 8 = .ok (.i2l, 1) := by decide +kernel
theorem dX10_sacks_9 : decode cX10_sacks 9 = .ok (.lconst 1, 1) := by decide +kernel
theorem dX10_sacks_10 : decode cX10_sacks 10 = .ok (.ldc2_w 118, 3) := by decide +kernel
theorem dX10_sacks_13 : decode cX10_sacks 13 = .ok (.invokestatic 96, 3) := by decide +kernel
theorem dX10_sacks_16 : decode cX10_sacks 16 = .ok (.ifCond .ne 5, 3) := by decide +kernel
theorem dX10_sacks_19 : decode cX10_sacks 19 = .ok (.iconst (-1), 1) := by decide +kernel
theorem dX10_sacks_20 : decode cX10_sacks 20 = .ok (.ireturn, 1) := by decide +kernel
theorem dX10_sacks_21 : decode cX10_sacks 21 = .ok (.aload_n 0, 1) := by decide +kernel
theorem dX10_sacks_22 : decode cX10_sacks 22 = .ok (.getfield 72, 3) := by decide +kernel
theorem dX10_sacks_25 : decode cX10_sacks 25 = .ok (.iload_n 1, 1) := by decide +kernel
theorem dX10_sacks_26 : decode cX10_sacks 26 = .ok (.iaload, 1) := by decide +kernel
theorem dX10_sacks_27 : decode cX10_sacks 27 = .ok (.ifCond .lt 17, 3) := by decide +kernel
theorem dX10_sacks_30 : decode cX10_sacks 30 = .ok (.aload_n 0, 1) := by decide +kernel
theorem dX10_sacks_31 : decode cX10_sacks 31 = .ok (.getfield 72, 3) := by decide +kernel
theorem dX10_sacks_34 : decode cX10_sacks 34 = .ok (.iload_n 1, 1) := by decide +kernel
theorem dX10_sacks_35 : decode cX10_sacks 35 = .ok (.iaload, 1) := by decide +kernel
theorem dX10_sacks_36 : decode cX10_sacks 36 = .ok (.bipush 50, 2) := by decide +kernel
theorem dX10_sacks_38 : decode cX10_sacks 38 = .ok (.if_icmp .eq 6, 3) := by decide +kernel
theorem dX10_sacks_41 : decode cX10_sacks 41 = .ok (.bipush (-12), 2) := by decide +kernel
theorem dX10_sacks_43 : decode cX10_sacks 43 = .ok (.ireturn, 1) := by decide +kernel
theorem dX10_sacks_44 : decode cX10_sacks 44 = .ok (.iconst 0, 1) := by decide +kernel
theorem dX10_sacks_45 : decode cX10_sacks 45 = .ok (.istore 4, 2) := by decide +kernel
theorem dX10_sacks_47 : decode cX10_sacks 47 = .ok (.aload_n 0, 1) := by decide +kernel
theorem dX10_sacks_48 : decode cX10_sacks 48 = .ok (.getfield 72, 3) := by decide +kernel
theorem dX10_sacks_51 : decode cX10_sacks 51 = .ok (.iload_n 1, 1) := by decide +kernel
theorem dX10_sacks_52 : decode cX10_sacks 52 = .ok (.iaload, 1) := by decide +kernel
theorem dX10_sacks_53 : decode cX10_sacks 53 = .ok (.bipush 50, 2) := by decide +kernel
theorem dX10_sacks_55 : decode cX10_sacks 55 = .ok (.if_icmp .ne 11, 3) := by decide +kernel
theorem dX10_sacks_58 : decode cX10_sacks 58 = .ok (.iload_n 2, 1) := by decide +kernel
theorem dX10_sacks_59 : decode cX10_sacks 59 = .ok (.ifCond .lt 7, 3) := by decide +kernel
theorem dX10_sacks_62 : decode cX10_sacks 62 = .ok (.iconst 1, 1) := by decide +kernel
theorem dX10_sacks_63 : decode cX10_sacks 63 = .ok (.goto 4, 3) := by decide +kernel
theorem dX10_sacks_66 : decode cX10_sacks 66 = .ok (.iconst 0, 1) := by decide +kernel
theorem dX10_sacks_67 : decode cX10_sacks 67 = .ok (.istore 5, 2) := by decide +kernel
theorem dX10_sacks_69 : decode cX10_sacks 69 = .ok (.iload 5, 2) := by decide +kernel
theorem dX10_sacks_71 : decode cX10_sacks 71 = .ok (.ifCond .eq 132, 3) := by decide +kernel
theorem dX10_sacks_74 : decode cX10_sacks 74 = .ok (.iload 4, 2) := by decide +kernel
theorem dX10_sacks_76 : decode cX10_sacks 76 = .ok (.iload_n 3, 1) := by decide +kernel
theorem dX10_sacks_77 : decode cX10_sacks 77 = .ok (.if_icmp .ge 126, 3) := by decide +kernel
theorem dX10_sacks_80 : decode cX10_sacks 80 = .ok (.iload_n 2, 1) := by decide +kernel
theorem dX10_sacks_81 : decode cX10_sacks 81 = .ok (.aload_n 0, 1) := by decide +kernel
theorem dX10_sacks_82 : decode cX10_sacks 82 = .ok (.getfield 75, 3) := by decide +kernel
theorem dX10_sacks_85 : decode cX10_sacks 85 = .ok (.iload_n 1, 1) := by decide +kernel
theorem dX10_sacks_86 : decode cX10_sacks 86 = .ok (.iaload, 1) := by decide +kernel
theorem dX10_sacks_87 : decode cX10_sacks 87 = .ok (.iconst 2, 1) := by decide +kernel
theorem dX10_sacks_88 : decode cX10_sacks 88 = .ok (.isub, 1) := by decide +kernel
theorem dX10_sacks_89 : decode cX10_sacks 89 = .ok (.iconst 2, 1) := by decide +kernel
theorem dX10_sacks_90 : decode cX10_sacks 90 = .ok (.iload 4, 2) := by decide +kernel
theorem dX10_sacks_92 : decode cX10_sacks 92 = .ok (.imul, 1) := by decide +kernel
theorem dX10_sacks_93 : decode cX10_sacks 93 = .ok (.isub, 1) := by decide +kernel
theorem dX10_sacks_94 : decode cX10_sacks 94 = .ok (.if_icmp .gt 16, 3) := by decide +kernel
theorem dX10_sacks_97 : decode cX10_sacks 97 = .ok (.aload_n 0, 1) := by decide +kernel
theorem dX10_sacks_98 : decode cX10_sacks 98 = .ok (.getfield 100, 3) := by decide +kernel
theorem dX10_sacks_101 : decode cX10_sacks 101 = .ok (.bipush 10, 2) := by decide +kernel
theorem dX10_sacks_103 : decode cX10_sacks 103 = .ok (.if_icmp .ge 7, 3) := by decide +kernel
theorem dX10_sacks_106 : decode cX10_sacks 106 = .ok (.iconst 1, 1) := by decide +kernel
theorem dX10_sacks_107 : decode cX10_sacks 107 = .ok (.goto 4, 3) := by decide +kernel
theorem dX10_sacks_110 : decode cX10_sacks 110 = .ok (.iconst 0, 1) := by decide +kernel
theorem dX10_sacks_111 : decode cX10_sacks 111 = .ok (.istore 5, 2) := by decide +kernel
theorem dX10_sacks_113 : decode cX10_sacks 113 = .ok (.bipush 60, 2) := by decide +kernel
theorem dX10_sacks_115 : decode cX10_sacks 115 = .ok (.iload_n 1, 1) := by decide +kernel
theorem dX10_sacks_116 : decode cX10_sacks 116 = .ok (.imul, 1) := by decide +kernel
theorem dX10_sacks_117 : decode cX10_sacks 117 = .ok (.iload_n 2, 1) := by decide +kernel
theorem dX10_sacks_118 : decode cX10_sacks 118 = .ok (.iadd, 1) := by decide +kernel
theorem dX10_sacks_119 : decode cX10_sacks 119 = .ok (.iconst 2, 1) := by decide +kernel
theorem dX10_sacks_120 : decode cX10_sacks 120 = .ok (.iload 4, 2) := by decide +kernel
theorem dX10_sacks_122 : decode cX10_sacks 122 = .ok (.imul, 1) := by decide +kernel
theorem dX10_sacks_123 : decode cX10_sacks 123 = .ok (.iadd, 1) := by decide +kernel
theorem dX10_sacks_124 : decode cX10_sacks 124 = .ok (.istore 6, 2) := by decide +kernel
theorem dX10_sacks_126 : decode cX10_sacks 126 = .ok (.iload 5, 2) := by decide +kernel
theorem dX10_sacks_128 : decode cX10_sacks 128 = .ok (.ifCond .eq 39, 3) := by decide +kernel
theorem dX10_sacks_131 : decode cX10_sacks 131 = .ok (.aload_n 0, 1) := by decide +kernel
theorem dX10_sacks_132 : decode cX10_sacks 132 = .ok (.getfield 78, 3) := by decide +kernel
theorem dX10_sacks_135 : decode cX10_sacks 135 = .ok (.iload 6, 2) := by decide +kernel
theorem dX10_sacks_137 : decode cX10_sacks 137 = .ok (.laload, 1) := by decide +kernel
theorem dX10_sacks_138 : decode cX10_sacks 138 = .ok (.invokestatic 106, 3) := by decide +kernel
theorem dX10_sacks_141 : decode cX10_sacks 141 = .ok (.ifCond .eq 26, 3) := by decide +kernel
theorem dX10_sacks_144 : decode cX10_sacks 144 = .ok (.aload_n 0, 1) := by decide +kernel
theorem dX10_sacks_145 : decode cX10_sacks 145 = .ok (.getfield 78, 3) := by decide +kernel
theorem dX10_sacks_148 : decode cX10_sacks 148 = .ok (.iload 6, 2) := by decide +kernel
theorem dX10_sacks_150 : decode cX10_sacks 150 = .ok (.iconst 1, 1) := by decide +kernel
theorem dX10_sacks_151 : decode cX10_sacks 151 = .ok (.iadd, 1) := by decide +kernel
theorem dX10_sacks_152 : decode cX10_sacks 152 = .ok (.laload, 1) := by decide +kernel
theorem dX10_sacks_153 : decode cX10_sacks 153 = .ok (.lconst 0, 1) := by decide +kernel
theorem dX10_sacks_154 : decode cX10_sacks 154 = .ok (.ldc2_w 120, 3) := by decide +kernel
theorem dX10_sacks_157 : decode cX10_sacks 157 = .ok (.invokestatic 96, 3) := by decide +kernel
theorem dX10_sacks_160 : decode cX10_sacks 160 = .ok (.ifCond .eq 7, 3) := by decide +kernel
theorem dX10_sacks_163 : decode cX10_sacks 163 = .ok (.iconst 1, 1) := by decide +kernel
theorem dX10_sacks_164 : decode cX10_sacks 164 = .ok (.goto 4, 3) := by decide +kernel
theorem dX10_sacks_167 : decode cX10_sacks 167 = .ok (.iconst 0, 1) := by decide +kernel
theorem dX10_sacks_168 : decode cX10_sacks 168 = .ok (.istore 5, 2) := by decide +kernel
theorem dX10_sacks_170 : decode cX10_sacks 170 = .ok (.iload 5, 2) := by decide +kernel
theorem dX10_sacks_172 : decode cX10_sacks 172 = .ok (.ifCond .eq 28, 3) := by decide +kernel
theorem dX10_sacks_175 : decode cX10_sacks 175 = .ok (.aload_n 0, 1) := by decide +kernel
theorem dX10_sacks_176 : decode cX10_sacks 176 = .ok (.aload_n 0, 1) := by decide +kernel
theorem dX10_sacks_177 : decode cX10_sacks 177 = .ok (.getfield 78, 3) := by decide +kernel
theorem dX10_sacks_180 : decode cX10_sacks 180 = .ok (.iload 6, 2) := by decide +kernel
theorem dX10_sacks_182 : decode cX10_sacks 182 = .ok (.laload, 1) := by decide +kernel
theorem dX10_sacks_183 : decode cX10_sacks 183 = .ok (.l2i, 1) := by decide +kernel
theorem dX10_sacks_184 : decode cX10_sacks 184 = .ok (.aload_n 0, 1) := by decide +kernel
theorem dX10_sacks_185 : decode cX10_sacks 185 = .ok (.getfield 78, 3) := by decide +kernel
theorem dX10_sacks_188 : decode cX10_sacks 188 = .ok (.iload 6, 2) := by decide +kernel
theorem dX10_sacks_190 : decode cX10_sacks 190 = .ok (.iconst 1, 1) := by decide +kernel
theorem dX10_sacks_191 : decode cX10_sacks 191 = .ok (.iadd, 1) := by decide +kernel
theorem dX10_sacks_192 : decode cX10_sacks 192 = .ok (.laload, 1) := by decide +kernel
theorem dX10_sacks_193 : decode cX10_sacks 193 = .ok (.l2i, 1) := by decide +kernel
theorem dX10_sacks_194 : decode cX10_sacks 194 = .ok (.invokevirtual 110, 3) := by decide +kernel
theorem dX10_sacks_197 : decode cX10_sacks 197 = .ok (.iinc 4 1, 3) := by decide +kernel
theorem dX10_sacks_200 : decode cX10_sacks 200 = .ok (.goto (-131), 3) := by decide +kernel
theorem dX10_sacks_203 : decode cX10_sacks 203 = .ok (.iload 4, 2) := by decide +kernel
theorem dX10_sacks_205 : decode cX10_sacks 205 = .ok (.ireturn, 1) := by decide +kernel
theorem dX10_buyer_0 : decode cX10_buyer 0 = .ok (.iload_n 1, 1) := by decide +kernel
theorem dX10_buyer_1 : decode cX10_buyer 1 = .ok (.i2l, 1) := by decide +kernel
theorem dX10_buyer_2 : decode cX10_buyer 2 = .ok (.lconst 0, 1) := by decide +kernel
theorem dX10_buyer_3 : decode cX10_buyer 3 = .ok (.ldc2_w 122, 3) := by decide +kernel
theorem dX10_buyer_6 : decode cX10_buyer 6 = .ok (.invokestatic 96, 3) := by decide +kernel
theorem dX10_buyer_9 : decode cX10_buyer 9 = .ok (.ifCond .eq 15, 3) := by decide +kernel
theorem dX10_buyer_12 : decode cX10_buyer 12 = .ok (.iload_n 2, 1) := by decide +kernel
theorem dX10_buyer_13 : decode cX10_buyer 13 = .ok (.i2l, 1) := by decide +kernel
theorem dX10_buyer_14 : decode cX10_buyer 14 = .ok (.lconst 0, 1) := by decide +kernel
theorem dX10_buyer_15 : decode cX10_buyer 15 = .ok (.ldc2_w 124, 3) := by decide +kernel
theorem dX10_buyer_18 : decode cX10_buyer 18 = .ok (.invokestatic 96, 3) := by decide +kernel
theorem dX10_buyer_21 : decode cX10_buyer 21 = .ok (.ifCond .ne 5, 3) := by decide +kernel
theorem dX10_buyer_24 : decode cX10_buyer 24 = .ok (.iconst (-1), 1) := by decide +kernel
theorem dX10_buyer_25 : decode cX10_buyer 25 = .ok (.ireturn, 1) := by decide +kernel
theorem dX10_buyer_26 : decode cX10_buyer 26 = .ok (.aload_n 0, 1) := by decide +kernel
theorem dX10_buyer_27 : decode cX10_buyer 27 = .ok (.getfield 103, 3) := by decide +kernel
theorem dX10_buyer_30 : decode cX10_buyer 30 = .ok (.bipush 6, 2) := by decide +kernel
theorem dX10_buyer_32 : decode cX10_buyer 32 = .ok (.if_icmp .ne 6, 3) := by decide +kernel
theorem dX10_buyer_35 : decode cX10_buyer 35 = .ok (.bipush (-3), 2) := by decide +kernel
theorem dX10_buyer_37 : decode cX10_buyer 37 = .ok (.ireturn, 1) := by decide +kernel
theorem dX10_buyer_38 : decode cX10_buyer 38 = .ok (.aload_n 0, 1) := by decide +kernel
theorem dX10_buyer_39 : decode cX10_buyer 39 = .ok (.getfield 9, 3) := by decide +kernel
theorem dX10_buyer_42 : decode cX10_buyer 42 = .ok (.bipush 44, 2) := by decide +kernel
theorem dX10_buyer_44 : decode cX10_buyer 44 = .ok (.aload_n 0, 1) := by decide +kernel
theorem dX10_buyer_45 : decode cX10_buyer 45 = .ok (.getfield 103, 3) := by decide +kernel
theorem dX10_buyer_48 : decode cX10_buyer 48 = .ok (.iadd, 1) := by decide +kernel
theorem dX10_buyer_49 : decode cX10_buyer 49 = .ok (.iload_n 1, 1) := by decide +kernel
theorem dX10_buyer_50 : decode cX10_buyer 50 = .ok (.iastore, 1) := by decide +kernel
theorem dX10_buyer_51 : decode cX10_buyer 51 = .ok (.aload_n 0, 1) := by decide +kernel
theorem dX10_buyer_52 : decode cX10_buyer 52 = .ok (.getfield 9, 3) := by decide +kernel
theorem dX10_buyer_55 : decode cX10_buyer 55 = .ok (.bipush 50, 2) := by decide +kernel
theorem dX10_buyer_57 : decode cX10_buyer 57 = .ok (.aload_n 0, 1) := by decide +kernel
theorem dX10_buyer_58 : decode cX10_buyer 58 = .ok (.getfield 103, 3) := by decide +kernel
theorem dX10_buyer_61 : decode cX10_buyer 61 = .ok (.iadd, 1) := by decide +kernel
theorem dX10_buyer_62 : decode cX10_buyer 62 = .ok (.iload_n 2, 1) := by decide +kernel
theorem dX10_buyer_63 : decode cX10_buyer 63 = .ok (.iastore, 1) := by decide +kernel
theorem dX10_buyer_64 : decode cX10_buyer 64 = .ok (.aload_n 0, 1) := by decide +kernel
theorem dX10_buyer_65 : decode cX10_buyer 65 = .ok (.getfield 9, 3) := by decide +kernel
theorem dX10_buyer_68 : decode cX10_buyer 68 = .ok (.bipush 56, 2) := by decide +kernel
theorem dX10_buyer_70 : decode cX10_buyer 70 = .ok (.aload_n 0, 1) := by decide +kernel
theorem dX10_buyer_71 : decode cX10_buyer 71 = .ok (.getfield 103, 3) := by decide +kernel
theorem dX10_buyer_74 : decode cX10_buyer 74 = .ok (.iadd, 1) := by decide +kernel
theorem dX10_buyer_75 : decode cX10_buyer 75 = .ok (.bipush 9, 2) := by decide +kernel
theorem dX10_buyer_77 : decode cX10_buyer 77 = .ok (.iastore, 1) := by decide +kernel
theorem dX10_buyer_78 : decode cX10_buyer 78 = .ok (.aload_n 0, 1) := by decide +kernel
theorem dX10_buyer_79 : decode cX10_buyer 79 = .ok (.dup, 1) := by decide +kernel
theorem dX10_buyer_80 : decode cX10_buyer 80 = .ok (.getfield 103, 3) := by decide +kernel
theorem dX10_buyer_83 : decode cX10_buyer 83 = .ok (.iconst 1, 1) := by decide +kernel
theorem dX10_buyer_84 : decode cX10_buyer 84 = .ok (.iadd, 1) := by decide +kernel
theorem dX10_buyer_85 : decode cX10_buyer 85 = .ok (.putfield 103, 3) := by decide +kernel
theorem dX10_buyer_88 : decode cX10_buyer 88 = .ok (.aload_n 0, 1) := by decide +kernel
theorem dX10_buyer_89 : decode cX10_buyer 89 = .ok (.getfield 103, 3) := by decide +kernel
theorem dX10_buyer_92 : decode cX10_buyer 92 = .ok (.iconst 1, 1) := by decide +kernel
theorem dX10_buyer_93 : decode cX10_buyer 93 = .ok (.isub, 1) := by decide +kernel
theorem dX10_buyer_94 : decode cX10_buyer 94 = .ok (.ireturn, 1) := by decide +kernel
theorem dX10_placeOf_0 : decode cX10_placeOf 0 = .ok (.iload_n 2, 1) := by decide +kernel
theorem dX10_placeOf_1 : decode cX10_placeOf 1 = .ok (.i2l, 1) := by decide +kernel
theorem dX10_placeOf_2 : decode cX10_placeOf 2 = .ok (.lconst 0, 1) := by decide +kernel
theorem dX10_placeOf_3 : decode cX10_placeOf 3 = .ok (.ldc2_w 126, 3) := by decide +kernel
theorem dX10_placeOf_6 : decode cX10_placeOf 6 = .ok (.invokestatic 96, 3) := by decide +kernel
theorem dX10_placeOf_9 : decode cX10_placeOf 9 = .ok (.ifCond .eq 22, 3) := by decide +kernel
theorem dX10_placeOf_12 : decode cX10_placeOf 12 = .ok (.iload_n 1, 1) := by decide +kernel
theorem dX10_placeOf_13 : decode cX10_placeOf 13 = .ok (.i2l, 1) := by decide +kernel
theorem dX10_placeOf_14 : decode cX10_placeOf 14 = .ok (.invokestatic 106, 3) := by decide +kernel
theorem dX10_placeOf_17 : decode cX10_placeOf 17 = .ok (.ifCond .eq 12, 3) := by decide +kernel
theorem dX10_placeOf_20 : decode cX10_placeOf 20 = .ok (.bipush 6, 2) := by decide +kernel
theorem dX10_placeOf_22 : decode cX10_placeOf 22 = .ok (.iload_n 2, 1) := by decide +kernel
theorem dX10_placeOf_23 : decode cX10_placeOf 23 = .ok (.imul, 1) := by decide +kernel
theorem dX10_placeOf_24 : decode cX10_placeOf 24 = .ok (.iload_n 1, 1) := by decide +kernel
theorem dX10_placeOf_25 : decode cX10_placeOf 25 = .ok (.iadd, 1) := by decide +kernel
theorem dX10_placeOf_26 : decode cX10_placeOf 26 = .ok (.goto 4, 3) := by decide +kernel
theorem dX10_placeOf_29 : decode cX10_placeOf 29 = .ok (.iconst (-1), 1) := by decide +kernel
theorem dX10_placeOf_30 : decode cX10_placeOf 30 = .ok (.ireturn, 1) := by decide +kernel
theorem dX10_placeOf_31 : decode cX10_placeOf 31 = .ok (.iload_n 2, 1) := by decide +kernel
theorem dX10_placeOf_32 : decode cX10_placeOf 32 = .ok (.i2l, 1) := by decide +kernel
theorem dX10_placeOf_33 : decode cX10_placeOf 33 = .ok (.ldc2_w 128, 3) := by decide +kernel
theorem dX10_placeOf_36 : decode cX10_placeOf 36 = .ok (.ldc2_w 94, 3) := by decide +kernel
theorem dX10_placeOf_39 : decode cX10_placeOf 39 = .ok (.invokestatic 96, 3) := by decide +kernel
theorem dX10_placeOf_42 : decode cX10_placeOf 42 = .ok (.ifCond .eq 28, 3) := by decide +kernel
theorem dX10_placeOf_45 : decode cX10_placeOf 45 = .ok (.aload_n 0, 1) := by decide +kernel
theorem dX10_placeOf_46 : decode cX10_placeOf 46 = .ok (.iload_n 1, 1) := by decide +kernel
theorem dX10_placeOf_47 : decode cX10_placeOf 47 = .ok (.i2l, 1) := by decide +kernel
theorem dX10_placeOf_48 : decode cX10_placeOf 48 = .ok (.invokevirtual 130, 3) := by decide +kernel
theorem dX10_placeOf_51 : decode cX10_placeOf 51 = .ok (.ifCond .eq 17, 3) := by decide +kernel
theorem dX10_placeOf_54 : decode cX10_placeOf 54 = .ok (.bipush 24, 2) := by decide +kernel
theorem dX10_placeOf_56 : decode cX10_placeOf 56 = .ok (.bipush 10, 2) := by decide +kernel
theorem dX10_placeOf_58 : decode cX10_placeOf 58 = .ok (.iload_n 2, 1) := by decide +kernel
theorem dX10_placeOf_59 : decode cX10_placeOf 59 = .ok (.iconst 4, 1) := by decide +kernel
theorem dX10_placeOf_60 : decode cX10_placeOf 60 = .ok (.isub, 1) := by decide +kernel
theorem dX10_placeOf_61 : decode cX10_placeOf 61 = .ok (.imul, 1) := by decide +kernel
theorem dX10_placeOf_62 : decode cX10_placeOf 62 = .ok (.iadd, 1) := by decide +kernel
theorem dX10_placeOf_63 : decode cX10_placeOf 63 = .ok (.iload_n 1, 1) := by decide +kernel
theorem dX10_placeOf_64 : decode cX10_placeOf 64 = .ok (.iadd, 1) := by decide +kernel
theorem dX10_placeOf_65 : decode cX10_placeOf 65 = .ok (.goto 4, 3) := by decide +kernel
theorem dX10_placeOf_68 : decode cX10_placeOf 68 = .ok (.iconst (-1), 1) := by decide +kernel
theorem dX10_placeOf_69 : decode cX10_placeOf 69 = .ok (.ireturn, 1) := by decide +kernel
theorem dX10_placeOf_70 : decode cX10_placeOf 70 = .ok (.iload_n 2, 1) := by decide +kernel
theorem dX10_placeOf_71 : decode cX10_placeOf 71 = .ok (.i2l, 1) := by decide +kernel
theorem dX10_placeOf_72 : decode cX10_placeOf 72 = .ok (.ldc2_w 124, 3) := by decide +kernel
theorem dX10_placeOf_75 : decode cX10_placeOf 75 = .ok (.ldc2_w 133, 3) := by decide +kernel
theorem dX10_placeOf_78 : decode cX10_placeOf 78 = .ok (.invokestatic 96, 3) := by decide +kernel
theorem dX10_placeOf_81 : decode cX10_placeOf 81 = .ok (.ifCond .eq 27, 3) := by decide +kernel
theorem dX10_placeOf_84 : decode cX10_placeOf 84 = .ok (.aload_n 0, 1) := by decide +kernel
theorem dX10_placeOf_85 : decode cX10_placeOf 85 = .ok (.iload_n 1, 1) := by decide +kernel
theorem dX10_placeOf_86 : decode cX10_placeOf 86 = .ok (.i2l, 1) := by decide +kernel
theorem dX10_placeOf_87 : decode cX10_placeOf 87 = .ok (.invokevirtual 135, 3) := by decide +kernel
theorem dX10_placeOf_90 : decode cX10_placeOf 90 = .ok (.ifCond .eq 18, 3) := by decide +kernel
theorem dX10_placeOf_93 : decode cX10_placeOf 93 = .ok (.bipush 44, 2) := by decide +kernel
theorem dX10_placeOf_95 : decode cX10_placeOf 95 = .ok (.bipush 6, 2) := by decide +kernel
theorem dX10_placeOf_97 : decode cX10_placeOf 97 = .ok (.iload_n 2, 1) := by decide +kernel
theorem dX10_placeOf_98 : decode cX10_placeOf 98 = .ok (.bipush 6, 2) := by decide +kernel
theorem dX10_placeOf_100 : decode cX10_placeOf 100 = .ok (.isub, 1) := by decide +kernel
theorem dX10_placeOf_101 : decode cX10_placeOf 101 = .ok (.imul, 1) := by decide +kernel
theorem dX10_placeOf_102 : decode cX10_placeOf 102 = .ok (.iadd, 1) := by decide +kernel
theorem dX10_placeOf_103 : decode cX10_placeOf 103 = .ok (.iload_n 1, 1) := by decide +kernel
theorem dX10_placeOf_104 : decode cX10_placeOf 104 = .ok (.iadd, 1) := by decide +kernel
theorem dX10_placeOf_105 : decode cX10_placeOf 105 = .ok (.goto 4, 3) := by decide +kernel
theorem dX10_placeOf_108 : decode cX10_placeOf 108 = .ok (.iconst (-1), 1) := by decide +kernel
theorem dX10_placeOf_109 : decode cX10_placeOf 109 = .ok (.ireturn, 1) := by decide +kernel
theorem dX10_mayBecome_0 : decode cX10_mayBecome 0 = .ok (.iload_n 0, 1) := by decide +kernel
theorem dX10_mayBecome_1 : decode cX10_mayBecome 1 = .ok (.tableswitch 97 0 8 #[51, 97, 97, 97, 61, 51, 67, 77, 87], 51) := by decide +kernel
theorem dX10_mayBecome_52 : decode cX10_mayBecome 52 = .ok (.iload_n 1, 1) := by decide +kernel
theorem dX10_mayBecome_53 : decode cX10_mayBecome 53 = .ok (.i2l, 1) := by decide +kernel
theorem dX10_mayBecome_54 : decode cX10_mayBecome 54 = .ok (.lconst 0, 1) := by decide +kernel
theorem dX10_mayBecome_55 : decode cX10_mayBecome 55 = .ok (.ldc2_w 120, 3) := by decide +kernel
theorem dX10_mayBecome_58 : decode cX10_mayBecome 58 = .ok (.invokestatic 96, 3) := by decide +kernel
theorem dX10_mayBecome_61 : decode cX10_mayBecome 61 = .ok (.ireturn, 1) := by decide +kernel
theorem dX10_mayBecome_62 : decode cX10_mayBecome 62 = .ok (.iload_n 1, 1) := by decide +kernel
theorem dX10_mayBecome_63 : decode cX10_mayBecome 63 = .ok (.i2l, 1) := by decide +kernel
theorem dX10_mayBecome_64 : decode cX10_mayBecome 64 = .ok (.invokestatic 106, 3) := by decide +kernel
theorem dX10_mayBecome_67 : decode cX10_mayBecome 67 = .ok (.ireturn, 1) := by decide +kernel
theorem dX10_mayBecome_68 : decode cX10_mayBecome 68 = .ok (.iload_n 1, 1) := by decide +kernel
theorem dX10_mayBecome_69 : decode cX10_mayBecome 69 = .ok (.i2l, 1) := by decide +kernel
theorem dX10_mayBecome_70 : decode cX10_mayBecome 70 = .ok (.lconst 0, 1) := by decide +kernel
theorem dX10_mayBecome_71 : decode cX10_mayBecome 71 = .ok (.ldc2_w 122, 3) := by decide +kernel
theorem dX10_mayBecome_74 : decode cX10_mayBecome 74 = .ok (.invokestatic 96, 3) := by decide +kernel
theorem dX10_mayBecome_77 : decode cX10_mayBecome 77 = .ok (.ireturn, 1) := by decide +kernel
theorem dX10_mayBecome_78 : decode cX10_mayBecome 78 = .ok (.iload_n 1, 1) := by decide +kernel
theorem dX10_mayBecome_79 : decode cX10_mayBecome 79 = .ok (.i2l, 1) := by decide +kernel
theorem dX10_mayBecome_80 : decode cX10_mayBecome 80 = .ok (.lconst 0, 1) := by decide +kernel
theorem dX10_mayBecome_81 : decode cX10_mayBecome 81 = .ok (.ldc2_w 124, 3) := by decide +kernel
theorem dX10_mayBecome_84 : decode cX10_mayBecome 84 = .ok (.invokestatic 96, 3) := by decide +kernel
theorem dX10_mayBecome_87 : decode cX10_mayBecome 87 = .ok (.ireturn, 1) := by decide +kernel
theorem dX10_mayBecome_88 : decode cX10_mayBecome 88 = .ok (.iload_n 1, 1) := by decide +kernel
theorem dX10_mayBecome_89 : decode cX10_mayBecome 89 = .ok (.i2l, 1) := by decide +kernel
theorem dX10_mayBecome_90 : decode cX10_mayBecome 90 = .ok (.lconst 1, 1) := by decide +kernel
theorem dX10_mayBecome_91 : decode cX10_mayBecome 91 = .ok (.ldc2_w 138, 3) := by decide +kernel
theorem dX10_mayBecome_94 : decode cX10_mayBecome 94 = .ok (.invokestatic 96, 3) := by decide +kernel
theorem dX10_mayBecome_97 : decode cX10_mayBecome 97 = .ok (.ireturn, 1) := by decide +kernel
theorem dX10_mayBecome_98 : decode cX10_mayBecome 98 = .ok (.iload_n 1, 1) := by decide +kernel
theorem dX10_mayBecome_99 : decode cX10_mayBecome 99 = .ok (.i2l, 1) := by decide +kernel
theorem dX10_mayBecome_100 : decode cX10_mayBecome 100 = .ok (.lconst 0, 1) := by decide +kernel
theorem dX10_mayBecome_101 : decode cX10_mayBecome 101 = .ok (.ldc2_w 126, 3) := by decide +kernel
theorem dX10_mayBecome_104 : decode cX10_mayBecome 104 = .ok (.invokestatic 96, 3) := by decide +kernel
theorem dX10_mayBecome_107 : decode cX10_mayBecome 107 = .ok (.ireturn, 1) := by decide +kernel
theorem dX10_mend_0 : decode cX10_mend 0 = .ok (.aload_n 0, 1) := by decide +kernel
theorem dX10_mend_1 : decode cX10_mend 1 = .ok (.iload_n 1, 1) := by decide +kernel
theorem dX10_mend_2 : decode cX10_mend 2 = .ok (.iload_n 2, 1) := by decide +kernel
theorem dX10_mend_3 : decode cX10_mend 3 = .ok (.invokevirtual 140, 3) := by decide +kernel
theorem dX10_mend_6 : decode cX10_mend 6 = .ok (.istore 4, 2) := by decide +kernel
theorem dX10_mend_8 : decode cX10_mend 8 = .ok (.iload 4, 2) := by decide +kernel
theorem dX10_mend_10 : decode cX10_mend 10 = .ok (.ifCond .lt 21, 3) := by decide +kernel
theorem dX10_mend_13 : decode cX10_mend 13 = .ok (.iload_n 2, 1) := by decide +kernel
theorem dX10_mend_14 : decode cX10_mend 14 = .ok (.iload_n 3, 1) := by decide +kernel
theorem dX10_mend_15 : decode cX10_mend 15 = .ok (.invokestatic 144, 3) := by decide +kernel
theorem dX10_mend_18 : decode cX10_mend 18 = .ok (.ifCond .eq 13, 3) := by decide +kernel
theorem dX10_mend_21 : decode cX10_mend 21 = .ok (.aload_n 0, 1) := by decide +kernel
theorem dX10_mend_22 : decode cX10_mend 22 = .ok (.iload 4, 2) := by decide +kernel
theorem dX10_mend_24 : decode cX10_mend 24 = .ok (.iload_n 3, 1) := by decide +kernel
theorem dX10_mend_25 : decode cX10_mend 25 = .ok (.invokevirtual 148, 3) := by decide +kernel
theorem dX10_mend_28 : decode cX10_mend 28 = .ok (.goto 5, 3) := by decide +kernel
theorem dX10_mend_31 : decode cX10_mend 31 = .ok (.ldc 151, 2) := by decide +kernel
theorem dX10_mend_33 : decode cX10_mend 33 = .ok (.ireturn, 1) := by decide +kernel
theorem dX10_of_0 : decode cX10_of 0 = .ok (.aload_n 0, 1) := by decide +kernel
theorem dX10_of_1 : decode cX10_of 1 = .ok (.iload_n 1, 1) := by decide +kernel
theorem dX10_of_2 : decode cX10_of 2 = .ok (.iload_n 2, 1) := by decide +kernel
theorem dX10_of_3 : decode cX10_of 3 = .ok (.invokevirtual 140, 3) := by decide +kernel
theorem dX10_of_6 : decode cX10_of 6 = .ok (.istore_n 3, 1) := by decide +kernel
theorem dX10_of_7 : decode cX10_of 7 = .ok (.iload_n 3, 1) := by decide +kernel
theorem dX10_of_8 : decode cX10_of 8 = .ok (.ifCond .lt 10, 3) := by decide +kernel
theorem dX10_of_11 : decode cX10_of 11 = .ok (.aload_n 0, 1) := by decide +kernel
theorem dX10_of_12 : decode cX10_of 12 = .ok (.getfield 9, 3) := by decide +kernel
theorem dX10_of_15 : decode cX10_of 15 = .ok (.iload_n 3, 1) := by decide +kernel
theorem dX10_of_16 : decode cX10_of 16 = .ok (.iaload, 1) := by decide +kernel
theorem dX10_of_17 : decode cX10_of 17 = .ok (.ireturn, 1) := by decide +kernel
theorem dX10_of_18 : decode cX10_of 18 = .ok (.aload_n 0, 1) := by decide +kernel
theorem dX10_of_19 : decode cX10_of 19 = .ok (.iload_n 1, 1) := by decide +kernel
theorem dX10_of_20 : decode cX10_of 20 = .ok (.i2l, 1) := by decide +kernel
theorem dX10_of_21 : decode cX10_of 21 = .ok (.invokevirtual 130, 3) := by decide +kernel
theorem dX10_of_24 : decode cX10_of 24 = .ok (.ifCond .ne 8, 3) := by decide +kernel
theorem dX10_of_27 : decode cX10_of 27 = .ok (.ldc 151, 2) := by decide +kernel
theorem dX10_of_29 : decode cX10_of 29 = .ok (.goto 43, 3) := by decide +kernel
theorem dX10_of_32 : decode cX10_of 32 = .ok (.iload_n 2, 1) := by decide +kernel
theorem dX10_of_33 : decode cX10_of 33 = .ok (.bipush 9, 2) := by decide +kernel
theorem dX10_of_35 : decode cX10_of 35 = .ok (.if_icmp .ne 12, 3) := by decide +kernel
theorem dX10_of_38 : decode cX10_of 38 = .ok (.aload_n 0, 1) := by decide +kernel
theorem dX10_of_39 : decode cX10_of 39 = .ok (.getfield 22, 3) := by decide +kernel
theorem dX10_of_42 : decode cX10_of 42 = .ok (.iload_n 1, 1) := by decide +kernel
theorem dX10_of_43 : decode cX10_of 43 = .ok (.iaload, 1) := by decide +kernel
theorem dX10_of_44 : decode cX10_of 44 = .ok (.goto 28, 3) := by decide +kernel
theorem dX10_of_47 : decode cX10_of 47 = .ok (.iload_n 2, 1) := by decide +kernel
theorem dX10_of_48 : decode cX10_of 48 = .ok (.bipush 10, 2) := by decide +kernel
theorem dX10_of_50 : decode cX10_of 50 = .ok (.if_icmp .ne 20, 3) := by decide +kernel
theorem dX10_of_53 : decode cX10_of 53 = .ok (.aload_n 0, 1) := by decide +kernel
theorem dX10_of_54 : decode cX10_of 54 = .ok (.getfield 25, 3) := by decide +kernel
theorem dX10_of_57 : decode cX10_of 57 = .ok (.iload_n 1, 1) := by decide +kernel
theorem dX10_of_58 : decode cX10_of 58 = .ok (.baload, 1) := by decide +kernel
theorem dX10_of_59 : decode cX10_of 59 = .ok (.ifCond .eq 7, 3) := by decide +kernel
theorem dX10_of_62 : decode cX10_of 62 = .ok (.iconst 1, 1) := by decide +kernel
theorem dX10_of_63 : decode cX10_of 63 = .ok (.goto 9, 3) := by decide +kernel
theorem dX10_of_66 : decode cX10_of 66 = .ok (.iconst 0, 1) := by decide +kernel
theorem dX10_of_67 : decode cX10_of 67 = .ok (.goto 5, 3) := by decide +kernel
theorem dX10_of_70 : decode cX10_of 70 = .ok (.ldc 151, 2) := by decide +kernel
theorem dX10_of_72 : decode cX10_of 72 = .ok (.ireturn, 1) := by decide +kernel
theorem dX10_feed_0 : decode cX10_feed 0 = .ok (.iload_n 1, 1) := by decide +kernel
theorem dX10_feed_1 : decode cX10_feed 1 = .ok (.i2l, 1) := by decide +kernel
theorem dX10_feed_2 : decode cX10_feed 2 = .ok (.lconst 0, 1) := by decide +kernel
theorem dX10_feed_3 : decode cX10_feed 3 = .ok (.ldc2_w 152, 3) := by decide +kernel
theorem dX10_feed_6 : decode cX10_feed 6 = .ok (.invokestatic 96, 3) := by decide +kernel
theorem dX10_feed_9 : decode cX10_feed 9 = .ok (.ifCond .ne 5, 3) := by decide +kernel
theorem dX10_feed_12 : decode cX10_feed 12 = .ok (.iconst (-1), 1) := by decide +kernel
theorem dX10_feed_13 : decode cX10_feed 13 = .ok (.ireturn, 1) := by decide +kernel
theorem dX10_feed_14 : decode cX10_feed 14 = .ok (.aload_n 0, 1) := by decide +kernel
theorem dX10_feed_15 : decode cX10_feed 15 = .ok (.getfield 154, 3) := by decide +kernel
theorem dX10_feed_18 : decode cX10_feed 18 = .ok (.bipush 120, 2) := by decide +kernel
theorem dX10_feed_20 : decode cX10_feed 20 = .ok (.if_icmp .ne 6, 3) := by decide +kernel
theorem dX10_feed_23 : decode cX10_feed 23 = .ok (.bipush (-3), 2) := by decide +kernel
theorem dX10_feed_25 : decode cX10_feed 25 = .ok (.ireturn, 1) := by decide +kernel
theorem dX10_feed_26 : decode cX10_feed 26 = .ok (.aload_n 0, 1) := by decide +kernel
theorem dX10_feed_27 : decode cX10_feed 27 = .ok (.getfield 29, 3) := by decide +kernel
theorem dX10_feed_30 : decode cX10_feed 30 = .ok (.aload_n 0, 1) := by decide +kernel
theorem dX10_feed_31 : decode cX10_feed 31 = .ok (.getfield 154, 3) := by decide +kernel
theorem dX10_feed_34 : decode cX10_feed 34 = .ok (.iload_n 1, 1) := by decide +kernel
theorem dX10_feed_35 : decode cX10_feed 35 = .ok (.iastore, 1) := by decide +kernel
theorem dX10_feed_36 : decode cX10_feed 36 = .ok (.aload_n 0, 1) := by decide +kernel
theorem dX10_feed_37 : decode cX10_feed 37 = .ok (.dup, 1) := by decide +kernel
