theorem dX10_opens_67 : decode cX10_opens 67 = .ok (.dup2, 1) := by decide +kernel
theorem dX10_opens_68 : decode cX10_opens 68 = .ok (.iaload, 1) := by decide +kernel
theorem dX10_opens_69 : decode cX10_opens 69 = .ok (.iconst 1, 1) := by decide +kernel
theorem dX10_opens_70 : decode cX10_opens 70 = .ok (.iadd, 1) := by decide +kernel
theorem dX10_opens_71 : decode cX10_opens 71 = .ok (.iastore, 1) := by decide +kernel
theorem dX10_opens_72 : decode cX10_opens 72 = .ok (.aload_n 0, 1) := by decide +kernel
theorem dX10_opens_73 : decode cX10_opens 73 = .ok (.getfield 51, 3) := by decide +kernel
theorem dX10_opens_76 : decode cX10_opens 76 = .ok (.iconst 3, 1) := by decide +kernel
theorem dX10_opens_77 : decode cX10_opens 77 = .ok (.dup2, 1) := by decide +kernel
theorem dX10_opens_78 : decode cX10_opens 78 = .ok (.iaload, 1) := by decide +kernel
theorem dX10_opens_79 : decode cX10_opens 79 = .ok (.iload_n 2, 1) := by decide +kernel
theorem dX10_opens_80 : decode cX10_opens 80 = .ok (.ifCond .eq 7, 3) := by decide +kernel
theorem dX10_opens_83 : decode cX10_opens 83 = .ok (.iconst 1, 1) := by decide +kernel
theorem dX10_opens_84 : decode cX10_opens 84 = .ok (.goto 4, 3) := by decide +kernel
theorem dX10_opens_87 : decode cX10_opens 87 = .ok (.iconst 0, 1) := by decide +kernel
theorem dX10_opens_88 : decode cX10_opens 88 = .ok (.iadd, 1) := by decide +kernel
theorem dX10_opens_89 : decode cX10_opens 89 = .ok (.iastore, 1) := by decide +kernel
theorem dX10_opens_90 : decode cX10_opens 90 = .ok (.iload_n 2, 1) := by decide +kernel
theorem dX10_opens_91 : decode cX10_opens 91 = .ok (.ifCond .eq 7, 3) := by decide +kernel
theorem dX10_opens_94 : decode cX10_opens 94 = .ok (.iconst 1, 1) := by decide +kernel
theorem dX10_opens_95 : decode cX10_opens 95 = .ok (.goto 4, 3) := by decide +kernel
theorem dX10_opens_98 : decode cX10_opens 98 = .ok (.iconst 0, 1) := by decide +kernel
theorem dX10_opens_99 : decode cX10_opens 99 = .ok (.ireturn, 1) := by decide +kernel
theorem dX10_open_0 : decode cX10_open 0 = .ok (.aload_n 0, 1) := by decide +kernel
theorem dX10_open_1 : decode cX10_open 1 = .ok (.iload_n 1, 1) := by decide +kernel
theorem dX10_open_2 : decode cX10_open 2 = .ok (.i2l, 1) := by decide +kernel
theorem dX10_open_3 : decode cX10_open 3 = .ok (.invokevirtual 130, 3) := by decide +kernel
theorem dX10_open_6 : decode cX10_open 6 = .ok (.ifCond .ne 5, 3) := by decide +kernel
theorem dX10_open_9 : decode cX10_open 9 = .ok (.iconst (-1), 1) := by decide +kernel
theorem dX10_open_10 : decode cX10_open 10 = .ok (.ireturn, 1) := by decide +kernel
theorem dX10_open_11 : decode cX10_open 11 = .ok (.aload_n 0, 1) := by decide +kernel
theorem dX10_open_12 : decode cX10_open 12 = .ok (.getfield 25, 3) := by decide +kernel
theorem dX10_open_15 : decode cX10_open 15 = .ok (.iload_n 1, 1) := by decide +kernel
theorem dX10_open_16 : decode cX10_open 16 = .ok (.baload, 1) := by decide +kernel
theorem dX10_open_17 : decode cX10_open 17 = .ok (.ifCond .eq 6, 3) := by decide +kernel
theorem dX10_open_20 : decode cX10_open 20 = .ok (.bipush (-5), 2) := by decide +kernel
theorem dX10_open_22 : decode cX10_open 22 = .ok (.ireturn, 1) := by decide +kernel
theorem dX10_open_23 : decode cX10_open 23 = .ok (.aload_n 0, 1) := by decide +kernel
theorem dX10_open_24 : decode cX10_open 24 = .ok (.iload_n 1, 1) := by decide +kernel
theorem dX10_open_25 : decode cX10_open 25 = .ok (.invokevirtual 296, 3) := by decide +kernel
theorem dX10_open_28 : decode cX10_open 28 = .ok (.istore_n 2, 1) := by decide +kernel
theorem dX10_open_29 : decode cX10_open 29 = .ok (.aload_n 0, 1) := by decide +kernel
theorem dX10_open_30 : decode cX10_open 30 = .ok (.getfield 9, 3) := by decide +kernel
theorem dX10_open_33 : decode cX10_open 33 = .ok (.bipush 24, 2) := by decide +kernel
theorem dX10_open_35 : decode cX10_open 35 = .ok (.iload_n 1, 1) := by decide +kernel
theorem dX10_open_36 : decode cX10_open 36 = .ok (.iadd, 1) := by decide +kernel
theorem dX10_open_37 : decode cX10_open 37 = .ok (.iaload, 1) := by decide +kernel
theorem dX10_open_38 : decode cX10_open 38 = .ok (.ireturn, 1) := by decide +kernel
theorem dX10_dusk_0 : decode cX10_dusk 0 = .ok (.iconst 0, 1) := by decide +kernel
theorem dX10_dusk_1 : decode cX10_dusk 1 = .ok (.istore_n 1, 1) := by decide +kernel
theorem dX10_dusk_2 : decode cX10_dusk 2 = .ok (.iconst 0, 1) := by decide +kernel
theorem dX10_dusk_3 : decode cX10_dusk 3 = .ok (.istore_n 2, 1) := by decide +kernel
theorem dX10_dusk_4 : decode cX10_dusk 4 = .ok (.iload_n 2, 1) := by decide +kernel
theorem dX10_dusk_5 : decode cX10_dusk 5 = .ok (.aload_n 0, 1) := by decide +kernel
theorem dX10_dusk_6 : decode cX10_dusk 6 = .ok (.getfield 100, 3) := by decide +kernel
theorem dX10_dusk_9 : decode cX10_dusk 9 = .ok (.if_icmp .ge 30, 3) := by decide +kernel
theorem dX10_dusk_12 : decode cX10_dusk 12 = .ok (.iload_n 1, 1) := by decide +kernel
theorem dX10_dusk_13 : decode cX10_dusk 13 = .ok (.aload_n 0, 1) := by decide +kernel
theorem dX10_dusk_14 : decode cX10_dusk 14 = .ok (.getfield 25, 3) := by decide +kernel
theorem dX10_dusk_17 : decode cX10_dusk 17 = .ok (.iload_n 2, 1) := by decide +kernel
theorem dX10_dusk_18 : decode cX10_dusk 18 = .ok (.baload, 1) := by decide +kernel
theorem dX10_dusk_19 : decode cX10_dusk 19 = .ok (.ifCond .eq 7, 3) := by decide +kernel
theorem dX10_dusk_22 : decode cX10_dusk 22 = .ok (.iconst 0, 1) := by decide +kernel
theorem dX10_dusk_23 : decode cX10_dusk 23 = .ok (.goto 8, 3) := by decide +kernel
theorem dX10_dusk_26 : decode cX10_dusk 26 = .ok (.aload_n 0, 1) := by decide +kernel
theorem dX10_dusk_27 : decode cX10_dusk 27 = .ok (.iload_n 2, 1) := by decide +kernel
theorem dX10_dusk_28 : decode cX10_dusk 28 = .ok (.invokevirtual 296, 3) := by decide +kernel
theorem dX10_dusk_31 : decode cX10_dusk 31 = .ok (.iadd, 1) := by decide +kernel
theorem dX10_dusk_32 : decode cX10_dusk 32 = .ok (.istore_n 1, 1) := by decide +kernel
theorem dX10_dusk_33 : decode cX10_dusk 33 = .ok (.iinc 2 1, 3) := by decide +kernel
theorem dX10_dusk_36 : decode cX10_dusk 36 = .ok (.goto (-32), 3) := by decide +kernel
theorem dX10_dusk_39 : decode cX10_dusk 39 = .ok (.aload_n 0, 1) := by decide +kernel
theorem dX10_dusk_40 : decode cX10_dusk 40 = .ok (.getfield 51, 3) := by decide +kernel
theorem dX10_dusk_43 : decode cX10_dusk 43 = .ok (.iconst 4, 1) := by decide +kernel
theorem dX10_dusk_44 : decode cX10_dusk 44 = .ok (.dup2, 1) := by decide +kernel
theorem dX10_dusk_45 : decode cX10_dusk 45 = .ok (.iaload, 1) := by decide +kernel
theorem dX10_dusk_46 : decode cX10_dusk 46 = .ok (.iconst 1, 1) := by decide +kernel
theorem dX10_dusk_47 : decode cX10_dusk 47 = .ok (.iadd, 1) := by decide +kernel
theorem dX10_dusk_48 : decode cX10_dusk 48 = .ok (.iastore, 1) := by decide +kernel
theorem dX10_dusk_49 : decode cX10_dusk 49 = .ok (.iload_n 1, 1) := by decide +kernel
theorem dX10_dusk_50 : decode cX10_dusk 50 = .ok (.ireturn, 1) := by decide +kernel
theorem dX10_led_0 : decode cX10_led 0 = .ok (.iload_n 1, 1) := by decide +kernel
theorem dX10_led_1 : decode cX10_led 1 = .ok (.i2l, 1) := by decide +kernel
theorem dX10_led_2 : decode cX10_led 2 = .ok (.lconst 0, 1) := by decide +kernel
theorem dX10_led_3 : decode cX10_led 3 = .ok (.ldc2_w 128, 3) := by decide +kernel
theorem dX10_led_6 : decode cX10_led 6 = .ok (.invokestatic 96, 3) := by decide +kernel
theorem dX10_led_9 : decode cX10_led 9 = .ok (.ifCond .eq 12, 3) := by decide +kernel
theorem dX10_led_12 : decode cX10_led 12 = .ok (.aload_n 0, 1) := by decide +kernel
theorem dX10_led_13 : decode cX10_led 13 = .ok (.getfield 51, 3) := by decide +kernel
theorem dX10_led_16 : decode cX10_led 16 = .ok (.iload_n 1, 1) := by decide +kernel
theorem dX10_led_17 : decode cX10_led 17 = .ok (.iaload, 1) := by decide +kernel
theorem dX10_led_18 : decode cX10_led 18 = .ok (.goto 4, 3) := by decide +kernel
theorem dX10_led_21 : decode cX10_led 21 = .ok (.iconst (-1), 1) := by decide +kernel
theorem dX10_led_22 : decode cX10_led 22 = .ok (.ireturn, 1) := by decide +kernel
theorem dX10_image_0 : decode cX10_image 0 = .ok (.aload_n 0, 1) := by decide +kernel
theorem dX10_image_1 : decode cX10_image 1 = .ok (.iconst 1, 1) := by decide +kernel
theorem dX10_image_2 : decode cX10_image 2 = .ok (.putfield 299, 3) := by decide +kernel
theorem dX10_image_5 : decode cX10_image 5 = .ok (.aload_n 0, 1) := by decide +kernel
theorem dX10_image_6 : decode cX10_image 6 = .ok (.aload_n 0, 1) := by decide +kernel
theorem dX10_image_7 : decode cX10_image 7 = .ok (.getfield 100, 3) := by decide +kernel
theorem dX10_image_10 : decode cX10_image 10 = .ok (.putfield 303, 3) := by decide +kernel
theorem dX10_image_13 : decode cX10_image 13 = .ok (.aload_n 0, 1) := by decide +kernel
theorem dX10_image_14 : decode cX10_image 14 = .ok (.aload_n 0, 1) := by decide +kernel
theorem dX10_image_15 : decode cX10_image 15 = .ok (.getfield 103, 3) := by decide +kernel
theorem dX10_image_18 : decode cX10_image 18 = .ok (.putfield 306, 3) := by decide +kernel
theorem dX10_image_21 : decode cX10_image 21 = .ok (.iconst 0, 1) := by decide +kernel
theorem dX10_image_22 : decode cX10_image 22 = .ok (.istore_n 1, 1) := by decide +kernel
theorem dX10_image_23 : decode cX10_image 23 = .ok (.iload_n 1, 1) := by decide +kernel
theorem dX10_image_24 : decode cX10_image 24 = .ok (.aload_n 0, 1) := by decide +kernel
theorem dX10_image_25 : decode cX10_image 25 = .ok (.getfield 100, 3) := by decide +kernel
theorem dX10_image_28 : decode cX10_image 28 = .ok (.if_icmp .ge 33, 3) := by decide +kernel
theorem dX10_image_31 : decode cX10_image 31 = .ok (.aload_n 0, 1) := by decide +kernel
theorem dX10_image_32 : decode cX10_image 32 = .ok (.getfield 54, 3) := by decide +kernel
theorem dX10_image_35 : decode cX10_image 35 = .ok (.iload_n 1, 1) := by decide +kernel
theorem dX10_image_36 : decode cX10_image 36 = .ok (.aload_n 0, 1) := by decide +kernel
theorem dX10_image_37 : decode cX10_image 37 = .ok (.getfield 22, 3) := by decide +kernel
theorem dX10_image_40 : decode cX10_image 40 = .ok (.iload_n 1, 1) := by decide +kernel
theorem dX10_image_41 : decode cX10_image 41 = .ok (.iaload, 1) := by decide +kernel
theorem dX10_image_42 : decode cX10_image 42 = .ok (.iastore, 1) := by decide +kernel
theorem dX10_image_43 : decode cX10_image 43 = .ok (.aload_n 0, 1) := by decide +kernel
theorem dX10_image_44 : decode cX10_image 44 = .ok (.getfield 57, 3) := by decide +kernel
theorem dX10_image_47 : decode cX10_image 47 = .ok (.iload_n 1, 1) := by decide +kernel
theorem dX10_image_48 : decode cX10_image 48 = .ok (.aload_n 0, 1) := by decide +kernel
theorem dX10_image_49 : decode cX10_image 49 = .ok (.getfield 25, 3) := by decide +kernel
theorem dX10_image_52 : decode cX10_image 52 = .ok (.iload_n 1, 1) := by decide +kernel
theorem dX10_image_53 : decode cX10_image 53 = .ok (.baload, 1) := by decide +kernel
theorem dX10_image_54 : decode cX10_image 54 = .ok (.bastore, 1) := by decide +kernel
theorem dX10_image_55 : decode cX10_image 55 = .ok (.iinc 1 1, 3) := by decide +kernel
theorem dX10_image_58 : decode cX10_image 58 = .ok (.goto (-35), 3) := by decide +kernel
theorem dX10_image_61 : decode cX10_image 61 = .ok (.iconst 0, 1) := by decide +kernel
theorem dX10_image_62 : decode cX10_image 62 = .ok (.istore_n 1, 1) := by decide +kernel
theorem dX10_image_63 : decode cX10_image 63 = .ok (.iload_n 1, 1) := by decide +kernel
theorem dX10_image_64 : decode cX10_image 64 = .ok (.aload_n 0, 1) := by decide +kernel
theorem dX10_image_65 : decode cX10_image 65 = .ok (.getfield 103, 3) := by decide +kernel
theorem dX10_image_68 : decode cX10_image 68 = .ok (.if_icmp .ge 24, 3) := by decide +kernel
theorem dX10_image_71 : decode cX10_image 71 = .ok (.aload_n 0, 1) := by decide +kernel
theorem dX10_image_72 : decode cX10_image 72 = .ok (.getfield 60, 3) := by decide +kernel
theorem dX10_image_75 : decode cX10_image 75 = .ok (.iload_n 1, 1) := by decide +kernel
theorem dX10_image_76 : decode cX10_image 76 = .ok (.aload_n 0, 1) := by decide +kernel
theorem dX10_image_77 : decode cX10_image 77 = .ok (.getfield 9, 3) := by decide +kernel
theorem dX10_image_80 : decode cX10_image 80 = .ok (.bipush 44, 2) := by decide +kernel
theorem dX10_image_82 : decode cX10_image 82 = .ok (.iload_n 1, 1) := by decide +kernel
theorem dX10_image_83 : decode cX10_image 83 = .ok (.iadd, 1) := by decide +kernel
theorem dX10_image_84 : decode cX10_image 84 = .ok (.iaload, 1) := by decide +kernel
theorem dX10_image_85 : decode cX10_image 85 = .ok (.iastore, 1) := by decide +kernel
theorem dX10_image_86 : decode cX10_image 86 = .ok (.iinc 1 1, 3) := by decide +kernel
theorem dX10_image_89 : decode cX10_image 89 = .ok (.goto (-26), 3) := by decide +kernel
theorem dX10_image_92 : decode cX10_image 92 = .ok (.iconst 0, 1) := by decide +kernel
theorem dX10_image_93 : decode cX10_image 93 = .ok (.istore_n 1, 1) := by decide +kernel
theorem dX10_image_94 : decode cX10_image 94 = .ok (.iload_n 1, 1) := by decide +kernel
theorem dX10_image_95 : decode cX10_image 95 = .ok (.iconst 5, 1) := by decide +kernel
theorem dX10_image_96 : decode cX10_image 96 = .ok (.if_icmp .ge 21, 3) := by decide +kernel
theorem dX10_image_99 : decode cX10_image 99 = .ok (.aload_n 0, 1) := by decide +kernel
theorem dX10_image_100 : decode cX10_image 100 = .ok (.getfield 63, 3) := by decide +kernel
theorem dX10_image_103 : decode cX10_image 103 = .ok (.iload_n 1, 1) := by decide +kernel
theorem dX10_image_104 : decode cX10_image 104 = .ok (.aload_n 0, 1) := by decide +kernel
theorem dX10_image_105 : decode cX10_image 105 = .ok (.getfield 51, 3) := by decide +kernel
theorem dX10_image_108 : decode cX10_image 108 = .ok (.iload_n 1, 1) := by decide +kernel
theorem dX10_image_109 : decode cX10_image 109 = .ok (.iaload, 1) := by decide +kernel
theorem dX10_image_110 : decode cX10_image 110 = .ok (.iastore, 1) := by decide +kernel
theorem dX10_image_111 : decode cX10_image 111 = .ok (.iinc 1 1, 3) := by decide +kernel
theorem dX10_image_114 : decode cX10_image 114 = .ok (.goto (-20), 3) := by decide +kernel
theorem dX10_image_117 : decode cX10_image 117 = .ok (.aload_n 0, 1) := by decide +kernel
theorem dX10_image_118 : decode cX10_image 118 = .ok (.getfield 51, 3) := by decide +kernel
theorem dX10_image_121 : decode cX10_image 121 = .ok (.iconst 0, 1) := by decide +kernel
theorem dX10_image_122 : decode cX10_image 122 = .ok (.iaload, 1) := by decide +kernel
theorem dX10_image_123 : decode cX10_image 123 = .ok (.ireturn, 1) := by decide +kernel
theorem dX10_back_0 : decode cX10_back 0 = .ok (.aload_n 0, 1) := by decide +kernel
theorem dX10_back_1 : decode cX10_back 1 = .ok (.getfield 299, 3) := by decide +kernel
theorem dX10_back_4 : decode cX10_back 4 = .ok (.ifCond .ne 6, 3) := by decide +kernel
theorem dX10_back_7 : decode cX10_back 7 = .ok (.bipush (-5), 2) := by decide +kernel
theorem dX10_back_9 : decode cX10_back 9 = .ok (.ireturn, 1) := by decide +kernel
theorem dX10_back_10 : decode cX10_back 10 = .ok (.iconst 0, 1) := by decide +kernel
theorem dX10_back_11 : decode cX10_back 11 = .ok (.istore_n 1, 1) := by decide +kernel
theorem dX10_back_12 : decode cX10_back 12 = .ok (.iload_n 1, 1) := by decide +kernel
theorem dX10_back_13 : decode cX10_back 13 = .ok (.aload_n 0, 1) := by decide +kernel
theorem dX10_back_14 : decode cX10_back 14 = .ok (.getfield 303, 3) := by decide +kernel
theorem dX10_back_17 : decode cX10_back 17 = .ok (.if_icmp .ge 33, 3) := by decide +kernel
theorem dX10_back_20 : decode cX10_back 20 = .ok (.aload_n 0, 1) := by decide +kernel
theorem dX10_back_21 : decode cX10_back 21 = .ok (.getfield 22, 3) := by decide +kernel
theorem dX10_back_24 : decode cX10_back 24 = .ok (.iload_n 1, 1) := by decide +kernel
theorem dX10_back_25 : decode cX10_back 25 = .ok (.aload_n 0, 1) := by decide +kernel
theorem dX10_back_26 : decode cX10_back 26 = .ok (.getfield 54, 3) := by decide +kernel
theorem dX10_back_29 : decode cX10_back 29 = .ok (.iload_n 1, 1) := by decide +kernel
theorem dX10_back_30 : decode cX10_back 30 = .ok (.iaload, 1) := by decide +kernel
theorem dX10_back_31 : decode cX10_back 31 = .ok (.iastore, 1) := by decide +kernel
theorem dX10_back_32 : decode cX10_back 32 = .ok (.aload_n 0, 1) := by decide +kernel
theorem dX10_back_33 : decode cX10_back 33 = .ok (.getfield 25, 3) := by decide +kernel
theorem dX10_back_36 : decode cX10_back 36 = .ok (.iload_n 1, 1) := by decide +kernel
theorem dX10_back_37 : decode cX10_back 37 = .ok (.aload_n 0, 1) := by decide +kernel
theorem dX10_back_38 : decode cX10_back 38 = .ok (.getfield 57, 3) := by decide +kernel
theorem dX10_back_41 : decode cX10_back 41 = .ok (.iload_n 1, 1) := by decide +kernel
theorem dX10_back_42 : decode cX10_back 42 = .ok (.baload, 1) := by decide +kernel
theorem dX10_back_43 : decode cX10_back 43 = .ok (.bastore, 1) := by decide +kernel
theorem dX10_back_44 : decode cX10_back 44 = .ok (.iinc 1 1, 3) := by decide +kernel
theorem dX10_back_47 : decode cX10_back 47 = .ok (.goto (-35), 3) := by decide +kernel
theorem dX10_back_50 : decode cX10_back 50 = .ok (.iconst 0, 1) := by decide +kernel
theorem dX10_back_51 : decode cX10_back 51 = .ok (.istore_n 1, 1) := by decide +kernel
theorem dX10_back_52 : decode cX10_back 52 = .ok (.iload_n 1, 1) := by decide +kernel
theorem dX10_back_53 : decode cX10_back 53 = .ok (.aload_n 0, 1) := by decide +kernel
theorem dX10_back_54 : decode cX10_back 54 = .ok (.getfield 306, 3) := by decide +kernel
theorem dX10_back_57 : decode cX10_back 57 = .ok (.if_icmp .ge 24, 3) := by decide +kernel
theorem dX10_back_60 : decode cX10_back 60 = .ok (.aload_n 0, 1) := by decide +kernel
theorem dX10_back_61 : decode cX10_back 61 = .ok (.getfield 9, 3) := by decide +kernel
theorem dX10_back_64 : decode cX10_back 64 = .ok (.bipush 44, 2) := by decide +kernel
theorem dX10_back_66 : decode cX10_back 66 = .ok (.iload_n 1, 1) := by decide +kernel
theorem dX10_back_67 : decode cX10_back 67 = .ok (.iadd, 1) := by decide +kernel
theorem dX10_back_68 : decode cX10_back 68 = .ok (.aload_n 0, 1) := by decide +kernel
theorem dX10_back_69 : decode cX10_back 69 = .ok (.getfield 60, 3) := by decide +kernel
theorem dX10_back_72 : decode cX10_back 72 = .ok (.iload_n 1, 1) := by decide +kernel
theorem dX10_back_73 : decode cX10_back 73 = .ok (.iaload, 1) := by decide +kernel
theorem dX10_back_74 : decode cX10_back 74 = .ok (.iastore, 1) := by decide +kernel
theorem dX10_back_75 : decode cX10_back 75 = .ok (.iinc 1 1, 3) := by decide +kernel
theorem dX10_back_78 : decode cX10_back 78 = .ok (.goto (-26), 3) := by decide +kernel
theorem dX10_back_81 : decode cX10_back 81 = .ok (.iconst 0, 1) := by decide +kernel
theorem dX10_back_82 : decode cX10_back 82 = .ok (.istore_n 1, 1) := by decide +kernel
theorem dX10_back_83 : decode cX10_back 83 = .ok (.iload_n 1, 1) := by decide +kernel
theorem dX10_back_84 : decode cX10_back 84 = .ok (.iconst 5, 1) := by decide +kernel
theorem dX10_back_85 : decode cX10_back 85 = .ok (.if_icmp .ge 21, 3) := by decide +kernel
theorem dX10_back_88 : decode cX10_back 88 = .ok (.aload_n 0, 1) := by decide +kernel
theorem dX10_back_89 : decode cX10_back 89 = .ok (.getfield 51, 3) := by decide +kernel
theorem dX10_back_92 : decode cX10_back 92 = .ok (.iload_n 1, 1) := by decide +kernel
theorem dX10_back_93 : decode cX10_back 93 = .ok (.aload_n 0, 1) := by decide +kernel
theorem dX10_back_94 : decode cX10_back 94 = .ok (.getfield 63, 3) := by decide +kernel
theorem dX10_back_97 : decode cX10_back 97 = .ok (.iload_n 1, 1) := by decide +kernel
theorem dX10_back_98 : decode cX10_back 98 = .ok (.iaload, 1) := by decide +kernel
theorem dX10_back_99 : decode cX10_back 99 = .ok (.iastore, 1) := by decide +kernel
theorem dX10_back_100 : decode cX10_back 100 = .ok (.iinc 1 1, 3) := by decide +kernel
theorem dX10_back_103 : decode cX10_back 103 = .ok (.goto (-20), 3) := by decide +kernel
theorem dX10_back_106 : decode cX10_back 106 = .ok (.aload_n 0, 1) := by decide +kernel
theorem dX10_back_107 : decode cX10_back 107 = .ok (.getfield 51, 3) := by decide +kernel
theorem dX10_back_110 : decode cX10_back 110 = .ok (.iconst 0, 1) := by decide +kernel
theorem dX10_back_111 : decode cX10_back 111 = .ok (.iaload, 1) := by decide +kernel
theorem dX10_back_112 : decode cX10_back 112 = .ok (.ireturn, 1) := by decide +kernel
theorem dX10_isBody_0 : decode cX10_isBody 0 = .ok (.iload_n 1, 1) := by decide +kernel
theorem dX10_isBody_1 : decode cX10_isBody 1 = .ok (.i2l, 1) := by decide +kernel
theorem dX10_isBody_2 : decode cX10_isBody 2 = .ok (.lconst 0, 1) := by decide +kernel
theorem dX10_isBody_3 : decode cX10_isBody 3 = .ok (.aload_n 0, 1) := by decide +kernel
theorem dX10_isBody_4 : decode cX10_isBody 4 = .ok (.getfield 309, 3) := by decide +kernel
theorem dX10_isBody_7 : decode cX10_isBody 7 = .ok (.iconst 1, 1) := by decide +kernel
theorem dX10_isBody_8 : decode cX10_isBody 8 = .ok (.isub, 1) := by decide +kernel
theorem dX10_isBody_9 : decode cX10_isBody 9 = .ok (.i2l, 1) := by decide +kernel
theorem dX10_isBody_10 : decode cX10_isBody 10 = .ok (.invokestatic 96, 3) := by decide +kernel
theorem dX10_isBody_13 : decode cX10_isBody 13 = .ok (.ireturn, 1) := by decide +kernel
theorem dX10_kindOf_0 : decode cX10_kindOf 0 = .ok (.aload_n 0, 1) := by decide +kernel
theorem dX10_kindOf_1 : decode cX10_kindOf 1 = .ok (.getfield 66, 3) := by decide +kernel
theorem dX10_kindOf_4 : decode cX10_kindOf 4 = .ok (.iload_n 1, 1) := by decide +kernel
theorem dX10_kindOf_5 : decode cX10_kindOf 5 = .ok (.iaload, 1) := by decide +kernel
theorem dX10_kindOf_6 : decode cX10_kindOf 6 = .ok (.ireturn, 1) := by decide +kernel
theorem dX10_body_0 : decode cX10_body 0 = .ok (.iload_n 1, 1) := by decide +kernel
theorem dX10_body_1 : decode cX10_body 1 = .ok (.i2l, 1) := by decide +kernel
theorem dX10_body_2 : decode cX10_body 2 = .ok (.lconst 0, 1) := by decide +kernel
theorem dX10_body_3 : decode cX10_body 3 = .ok (.ldc2_w 312, 3) := by decide +kernel
theorem dX10_body_6 : decode cX10_body 6 = .ok (.invokestatic 96, 3) := by decide +kernel
theorem dX10_body_9 : decode cX10_body 9 = .ok (.ifCond .ne 5, 3) := by decide +kernel
theorem dX10_body_12 : decode cX10_body 12 = .ok (.iconst (-1), 1) := by decide +kernel
theorem dX10_body_13 : decode cX10_body 13 = .ok (.ireturn, 1) := by decide +kernel
theorem dX10_body_14 : decode cX10_body 14 = .ok (.aload_n 0, 1) := by decide +kernel
theorem dX10_body_15 : decode cX10_body 15 = .ok (.getfield 309, 3) := by decide +kernel
theorem dX10_body_18 : decode cX10_body 18 = .ok (.bipush 50, 2) := by decide +kernel
theorem dX10_body_20 : decode cX10_body 20 = .ok (.if_icmp .ne 6, 3) := by decide +kernel
theorem dX10_body_23 : decode cX10_body 23 = .ok (.bipush (-3), 2) := by decide +kernel
theorem dX10_body_25 : decode cX10_body 25 = .ok (.ireturn, 1) := by decide +kernel
theorem dX10_body_26 : decode cX10_body 26 = .ok (.aload_n 0, 1) := by decide +kernel
theorem dX10_body_27 : decode cX10_body 27 = .ok (.getfield 66, 3) := by decide +kernel
theorem dX10_body_30 : decode cX10_body 30 = .ok (.aload_n 0, 1) := by decide +kernel
theorem dX10_body_31 : decode cX10_body 31 = .ok (.getfield 309, 3) := by decide +kernel
theorem dX10_body_34 : decode cX10_body 34 = .ok (.iload_n 1, 1) := by decide +kernel
theorem dX10_body_35 : decode cX10_body 35 = .ok (.iastore, 1) := by decide +kernel
theorem dX10_body_36 : decode cX10_body 36 = .ok (.aload_n 0, 1) := by decide +kernel
theorem dX10_body_37 : decode cX10_body 37 = .ok (.dup, 1) := by decide +kernel
theorem dX10_body_38 : decode cX10_body 38 = .ok (.getfield 309, 3) := by decide +kernel
theorem dX10_body_41 : decode cX10_body 41 = .ok (.iconst 1, 1) := by decide +kernel
theorem dX10_body_42 : decode cX10_body 42 = .ok (.iadd, 1) := by decide +kernel
theorem dX10_body_43 : decode cX10_body 43 = .ok (.putfield 309, 3) := by decide +kernel
theorem dX10_body_46 : decode cX10_body 46 = .ok (.aload_n 0, 1) := by decide +kernel
theorem dX10_body_47 : decode cX10_body 47 = .ok (.getfield 309, 3) := by decide +kernel
theorem dX10_body_50 : decode cX10_body 50 = .ok (.iconst 1, 1) := by decide +kernel
theorem dX10_body_51 : decode cX10_body 51 = .ok (.isub, 1) := by decide +kernel
theorem dX10_body_52 : decode cX10_body 52 = .ok (.ireturn, 1) := by decide +kernel
theorem dX10_above_0 : decode cX10_above 0 = .ok (.iload_n 0, 1) := by decide +kernel
theorem dX10_above_1 : decode cX10_above 1 = .ok (.iconst 3, 1) := by decide +kernel
theorem dX10_above_2 : decode cX10_above 2 = .ok (.if_icmp .ne 7, 3) := by decide +kernel
theorem dX10_above_5 : decode cX10_above 5 = .ok (.iconst 2, 1) := by decide +kernel
theorem dX10_above_6 : decode cX10_above 6 = .ok (.goto 32, 3) := by decide +kernel
theorem dX10_above_9 : decode cX10_above 9 = .ok (.iload_n 0, 1) := by decide +kernel
theorem dX10_above_10 : decode cX10_above 10 = .ok (.iconst 4, 1) := by decide +kernel
theorem dX10_above_11 : decode cX10_above 11 = .ok (.if_icmp .ne 7, 3) := by decide +kernel
theorem dX10_above_14 : decode cX10_above 14 = .ok (.iconst 1, 1) := by decide +kernel
theorem dX10_above_15 : decode cX10_above 15 = .ok (.goto 23, 3) := by decide +kernel
theorem dX10_above_18 : decode cX10_above 18 = .ok (.iload_n 0, 1) := by decide +kernel
theorem dX10_above_19 : decode cX10_above 19 = .ok (.iconst 5, 1) := by decide +kernel
theorem dX10_above_20 : decode cX10_above 20 = .ok (.if_icmp .ne 7, 3) := by decide +kernel
theorem dX10_above_23 : decode cX10_above 23 = .ok (.iconst 3, 1) := by decide +kernel
theorem dX10_above_24 : decode cX10_above 24 = .ok (.goto 14, 3) := by decide +kernel
theorem dX10_above_27 : decode cX10_above 27 = .ok (.iload_n 0, 1) := by decide +kernel
theorem dX10_above_28 : decode cX10_above 28 = .ok (.bipush 7, 2) := by decide +kernel
theorem dX10_above_30 : decode cX10_above 30 = .ok (.if_icmp .ne 7, 3) := by decide +kernel
theorem dX10_above_33 : decode cX10_above 33 = .ok (.iconst 4, 1) := by decide +kernel
theorem dX10_above_34 : decode cX10_above 34 = .ok (.goto 4, 3) := by decide +kernel
theorem dX10_above_37 : decode cX10_above 37 = .ok (.iconst 0, 1) := by decide +kernel
theorem dX10_above_38 : decode cX10_above 38 = .ok (.ireturn, 1) := by decide +kernel
theorem dX10_runs_0 : decode cX10_runs 0 = .ok (.aload_n 0, 1) := by decide +kernel
theorem dX10_runs_1 : decode cX10_runs 1 = .ok (.getfield 314, 3) := by decide +kernel
theorem dX10_runs_4 : decode cX10_runs 4 = .ok (.bipush 24, 2) := by decide +kernel
theorem dX10_runs_6 : decode cX10_runs 6 = .ok (.if_icmp .ge 13, 3) := by decide +kernel
theorem dX10_runs_9 : decode cX10_runs 9 = .ok (.aload_n 0, 1) := by decide +kernel
theorem dX10_runs_10 : decode cX10_runs 10 = .ok (.getfield 69, 3) := by decide +kernel
theorem dX10_runs_13 : decode cX10_runs 13 = .ok (.aload_n 0, 1) := by decide +kernel
theorem dX10_runs_14 : decode cX10_runs 14 = .ok (.getfield 314, 3) := by decide +kernel
theorem dX10_runs_17 : decode cX10_runs 17 = .ok (.iload_n 1, 1) := by decide +kernel
theorem dX10_runs_18 : decode cX10_runs 18 = .ok (.iastore, 1) := by decide +kernel
theorem dX10_runs_19 : decode cX10_runs 19 = .ok (.aload_n 0, 1) := by decide +kernel
theorem dX10_runs_20 : decode cX10_runs 20 = .ok (.dup, 1) := by decide +kernel
theorem dX10_runs_21 : decode cX10_runs 21 = .ok (.getfield 314, 3) := by decide +kernel
theorem dX10_runs_24 : decode cX10_runs 24 = .ok (.iconst 1, 1) := by decide +kernel
theorem dX10_runs_25 : decode cX10_runs 25 = .ok (.iadd, 1) := by decide +kernel
theorem dX10_runs_26 : decode cX10_runs 26 = .ok (.putfield 314, 3) := by decide +kernel
theorem dX10_runs_29 : decode cX10_runs 29 = .ok (.return_, 1) := by decide +kernel
theorem dX10_tiesAs_0 : decode cX10_tiesAs 0 = .ok (.iload_n 1, 1) := by decide +kernel
theorem dX10_tiesAs_1 : decode cX10_tiesAs 1 = .ok (.iconst 1, 1) := by decide +kernel
theorem dX10_tiesAs_2 : decode cX10_tiesAs 2 = .ok (.if_icmp .eq 14, 3) := by decide +kernel
theorem dX10_tiesAs_5 : decode cX10_tiesAs 5 = .ok (.iload_n 1, 1) := by decide +kernel
theorem dX10_tiesAs_6 : decode cX10_tiesAs 6 = .ok (.iconst 4, 1) := by decide +kernel
theorem dX10_tiesAs_7 : decode cX10_tiesAs 7 = .ok (.if_icmp .eq 9, 3) := by decide +kernel
theorem dX10_tiesAs_10 : decode cX10_tiesAs 10 = .ok (.iload_n 1, 1) := by decide +kernel
theorem dX10_tiesAs_11 : decode cX10_tiesAs 11 = .ok (.bipush 7, 2) := by decide +kernel
theorem dX10_tiesAs_13 : decode cX10_tiesAs 13 = .ok (.if_icmp .ne 18, 3) := by decide +kernel
theorem dX10_tiesAs_16 : decode cX10_tiesAs 16 = .ok (.aload_n 0, 1) := by decide +kernel
theorem dX10_tiesAs_17 : decode cX10_tiesAs 17 = .ok (.bipush 20, 2) := by decide +kernel
theorem dX10_tiesAs_19 : decode cX10_tiesAs 19 = .ok (.invokevirtual 317, 3) := by decide +kernel
theorem dX10_tiesAs_22 : decode cX10_tiesAs 22 = .ok (.aload_n 0, 1) := by decide +kernel
theorem dX10_tiesAs_23 : decode cX10_tiesAs 23 = .ok (.iconst 0, 1) := by decide +kernel
theorem dX10_tiesAs_24 : decode cX10_tiesAs 24 = .ok (.iload_n 2, 1) := by decide +kernel
theorem dX10_tiesAs_25 : decode cX10_tiesAs 25 = .ok (.invokevirtual 321, 3) := by decide +kernel
theorem dX10_tiesAs_28 : decode cX10_tiesAs 28 = .ok (.iconst 3, 1) := by decide +kernel
theorem dX10_tiesAs_29 : decode cX10_tiesAs 29 = .ok (.iadd, 1) := by decide +kernel
theorem dX10_tiesAs_30 : decode cX10_tiesAs 30 = .ok (.ireturn, 1) := by decide +kernel
theorem dX10_tiesAs_31 : decode cX10_tiesAs 31 = .ok (.iload_n 1, 1) := by decide +kernel
theorem dX10_tiesAs_32 : decode cX10_tiesAs 32 = .ok (.bipush 6, 2) := by decide +kernel
theorem dX10_tiesAs_34 : decode cX10_tiesAs 34 = .ok (.if_icmp .ne 18, 3) := by decide +kernel
theorem dX10_tiesAs_37 : decode cX10_tiesAs 37 = .ok (.aload_n 0, 1) := by decide +kernel
theorem dX10_tiesAs_38 : decode cX10_tiesAs 38 = .ok (.bipush 70, 2) := by decide +kernel
theorem dX10_tiesAs_40 : decode cX10_tiesAs 40 = .ok (.invokevirtual 317, 3) := by decide +kernel
theorem dX10_tiesAs_43 : decode cX10_tiesAs 43 = .ok (.aload_n 0, 1) := by decide +kernel
theorem dX10_tiesAs_44 : decode cX10_tiesAs 44 = .ok (.iconst 0, 1) := by decide +kernel
theorem dX10_tiesAs_45 : decode cX10_tiesAs 45 = .ok (.iload_n 2, 1) := by decide +kernel
theorem dX10_tiesAs_46 : decode cX10_tiesAs 46 = .ok (.invokevirtual 321, 3) := by decide +kernel
theorem dX10_tiesAs_49 : decode cX10_tiesAs 49 = .ok (.iconst 2, 1) := by decide +kernel
theorem dX10_tiesAs_50 : decode cX10_tiesAs 50 = .ok (.imul, 1) := by decide +kernel
theorem dX10_tiesAs_51 : decode cX10_tiesAs 51 = .ok (.ireturn, 1) := by decide +kernel
theorem dX10_tiesAs_52 : decode cX10_tiesAs 52 = .ok (.aload_n 0, 1) := by decide +kernel
theorem dX10_tiesAs_53 : decode cX10_tiesAs 53 = .ok (.iconst 1, 1) := by decide +kernel
theorem dX10_tiesAs_54 : decode cX10_tiesAs 54 = .ok (.invokevirtual 317, 3) := by decide +kernel
theorem dX10_tiesAs_57 : decode cX10_tiesAs 57 = .ok (.iload_n 2, 1) := by decide +kernel
theorem dX10_tiesAs_58 : decode cX10_tiesAs 58 = .ok (.aload_n 0, 1) := by decide +kernel
theorem dX10_tiesAs_59 : decode cX10_tiesAs 59 = .ok (.getfield 324, 3) := by decide +kernel
theorem dX10_tiesAs_62 : decode cX10_tiesAs 62 = .ok (.iadd, 1) := by decide +kernel
theorem dX10_tiesAs_63 : decode cX10_tiesAs 63 = .ok (.ireturn, 1) := by decide +kernel
theorem dX10_sellsAs_0 : decode cX10_sellsAs 0 = .ok (.iload_n 1, 1) := by decide +kernel
theorem dX10_sellsAs_1 : decode cX10_sellsAs 1 = .ok (.iconst 3, 1) := by decide +kernel
theorem dX10_sellsAs_2 : decode cX10_sellsAs 2 = .ok (.if_icmp .eq 8, 3) := by decide +kernel
theorem dX10_sellsAs_5 : decode cX10_sellsAs 5 = .ok (.iload_n 1, 1) := by decide +kernel
theorem dX10_sellsAs_6 : decode cX10_sellsAs 6 = .ok (.iconst 5, 1) := by decide +kernel
theorem dX10_sellsAs_7 : decode cX10_sellsAs 7 = .ok (.if_icmp .ne 18, 3) := by decide +kernel
theorem dX10_sellsAs_10 : decode cX10_sellsAs 10 = .ok (.aload_n 0, 1) := by decide +kernel
theorem dX10_sellsAs_11 : decode cX10_sellsAs 11 = .ok (.bipush 41, 2) := by decide +kernel
theorem dX10_sellsAs_13 : decode cX10_sellsAs 13 = .ok (.invokevirtual 317, 3) := by decide +kernel
theorem dX10_sellsAs_16 : decode cX10_sellsAs 16 = .ok (.aload_n 0, 1) := by decide +kernel
theorem dX10_sellsAs_17 : decode cX10_sellsAs 17 = .ok (.iconst 2, 1) := by decide +kernel
theorem dX10_sellsAs_18 : decode cX10_sellsAs 18 = .ok (.iload_n 2, 1) := by decide +kernel
theorem dX10_sellsAs_19 : decode cX10_sellsAs 19 = .ok (.iconst 1, 1) := by decide +kernel
theorem dX10_sellsAs_20 : decode cX10_sellsAs 20 = .ok (.iadd, 1) := by decide +kernel
theorem dX10_sellsAs_21 : decode cX10_sellsAs 21 = .ok (.invokevirtual 327, 3) := by decide +kernel
theorem dX10_sellsAs_24 : decode cX10_sellsAs 24 = .ok (.ireturn, 1) := by decide +kernel
theorem dX10_sellsAs_25 : decode cX10_sellsAs 25 = .ok (.iload_n 1, 1) := by decide +kernel
theorem dX10_sellsAs_26 : decode cX10_sellsAs 26 = .ok (.iconst 2, 1) := by decide +kernel
theorem dX10_sellsAs_27 : decode cX10_sellsAs 27 = .ok (.if_icmp .ne 17, 3) := by decide +kernel
theorem dX10_sellsAs_30 : decode cX10_sellsAs 30 = .ok (.aload_n 0, 1) := by decide +kernel
theorem dX10_sellsAs_31 : decode cX10_sellsAs 31 = .ok (.bipush 30, 2) := by decide +kernel
theorem dX10_sellsAs_33 : decode cX10_sellsAs 33 = .ok (.invokevirtual 317, 3) := by decide +kernel
theorem dX10_sellsAs_36 : decode cX10_sellsAs 36 = .ok (.aload_n 0, 1) := by decide +kernel
theorem dX10_sellsAs_37 : decode cX10_sellsAs 37 = .ok (.iconst 0, 1) := by decide +kernel
theorem dX10_sellsAs_38 : decode cX10_sellsAs 38 = .ok (.iload_n 2, 1) := by decide +kernel
theorem dX10_sellsAs_39 : decode cX10_sellsAs 39 = .ok (.invokevirtual 327, 3) := by decide +kernel
theorem dX10_sellsAs_42 : decode cX10_sellsAs 42 = .ok (.ineg, 1) := by decide +kernel
theorem dX10_sellsAs_43 : decode cX10_sellsAs 43 = .ok (.ireturn, 1) := by decide +kernel
theorem dX10_sellsAs_44 : decode cX10_sellsAs 44 = .ok (.iload_n 1, 1) := by decide +kernel
theorem dX10_sellsAs_45 : decode cX10_sellsAs 45 = .ok (.bipush 7, 2) := by decide +kernel
theorem dX10_sellsAs_47 : decode cX10_sellsAs 47 = .ok (.if_icmp .ne 28, 3) := by decide +kernel
theorem dX10_sellsAs_50 : decode cX10_sellsAs 50 = .ok (.aload_n 0, 1) := by decide +kernel
theorem dX10_sellsAs_51 : decode cX10_sellsAs 51 = .ok (.bipush 80, 2) := by decide +kernel
theorem dX10_sellsAs_53 : decode cX10_sellsAs 53 = .ok (.invokevirtual 317, 3) := by decide +kernel
theorem dX10_sellsAs_56 : decode cX10_sellsAs 56 = .ok (.aload_n 0, 1) := by decide +kernel
theorem dX10_sellsAs_57 : decode cX10_sellsAs 57 = .ok (.iconst 4, 1) := by decide +kernel
theorem dX10_sellsAs_58 : decode cX10_sellsAs 58 = .ok (.iload_n 2, 1) := by decide +kernel
theorem dX10_sellsAs_59 : decode cX10_sellsAs 59 = .ok (.invokevirtual 327, 3) := by decide +kernel
theorem dX10_sellsAs_62 : decode cX10_sellsAs 62 = .ok (.istore_n 3, 1) := by decide +kernel
theorem dX10_sellsAs_63 : decode cX10_sellsAs 63 = .ok (.iload_n 3, 1) := by decide +kernel
theorem dX10_sellsAs_64 : decode cX10_sellsAs 64 = .ok (.aload_n 0, 1) := by decide +kernel
theorem dX10_sellsAs_65 : decode cX10_sellsAs 65 = .ok (.aload_n 0, 1) := by decide +kernel
theorem dX10_sellsAs_66 : decode cX10_sellsAs 66 = .ok (.getfield 330, 3) := by decide +kernel
theorem dX10_sellsAs_69 : decode cX10_sellsAs 69 = .ok (.iconst 2, 1) := by decide +kernel
theorem dX10_sellsAs_70 : decode cX10_sellsAs 70 = .ok (.invokevirtual 333, 3) := by decide +kernel
theorem dX10_sellsAs_73 : decode cX10_sellsAs 73 = .ok (.iadd, 1) := by decide +kernel
theorem dX10_sellsAs_74 : decode cX10_sellsAs 74 = .ok (.ireturn, 1) := by decide +kernel
theorem dX10_sellsAs_75 : decode cX10_sellsAs 75 = .ok (.aload_n 0, 1) := by decide +kernel
theorem dX10_sellsAs_76 : decode cX10_sellsAs 76 = .ok (.bipush 10, 2) := by decide +kernel
theorem dX10_sellsAs_78 : decode cX10_sellsAs 78 = .ok (.invokevirtual 317, 3) := by decide +kernel
theorem dX10_sellsAs_81 : decode cX10_sellsAs 81 = .ok (.aload_n 0, 1) := by decide +kernel
theorem dX10_sellsAs_82 : decode cX10_sellsAs 82 = .ok (.aload_n 0, 1) := by decide +kernel
theorem dX10_sellsAs_83 : decode cX10_sellsAs 83 = .ok (.getfield 330, 3) := by decide +kernel
theorem dX10_sellsAs_86 : decode cX10_sellsAs 86 = .ok (.iload_n 2, 1) := by decide +kernel
theorem dX10_sellsAs_87 : decode cX10_sellsAs 87 = .ok (.invokevirtual 321, 3) := by decide +kernel
theorem dX10_sellsAs_90 : decode cX10_sellsAs 90 = .ok (.iconst 2, 1) := by decide +kernel
theorem dX10_sellsAs_91 : decode cX10_sellsAs 91 = .ok (.imul, 1) := by decide +kernel
theorem dX10_sellsAs_92 : decode cX10_sellsAs 92 = .ok (.ireturn, 1) := by decide +kernel
theorem dX10_shakesAs_0 : decode cX10_shakesAs 0 = .ok (.iload_n 1, 1) := by decide +kernel
theorem dX10_shakesAs_1 : decode cX10_shakesAs 1 = .ok (.iconst 3, 1) := by decide +kernel
theorem dX10_shakesAs_2 : decode cX10_shakesAs 2 = .ok (.if_icmp .eq 8, 3) := by decide +kernel
theorem dX10_shakesAs_5 : decode cX10_shakesAs 5 = .ok (.iload_n 1, 1) := by decide +kernel
theorem dX10_shakesAs_6 : decode cX10_shakesAs 6 = .ok (.iconst 5, 1) := by decide +kernel
theorem dX10_shakesAs_7 : decode cX10_shakesAs 7 = .ok (.if_icmp .ne 18, 3) := by decide +kernel
theorem dX10_shakesAs_10 : decode cX10_shakesAs 10 = .ok (.aload_n 0, 1) := by decide +kernel
theorem dX10_shakesAs_11 : decode cX10_shakesAs 11 = .ok (.bipush 40, 2) := by decide +kernel
theorem dX10_shakesAs_13 : decode cX10_shakesAs 13 = .ok (.invokevirtual 317, 3) := by decide +kernel
theorem dX10_shakesAs_16 : decode cX10_shakesAs 16 = .ok (.aload_n 0, 1) := by decide +kernel
theorem dX10_shakesAs_17 : decode cX10_shakesAs 17 = .ok (.iconst 2, 1) := by decide +kernel
theorem dX10_shakesAs_18 : decode cX10_shakesAs 18 = .ok (.iload_n 2, 1) := by decide +kernel
theorem dX10_shakesAs_19 : decode cX10_shakesAs 19 = .ok (.invokevirtual 333, 3) := by decide +kernel
theorem dX10_shakesAs_22 : decode cX10_shakesAs 22 = .ok (.iconst 3, 1) := by decide +kernel
theorem dX10_shakesAs_23 : decode cX10_shakesAs 23 = .ok (.imul, 1) := by decide +kernel
theorem dX10_shakesAs_24 : decode cX10_shakesAs 24 = .ok (.ireturn, 1) := by decide +kernel
theorem dX10_shakesAs_25 : decode cX10_shakesAs 25 = .ok (.iload_n 1, 1) := by decide +kernel
theorem dX10_shakesAs_26 : decode cX10_shakesAs 26 = .ok (.iconst 4, 1) := by decide +kernel
theorem dX10_shakesAs_27 : decode cX10_shakesAs 27 = .ok (.if_icmp .eq 9, 3) := by decide +kernel
theorem dX10_shakesAs_30 : decode cX10_shakesAs 30 = .ok (.iload_n 1, 1) := by decide +kernel
theorem dX10_shakesAs_31 : decode cX10_shakesAs 31 = .ok (.bipush 7, 2) := by decide +kernel
theorem dX10_shakesAs_33 : decode cX10_shakesAs 33 = .ok (.if_icmp .ne 28, 3) := by decide +kernel
theorem dX10_shakesAs_36 : decode cX10_shakesAs 36 = .ok (.aload_n 0, 1) := by decide +kernel
theorem dX10_shakesAs_37 : decode cX10_shakesAs 37 = .ok (.bipush 50, 2) := by decide +kernel
theorem dX10_shakesAs_39 : decode cX10_shakesAs 39 = .ok (.invokevirtual 317, 3) := by decide +kernel
theorem dX10_shakesAs_42 : decode cX10_shakesAs 42 = .ok (.aload_n 0, 1) := by decide +kernel
theorem dX10_shakesAs_43 : decode cX10_shakesAs 43 = .ok (.iconst 1, 1) := by decide +kernel
theorem dX10_shakesAs_44 : decode cX10_shakesAs 44 = .ok (.iload_n 2, 1) := by decide +kernel
theorem dX10_shakesAs_45 : decode cX10_shakesAs 45 = .ok (.invokevirtual 333, 3) := by decide +kernel
theorem dX10_shakesAs_48 : decode cX10_shakesAs 48 = .ok (.istore_n 3, 1) := by decide +kernel
theorem dX10_shakesAs_49 : decode cX10_shakesAs 49 = .ok (.iload_n 3, 1) := by decide +kernel
theorem dX10_shakesAs_50 : decode cX10_shakesAs 50 = .ok (.aload_n 0, 1) := by decide +kernel
theorem dX10_shakesAs_51 : decode cX10_shakesAs 51 = .ok (.aload_n 0, 1) := by decide +kernel
theorem dX10_shakesAs_52 : decode cX10_shakesAs 52 = .ok (.getfield 330, 3) := by decide +kernel
theorem dX10_shakesAs_55 : decode cX10_shakesAs 55 = .ok (.iconst 2, 1) := by decide +kernel
theorem dX10_shakesAs_56 : decode cX10_shakesAs 56 = .ok (.invokevirtual 321, 3) := by decide +kernel
theorem dX10_shakesAs_59 : decode cX10_shakesAs 59 = .ok (.isub, 1) := by decide +kernel
theorem dX10_shakesAs_60 : decode cX10_shakesAs 60 = .ok (.ireturn, 1) := by decide +kernel
theorem dX10_shakesAs_61 : decode cX10_shakesAs 61 = .ok (.aload_n 0, 1) := by decide +kernel
theorem dX10_shakesAs_62 : decode cX10_shakesAs 62 = .ok (.bipush 11, 2) := by decide +kernel
theorem dX10_shakesAs_64 : decode cX10_shakesAs 64 = .ok (.invokevirtual 317, 3) := by decide +kernel
theorem dX10_shakesAs_67 : decode cX10_shakesAs 67 = .ok (.iload_n 2, 1) := by decide +kernel
theorem dX10_shakesAs_68 : decode cX10_shakesAs 68 = .ok (.aload_n 0, 1) := by decide +kernel
theorem dX10_shakesAs_69 : decode cX10_shakesAs 69 = .ok (.getfield 324, 3) := by decide +kernel
theorem dX10_shakesAs_72 : decode cX10_shakesAs 72 = .ok (.ixor, 1) := by decide +kernel
theorem dX10_shakesAs_73 : decode cX10_shakesAs 73 = .ok (.ireturn, 1) := by decide +kernel
theorem dX10_tellsAs_0 : decode cX10_tellsAs 0 = .ok (.iload_n 1, 1) := by decide +kernel
theorem dX10_tellsAs_1 : decode cX10_tellsAs 1 = .ok (.iconst 5, 1) := by decide +kernel
theorem dX10_tellsAs_2 : decode cX10_tellsAs 2 = .ok (.if_icmp .ne 18, 3) := by decide +kernel
theorem dX10_tellsAs_5 : decode cX10_tellsAs 5 = .ok (.aload_n 0, 1) := by decide +kernel
theorem dX10_tellsAs_6 : decode cX10_tellsAs 6 = .ok (.bipush 60, 2) := by decide +kernel
theorem dX10_tellsAs_8 : decode cX10_tellsAs 8 = .ok (.invokevirtual 317, 3) := by decide +kernel
theorem dX10_tellsAs_11 : decode cX10_tellsAs 11 = .ok (.aload_n 0, 1) := by decide +kernel
theorem dX10_tellsAs_12 : decode cX10_tellsAs 12 = .ok (.iconst 3, 1) := by decide +kernel
theorem dX10_tellsAs_13 : decode cX10_tellsAs 13 = .ok (.iload_n 2, 1) := by decide +kernel
theorem dX10_tellsAs_14 : decode cX10_tellsAs 14 = .ok (.invokevirtual 336, 3) := by decide +kernel
theorem dX10_tellsAs_17 : decode cX10_tellsAs 17 = .ok (.iconst 5, 1) := by decide +kernel
theorem dX10_tellsAs_18 : decode cX10_tellsAs 18 = .ok (.ixor, 1) := by decide +kernel
theorem dX10_tellsAs_19 : decode cX10_tellsAs 19 = .ok (.ireturn, 1) := by decide +kernel
theorem dX10_tellsAs_20 : decode cX10_tellsAs 20 = .ok (.iload_n 1, 1) := by decide +kernel
theorem dX10_tellsAs_21 : decode cX10_tellsAs 21 = .ok (.bipush 7, 2) := by decide +kernel
theorem dX10_tellsAs_23 : decode cX10_tellsAs 23 = .ok (.if_icmp .ne 18, 3) := by decide +kernel
theorem dX10_tellsAs_26 : decode cX10_tellsAs 26 = .ok (.aload_n 0, 1) := by decide +kernel
theorem dX10_tellsAs_27 : decode cX10_tellsAs 27 = .ok (.bipush 81, 2) := by decide +kernel
theorem dX10_tellsAs_29 : decode cX10_tellsAs 29 = .ok (.invokevirtual 317, 3) := by decide +kernel
theorem dX10_tellsAs_32 : decode cX10_tellsAs 32 = .ok (.aload_n 0, 1) := by decide +kernel
theorem dX10_tellsAs_33 : decode cX10_tellsAs 33 = .ok (.iconst 4, 1) := by decide +kernel
theorem dX10_tellsAs_34 : decode cX10_tellsAs 34 = .ok (.iload_n 2, 1) := by decide +kernel
theorem dX10_tellsAs_35 : decode cX10_tellsAs 35 = .ok (.invokevirtual 336, 3) := by decide +kernel
theorem dX10_tellsAs_38 : decode cX10_tellsAs 38 = .ok (.iconst 1, 1) := by decide +kernel
theorem dX10_tellsAs_39 : decode cX10_tellsAs 39 = .ok (.isub, 1) := by decide +kernel
theorem dX10_tellsAs_40 : decode cX10_tellsAs 40 = .ok (.ireturn, 1) := by decide +kernel
theorem dX10_tellsAs_41 : decode cX10_tellsAs 41 = .ok (.aload_n 0, 1) := by decide +kernel
theorem dX10_tellsAs_42 : decode cX10_tellsAs 42 = .ok (.iconst 2, 1) := by decide +kernel
theorem dX10_tellsAs_43 : decode cX10_tellsAs 43 = .ok (.invokevirtual 317, 3) := by decide +kernel
theorem dX10_tellsAs_46 : decode cX10_tellsAs 46 = .ok (.aload_n 0, 1) := by decide +kernel
theorem dX10_tellsAs_47 : decode cX10_tellsAs 47 = .ok (.aload_n 0, 1) := by decide +kernel
theorem dX10_tellsAs_48 : decode cX10_tellsAs 48 = .ok (.getfield 330, 3) := by decide +kernel
theorem dX10_tellsAs_51 : decode cX10_tellsAs 51 = .ok (.iload_n 2, 1) := by decide +kernel
theorem dX10_tellsAs_52 : decode cX10_tellsAs 52 = .ok (.invokevirtual 327, 3) := by decide +kernel
theorem dX10_tellsAs_55 : decode cX10_tellsAs 55 = .ok (.istore_n 3, 1) := by decide +kernel
theorem dX10_tellsAs_56 : decode cX10_tellsAs 56 = .ok (.iload_n 3, 1) := by decide +kernel
theorem dX10_tellsAs_57 : decode cX10_tellsAs 57 = .ok (.aload_n 0, 1) := by decide +kernel
theorem dX10_tellsAs_58 : decode cX10_tellsAs 58 = .ok (.aload_n 0, 1) := by decide +kernel
theorem dX10_tellsAs_59 : decode cX10_tellsAs 59 = .ok (.getfield 330, 3) := by decide +kernel
theorem dX10_tellsAs_62 : decode cX10_tellsAs 62 = .ok (.iconst 1, 1) := by decide +kernel
theorem dX10_tellsAs_63 : decode cX10_tellsAs 63 = .ok (.invokevirtual 333, 3) := by decide +kernel
theorem dX10_tellsAs_66 : decode cX10_tellsAs 66 = .ok (.isub, 1) := by decide +kernel
theorem dX10_tellsAs_67 : decode cX10_tellsAs 67 = .ok (.ireturn, 1) := by decide +kernel
theorem dX10_act_0 : decode cX10_act 0 = .ok (.aload_n 0, 1) := by decide +kernel
theorem dX10_act_1 : decode cX10_act 1 = .ok (.iconst 0, 1) := by decide +kernel
theorem dX10_act_2 : decode cX10_act 2 = .ok (.putfield 314, 3) := by decide +kernel
theorem dX10_act_5 : decode cX10_act 5 = .ok (.aload_n 0, 1) := by decide +kernel
theorem dX10_act_6 : decode cX10_act 6 = .ok (.iload_n 1, 1) := by decide +kernel
theorem dX10_act_7 : decode cX10_act 7 = .ok (.invokevirtual 339, 3) := by decide +kernel
theorem dX10_act_10 : decode cX10_act 10 = .ok (.ifCond .ne 5, 3) := by decide +kernel
theorem dX10_act_13 : decode cX10_act 13 = .ok (.iconst 0, 1) := by decide +kernel
theorem dX10_act_14 : decode cX10_act 14 = .ok (.ireturn, 1) := by decide +kernel
theorem dX10_act_15 : decode cX10_act 15 = .ok (.aload_n 0, 1) := by decide +kernel
theorem dX10_act_16 : decode cX10_act 16 = .ok (.aload_n 0, 1) := by decide +kernel
theorem dX10_act_17 : decode cX10_act 17 = .ok (.getfield 66, 3) := by decide +kernel
theorem dX10_act_20 : decode cX10_act 20 = .ok (.iload_n 1, 1) := by decide +kernel
theorem dX10_act_21 : decode cX10_act 21 = .ok (.iaload, 1) := by decide +kernel
theorem dX10_act_22 : decode cX10_act 22 = .ok (.putfield 330, 3) := by decide +kernel
theorem dX10_act_25 : decode cX10_act 25 = .ok (.aload_n 0, 1) := by decide +kernel
theorem dX10_act_26 : decode cX10_act 26 = .ok (.iload_n 1, 1) := by decide +kernel
theorem dX10_act_27 : decode cX10_act 27 = .ok (.putfield 324, 3) := by decide +kernel
theorem dX10_act_30 : decode cX10_act 30 = .ok (.iload_n 2, 1) := by decide +kernel
theorem dX10_act_31 : decode cX10_act 31 = .ok (.tableswitch 69 0 3 #[29, 39, 49, 59], 29) := by decide +kernel
theorem dX10_act_60 : decode cX10_act 60 = .ok (.aload_n 0, 1) := by decide +kernel
theorem dX10_act_61 : decode cX10_act 61 = .ok (.aload_n 0, 1) := by decide +kernel
theorem dX10_act_62 : decode cX10_act 62 = .ok (.getfield 330, 3) := by decide +kernel
theorem dX10_act_65 : decode cX10_act 65 = .ok (.iload_n 3, 1) := by decide +kernel
theorem dX10_act_66 : decode cX10_act 66 = .ok (.invokevirtual 321, 3) := by decide +kernel
theorem dX10_act_69 : decode cX10_act 69 = .ok (.ireturn, 1) := by decide +kernel
theorem dX10_act_70 : decode cX10_act 70 = .ok (.aload_n 0, 1) := by decide +kernel
theorem dX10_act_71 : decode cX10_act 71 = .ok (.aload_n 0, 1) := by decide +kernel
theorem dX10_act_72 : decode cX10_act 72 = .ok (.getfield 330, 3) := by decide +kernel
theorem dX10_act_75 : decode cX10_act 75 = .ok (.iload_n 3, 1) := by decide +kernel
theorem dX10_act_76 : decode cX10_act 76 = .ok (.invokevirtual 327, 3) := by decide +kernel
theorem dX10_act_79 : decode cX10_act 79 = .ok (.ireturn, 1) := by decide +kernel
theorem dX10_act_80 : decode cX10_act 80 = .ok (.aload_n 0, 1) := by decide +kernel
theorem dX10_act_81 : decode cX10_act 81 = .ok (.aload_n 0, 1) := by decide +kernel
theorem dX10_act_82 : decode cX10_act 82 = .ok (.getfield 330, 3) := by decide +kernel
theorem dX10_act_85 : decode cX10_act 85 = .ok (.iload_n 3, 1) := by decide +kernel
theorem dX10_act_86 : decode cX10_act 86 = .ok (.invokevirtual 333, 3) := by decide +kernel
theorem dX10_act_89 : decode cX10_act 89 = .ok (.ireturn, 1) := by decide +kernel
theorem dX10_act_90 : decode cX10_act 90 = .ok (.aload_n 0, 1) := by decide +kernel
theorem dX10_act_91 : decode cX10_act 91 = .ok (.aload_n 0, 1) := by decide +kernel
theorem dX10_act_92 : decode cX10_act 92 = .ok (.getfield 330, 3) := by decide +kernel
theorem dX10_act_95 : decode cX10_act 95 = .ok (.iload_n 3, 1) := by decide +kernel
theorem dX10_act_96 : decode cX10_act 96 = .ok (.invokevirtual 336, 3) := by decide +kernel
theorem dX10_act_99 : decode cX10_act 99 = .ok (.ireturn, 1) := by decide +kernel
theorem dX10_act_100 : decode cX10_act 100 = .ok (.iconst 0, 1) := by decide +kernel
theorem dX10_act_101 : decode cX10_act 101 = .ok (.ireturn, 1) := by decide +kernel
theorem dX10_trace_0 : decode cX10_trace 0 = .ok (.iload_n 1, 1) := by decide +kernel
theorem dX10_trace_1 : decode cX10_trace 1 = .ok (.ifCond .lt 26, 3) := by decide +kernel
theorem dX10_trace_4 : decode cX10_trace 4 = .ok (.iload_n 1, 1) := by decide +kernel
theorem dX10_trace_5 : decode cX10_trace 5 = .ok (.aload_n 0, 1) := by decide +kernel
theorem dX10_trace_6 : decode cX10_trace 6 = .ok (.getfield 314, 3) := by decide +kernel
theorem dX10_trace_9 : decode cX10_trace 9 = .ok (.if_icmp .ge 18, 3) := by decide +kernel
theorem dX10_trace_12 : decode cX10_trace 12 = .ok (.iload_n 1, 1) := by decide +kernel
theorem dX10_trace_13 : decode cX10_trace 13 = .ok (.bipush 24, 2) := by decide +kernel
theorem dX10_trace_15 : decode cX10_trace 15 = .ok (.if_icmp .ge 12, 3) := by decide +kernel
theorem dX10_trace_18 : decode cX10_trace 18 = .ok (.aload_n 0, 1) := by decide +kernel
theorem dX10_trace_19 : decode cX10_trace 19 = .ok (.getfield 69, 3) := by decide +kernel
theorem dX10_trace_22 : decode cX10_trace 22 = .ok (.iload_n 1, 1) := by decide +kernel
theorem dX10_trace_23 : decode cX10_trace 23 = .ok (.iaload, 1) := by decide +kernel
theorem dX10_trace_24 : decode cX10_trace 24 = .ok (.goto 4, 3) := by decide +kernel
theorem dX10_trace_27 : decode cX10_trace 27 = .ok (.iconst (-1), 1) := by decide +kernel
theorem dX10_trace_28 : decode cX10_trace 28 = .ok (.ireturn, 1) := by decide +kernel
theorem dX10_isShelf_0 : decode cX10_isShelf 0 = .ok (.iload_n 0, 1) := by decide +kernel
theorem dX10_isShelf_1 : decode cX10_isShelf 1 = .ok (.i2l, 1) := by decide +kernel
theorem dX10_isShelf_2 : decode cX10_isShelf 2 = .ok (.lconst 0, 1) := by decide +kernel
theorem dX10_isShelf_3 : decode cX10_isShelf 3 = .ok (.ldc2_w 94, 3) := by decide +kernel
theorem dX10_isShelf_6 : decode cX10_isShelf 6 = .ok (.invokestatic 96, 3) := by decide +kernel
theorem dX10_isShelf_9 : decode cX10_isShelf 9 = .ok (.ireturn, 1) := by decide +kernel
theorem dX10_keep_0 : decode cX10_keep 0 = .ok (.iload_n 1, 1) := by decide +kernel
theorem dX10_keep_1 : decode cX10_keep 1 = .ok (.invokestatic 114, 3) := by decide +kernel
theorem dX10_keep_4 : decode cX10_keep 4 = .ok (.ifCond .eq 16, 3) := by decide +kernel
theorem dX10_keep_7 : decode cX10_keep 7 = .ok (.iload_n 2, 1) := by decide +kernel
theorem dX10_keep_8 : decode cX10_keep 8 = .ok (.iconst (-1), 1) := by decide +kernel
theorem dX10_keep_9 : decode cX10_keep 9 = .ok (.if_icmp .eq 13, 3) := by decide +kernel
theorem dX10_keep_12 : decode cX10_keep 12 = .ok (.aload_n 0, 1) := by decide +kernel
theorem dX10_keep_13 : decode cX10_keep 13 = .ok (.iload_n 2, 1) := by decide +kernel
theorem dX10_keep_14 : decode cX10_keep 14 = .ok (.invokevirtual 339, 3) := by decide +kernel
theorem dX10_keep_17 : decode cX10_keep 17 = .ok (.ifCond .ne 5, 3) := by decide +kernel
theorem dX10_keep_20 : decode cX10_keep 20 = .ok (.iconst (-1), 1) := by decide +kernel
theorem dX10_keep_21 : decode cX10_keep 21 = .ok (.ireturn, 1) := by decide +kernel
theorem dX10_keep_22 : decode cX10_keep 22 = .ok (.aload_n 0, 1) := by decide +kernel
theorem dX10_keep_23 : decode cX10_keep 23 = .ok (.getfield 72, 3) := by decide +kernel
theorem dX10_keep_26 : decode cX10_keep 26 = .ok (.iload_n 1, 1) := by decide +kernel
theorem dX10_keep_27 : decode cX10_keep 27 = .ok (.iload_n 2, 1) := by decide +kernel
theorem dX10_keep_28 : decode cX10_keep 28 = .ok (.iastore, 1) := by decide +kernel
theorem dX10_keep_29 : decode cX10_keep 29 = .ok (.aload_n 0, 1) := by decide +kernel
theorem dX10_keep_30 : decode cX10_keep 30 = .ok (.getfield 75, 3) := by decide +kernel
theorem dX10_keep_33 : decode cX10_keep 33 = .ok (.iload_n 1, 1) := by decide +kernel
theorem dX10_keep_34 : decode cX10_keep 34 = .ok (.iconst 0, 1) := by decide +kernel
theorem dX10_keep_35 : decode cX10_keep 35 = .ok (.iastore, 1) := by decide +kernel
theorem dX10_keep_36 : decode cX10_keep 36 = .ok (.iconst 1, 1) := by decide +kernel
theorem dX10_keep_37 : decode cX10_keep 37 = .ok (.ireturn, 1) := by decide +kernel
theorem dX10_row_0 : decode cX10_row 0 = .ok (.iload_n 1, 1) := by decide +kernel
theorem dX10_row_1 : decode cX10_row 1 = .ok (.invokestatic 114, 3) := by decide +kernel
theorem dX10_row_4 : decode cX10_row 4 = .ok (.ifCond .eq 21, 3) := by decide +kernel
theorem dX10_row_7 : decode cX10_row 7 = .ok (.iload_n 2, 1) := by decide +kernel
theorem dX10_row_8 : decode cX10_row 8 = .ok (.i2l, 1) := by decide +kernel
theorem dX10_row_9 : decode cX10_row 9 = .ok (.lconst 0, 1) := by decide +kernel
theorem dX10_row_10 : decode cX10_row 10 = .ok (.ldc2_w 128, 3) := by decide +kernel
theorem dX10_row_13 : decode cX10_row 13 = .ok (.invokestatic 96, 3) := by decide +kernel
theorem dX10_row_16 : decode cX10_row 16 = .ok (.ifCond .eq 9, 3) := by decide +kernel
theorem dX10_row_19 : decode cX10_row 19 = .ok (.iload_n 3, 1) := by decide +kernel
theorem dX10_row_20 : decode cX10_row 20 = .ok (.bipush 60, 2) := by decide +kernel
theorem dX10_row_22 : decode cX10_row 22 = .ok (.if_icmp .le 5, 3) := by decide +kernel
theorem dX10_row_25 : decode cX10_row 25 = .ok (.iconst (-1), 1) := by decide +kernel
theorem dX10_row_26 : decode cX10_row 26 = .ok (.ireturn, 1) := by decide +kernel
theorem dX10_row_27 : decode cX10_row 27 = .ok (.iload_n 3, 1) := by decide +kernel
theorem dX10_row_28 : decode cX10_row 28 = .ok (.ifCond .ge 6, 3) := by decide +kernel
theorem dX10_row_31 : decode cX10_row 31 = .ok (.bipush (-14), 2) := by decide +kernel
theorem dX10_row_33 : decode cX10_row 33 = .ok (.ireturn, 1) := by decide +kernel
theorem dX10_row_34 : decode cX10_row 34 = .ok (.aload_n 0, 1) := by decide +kernel
theorem dX10_row_35 : decode cX10_row 35 = .ok (.getfield 72, 3) := by decide +kernel
theorem dX10_row_38 : decode cX10_row 38 = .ok (.iload_n 1, 1) := by decide +kernel
theorem dX10_row_39 : decode cX10_row 39 = .ok (.bipush 50, 2) := by decide +kernel
theorem dX10_row_41 : decode cX10_row 41 = .ok (.iload_n 2, 1) := by decide +kernel
theorem dX10_row_42 : decode cX10_row 42 = .ok (.iadd, 1) := by decide +kernel
theorem dX10_row_43 : decode cX10_row 43 = .ok (.iastore, 1) := by decide +kernel
theorem dX10_row_44 : decode cX10_row 44 = .ok (.aload_n 0, 1) := by decide +kernel
theorem dX10_row_45 : decode cX10_row 45 = .ok (.getfield 75, 3) := by decide +kernel
theorem dX10_row_48 : decode cX10_row 48 = .ok (.iload_n 1, 1) := by decide +kernel
theorem dX10_row_49 : decode cX10_row 49 = .ok (.iload_n 3, 1) := by decide +kernel
theorem dX10_row_50 : decode cX10_row 50 = .ok (.iastore, 1) := by decide +kernel
theorem dX10_row_51 : decode cX10_row 51 = .ok (.bipush 60, 2) := by decide +kernel
theorem dX10_row_53 : decode cX10_row 53 = .ok (.iload_n 1, 1) := by decide +kernel
theorem dX10_row_54 : decode cX10_row 54 = .ok (.imul, 1) := by decide +kernel
theorem dX10_row_55 : decode cX10_row 55 = .ok (.istore 4, 2) := by decide +kernel
theorem dX10_row_57 : decode cX10_row 57 = .ok (.iload 4, 2) := by decide +kernel
theorem dX10_row_59 : decode cX10_row 59 = .ok (.bipush 60, 2) := by decide +kernel
theorem dX10_row_61 : decode cX10_row 61 = .ok (.iload_n 1, 1) := by decide +kernel
theorem dX10_row_62 : decode cX10_row 62 = .ok (.imul, 1) := by decide +kernel
theorem dX10_row_63 : decode cX10_row 63 = .ok (.bipush 60, 2) := by decide +kernel
theorem dX10_row_65 : decode cX10_row 65 = .ok (.iadd, 1) := by decide +kernel
theorem dX10_row_66 : decode cX10_row 66 = .ok (.if_icmp .ge 17, 3) := by decide +kernel
theorem dX10_row_69 : decode cX10_row 69 = .ok (.aload_n 0, 1) := by decide +kernel
theorem dX10_row_70 : decode cX10_row 70 = .ok (.getfield 78, 3) := by decide +kernel
theorem dX10_row_73 : decode cX10_row 73 = .ok (.iload 4, 2) := by decide +kernel
theorem dX10_row_75 : decode cX10_row 75 = .ok (.lconst 0, 1) := by decide +kernel
theorem dX10_row_76 : decode cX10_row 76 = .ok (.lastore, 1) := by decide +kernel
theorem dX10_row_77 : decode cX10_row 77 = .ok (.iinc 4 1, 3) := by decide +kernel
theorem dX10_row_80 : decode cX10_row 80 = .ok (.goto (-23), 3) := by decide +kernel
theorem dX10_row_83 : decode cX10_row 83 = .ok (.iconst 1, 1) := by decide +kernel
theorem dX10_row_84 : decode cX10_row 84 = .ok (.ireturn, 1) := by decide +kernel
theorem dX10_refusal_0 : decode cX10_refusal 0 = .ok (.iload_n 1, 1) := by decide +kernel
theorem dX10_refusal_1 : decode cX10_refusal 1 = .ok (.invokestatic 114, 3) := by decide +kernel
theorem dX10_refusal_4 : decode cX10_refusal 4 = .ok (.ifCond .ne 5, 3) := by decide +kernel
theorem dX10_refusal_7 : decode cX10_refusal 7 = .ok (.iconst (-1), 1) := by decide +kernel
theorem dX10_refusal_8 : decode cX10_refusal 8 = .ok (.ireturn, 1) := by decide +kernel
theorem dX10_refusal_9 : decode cX10_refusal 9 = .ok (.aload_n 0, 1) := by decide +kernel
theorem dX10_refusal_10 : decode cX10_refusal 10 = .ok (.getfield 72, 3) := by decide +kernel
theorem dX10_refusal_13 : decode cX10_refusal 13 = .ok (.iload_n 1, 1) := by decide +kernel
theorem dX10_refusal_14 : decode cX10_refusal 14 = .ok (.iaload, 1) := by decide +kernel
theorem dX10_refusal_15 : decode cX10_refusal 15 = .ok (.ifCond .ge 6, 3) := by decide +kernel
theorem dX10_refusal_18 : decode cX10_refusal 18 = .ok (.bipush (-11), 2) := by decide +kernel
theorem dX10_refusal_20 : decode cX10_refusal 20 = .ok (.ireturn, 1) := by decide +kernel
theorem dX10_refusal_21 : decode cX10_refusal 21 = .ok (.aload_n 0, 1) := by decide +kernel
theorem dX10_refusal_22 : decode cX10_refusal 22 = .ok (.getfield 72, 3) := by decide +kernel
theorem dX10_refusal_25 : decode cX10_refusal 25 = .ok (.iload_n 1, 1) := by decide +kernel
theorem dX10_refusal_26 : decode cX10_refusal 26 = .ok (.iaload, 1) := by decide +kernel
theorem dX10_refusal_27 : decode cX10_refusal 27 = .ok (.bipush 50, 2) := by decide +kernel
theorem dX10_refusal_29 : decode cX10_refusal 29 = .ok (.if_icmp .ge 6, 3) := by decide +kernel
theorem dX10_refusal_32 : decode cX10_refusal 32 = .ok (.bipush (-12), 2) := by decide +kernel
theorem dX10_refusal_34 : decode cX10_refusal 34 = .ok (.ireturn, 1) := by decide +kernel
theorem dX10_refusal_35 : decode cX10_refusal 35 = .ok (.iload_n 2, 1) := by decide +kernel
theorem dX10_refusal_36 : decode cX10_refusal 36 = .ok (.ifCond .lt 17, 3) := by decide +kernel
theorem dX10_refusal_39 : decode cX10_refusal 39 = .ok (.iload_n 2, 1) := by decide +kernel
theorem dX10_refusal_40 : decode cX10_refusal 40 = .ok (.aload_n 0, 1) := by decide +kernel
theorem dX10_refusal_41 : decode cX10_refusal 41 = .ok (.getfield 75, 3) := by decide +kernel
theorem dX10_refusal_44 : decode cX10_refusal 44 = .ok (.iload_n 1, 1) := by decide +kernel
theorem dX10_refusal_45 : decode cX10_refusal 45 = .ok (.iaload, 1) := by decide +kernel
theorem dX10_refusal_46 : decode cX10_refusal 46 = .ok (.if_icmp .ge 7, 3) := by decide +kernel
theorem dX10_refusal_49 : decode cX10_refusal 49 = .ok (.iconst 0, 1) := by decide +kernel
theorem dX10_refusal_50 : decode cX10_refusal 50 = .ok (.goto 5, 3) := by decide +kernel
theorem dX10_refusal_53 : decode cX10_refusal 53 = .ok (.bipush (-13), 2) := by decide +kernel
theorem dX10_refusal_55 : decode cX10_refusal 55 = .ok (.ireturn, 1) := by decide +kernel
theorem dX10_asSort_0 : decode cX10_asSort 0 = .ok (.iload_n 0, 1) := by decide +kernel
theorem dX10_asSort_1 : decode cX10_asSort 1 = .ok (.ifCond .ne 10, 3) := by decide +kernel
theorem dX10_asSort_4 : decode cX10_asSort 4 = .ok (.lload_n 1, 1) := by decide +kernel
theorem dX10_asSort_5 : decode cX10_asSort 5 = .ok (.l2i, 1) := by decide +kernel
theorem dX10_asSort_6 : decode cX10_asSort 6 = .ok (.i2b, 1) := by decide +kernel
theorem dX10_asSort_7 : decode cX10_asSort 7 = .ok (.i2l, 1) := by decide +kernel
theorem dX10_asSort_8 : decode cX10_asSort 8 = .ok (.goto 46, 3) := by decide +kernel
theorem dX10_asSort_11 : decode cX10_asSort 11 = .ok (.iload_n 0, 1) := by decide +kernel
theorem dX10_asSort_12 : decode cX10_asSort 12 = .ok (.iconst 1, 1) := by decide +kernel
theorem dX10_asSort_13 : decode cX10_asSort 13 = .ok (.if_icmp .ne 10, 3) := by decide +kernel
theorem dX10_asSort_16 : decode cX10_asSort 16 = .ok (.lload_n 1, 1) := by decide +kernel
theorem dX10_asSort_17 : decode cX10_asSort 17 = .ok (.l2i, 1) := by decide +kernel
theorem dX10_asSort_18 : decode cX10_asSort 18 = .ok (.i2s, 1) := by decide +kernel
theorem dX10_asSort_19 : decode cX10_asSort 19 = .ok (.i2l, 1) := by decide +kernel
theorem dX10_asSort_20 : decode cX10_asSort 20 = .ok (.goto 34, 3) := by decide +kernel
theorem dX10_asSort_23 : decode cX10_asSort 23 = .ok (.iload_n 0, 1) := by decide +kernel
theorem dX10_asSort_24 : decode cX10_asSort 24 = .ok (.iconst 2, 1) := by decide +kernel
theorem dX10_asSort_25 : decode cX10_asSort 25 = .ok (.if_icmp .ne 9, 3) := by decide +kernel
theorem dX10_asSort_28 : decode cX10_asSort 28 = .ok (.lload_n 1, 1) := by decide +kernel
theorem dX10_asSort_29 : decode cX10_asSort 29 = .ok (.l2i, 1) := by decide +kernel
theorem dX10_asSort_30 : decode cX10_asSort 30 = .ok (.i2l, 1) := by decide +kernel
theorem dX10_asSort_31 : decode cX10_asSort 31 = .ok (.goto 23, 3) := by decide +kernel
theorem dX10_asSort_34 : decode cX10_asSort 34 = .ok (.iload_n 0, 1) := by decide +kernel
theorem dX10_asSort_35 : decode cX10_asSort 35 = .ok (.iconst 4, 1) := by decide +kernel
theorem dX10_asSort_36 : decode cX10_asSort 36 = .ok (.if_icmp .ne 17, 3) := by decide +kernel
theorem dX10_asSort_39 : decode cX10_asSort 39 = .ok (.lload_n 1, 1) := by decide +kernel
theorem dX10_asSort_40 : decode cX10_asSort 40 = .ok (.lconst 0, 1) := by decide +kernel
theorem dX10_asSort_41 : decode cX10_asSort 41 = .ok (.lcmp, 1) := by decide +kernel
theorem dX10_asSort_42 : decode cX10_asSort 42 = .ok (.ifCond .eq 7, 3) := by decide +kernel
theorem dX10_asSort_45 : decode cX10_asSort 45 = .ok (.lconst 1, 1) := by decide +kernel
theorem dX10_asSort_46 : decode cX10_asSort 46 = .ok (.goto 8, 3) := by decide +kernel
theorem dX10_asSort_49 : decode cX10_asSort 49 = .ok (.lconst 0, 1) := by decide +kernel
theorem dX10_asSort_50 : decode cX10_asSort 50 = .ok (.goto 4, 3) := by decide +kernel
theorem dX10_asSort_53 : decode cX10_asSort 53 = .ok (.lload_n 1, 1) := by decide +kernel
theorem dX10_asSort_54 : decode cX10_asSort 54 = .ok (.lreturn, 1) := by decide +kernel
theorem dX10_put_0 : decode cX10_put 0 = .ok (.aload_n 0, 1) := by decide +kernel
theorem dX10_put_1 : decode cX10_put 1 = .ok (.iload_n 1, 1) := by decide +kernel
theorem dX10_put_2 : decode cX10_put 2 = .ok (.iload_n 2, 1) := by decide +kernel
theorem dX10_put_3 : decode cX10_put 3 = .ok (.invokevirtual 342, 3) := by decide +kernel
theorem dX10_put_6 : decode cX10_put 6 = .ok (.istore 5, 2) := by decide +kernel
theorem dX10_put_8 : decode cX10_put 8 = .ok (.iload 5, 2) := by decide +kernel
theorem dX10_put_10 : decode cX10_put 10 = .ok (.ifCond .ne 27, 3) := by decide +kernel
theorem dX10_put_13 : decode cX10_put 13 = .ok (.aload_n 0, 1) := by decide +kernel
theorem dX10_put_14 : decode cX10_put 14 = .ok (.getfield 78, 3) := by decide +kernel
theorem dX10_put_17 : decode cX10_put 17 = .ok (.bipush 60, 2) := by decide +kernel
theorem dX10_put_19 : decode cX10_put 19 = .ok (.iload_n 1, 1) := by decide +kernel
theorem dX10_put_20 : decode cX10_put 20 = .ok (.imul, 1) := by decide +kernel
theorem dX10_put_21 : decode cX10_put 21 = .ok (.iload_n 2, 1) := by decide +kernel
theorem dX10_put_22 : decode cX10_put 22 = .ok (.iadd, 1) := by decide +kernel
theorem dX10_put_23 : decode cX10_put 23 = .ok (.aload_n 0, 1) := by decide +kernel
theorem dX10_put_24 : decode cX10_put 24 = .ok (.getfield 72, 3) := by decide +kernel
theorem dX10_put_27 : decode cX10_put 27 = .ok (.iload_n 1, 1) := by decide +kernel
theorem dX10_put_28 : decode cX10_put 28 = .ok (.iaload, 1) := by decide +kernel
theorem dX10_put_29 : decode cX10_put 29 = .ok (.bipush 50, 2) := by decide +kernel
theorem dX10_put_31 : decode cX10_put 31 = .ok (.isub, 1) := by decide +kernel
theorem dX10_put_32 : decode cX10_put 32 = .ok (.lload_n 3, 1) := by decide +kernel
theorem dX10_put_33 : decode cX10_put 33 = .ok (.invokestatic 345, 3) := by decide +kernel
theorem dX10_put_36 : decode cX10_put 36 = .ok (.lastore, 1) := by decide +kernel
theorem dX10_put_37 : decode cX10_put 37 = .ok (.iload 5, 2) := by decide +kernel
theorem dX10_put_39 : decode cX10_put 39 = .ok (.ifCond .ne 7, 3) := by decide +kernel
theorem dX10_put_42 : decode cX10_put 42 = .ok (.iconst 1, 1) := by decide +kernel
theorem dX10_put_43 : decode cX10_put 43 = .ok (.goto 5, 3) := by decide +kernel
theorem dX10_put_46 : decode cX10_put 46 = .ok (.iload 5, 2) := by decide +kernel
theorem dX10_put_48 : decode cX10_put 48 = .ok (.ireturn, 1) := by decide +kernel
theorem dX10_element_0 : decode cX10_element 0 = .ok (.aload_n 0, 1) := by decide +kernel
theorem dX10_element_1 : decode cX10_element 1 = .ok (.iload_n 1, 1) := by decide +kernel
theorem dX10_element_2 : decode cX10_element 2 = .ok (.iload_n 2, 1) := by decide +kernel
theorem dX10_element_3 : decode cX10_element 3 = .ok (.invokevirtual 342, 3) := by decide +kernel
theorem dX10_element_6 : decode cX10_element 6 = .ok (.ifCond .eq 9, 3) := by decide +kernel
theorem dX10_element_9 : decode cX10_element 9 = .ok (.ldc2_w 225, 3) := by decide +kernel
theorem dX10_element_12 : decode cX10_element 12 = .ok (.goto 14, 3) := by decide +kernel
theorem dX10_element_15 : decode cX10_element 15 = .ok (.aload_n 0, 1) := by decide +kernel
theorem dX10_element_16 : decode cX10_element 16 = .ok (.getfield 78, 3) := by decide +kernel
theorem dX10_element_19 : decode cX10_element 19 = .ok (.bipush 60, 2) := by decide +kernel
theorem dX10_element_21 : decode cX10_element 21 = .ok (.iload_n 1, 1) := by decide +kernel
theorem dX10_element_22 : decode cX10_element 22 = .ok (.imul, 1) := by decide +kernel
theorem dX10_element_23 : decode cX10_element 23 = .ok (.iload_n 2, 1) := by decide +kernel
theorem dX10_element_24 : decode cX10_element 24 = .ok (.iadd, 1) := by decide +kernel
theorem dX10_element_25 : decode cX10_element 25 = .ok (.laload, 1) := by decide +kernel
theorem dX10_element_26 : decode cX10_element 26 = .ok (.lreturn, 1) := by decide +kernel
theorem dX10_shift_0 : decode cX10_shift 0 = .ok (.iload_n 1, 1) := by decide +kernel
theorem dX10_shift_1 : decode cX10_shift 1 = .ok (.invokestatic 114, 3) := by decide +kernel
theorem dX10_shift_4 : decode cX10_shift 4 = .ok (.ifCond .eq 10, 3) := by decide +kernel
theorem dX10_shift_7 : decode cX10_shift 7 = .ok (.iload_n 3, 1) := by decide +kernel
theorem dX10_shift_8 : decode cX10_shift 8 = .ok (.invokestatic 114, 3) := by decide +kernel
theorem dX10_shift_11 : decode cX10_shift 11 = .ok (.ifCond .ne 5, 3) := by decide +kernel
theorem dX10_shift_14 : decode cX10_shift 14 = .ok (.iconst (-1), 1) := by decide +kernel
theorem dX10_shift_15 : decode cX10_shift 15 = .ok (.ireturn, 1) := by decide +kernel
theorem dX10_shift_16 : decode cX10_shift 16 = .ok (.aload_n 0, 1) := by decide +kernel
theorem dX10_shift_17 : decode cX10_shift 17 = .ok (.getfield 72, 3) := by decide +kernel
theorem dX10_shift_20 : decode cX10_shift 20 = .ok (.iload_n 1, 1) := by decide +kernel
theorem dX10_shift_21 : decode cX10_shift 21 = .ok (.iaload, 1) := by decide +kernel
theorem dX10_shift_22 : decode cX10_shift 22 = .ok (.ifCond .lt 12, 3) := by decide +kernel
theorem dX10_shift_25 : decode cX10_shift 25 = .ok (.aload_n 0, 1) := by decide +kernel
theorem dX10_shift_26 : decode cX10_shift 26 = .ok (.getfield 72, 3) := by decide +kernel
theorem dX10_shift_29 : decode cX10_shift 29 = .ok (.iload_n 3, 1) := by decide +kernel
theorem dX10_shift_30 : decode cX10_shift 30 = .ok (.iaload, 1) := by decide +kernel
theorem dX10_shift_31 : decode cX10_shift 31 = .ok (.ifCond .ge 6, 3) := by decide +kernel
theorem dX10_shift_34 : decode cX10_shift 34 = .ok (.bipush (-11), 2) := by decide +kernel
theorem dX10_shift_36 : decode cX10_shift 36 = .ok (.ireturn, 1) := by decide +kernel
theorem dX10_shift_37 : decode cX10_shift 37 = .ok (.aload_n 0, 1) := by decide +kernel
theorem dX10_shift_38 : decode cX10_shift 38 = .ok (.getfield 72, 3) := by decide +kernel
theorem dX10_shift_41 : decode cX10_shift 41 = .ok (.iload_n 1, 1) := by decide +kernel
theorem dX10_shift_42 : decode cX10_shift 42 = .ok (.iaload, 1) := by decide +kernel
theorem dX10_shift_43 : decode cX10_shift 43 = .ok (.bipush 50, 2) := by decide +kernel
theorem dX10_shift_45 : decode cX10_shift 45 = .ok (.if_icmp .lt 18, 3) := by decide +kernel
theorem dX10_shift_48 : decode cX10_shift 48 = .ok (.aload_n 0, 1) := by decide +kernel
theorem dX10_shift_49 : decode cX10_shift 49 = .ok (.getfield 72, 3) := by decide +kernel
theorem dX10_shift_52 : decode cX10_shift 52 = .ok (.iload_n 1, 1) := by decide +kernel
theorem dX10_shift_53 : decode cX10_shift 53 = .ok (.iaload, 1) := by decide +kernel
theorem dX10_shift_54 : decode cX10_shift 54 = .ok (.aload_n 0, 1) := by decide +kernel
theorem dX10_shift_55 : decode cX10_shift 55 = .ok (.getfield 72, 3) := by decide +kernel
theorem dX10_shift_58 : decode cX10_shift 58 = .ok (.iload_n 3, 1) := by decide +kernel
theorem dX10_shift_59 : decode cX10_shift 59 = .ok (.iaload, 1) := by decide +kernel
theorem dX10_shift_60 : decode cX10_shift 60 = .ok (.if_icmp .eq 6, 3) := by decide +kernel
theorem dX10_shift_63 : decode cX10_shift 63 = .ok (.bipush (-12), 2) := by decide +kernel
theorem dX10_shift_65 : decode cX10_shift 65 = .ok (.ireturn, 1) := by decide +kernel
theorem dX10_shift_66 : decode cX10_shift 66 = .ok (.iload 5, 2) := by decide +kernel
theorem dX10_shift_68 : decode cX10_shift 68 = .ok (.ifCond .lt 39, 3) := by decide +kernel
theorem dX10_shift_71 : decode cX10_shift 71 = .ok (.iload_n 2, 1) := by decide +kernel
theorem dX10_shift_72 : decode cX10_shift 72 = .ok (.ifCond .lt 35, 3) := by decide +kernel
theorem dX10_shift_75 : decode cX10_shift 75 = .ok (.iload 4, 2) := by decide +kernel
theorem dX10_shift_77 : decode cX10_shift 77 = .ok (.ifCond .lt 30, 3) := by decide +kernel
theorem dX10_shift_80 : decode cX10_shift 80 = .ok (.iload_n 2, 1) := by decide +kernel
theorem dX10_shift_81 : decode cX10_shift 81 = .ok (.aload_n 0, 1) := by decide +kernel
theorem dX10_shift_82 : decode cX10_shift 82 = .ok (.getfield 75, 3) := by decide +kernel
theorem dX10_shift_85 : decode cX10_shift 85 = .ok (.iload_n 1, 1) := by decide +kernel
theorem dX10_shift_86 : decode cX10_shift 86 = .ok (.iaload, 1) := by decide +kernel
theorem dX10_shift_87 : decode cX10_shift 87 = .ok (.iload 5, 2) := by decide +kernel
theorem dX10_shift_89 : decode cX10_shift 89 = .ok (.isub, 1) := by decide +kernel
theorem dX10_shift_90 : decode cX10_shift 90 = .ok (.if_icmp .gt 17, 3) := by decide +kernel
theorem dX10_shift_93 : decode cX10_shift 93 = .ok (.iload 4, 2) := by decide +kernel
theorem dX10_shift_95 : decode cX10_shift 95 = .ok (.aload_n 0, 1) := by decide +kernel
theorem dX10_shift_96 : decode cX10_shift 96 = .ok (.getfield 75, 3) := by decide +kernel
theorem dX10_shift_99 : decode cX10_shift 99 = .ok (.iload_n 3, 1) := by decide +kernel
theorem dX10_shift_100 : decode cX10_shift 100 = .ok (.iaload, 1) := by decide +kernel
theorem dX10_shift_101 : decode cX10_shift 101 = .ok (.iload 5, 2) := by decide +kernel
theorem dX10_shift_103 : decode cX10_shift 103 = .ok (.isub, 1) := by decide +kernel
theorem dX10_shift_104 : decode cX10_shift 104 = .ok (.if_icmp .le 6, 3) := by decide +kernel
theorem dX10_shift_107 : decode cX10_shift 107 = .ok (.bipush (-13), 2) := by decide +kernel
theorem dX10_shift_109 : decode cX10_shift 109 = .ok (.ireturn, 1) := by decide +kernel
theorem dX10_shift_110 : decode cX10_shift 110 = .ok (.iconst 0, 1) := by decide +kernel
theorem dX10_shift_111 : decode cX10_shift 111 = .ok (.istore 6, 2) := by decide +kernel
theorem dX10_shift_113 : decode cX10_shift 113 = .ok (.iload 6, 2) := by decide +kernel
theorem dX10_shift_115 : decode cX10_shift 115 = .ok (.iload 5, 2) := by decide +kernel
theorem dX10_shift_117 : decode cX10_shift 117 = .ok (.if_icmp .ge 30, 3) := by decide +kernel
theorem dX10_shift_120 : decode cX10_shift 120 = .ok (.aload_n 0, 1) := by decide +kernel
theorem dX10_shift_121 : decode cX10_shift 121 = .ok (.getfield 81, 3) := by decide +kernel
theorem dX10_shift_124 : decode cX10_shift 124 = .ok (.iload 6, 2) := by decide +kernel
theorem dX10_shift_126 : decode cX10_shift 126 = .ok (.aload_n 0, 1) := by decide +kernel
theorem dX10_shift_127 : decode cX10_shift 127 = .ok (.getfield 78, 3) := by decide +kernel
theorem dX10_shift_130 : decode cX10_shift 130 = .ok (.bipush 60, 2) := by decide +kernel
theorem dX10_shift_132 : decode cX10_shift 132 = .ok (.iload_n 1, 1) := by decide +kernel
theorem dX10_shift_133 : decode cX10_shift 133 = .ok (.imul, 1) := by decide +kernel
theorem dX10_shift_134 : decode cX10_shift 134 = .ok (.iload_n 2, 1) := by decide +kernel
theorem dX10_shift_135 : decode cX10_shift 135 = .ok (.iadd, 1) := by decide +kernel
theorem dX10_shift_136 : decode cX10_shift 136 = .ok (.iload 6, 2) := by decide +kernel
theorem dX10_shift_138 : decode cX10_shift 138 = .ok (.iadd, 1) := by decide +kernel
theorem dX10_shift_139 : decode cX10_shift 139 = .ok (.laload, 1) := by decide +kernel
theorem dX10_shift_140 : decode cX10_shift 140 = .ok (.lastore, 1) := by decide +kernel
theorem dX10_shift_141 : decode cX10_shift 141 = .ok (.iinc 6 1, 3) := by decide +kernel
theorem dX10_shift_144 : decode cX10_shift 144 = .ok (.goto (-31), 3) := by decide +kernel
theorem dX10_shift_147 : decode cX10_shift 147 = .ok (.iconst 0, 1) := by decide +kernel
theorem dX10_shift_148 : decode cX10_shift 148 = .ok (.istore 6, 2) := by decide +kernel
theorem dX10_shift_150 : decode cX10_shift 150 = .ok (.iload 6, 2) := by decide +kernel
theorem dX10_shift_152 : decode cX10_shift 152 = .ok (.iload 5, 2) := by decide +kernel
theorem dX10_shift_154 : decode cX10_shift 154 = .ok (.if_icmp .ge 31, 3) := by decide +kernel
theorem dX10_shift_157 : decode cX10_shift 157 = .ok (.aload_n 0, 1) := by decide +kernel
theorem dX10_shift_158 : decode cX10_shift 158 = .ok (.getfield 78, 3) := by decide +kernel
theorem dX10_shift_161 : decode cX10_shift 161 = .ok (.bipush 60, 2) := by decide +kernel
theorem dX10_shift_163 : decode cX10_shift 163 = .ok (.iload_n 3, 1) := by decide +kernel
theorem dX10_shift_164 : decode cX10_shift 164 = .ok (.imul, 1) := by decide +kernel
theorem dX10_shift_165 : decode cX10_shift 165 = .ok (.iload 4, 2) := by decide +kernel
theorem dX10_shift_167 : decode cX10_shift 167 = .ok (.iadd, 1) := by decide +kernel
theorem dX10_shift_168 : decode cX10_shift 168 = .ok (.iload 6, 2) := by decide +kernel
theorem dX10_shift_170 : decode cX10_shift 170 = .ok (.iadd, 1) := by decide +kernel
theorem dX10_shift_171 : decode cX10_shift 171 = .ok (.aload_n 0, 1) := by decide +kernel
theorem dX10_shift_172 : decode cX10_shift 172 = .ok (.getfield 81, 3) := by decide +kernel
theorem dX10_shift_175 : decode cX10_shift 175 = .ok (.iload 6, 2) := by decide +kernel
theorem dX10_shift_177 : decode cX10_shift 177 = .ok (.laload, 1) := by decide +kernel
theorem dX10_shift_178 : decode cX10_shift 178 = .ok (.lastore, 1) := by decide +kernel
theorem dX10_shift_179 : decode cX10_shift 179 = .ok (.iinc 6 1, 3) := by decide +kernel
theorem dX10_shift_182 : decode cX10_shift 182 = .ok (.goto (-32), 3) := by decide +kernel
theorem dX10_shift_185 : decode cX10_shift 185 = .ok (.iload 5, 2) := by decide +kernel
theorem dX10_shift_187 : decode cX10_shift 187 = .ok (.ireturn, 1) := by decide +kernel
theorem dX10_taken_0 : decode cX10_taken 0 = .ok (.iload_n 1, 1) := by decide +kernel
theorem dX10_taken_1 : decode cX10_taken 1 = .ok (.invokestatic 114, 3) := by decide +kernel
theorem dX10_taken_4 : decode cX10_taken 4 = .ok (.ifCond .eq 15, 3) := by decide +kernel
theorem dX10_taken_7 : decode cX10_taken 7 = .ok (.iload_n 2, 1) := by decide +kernel
theorem dX10_taken_8 : decode cX10_taken 8 = .ok (.i2l, 1) := by decide +kernel
theorem dX10_taken_9 : decode cX10_taken 9 = .ok (.lconst 0, 1) := by decide +kernel
theorem dX10_taken_10 : decode cX10_taken 10 = .ok (.ldc2_w 312, 3) := by decide +kernel
theorem dX10_taken_13 : decode cX10_taken 13 = .ok (.invokestatic 96, 3) := by decide +kernel
theorem dX10_taken_16 : decode cX10_taken 16 = .ok (.ifCond .ne 5, 3) := by decide +kernel
theorem dX10_taken_19 : decode cX10_taken 19 = .ok (.iconst (-1), 1) := by decide +kernel
theorem dX10_taken_20 : decode cX10_taken 20 = .ok (.ireturn, 1) := by decide +kernel
theorem dX10_taken_21 : decode cX10_taken 21 = .ok (.aload_n 0, 1) := by decide +kernel
theorem dX10_taken_22 : decode cX10_taken 22 = .ok (.getfield 72, 3) := by decide +kernel
theorem dX10_taken_25 : decode cX10_taken 25 = .ok (.iload_n 1, 1) := by decide +kernel
theorem dX10_taken_26 : decode cX10_taken 26 = .ok (.iaload, 1) := by decide +kernel
theorem dX10_taken_27 : decode cX10_taken 27 = .ok (.ifCond .ge 6, 3) := by decide +kernel
theorem dX10_taken_30 : decode cX10_taken 30 = .ok (.bipush (-11), 2) := by decide +kernel
theorem dX10_taken_32 : decode cX10_taken 32 = .ok (.ireturn, 1) := by decide +kernel
theorem dX10_taken_33 : decode cX10_taken 33 = .ok (.aload_n 0, 1) := by decide +kernel
theorem dX10_taken_34 : decode cX10_taken 34 = .ok (.getfield 72, 3) := by decide +kernel
theorem dX10_taken_37 : decode cX10_taken 37 = .ok (.iload_n 1, 1) := by decide +kernel
theorem dX10_taken_38 : decode cX10_taken 38 = .ok (.iaload, 1) := by decide +kernel
theorem dX10_taken_39 : decode cX10_taken 39 = .ok (.bipush 50, 2) := by decide +kernel
theorem dX10_taken_41 : decode cX10_taken 41 = .ok (.if_icmp .lt 6, 3) := by decide +kernel
theorem dX10_taken_44 : decode cX10_taken 44 = .ok (.bipush (-12), 2) := by decide +kernel
theorem dX10_taken_46 : decode cX10_taken 46 = .ok (.ireturn, 1) := by decide +kernel
theorem dX10_taken_47 : decode cX10_taken 47 = .ok (.aload_n 0, 1) := by decide +kernel
theorem dX10_taken_48 : decode cX10_taken 48 = .ok (.aload_n 0, 1) := by decide +kernel
theorem dX10_taken_49 : decode cX10_taken 49 = .ok (.getfield 72, 3) := by decide +kernel
theorem dX10_taken_52 : decode cX10_taken 52 = .ok (.iload_n 1, 1) := by decide +kernel
theorem dX10_taken_53 : decode cX10_taken 53 = .ok (.iaload, 1) := by decide +kernel
theorem dX10_taken_54 : decode cX10_taken 54 = .ok (.invokevirtual 349, 3) := by decide +kernel
theorem dX10_taken_57 : decode cX10_taken 57 = .ok (.istore_n 3, 1) := by decide +kernel
theorem dX10_taken_58 : decode cX10_taken 58 = .ok (.iload_n 3, 1) := by decide +kernel
theorem dX10_taken_59 : decode cX10_taken 59 = .ok (.iload_n 2, 1) := by decide +kernel
theorem dX10_taken_60 : decode cX10_taken 60 = .ok (.if_icmp .eq 15, 3) := by decide +kernel
theorem dX10_taken_63 : decode cX10_taken 63 = .ok (.iload_n 3, 1) := by decide +kernel
theorem dX10_taken_64 : decode cX10_taken 64 = .ok (.ifCond .le 11, 3) := by decide +kernel
theorem dX10_taken_67 : decode cX10_taken 67 = .ok (.iload_n 3, 1) := by decide +kernel
theorem dX10_taken_68 : decode cX10_taken 68 = .ok (.invokestatic 352, 3) := by decide +kernel
theorem dX10_taken_71 : decode cX10_taken 71 = .ok (.istore_n 3, 1) := by decide +kernel
theorem dX10_taken_72 : decode cX10_taken 72 = .ok (.goto (-14), 3) := by decide +kernel
theorem dX10_taken_75 : decode cX10_taken 75 = .ok (.iload_n 3, 1) := by decide +kernel
theorem dX10_taken_76 : decode cX10_taken 76 = .ok (.iload_n 2, 1) := by decide +kernel
theorem dX10_taken_77 : decode cX10_taken 77 = .ok (.if_icmp .ne 16, 3) := by decide +kernel
theorem dX10_taken_80 : decode cX10_taken 80 = .ok (.aload_n 0, 1) := by decide +kernel
theorem dX10_taken_81 : decode cX10_taken 81 = .ok (.aload_n 0, 1) := by decide +kernel
theorem dX10_taken_82 : decode cX10_taken 82 = .ok (.getfield 72, 3) := by decide +kernel
theorem dX10_taken_85 : decode cX10_taken 85 = .ok (.iload_n 1, 1) := by decide +kernel
theorem dX10_taken_86 : decode cX10_taken 86 = .ok (.iaload, 1) := by decide +kernel
theorem dX10_taken_87 : decode cX10_taken 87 = .ok (.invokevirtual 349, 3) := by decide +kernel
theorem dX10_taken_90 : decode cX10_taken 90 = .ok (.goto 5, 3) := by decide +kernel
theorem dX10_taken_93 : decode cX10_taken 93 = .ok (.bipush (-12), 2) := by decide +kernel
theorem dX10_taken_95 : decode cX10_taken 95 = .ok (.ireturn, 1) := by decide +kernel
theorem dX10_count_0 : decode cX10_count 0 = .ok (.iload_n 1, 1) := by decide +kernel
theorem dX10_count_1 : decode cX10_count 1 = .ok (.tableswitch 69 0 5 #[39, 44, 49, 54, 59, 64], 39) := by decide +kernel
theorem dX10_count_40 : decode cX10_count 40 = .ok (.aload_n 0, 1) := by decide +kernel
theorem dX10_count_41 : decode cX10_count 41 = .ok (.getfield 100, 3) := by decide +kernel
theorem dX10_count_44 : decode cX10_count 44 = .ok (.ireturn, 1) := by decide +kernel
theorem dX10_count_45 : decode cX10_count 45 = .ok (.aload_n 0, 1) := by decide +kernel
theorem dX10_count_46 : decode cX10_count 46 = .ok (.getfield 103, 3) := by decide +kernel
theorem dX10_count_49 : decode cX10_count 49 = .ok (.ireturn, 1) := by decide +kernel
theorem dX10_count_50 : decode cX10_count 50 = .ok (.aload_n 0, 1) := by decide +kernel
theorem dX10_count_51 : decode cX10_count 51 = .ok (.getfield 154, 3) := by decide +kernel
theorem dX10_count_54 : decode cX10_count 54 = .ok (.ireturn, 1) := by decide +kernel
theorem dX10_count_55 : decode cX10_count 55 = .ok (.aload_n 0, 1) := by decide +kernel
theorem dX10_count_56 : decode cX10_count 56 = .ok (.getfield 88, 3) := by decide +kernel
theorem dX10_count_59 : decode cX10_count 59 = .ok (.ireturn, 1) := by decide +kernel
theorem dX10_count_60 : decode cX10_count 60 = .ok (.aload_n 0, 1) := by decide +kernel
theorem dX10_count_61 : decode cX10_count 61 = .ok (.getfield 309, 3) := by decide +kernel
theorem dX10_count_64 : decode cX10_count 64 = .ok (.ireturn, 1) := by decide +kernel
theorem dX10_count_65 : decode cX10_count 65 = .ok (.aload_n 0, 1) := by decide +kernel
theorem dX10_count_66 : decode cX10_count 66 = .ok (.getfield 314, 3) := by decide +kernel
theorem dX10_count_69 : decode cX10_count 69 = .ok (.ireturn, 1) := by decide +kernel
theorem dX10_count_70 : decode cX10_count 70 = .ok (.iconst (-1), 1) := by decide +kernel
theorem dX10_count_71 : decode cX10_count 71 = .ok (.ireturn, 1) := by decide +kernel
theorem dJ11_isValidCodePoint_9a6ad_0 : decode cJ11_isValidCodePoint_9a6ad 0 = .ok (.iload_n 0, 1) := by decide +kernel
theorem dJ11_isValidCodePoint_9a6ad_1 : decode cJ11_isValidCodePoint_9a6ad 1 = .ok (.bipush 16, 2) := by decide +kernel
theorem dJ11_isValidCodePoint_9a6ad_3 : decode cJ11_isValidCodePoint_9a6ad 3 = .ok (.iushr, 1) := by decide +kernel
theorem dJ11_isValidCodePoint_9a6ad_4 : decode cJ11_isValidCodePoint_9a6ad 4 = .ok (.istore_n 1, 1) := by decide +kernel
theorem dJ11_isValidCodePoint_9a6ad_5 : decode cJ11_isValidCodePoint_9a6ad 5 = .ok (.iload_n 1, 1) := by decide +kernel
theorem dJ11_isValidCodePoint_9a6ad_6 : decode cJ11_isValidCodePoint_9a6ad 6 = .ok (.bipush 17, 2) := by decide +kernel
theorem dJ11_isValidCodePoint_9a6ad_8 : decode cJ11_isValidCodePoint_9a6ad 8 = .ok (.if_icmp .ge 7, 3) := by decide +kernel
theorem dJ11_isValidCodePoint_9a6ad_11 : decode cJ11_isValidCodePoint_9a6ad 11 = .ok (.iconst 1, 1) := by decide +kernel
theorem dJ11_isValidCodePoint_9a6ad_12 : decode cJ11_isValidCodePoint_9a6ad 12 = .ok (.goto 4, 3) := by decide +kernel
theorem dJ11_isValidCodePoint_9a6ad_15 : decode cJ11_isValidCodePoint_9a6ad 15 = .ok (.iconst 0, 1) := by decide +kernel
theorem dJ11_isValidCodePoint_9a6ad_16 : decode cJ11_isValidCodePoint_9a6ad 16 = .ok (.ireturn, 1) := by decide +kernel
theorem dJ11_highSurrogate_5068e_0 : decode cJ11_highSurrogate_5068e 0 = .ok (.iload_n 0, 1) := by decide +kernel
theorem dJ11_highSurrogate_5068e_1 : decode cJ11_highSurrogate_5068e 1 = .ok (.bipush 10, 2) := by decide +kernel
theorem dJ11_highSurrogate_5068e_3 : decode cJ11_highSurrogate_5068e 3 = .ok (.iushr, 1) := by decide +kernel
theorem dJ11_highSurrogate_5068e_4 : decode cJ11_highSurrogate_5068e 4 = .ok (.ldc 110, 2) := by decide +kernel
theorem dJ11_highSurrogate_5068e_6 : decode cJ11_highSurrogate_5068e 6 = .ok (.iadd, 1) := by decide +kernel
theorem dJ11_highSurrogate_5068e_7 : decode cJ11_highSurrogate_5068e 7 = .ok (.i2c, 1) := by decide +kernel
theorem dJ11_highSurrogate_5068e_8 : decode cJ11_highSurrogate_5068e 8 = .ok (.ireturn, 1) := by decide +kernel
theorem dJ11_lowSurrogate_5068e_0 : decode cJ11_lowSurrogate_5068e 0 = .ok (.iload_n 0, 1) := by decide +kernel
theorem dJ11_lowSurrogate_5068e_1 : decode cJ11_lowSurrogate_5068e 1 = .ok (.sipush 1023, 3) := by decide +kernel
theorem dJ11_lowSurrogate_5068e_4 : decode cJ11_lowSurrogate_5068e 4 = .ok (.iand, 1) := by decide +kernel
theorem dJ11_lowSurrogate_5068e_5 : decode cJ11_lowSurrogate_5068e 5 = .ok (.ldc 76, 2) := by decide +kernel
theorem dJ11_lowSurrogate_5068e_7 : decode cJ11_lowSurrogate_5068e 7 = .ok (.iadd, 1) := by decide +kernel
theorem dJ11_lowSurrogate_5068e_8 : decode cJ11_lowSurrogate_5068e 8 = .ok (.i2c, 1) := by decide +kernel
theorem dJ11_lowSurrogate_5068e_9 : decode cJ11_lowSurrogate_5068e 9 = .ok (.ireturn, 1) := by decide +kernel
theorem dJ6_bitCount_0f7a4_0 : decode cJ6_bitCount_0f7a4 0 = .ok (.iload_n 0, 1) := by decide +kernel
theorem dJ6_bitCount_0f7a4_1 : decode cJ6_bitCount_0f7a4 1 = .ok (.iload_n 0, 1) := by decide +kernel
theorem dJ6_bitCount_0f7a4_2 : decode cJ6_bitCount_0f7a4 2 = .ok (.iconst 1, 1) := by decide +kernel
theorem dJ6_bitCount_0f7a4_3 : decode cJ6_bitCount_0f7a4 3 = .ok (.iushr, 1) := by decide +kernel
theorem dJ6_bitCount_0f7a4_4 : decode cJ6_bitCount_0f7a4 4 = .ok (.ldc_w 265, 3) := by decide +kernel
theorem dJ6_bitCount_0f7a4_7 : decode cJ6_bitCount_0f7a4 7 = .ok (.iand, 1) := by decide +kernel
theorem dJ6_bitCount_0f7a4_8 : decode cJ6_bitCount_0f7a4 8 = .ok (.isub, 1) := by decide +kernel
theorem dJ6_bitCount_0f7a4_9 : decode cJ6_bitCount_0f7a4 9 = .ok (.istore_n 0, 1) := by decide +kernel
theorem dJ6_bitCount_0f7a4_10 : decode cJ6_bitCount_0f7a4 10 = .ok (.iload_n 0, 1) := by decide +kernel
theorem dJ6_bitCount_0f7a4_11 : decode cJ6_bitCount_0f7a4 11 = .ok (.ldc_w 266, 3) := by decide +kernel
theorem dJ6_bitCount_0f7a4_14 : decode cJ6_bitCount_0f7a4 14 = .ok (.iand, 1) := by decide +kernel
theorem dJ6_bitCount_0f7a4_15 : decode cJ6_bitCount_0f7a4 15 = .ok (.iload_n 0, 1) := by decide +kernel
theorem dJ6_bitCount_0f7a4_16 : decode cJ6_bitCount_0f7a4 16 = .ok (.iconst 2, 1) := by decide +kernel
theorem dJ6_bitCount_0f7a4_17 : decode cJ6_bitCount_0f7a4 17 = .ok (.iushr, 1) := by decide +kernel
theorem dJ6_bitCount_0f7a4_18 : decode cJ6_bitCount_0f7a4 18 = .ok (.ldc_w 266, 3) := by decide +kernel
theorem dJ6_bitCount_0f7a4_21 : decode cJ6_bitCount_0f7a4 21 = .ok (.iand, 1) := by decide +kernel
theorem dJ6_bitCount_0f7a4_22 : decode cJ6_bitCount_0f7a4 22 = .ok (.iadd, 1) := by decide +kernel
theorem dJ6_bitCount_0f7a4_23 : decode cJ6_bitCount_0f7a4 23 = .ok (.istore_n 0, 1) := by decide +kernel
theorem dJ6_bitCount_0f7a4_24 : decode cJ6_bitCount_0f7a4 24 = .ok (.iload_n 0, 1) := by decide +kernel
theorem dJ6_bitCount_0f7a4_25 : decode cJ6_bitCount_0f7a4 25 = .ok (.iload_n 0, 1) := by decide +kernel
theorem dJ6_bitCount_0f7a4_26 : decode cJ6_bitCount_0f7a4 26 = .ok (.iconst 4, 1) := by decide +kernel
theorem dJ6_bitCount_0f7a4_27 : decode cJ6_bitCount_0f7a4 27 = .ok (.iushr, 1) := by decide +kernel
theorem dJ6_bitCount_0f7a4_28 : decode cJ6_bitCount_0f7a4 28 = .ok (.iadd, 1) := by decide +kernel
theorem dJ6_bitCount_0f7a4_29 : decode cJ6_bitCount_0f7a4 29 = .ok (.ldc_w 267, 3) := by decide +kernel
theorem dJ6_bitCount_0f7a4_32 : decode cJ6_bitCount_0f7a4 32 = .ok (.iand, 1) := by decide +kernel
theorem dJ6_bitCount_0f7a4_33 : decode cJ6_bitCount_0f7a4 33 = .ok (.istore_n 0, 1) := by decide +kernel
theorem dJ6_bitCount_0f7a4_34 : decode cJ6_bitCount_0f7a4 34 = .ok (.iload_n 0, 1) := by decide +kernel
theorem dJ6_bitCount_0f7a4_35 : decode cJ6_bitCount_0f7a4 35 = .ok (.iload_n 0, 1) := by decide +kernel
theorem dJ6_bitCount_0f7a4_36 : decode cJ6_bitCount_0f7a4 36 = .ok (.bipush 8, 2) := by decide +kernel
theorem dJ6_bitCount_0f7a4_38 : decode cJ6_bitCount_0f7a4 38 = .ok (.iushr, 1) := by decide +kernel
theorem dJ6_bitCount_0f7a4_39 : decode cJ6_bitCount_0f7a4 39 = .ok (.iadd, 1) := by decide +kernel
theorem dJ6_bitCount_0f7a4_40 : decode cJ6_bitCount_0f7a4 40 = .ok (.istore_n 0, 1) := by decide +kernel
theorem dJ6_bitCount_0f7a4_41 : decode cJ6_bitCount_0f7a4 41 = .ok (.iload_n 0, 1) := by decide +kernel
theorem dJ6_bitCount_0f7a4_42 : decode cJ6_bitCount_0f7a4 42 = .ok (.iload_n 0, 1) := by decide +kernel
theorem dJ6_bitCount_0f7a4_43 : decode cJ6_bitCount_0f7a4 43 = .ok (.bipush 16, 2) := by decide +kernel
theorem dJ6_bitCount_0f7a4_45 : decode cJ6_bitCount_0f7a4 45 = .ok (.iushr, 1) := by decide +kernel
theorem dJ6_bitCount_0f7a4_46 : decode cJ6_bitCount_0f7a4 46 = .ok (.iadd, 1) := by decide +kernel
theorem dJ6_bitCount_0f7a4_47 : decode cJ6_bitCount_0f7a4 47 = .ok (.istore_n 0, 1) := by decide +kernel
theorem dJ6_bitCount_0f7a4_48 : decode cJ6_bitCount_0f7a4 48 = .ok (.iload_n 0, 1) := by decide +kernel
theorem dJ6_bitCount_0f7a4_49 : decode cJ6_bitCount_0f7a4 49 = .ok (.bipush 63, 2) := by decide +kernel
theorem dJ6_bitCount_0f7a4_51 : decode cJ6_bitCount_0f7a4 51 = .ok (.iand, 1) := by decide +kernel
theorem dJ6_bitCount_0f7a4_52 : decode cJ6_bitCount_0f7a4 52 = .ok (.ireturn, 1) := by decide +kernel
theorem dJ9_max_7cf53_0 : decode cJ9_max_7cf53 0 = .ok (.iload_n 0, 1) := by decide +kernel
theorem dJ9_max_7cf53_1 : decode cJ9_max_7cf53 1 = .ok (.iload_n 1, 1) := by decide +kernel
theorem dJ9_max_7cf53_2 : decode cJ9_max_7cf53 2 = .ok (.if_icmp .lt 7, 3) := by decide +kernel
theorem dJ9_max_7cf53_5 : decode cJ9_max_7cf53 5 = .ok (.iload_n 0, 1) := by decide +kernel
theorem dJ9_max_7cf53_6 : decode cJ9_max_7cf53 6 = .ok (.goto 4, 3) := by decide +kernel
theorem dJ9_max_7cf53_9 : decode cJ9_max_7cf53 9 = .ok (.iload_n 1, 1) := by decide +kernel
theorem dJ9_max_7cf53_10 : decode cJ9_max_7cf53 10 = .ok (.ireturn, 1) := by decide +kernel
theorem dJ9_max_f86c9_0 : decode cJ9_max_f86c9 0 = .ok (.lload_n 0, 1) := by decide +kernel
theorem dJ9_max_f86c9_1 : decode cJ9_max_f86c9 1 = .ok (.lload_n 2, 1) := by decide +kernel
theorem dJ9_max_f86c9_2 : decode cJ9_max_f86c9 2 = .ok (.lcmp, 1) := by decide +kernel
theorem dJ9_max_f86c9_3 : decode cJ9_max_f86c9 3 = .ok (.ifCond .lt 7, 3) := by decide +kernel
theorem dJ9_max_f86c9_6 : decode cJ9_max_f86c9 6 = .ok (.lload_n 0, 1) := by decide +kernel
theorem dJ9_max_f86c9_7 : decode cJ9_max_f86c9 7 = .ok (.goto 4, 3) := by decide +kernel
theorem dJ9_max_f86c9_10 : decode cJ9_max_f86c9 10 = .ok (.lload_n 2, 1) := by decide +kernel
theorem dJ9_max_f86c9_11 : decode cJ9_max_f86c9 11 = .ok (.lreturn, 1) := by decide +kernel
theorem dJ9_min_7cf53_0 : decode cJ9_min_7cf53 0 = .ok (.iload_n 0, 1) := by decide +kernel
theorem dJ9_min_7cf53_1 : decode cJ9_min_7cf53 1 = .ok (.iload_n 1, 1) := by decide +kernel
theorem dJ9_min_7cf53_2 : decode cJ9_min_7cf53 2 = .ok (.if_icmp .gt 7, 3) := by decide +kernel
theorem dJ9_min_7cf53_5 : decode cJ9_min_7cf53 5 = .ok (.iload_n 0, 1) := by decide +kernel
theorem dJ9_min_7cf53_6 : decode cJ9_min_7cf53 6 = .ok (.goto 4, 3) := by decide +kernel
theorem dJ9_min_7cf53_9 : decode cJ9_min_7cf53 9 = .ok (.iload_n 1, 1) := by decide +kernel
theorem dJ9_min_7cf53_10 : decode cJ9_min_7cf53 10 = .ok (.ireturn, 1) := by decide +kernel
theorem dJ0_length_8abf5_0 : decode cJ0_length_8abf5 0 = .ok (.aload_n 0, 1) := by decide +kernel
theorem dJ0_length_8abf5_1 : decode cJ0_length_8abf5 1 = .ok (.getfield 9, 3) := by decide +kernel
theorem dJ0_length_8abf5_4 : decode cJ0_length_8abf5 4 = .ok (.arraylength, 1) := by decide +kernel
theorem dJ0_length_8abf5_5 : decode cJ0_length_8abf5 5 = .ok (.aload_n 0, 1) := by decide +kernel
theorem dJ0_length_8abf5_6 : decode cJ0_length_8abf5 6 = .ok (.invokevirtual 335, 3) := by decide +kernel
theorem dJ0_length_8abf5_9 : decode cJ0_length_8abf5 9 = .ok (.ishr, 1) := by decide +kernel
theorem dJ0_length_8abf5_10 : decode cJ0_length_8abf5 10 = .ok (.ireturn, 1) := by decide +kernel
theorem dJ0_indexOf_0f7a4_0 : decode cJ0_indexOf_0f7a4 0 = .ok (.aload_n 0, 1) := by decide +kernel
theorem dJ0_indexOf_0f7a4_1 : decode cJ0_indexOf_0f7a4 1 = .ok (.iload_n 1, 1) := by decide +kernel
theorem dJ0_indexOf_0f7a4_2 : decode cJ0_indexOf_0f7a4 2 = .ok (.iconst 0, 1) := by decide +kernel
theorem dJ0_indexOf_0f7a4_3 : decode cJ0_indexOf_0f7a4 3 = .ok (.invokevirtual 633, 3) := by decide +kernel
theorem dJ0_indexOf_0f7a4_6 : decode cJ0_indexOf_0f7a4 6 = .ok (.ireturn, 1) := by decide +kernel
theorem dJ0_indexOf_7cf53_0 : decode cJ0_indexOf_7cf53 0 = .ok (.aload_n 0, 1) := by decide +kernel
theorem dJ0_indexOf_7cf53_1 : decode cJ0_indexOf_7cf53 1 = .ok (.invokevirtual 492, 3) := by decide +kernel
theorem dJ0_indexOf_7cf53_4 : decode cJ0_indexOf_7cf53 4 = .ok (.ifCond .eq 19, 3) := by decide +kernel
theorem dJ0_indexOf_7cf53_7 : decode cJ0_indexOf_7cf53 7 = .ok (.aload_n 0, 1) := by decide +kernel
theorem dJ0_indexOf_7cf53_8 : decode cJ0_indexOf_7cf53 8 = .ok (.getfield 9, 3) := by decide +kernel
theorem dJ0_indexOf_7cf53_11 : decode cJ0_indexOf_7cf53 11 = .ok (.iload_n 1, 1) := by decide +kernel
theorem dJ0_indexOf_7cf53_12 : decode cJ0_indexOf_7cf53 12 = .ok (.iload_n 2, 1) := by decide +kernel
theorem dJ0_indexOf_7cf53_13 : decode cJ0_indexOf_7cf53 13 = .ok (.aload_n 0, 1) := by decide +kernel
theorem dJ0_indexOf_7cf53_14 : decode cJ0_indexOf_7cf53 14 = .ok (.invokevirtual 505, 3) := by decide +kernel
theorem dJ0_indexOf_7cf53_17 : decode cJ0_indexOf_7cf53 17 = .ok (.invokestatic 637, 3) := by decide +kernel
theorem dJ0_indexOf_7cf53_20 : decode cJ0_indexOf_7cf53 20 = .ok (.goto 16, 3) := by decide +kernel
theorem dJ0_indexOf_7cf53_23 : decode cJ0_indexOf_7cf53 23 = .ok (.aload_n 0, 1) := by decide +kernel
theorem dJ0_indexOf_7cf53_24 : decode cJ0_indexOf_7cf53 24 = .ok (.getfield 9, 3) := by decide +kernel
theorem dJ0_indexOf_7cf53_27 : decode cJ0_indexOf_7cf53 27 = .ok (.iload_n 1, 1) := by decide +kernel
theorem dJ0_indexOf_7cf53_28 : decode cJ0_indexOf_7cf53 28 = .ok (.iload_n 2, 1) := by decide +kernel
theorem dJ0_indexOf_7cf53_29 : decode cJ0_indexOf_7cf53 29 = .ok (.aload_n 0, 1) := by decide +kernel
theorem dJ0_indexOf_7cf53_30 : decode cJ0_indexOf_7cf53 30 = .ok (.invokevirtual 505, 3) := by decide +kernel
theorem dJ0_indexOf_7cf53_33 : decode cJ0_indexOf_7cf53 33 = .ok (.invokestatic 640, 3) := by decide +kernel
theorem dJ0_indexOf_7cf53_36 : decode cJ0_indexOf_7cf53 36 = .ok (.ireturn, 1) := by decide +kernel
theorem dJ0_coder_7d493_0 : decode cJ0_coder_7d493 0 = .ok (.getstatic 38, 3) := by decide +kernel
theorem dJ0_coder_7d493_3 : decode cJ0_coder_7d493 3 = .ok (.ifCond .eq 10, 3) := by decide +kernel
theorem dJ0_coder_7d493_6 : decode cJ0_coder_7d493 6 = .ok (.aload_n 0, 1) := by decide +kernel
theorem dJ0_coder_7d493_7 : decode cJ0_coder_7d493 7 = .ok (.getfield 15, 3) := by decide +kernel
theorem dJ0_coder_7d493_10 : decode cJ0_coder_7d493 10 = .ok (.goto 4, 3) := by decide +kernel
theorem dJ0_coder_7d493_13 : decode cJ0_coder_7d493 13 = .ok (.iconst 1, 1) := by decide +kernel
theorem dJ0_coder_7d493_14 : decode cJ0_coder_7d493 14 = .ok (.ireturn, 1) := by decide +kernel
theorem dJ0_isLatin1_aae02_0 : decode cJ0_isLatin1_aae02 0 = .ok (.getstatic 38, 3) := by decide +kernel
theorem dJ0_isLatin1_aae02_3 : decode cJ0_isLatin1_aae02 3 = .ok (.ifCond .eq 14, 3) := by decide +kernel
theorem dJ0_isLatin1_aae02_6 : decode cJ0_isLatin1_aae02 6 = .ok (.aload_n 0, 1) := by decide +kernel
theorem dJ0_isLatin1_aae02_7 : decode cJ0_isLatin1_aae02 7 = .ok (.getfield 15, 3) := by decide +kernel
theorem dJ0_isLatin1_aae02_10 : decode cJ0_isLatin1_aae02 10 = .ok (.ifCond .ne 7, 3) := by decide +kernel
theorem dJ0_isLatin1_aae02_13 : decode cJ0_isLatin1_aae02 13 = .ok (.iconst 1, 1) := by decide +kernel
theorem dJ0_isLatin1_aae02_14 : decode cJ0_isLatin1_aae02 14 = .ok (.goto 4, 3) := by decide +kernel
theorem dJ0_isLatin1_aae02_17 : decode cJ0_isLatin1_aae02 17 = .ok (.iconst 0, 1) := by decide +kernel
theorem dJ0_isLatin1_aae02_18 : decode cJ0_isLatin1_aae02 18 = .ok (.ireturn, 1) := by decide +kernel
theorem dJ0_checkBoundsBeginEnd_23922_0 : decode cJ0_checkBoundsBeginEnd_23922 0 = .ok (.iload_n 0, 1) := by decide +kernel
theorem dJ0_checkBoundsBeginEnd_23922_1 : decode cJ0_checkBoundsBeginEnd_23922 1 = .ok (.iload_n 1, 1) := by decide +kernel
theorem dJ0_checkBoundsBeginEnd_23922_2 : decode cJ0_checkBoundsBeginEnd_23922 2 = .ok (.iload_n 2, 1) := by decide +kernel
theorem dJ0_checkBoundsBeginEnd_23922_3 : decode cJ0_checkBoundsBeginEnd_23922 3 = .ok (.getstatic 1053, 3) := by decide +kernel
theorem dJ0_checkBoundsBeginEnd_23922_6 : decode cJ0_checkBoundsBeginEnd_23922 6 = .ok (.invokestatic 1062, 3) := by decide +kernel
theorem dJ0_checkBoundsBeginEnd_23922_9 : decode cJ0_checkBoundsBeginEnd_23922 9 = .ok (.pop, 1) := by decide +kernel
theorem dJ0_checkBoundsBeginEnd_23922_10 : decode cJ0_checkBoundsBeginEnd_23922 10 = .ok (.return_, 1) := by decide +kernel
theorem dJ1_canEncode_9a6ad_0 : decode cJ1_canEncode_9a6ad 0 = .ok (.iload_n 0, 1) := by decide +kernel
theorem dJ1_canEncode_9a6ad_1 : decode cJ1_canEncode_9a6ad 1 = .ok (.ifCond .lt 14, 3) := by decide +kernel
theorem dJ1_canEncode_9a6ad_4 : decode cJ1_canEncode_9a6ad 4 = .ok (.iload_n 0, 1) := by decide +kernel
theorem dJ1_canEncode_9a6ad_5 : decode cJ1_canEncode_9a6ad 5 = .ok (.sipush 255, 3) := by decide +kernel
theorem dJ1_canEncode_9a6ad_8 : decode cJ1_canEncode_9a6ad 8 = .ok (.if_icmp .gt 7, 3) := by decide +kernel
theorem dJ1_canEncode_9a6ad_11 : decode cJ1_canEncode_9a6ad 11 = .ok (.iconst 1, 1) := by decide +kernel
theorem dJ1_canEncode_9a6ad_12 : decode cJ1_canEncode_9a6ad 12 = .ok (.goto 4, 3) := by decide +kernel
theorem dJ1_canEncode_9a6ad_15 : decode cJ1_canEncode_9a6ad 15 = .ok (.iconst 0, 1) := by decide +kernel
theorem dJ1_canEncode_9a6ad_16 : decode cJ1_canEncode_9a6ad 16 = .ok (.ireturn, 1) := by decide +kernel
theorem dJ1_indexOf_4cfef_0 : decode cJ1_indexOf_4cfef 0 = .ok (.iload_n 1, 1) := by decide +kernel
theorem dJ1_indexOf_4cfef_1 : decode cJ1_indexOf_4cfef 1 = .ok (.invokestatic 88, 3) := by decide +kernel
theorem dJ1_indexOf_4cfef_4 : decode cJ1_indexOf_4cfef 4 = .ok (.ifCond .ne 5, 3) := by decide +kernel
theorem dJ1_indexOf_4cfef_7 : decode cJ1_indexOf_4cfef 7 = .ok (.iconst (-1), 1) := by decide +kernel
theorem dJ1_indexOf_4cfef_8 : decode cJ1_indexOf_4cfef 8 = .ok (.ireturn, 1) := by decide +kernel
theorem dJ1_indexOf_4cfef_9 : decode cJ1_indexOf_4cfef 9 = .ok (.iload_n 2, 1) := by decide +kernel
theorem dJ1_indexOf_4cfef_10 : decode cJ1_indexOf_4cfef 10 = .ok (.iconst 0, 1) := by decide +kernel
theorem dJ1_indexOf_4cfef_11 : decode cJ1_indexOf_4cfef 11 = .ok (.invokestatic 92, 3) := by decide +kernel
theorem dJ1_indexOf_4cfef_14 : decode cJ1_indexOf_4cfef 14 = .ok (.istore_n 2, 1) := by decide +kernel
theorem dJ1_indexOf_4cfef_15 : decode cJ1_indexOf_4cfef 15 = .ok (.iload_n 3, 1) := by decide +kernel
theorem dJ1_indexOf_4cfef_16 : decode cJ1_indexOf_4cfef 16 = .ok (.aload_n 0, 1) := by decide +kernel
theorem dJ1_indexOf_4cfef_17 : decode cJ1_indexOf_4cfef 17 = .ok (.arraylength, 1) := by decide +kernel
theorem dJ1_indexOf_4cfef_18 : decode cJ1_indexOf_4cfef 18 = .ok (.invokestatic 38, 3) := by decide +kernel
theorem dJ1_indexOf_4cfef_21 : decode cJ1_indexOf_4cfef 21 = .ok (.istore_n 3, 1) := by decide +kernel
theorem dJ1_indexOf_4cfef_22 : decode cJ1_indexOf_4cfef 22 = .ok (.iload_n 2, 1) := by decide +kernel
theorem dJ1_indexOf_4cfef_23 : decode cJ1_indexOf_4cfef 23 = .ok (.iload_n 3, 1) := by decide +kernel
theorem dJ1_indexOf_4cfef_24 : decode cJ1_indexOf_4cfef 24 = .ok (.if_icmp .lt 5, 3) := by decide +kernel
theorem dJ1_indexOf_4cfef_27 : decode cJ1_indexOf_4cfef 27 = .ok (.iconst (-1), 1) := by decide +kernel
theorem dJ1_indexOf_4cfef_28 : decode cJ1_indexOf_4cfef 28 = .ok (.ireturn, 1) := by decide +kernel
theorem dJ1_indexOf_4cfef_29 : decode cJ1_indexOf_4cfef 29 = .ok (.aload_n 0, 1) := by decide +kernel
theorem dJ1_indexOf_4cfef_30 : decode cJ1_indexOf_4cfef 30 = .ok (.iload_n 1, 1) := by decide +kernel
theorem dJ1_indexOf_4cfef_31 : decode cJ1_indexOf_4cfef 31 = .ok (.iload_n 2, 1) := by decide +kernel
theorem dJ1_indexOf_4cfef_32 : decode cJ1_indexOf_4cfef 32 = .ok (.iload_n 3, 1) := by decide +kernel
theorem dJ1_indexOf_4cfef_33 : decode cJ1_indexOf_4cfef 33 = .ok (.invokestatic 95, 3) := by decide +kernel
theorem dJ1_indexOf_4cfef_36 : decode cJ1_indexOf_4cfef 36 = .ok (.ireturn, 1) := by decide +kernel
theorem dJ1_indexOfChar_4cfef_0 : decode cJ1_indexOfChar_4cfef 0 = .ok (.iload_n 1, 1) := by decide +kernel
theorem dJ1_indexOfChar_4cfef_1 : decode cJ1_indexOfChar_4cfef 1 = .ok (.i2b, 1) := by decide +kernel
theorem dJ1_indexOfChar_4cfef_2 : decode cJ1_indexOfChar_4cfef 2 = .ok (.istore 4, 2) := by decide +kernel
theorem dJ1_indexOfChar_4cfef_4 : decode cJ1_indexOfChar_4cfef 4 = .ok (.iload_n 2, 1) := by decide +kernel
theorem dJ1_indexOfChar_4cfef_5 : decode cJ1_indexOfChar_4cfef 5 = .ok (.istore 5, 2) := by decide +kernel
theorem dJ1_indexOfChar_4cfef_7 : decode cJ1_indexOfChar_4cfef 7 = .ok (.iload 5, 2) := by decide +kernel
theorem dJ1_indexOfChar_4cfef_9 : decode cJ1_indexOfChar_4cfef 9 = .ok (.iload_n 3, 1) := by decide +kernel
theorem dJ1_indexOfChar_4cfef_10 : decode cJ1_indexOfChar_4cfef 10 = .ok (.if_icmp .ge 21, 3) := by decide +kernel
theorem dJ1_indexOfChar_4cfef_13 : decode cJ1_indexOfChar_4cfef 13 = .ok (.aload_n 0, 1) := by decide +kernel
theorem dJ1_indexOfChar_4cfef_14 : decode cJ1_indexOfChar_4cfef 14 = .ok (.iload 5, 2) := by decide +kernel
theorem dJ1_indexOfChar_4cfef_16 : decode cJ1_indexOfChar_4cfef 16 = .ok (.baload, 1) := by decide +kernel
theorem dJ1_indexOfChar_4cfef_17 : decode cJ1_indexOfChar_4cfef 17 = .ok (.iload 4, 2) := by decide +kernel
theorem dJ1_indexOfChar_4cfef_19 : decode cJ1_indexOfChar_4cfef 19 = .ok (.if_icmp .ne 6, 3) := by decide +kernel
theorem dJ1_indexOfChar_4cfef_22 : decode cJ1_indexOfChar_4cfef 22 = .ok (.iload 5, 2) := by decide +kernel
theorem dJ1_indexOfChar_4cfef_24 : decode cJ1_indexOfChar_4cfef 24 = .ok (.ireturn, 1) := by decide +kernel
theorem dJ1_indexOfChar_4cfef_25 : decode cJ1_indexOfChar_4cfef 25 = .ok (.iinc 5 1, 3) := by decide +kernel
theorem dJ1_indexOfChar_4cfef_28 : decode cJ1_indexOfChar_4cfef 28 = .ok (.goto (-21), 3) := by decide +kernel
theorem dJ1_indexOfChar_4cfef_31 : decode cJ1_indexOfChar_4cfef 31 = .ok (.iconst (-1), 1) := by decide +kernel
theorem dJ1_indexOfChar_4cfef_32 : decode cJ1_indexOfChar_4cfef 32 = .ok (.ireturn, 1) := by decide +kernel
theorem dJ2_getChar_3b067_0 : decode cJ2_getChar_3b067 0 = .ok (.getstatic 44, 3) := by decide +kernel
theorem dJ2_getChar_3b067_3 : decode cJ2_getChar_3b067 3 = .ok (.ifCond .ne 25, 3) := by decide +kernel
theorem dJ2_getChar_3b067_6 : decode cJ2_getChar_3b067 6 = .ok (.iload_n 1, 1) := by decide +kernel
theorem dJ2_getChar_3b067_7 : decode cJ2_getChar_3b067 7 = .ok (.ifCond .lt 11, 3) := by decide +kernel
theorem dJ2_getChar_3b067_10 : decode cJ2_getChar_3b067 10 = .ok (.iload_n 1, 1) := by decide +kernel
theorem dJ2_getChar_3b067_11 : decode cJ2_getChar_3b067 11 = .ok (.aload_n 0, 1) := by decide +kernel
theorem dJ2_getChar_3b067_12 : decode cJ2_getChar_3b067 12 = .ok (.invokestatic 48, 3) := by decide +kernel
theorem dJ2_getChar_3b067_15 : decode cJ2_getChar_3b067 15 = .ok (.if_icmp .lt 13, 3) := by decide +kernel
theorem dJ2_getChar_3b067_18 : decode cJ2_getChar_3b067 18 = .ok (.new 52, 3) := by decide +kernel
theorem dJ2_getChar_3b067_21 : decode cJ2_getChar_3b067 21 = .ok (.dup, 1) := by decide +kernel
theorem dJ2_getChar_3b067_22 : decode cJ2_getChar_3b067 22 = .ok (.ldc 54, 2) := by decide +kernel
theorem dJ2_getChar_3b067_24 : decode cJ2_getChar_3b067 24 = .ok (.invokespecial 56, 3) := by decide +kernel
theorem dJ2_getChar_3b067_27 : decode cJ2_getChar_3b067 27 = .ok (.athrow, 1) := by decide +kernel
theorem dJ2_getChar_3b067_28 : decode cJ2_getChar_3b067 28 = .ok (.iload_n 1, 1) := by decide +kernel
theorem dJ2_getChar_3b067_29 : decode cJ2_getChar_3b067 29 = .ok (.iconst 1, 1) := by decide +kernel
theorem dJ2_getChar_3b067_30 : decode cJ2_getChar_3b067 30 = .ok (.ishl, 1) := by decide +kernel
theorem dJ2_getChar_3b067_31 : decode cJ2_getChar_3b067 31 = .ok (.istore_n 1, 1) := by decide +kernel
theorem dJ2_getChar_3b067_32 : decode cJ2_getChar_3b067 32 = .ok (.aload_n 0, 1) := by decide +kernel
theorem dJ2_getChar_3b067_33 : decode cJ2_getChar_3b067 33 = .ok (.iload_n 1, 1) := by decide +kernel
theorem dJ2_getChar_3b067_34 : decode cJ2_getChar_3b067 34 = .ok (.iinc 1 1, 3) := by decide +kernel
theorem dJ2_getChar_3b067_37 : decode cJ2_getChar_3b067 37 = .ok (.baload, 1) := by decide +kernel
theorem dJ2_getChar_3b067_38 : decode cJ2_getChar_3b067 38 = .ok (.sipush 255, 3) := by decide +kernel
theorem dJ2_getChar_3b067_41 : decode cJ2_getChar_3b067 41 = .ok (.iand, 1) := by decide +kernel
theorem dJ2_getChar_3b067_42 : decode cJ2_getChar_3b067 42 = .ok (.getstatic 59, 3) := by decide +kernel
theorem dJ2_getChar_3b067_45 : decode cJ2_getChar_3b067 45 = .ok (.ishl, 1) := by decide +kernel
theorem dJ2_getChar_3b067_46 : decode cJ2_getChar_3b067 46 = .ok (.aload_n 0, 1) := by decide +kernel
theorem dJ2_getChar_3b067_47 : decode cJ2_getChar_3b067 47 = .ok (.iload_n 1, 1) := by decide +kernel
theorem dJ2_getChar_3b067_48 : decode cJ2_getChar_3b067 48 = .ok (.baload, 1) := by decide +kernel
theorem dJ2_getChar_3b067_49 : decode cJ2_getChar_3b067 49 = .ok (.sipush 255, 3) := by decide +kernel
theorem dJ2_getChar_3b067_52 : decode cJ2_getChar_3b067 52 = .ok (.iand, 1) := by decide +kernel
theorem dJ2_getChar_3b067_53 : decode cJ2_getChar_3b067 53 = .ok (.getstatic 63, 3) := by decide +kernel
theorem dJ2_getChar_3b067_56 : decode cJ2_getChar_3b067 56 = .ok (.ishl, 1) := by decide +kernel
theorem dJ2_getChar_3b067_57 : decode cJ2_getChar_3b067 57 = .ok (.ior, 1) := by decide +kernel
theorem dJ2_getChar_3b067_58 : decode cJ2_getChar_3b067 58 = .ok (.i2c, 1) := by decide +kernel
theorem dJ2_getChar_3b067_59 : decode cJ2_getChar_3b067 59 = .ok (.ireturn, 1) := by decide +kernel
theorem dJ2_length_9d52b_0 : decode cJ2_length_9d52b 0 = .ok (.aload_n 0, 1) := by decide +kernel
theorem dJ2_length_9d52b_1 : decode cJ2_length_9d52b 1 = .ok (.arraylength, 1) := by decide +kernel
theorem dJ2_length_9d52b_2 : decode cJ2_length_9d52b 2 = .ok (.iconst 1, 1) := by decide +kernel
theorem dJ2_length_9d52b_3 : decode cJ2_length_9d52b 3 = .ok (.ishr, 1) := by decide +kernel
theorem dJ2_length_9d52b_4 : decode cJ2_length_9d52b 4 = .ok (.ireturn, 1) := by decide +kernel
theorem dJ2_indexOf_4cfef_0 : decode cJ2_indexOf_4cfef 0 = .ok (.iload_n 2, 1) := by decide +kernel
theorem dJ2_indexOf_4cfef_1 : decode cJ2_indexOf_4cfef 1 = .ok (.iconst 0, 1) := by decide +kernel
theorem dJ2_indexOf_4cfef_2 : decode cJ2_indexOf_4cfef 2 = .ok (.invokestatic 224, 3) := by decide +kernel
theorem dJ2_indexOf_4cfef_5 : decode cJ2_indexOf_4cfef 5 = .ok (.istore_n 2, 1) := by decide +kernel
theorem dJ2_indexOf_4cfef_6 : decode cJ2_indexOf_4cfef 6 = .ok (.iload_n 3, 1) := by decide +kernel
theorem dJ2_indexOf_4cfef_7 : decode cJ2_indexOf_4cfef 7 = .ok (.aload_n 0, 1) := by decide +kernel
theorem dJ2_indexOf_4cfef_8 : decode cJ2_indexOf_4cfef 8 = .ok (.arraylength, 1) := by decide +kernel
theorem dJ2_indexOf_4cfef_9 : decode cJ2_indexOf_4cfef 9 = .ok (.iconst 1, 1) := by decide +kernel
theorem dJ2_indexOf_4cfef_10 : decode cJ2_indexOf_4cfef 10 = .ok (.ishr, 1) := by decide +kernel
theorem dJ2_indexOf_4cfef_11 : decode cJ2_indexOf_4cfef 11 = .ok (.invokestatic 183, 3) := by decide +kernel
theorem dJ2_indexOf_4cfef_14 : decode cJ2_indexOf_4cfef 14 = .ok (.istore_n 3, 1) := by decide +kernel
theorem dJ2_indexOf_4cfef_15 : decode cJ2_indexOf_4cfef 15 = .ok (.iload_n 2, 1) := by decide +kernel
theorem dJ2_indexOf_4cfef_16 : decode cJ2_indexOf_4cfef 16 = .ok (.iload_n 3, 1) := by decide +kernel
theorem dJ2_indexOf_4cfef_17 : decode cJ2_indexOf_4cfef 17 = .ok (.if_icmp .lt 5, 3) := by decide +kernel
theorem dJ2_indexOf_4cfef_20 : decode cJ2_indexOf_4cfef 20 = .ok (.iconst (-1), 1) := by decide +kernel
theorem dJ2_indexOf_4cfef_21 : decode cJ2_indexOf_4cfef 21 = .ok (.ireturn, 1) := by decide +kernel
theorem dJ2_indexOf_4cfef_22 : decode cJ2_indexOf_4cfef 22 = .ok (.iload_n 1, 1) := by decide +kernel
theorem dJ2_indexOf_4cfef_23 : decode cJ2_indexOf_4cfef 23 = .ok (.ldc 227, 2) := by decide +kernel
theorem dJ2_indexOf_4cfef_25 : decode cJ2_indexOf_4cfef 25 = .ok (.if_icmp .ge 11, 3) := by decide +kernel
theorem dJ2_indexOf_4cfef_28 : decode cJ2_indexOf_4cfef 28 = .ok (.aload_n 0, 1) := by decide +kernel
theorem dJ2_indexOf_4cfef_29 : decode cJ2_indexOf_4cfef 29 = .ok (.iload_n 1, 1) := by decide +kernel
theorem dJ2_indexOf_4cfef_30 : decode cJ2_indexOf_4cfef 30 = .ok (.iload_n 2, 1) := by decide +kernel
theorem dJ2_indexOf_4cfef_31 : decode cJ2_indexOf_4cfef 31 = .ok (.iload_n 3, 1) := by decide +kernel
theorem dJ2_indexOf_4cfef_32 : decode cJ2_indexOf_4cfef 32 = .ok (.invokestatic 228, 3) := by decide +kernel
theorem dJ2_indexOf_4cfef_35 : decode cJ2_indexOf_4cfef 35 = .ok (.ireturn, 1) := by decide +kernel
theorem dJ2_indexOf_4cfef_36 : decode cJ2_indexOf_4cfef 36 = .ok (.aload_n 0, 1) := by decide +kernel
theorem dJ2_indexOf_4cfef_37 : decode cJ2_indexOf_4cfef 37 = .ok (.iload_n 1, 1) := by decide +kernel
theorem dJ2_indexOf_4cfef_38 : decode cJ2_indexOf_4cfef 38 = .ok (.iload_n 2, 1) := by decide +kernel
theorem dJ2_indexOf_4cfef_39 : decode cJ2_indexOf_4cfef 39 = .ok (.iload_n 3, 1) := by decide +kernel
theorem dJ2_indexOf_4cfef_40 : decode cJ2_indexOf_4cfef 40 = .ok (.invokestatic 232, 3) := by decide +kernel
theorem dJ2_indexOf_4cfef_43 : decode cJ2_indexOf_4cfef 43 = .ok (.ireturn, 1) := by decide +kernel
theorem dJ2_indexOfChar_4cfef_0 : decode cJ2_indexOfChar_4cfef 0 = .ok (.iload_n 2, 1) := by decide +kernel
theorem dJ2_indexOfChar_4cfef_1 : decode cJ2_indexOfChar_4cfef 1 = .ok (.iload_n 3, 1) := by decide +kernel
theorem dJ2_indexOfChar_4cfef_2 : decode cJ2_indexOfChar_4cfef 2 = .ok (.aload_n 0, 1) := by decide +kernel
theorem dJ2_indexOfChar_4cfef_3 : decode cJ2_indexOfChar_4cfef 3 = .ok (.invokestatic 96, 3) := by decide +kernel
theorem dJ2_indexOfChar_4cfef_6 : decode cJ2_indexOfChar_4cfef 6 = .ok (.aload_n 0, 1) := by decide +kernel
theorem dJ2_indexOfChar_4cfef_7 : decode cJ2_indexOfChar_4cfef 7 = .ok (.iload_n 1, 1) := by decide +kernel
theorem dJ2_indexOfChar_4cfef_8 : decode cJ2_indexOfChar_4cfef 8 = .ok (.iload_n 2, 1) := by decide +kernel
theorem dJ2_indexOfChar_4cfef_9 : decode cJ2_indexOfChar_4cfef 9 = .ok (.iload_n 3, 1) := by decide +kernel
theorem dJ2_indexOfChar_4cfef_10 : decode cJ2_indexOfChar_4cfef 10 = .ok (.invokestatic 244, 3) := by decide +kernel
theorem dJ2_indexOfChar_4cfef_13 : decode cJ2_indexOfChar_4cfef 13 = .ok (.ireturn, 1) := by decide +kernel
theorem dJ2_indexOfCharUnsafe_4cfef_0 : decode cJ2_indexOfCharUnsafe_4cfef 0 = .ok (.iload_n 2, 1) := by decide +kernel
theorem dJ2_indexOfCharUnsafe_4cfef_1 : decode cJ2_indexOfCharUnsafe_4cfef 1 = .ok (.istore 4, 2) := by decide +kernel
theorem dJ2_indexOfCharUnsafe_4cfef_3 : decode cJ2_indexOfCharUnsafe_4cfef 3 = .ok (.iload 4, 2) := by decide +kernel
theorem dJ2_indexOfCharUnsafe_4cfef_5 : decode cJ2_indexOfCharUnsafe_4cfef 5 = .ok (.iload_n 3, 1) := by decide +kernel
theorem dJ2_indexOfCharUnsafe_4cfef_6 : decode cJ2_indexOfCharUnsafe_4cfef 6 = .ok (.if_icmp .ge 22, 3) := by decide +kernel
theorem dJ2_indexOfCharUnsafe_4cfef_9 : decode cJ2_indexOfCharUnsafe_4cfef 9 = .ok (.aload_n 0, 1) := by decide +kernel
theorem dJ2_indexOfCharUnsafe_4cfef_10 : decode cJ2_indexOfCharUnsafe_4cfef 10 = .ok (.iload 4, 2) := by decide +kernel
theorem dJ2_indexOfCharUnsafe_4cfef_12 : decode cJ2_indexOfCharUnsafe_4cfef 12 = .ok (.invokestatic 71, 3) := by decide +kernel
theorem dJ2_indexOfCharUnsafe_4cfef_15 : decode cJ2_indexOfCharUnsafe_4cfef 15 = .ok (.iload_n 1, 1) := by decide +kernel
theorem dJ2_indexOfCharUnsafe_4cfef_16 : decode cJ2_indexOfCharUnsafe_4cfef 16 = .ok (.if_icmp .ne 6, 3) := by decide +kernel
theorem dJ2_indexOfCharUnsafe_4cfef_19 : decode cJ2_indexOfCharUnsafe_4cfef 19 = .ok (.iload 4, 2) := by decide +kernel
theorem dJ2_indexOfCharUnsafe_4cfef_21 : decode cJ2_indexOfCharUnsafe_4cfef 21 = .ok (.ireturn, 1) := by decide +kernel
theorem dJ2_indexOfCharUnsafe_4cfef_22 : decode cJ2_indexOfCharUnsafe_4cfef 22 = .ok (.iinc 4 1, 3) := by decide +kernel
theorem dJ2_indexOfCharUnsafe_4cfef_25 : decode cJ2_indexOfCharUnsafe_4cfef 25 = .ok (.goto (-22), 3) := by decide +kernel
theorem dJ2_indexOfCharUnsafe_4cfef_28 : decode cJ2_indexOfCharUnsafe_4cfef 28 = .ok (.iconst (-1), 1) := by decide +kernel
theorem dJ2_indexOfCharUnsafe_4cfef_29 : decode cJ2_indexOfCharUnsafe_4cfef 29 = .ok (.ireturn, 1) := by decide +kernel
theorem dJ2_indexOfSupplementary_4cfef_0 : decode cJ2_indexOfSupplementary_4cfef 0 = .ok (.iload_n 1, 1) := by decide +kernel
theorem dJ2_indexOfSupplementary_4cfef_1 : decode cJ2_indexOfSupplementary_4cfef 1 = .ok (.invokestatic 164, 3) := by decide +kernel
theorem dJ2_indexOfSupplementary_4cfef_4 : decode cJ2_indexOfSupplementary_4cfef 4 = .ok (.ifCond .eq 65, 3) := by decide +kernel
theorem dJ2_indexOfSupplementary_4cfef_7 : decode cJ2_indexOfSupplementary_4cfef 7 = .ok (.iload_n 1, 1) := by decide +kernel
theorem dJ2_indexOfSupplementary_4cfef_8 : decode cJ2_indexOfSupplementary_4cfef 8 = .ok (.invokestatic 157, 3) := by decide +kernel
theorem dJ2_indexOfSupplementary_4cfef_11 : decode cJ2_indexOfSupplementary_4cfef 11 = .ok (.istore 4, 2) := by decide +kernel
theorem dJ2_indexOfSupplementary_4cfef_13 : decode cJ2_indexOfSupplementary_4cfef 13 = .ok (.iload_n 1, 1) := by decide +kernel
theorem dJ2_indexOfSupplementary_4cfef_14 : decode cJ2_indexOfSupplementary_4cfef 14 = .ok (.invokestatic 161, 3) := by decide +kernel
theorem dJ2_indexOfSupplementary_4cfef_17 : decode cJ2_indexOfSupplementary_4cfef 17 = .ok (.istore 5, 2) := by decide +kernel
theorem dJ2_indexOfSupplementary_4cfef_19 : decode cJ2_indexOfSupplementary_4cfef 19 = .ok (.iload_n 2, 1) := by decide +kernel
theorem dJ2_indexOfSupplementary_4cfef_20 : decode cJ2_indexOfSupplementary_4cfef 20 = .ok (.iload_n 3, 1) := by decide +kernel
theorem dJ2_indexOfSupplementary_4cfef_21 : decode cJ2_indexOfSupplementary_4cfef 21 = .ok (.aload_n 0, 1) := by decide +kernel
theorem dJ2_indexOfSupplementary_4cfef_22 : decode cJ2_indexOfSupplementary_4cfef 22 = .ok (.invokestatic 96, 3) := by decide +kernel
theorem dJ2_indexOfSupplementary_4cfef_25 : decode cJ2_indexOfSupplementary_4cfef 25 = .ok (.iload_n 2, 1) := by decide +kernel
theorem dJ2_indexOfSupplementary_4cfef_26 : decode cJ2_indexOfSupplementary_4cfef 26 = .ok (.istore 6, 2) := by decide +kernel
theorem dJ2_indexOfSupplementary_4cfef_28 : decode cJ2_indexOfSupplementary_4cfef 28 = .ok (.iload 6, 2) := by decide +kernel
theorem dJ2_indexOfSupplementary_4cfef_30 : decode cJ2_indexOfSupplementary_4cfef 30 = .ok (.iload_n 3, 1) := by decide +kernel
theorem dJ2_indexOfSupplementary_4cfef_31 : decode cJ2_indexOfSupplementary_4cfef 31 = .ok (.iconst 1, 1) := by decide +kernel
theorem dJ2_indexOfSupplementary_4cfef_32 : decode cJ2_indexOfSupplementary_4cfef 32 = .ok (.isub, 1) := by decide +kernel
theorem dJ2_indexOfSupplementary_4cfef_33 : decode cJ2_indexOfSupplementary_4cfef 33 = .ok (.if_icmp .ge 36, 3) := by decide +kernel
theorem dJ2_indexOfSupplementary_4cfef_36 : decode cJ2_indexOfSupplementary_4cfef 36 = .ok (.aload_n 0, 1) := by decide +kernel
theorem dJ2_indexOfSupplementary_4cfef_37 : decode cJ2_indexOfSupplementary_4cfef 37 = .ok (.iload 6, 2) := by decide +kernel
theorem dJ2_indexOfSupplementary_4cfef_39 : decode cJ2_indexOfSupplementary_4cfef 39 = .ok (.invokestatic 71, 3) := by decide +kernel
theorem dJ2_indexOfSupplementary_4cfef_42 : decode cJ2_indexOfSupplementary_4cfef 42 = .ok (.iload 4, 2) := by decide +kernel
theorem dJ2_indexOfSupplementary_4cfef_44 : decode cJ2_indexOfSupplementary_4cfef 44 = .ok (.if_icmp .ne 19, 3) := by decide +kernel
theorem dJ2_indexOfSupplementary_4cfef_47 : decode cJ2_indexOfSupplementary_4cfef 47 = .ok (.aload_n 0, 1) := by decide +kernel
theorem dJ2_indexOfSupplementary_4cfef_48 : decode cJ2_indexOfSupplementary_4cfef 48 = .ok (.iload 6, 2) := by decide +kernel
theorem dJ2_indexOfSupplementary_4cfef_50 : decode cJ2_indexOfSupplementary_4cfef 50 = .ok (.iconst 1, 1) := by decide +kernel
theorem dJ2_indexOfSupplementary_4cfef_51 : decode cJ2_indexOfSupplementary_4cfef 51 = .ok (.iadd, 1) := by decide +kernel
theorem dJ2_indexOfSupplementary_4cfef_52 : decode cJ2_indexOfSupplementary_4cfef 52 = .ok (.invokestatic 71, 3) := by decide +kernel
theorem dJ2_indexOfSupplementary_4cfef_55 : decode cJ2_indexOfSupplementary_4cfef 55 = .ok (.iload 5, 2) := by decide +kernel
theorem dJ2_indexOfSupplementary_4cfef_57 : decode cJ2_indexOfSupplementary_4cfef 57 = .ok (.if_icmp .ne 6, 3) := by decide +kernel
theorem dJ2_indexOfSupplementary_4cfef_60 : decode cJ2_indexOfSupplementary_4cfef 60 = .ok (.iload 6, 2) := by decide +kernel
theorem dJ2_indexOfSupplementary_4cfef_62 : decode cJ2_indexOfSupplementary_4cfef 62 = .ok (.ireturn, 1) := by decide +kernel
theorem dJ2_indexOfSupplementary_4cfef_63 : decode cJ2_indexOfSupplementary_4cfef 63 = .ok (.iinc 6 1, 3) := by decide +kernel
theorem dJ2_indexOfSupplementary_4cfef_66 : decode cJ2_indexOfSupplementary_4cfef 66 = .ok (.goto (-38), 3) := by decide +kernel
theorem dJ2_indexOfSupplementary_4cfef_69 : decode cJ2_indexOfSupplementary_4cfef 69 = .ok (.iconst (-1), 1) := by decide +kernel
theorem dJ2_indexOfSupplementary_4cfef_70 : decode cJ2_indexOfSupplementary_4cfef 70 = .ok (.ireturn, 1) := by decide +kernel
theorem dJ2_checkBoundsBeginEnd_d044e_0 : decode cJ2_checkBoundsBeginEnd_d044e 0 = .ok (.iload_n 0, 1) := by decide +kernel
theorem dJ2_checkBoundsBeginEnd_d044e_1 : decode cJ2_checkBoundsBeginEnd_d044e 1 = .ok (.iload_n 1, 1) := by decide +kernel
theorem dJ2_checkBoundsBeginEnd_d044e_2 : decode cJ2_checkBoundsBeginEnd_d044e 2 = .ok (.aload_n 2, 1) := by decide +kernel
theorem dJ2_checkBoundsBeginEnd_d044e_3 : decode cJ2_checkBoundsBeginEnd_d044e 3 = .ok (.invokestatic 48, 3) := by decide +kernel
theorem dJ2_checkBoundsBeginEnd_d044e_6 : decode cJ2_checkBoundsBeginEnd_d044e 6 = .ok (.invokestatic 241, 3) := by decide +kernel
theorem dJ2_checkBoundsBeginEnd_d044e_9 : decode cJ2_checkBoundsBeginEnd_d044e 9 = .ok (.return_, 1) := by decide +kernel
theorem dJ7_fill_d0a16_0 : decode cJ7_fill_d0a16 0 = .ok (.iconst 0, 1) := by decide +kernel
theorem dJ7_fill_d0a16_1 : decode cJ7_fill_d0a16 1 = .ok (.istore_n 3, 1) := by decide +kernel
theorem dJ7_fill_d0a16_2 : decode cJ7_fill_d0a16 2 = .ok (.aload_n 0, 1) := by decide +kernel
theorem dJ7_fill_d0a16_3 : decode cJ7_fill_d0a16 3 = .ok (.arraylength, 1) := by decide +kernel
theorem dJ7_fill_d0a16_4 : decode cJ7_fill_d0a16 4 = .ok (.istore 4, 2) := by decide +kernel
theorem dJ7_fill_d0a16_6 : decode cJ7_fill_d0a16 6 = .ok (.iload_n 3, 1) := by decide +kernel
theorem dJ7_fill_d0a16_7 : decode cJ7_fill_d0a16 7 = .ok (.iload 4, 2) := by decide +kernel
theorem dJ7_fill_d0a16_9 : decode cJ7_fill_d0a16 9 = .ok (.if_icmp .ge 13, 3) := by decide +kernel
theorem dJ7_fill_d0a16_12 : decode cJ7_fill_d0a16 12 = .ok (.aload_n 0, 1) := by decide +kernel
theorem dJ7_fill_d0a16_13 : decode cJ7_fill_d0a16 13 = .ok (.iload_n 3, 1) := by decide +kernel
theorem dJ7_fill_d0a16_14 : decode cJ7_fill_d0a16 14 = .ok (.lload_n 1, 1) := by decide +kernel
theorem dJ7_fill_d0a16_15 : decode cJ7_fill_d0a16 15 = .ok (.lastore, 1) := by decide +kernel
theorem dJ7_fill_d0a16_16 : decode cJ7_fill_d0a16 16 = .ok (.iinc 3 1, 3) := by decide +kernel
theorem dJ7_fill_d0a16_19 : decode cJ7_fill_d0a16 19 = .ok (.goto (-13), 3) := by decide +kernel
theorem dJ7_fill_d0a16_22 : decode cJ7_fill_d0a16 22 = .ok (.return_, 1) := by decide +kernel
theorem dJ7_fill_53178_0 : decode cJ7_fill_53178 0 = .ok (.iconst 0, 1) := by decide +kernel
theorem dJ7_fill_53178_1 : decode cJ7_fill_53178 1 = .ok (.istore_n 2, 1) := by decide +kernel
theorem dJ7_fill_53178_2 : decode cJ7_fill_53178 2 = .ok (.aload_n 0, 1) := by decide +kernel
theorem dJ7_fill_53178_3 : decode cJ7_fill_53178 3 = .ok (.arraylength, 1) := by decide +kernel
theorem dJ7_fill_53178_4 : decode cJ7_fill_53178 4 = .ok (.istore_n 3, 1) := by decide +kernel
theorem dJ7_fill_53178_5 : decode cJ7_fill_53178 5 = .ok (.iload_n 2, 1) := by decide +kernel
theorem dJ7_fill_53178_6 : decode cJ7_fill_53178 6 = .ok (.iload_n 3, 1) := by decide +kernel
theorem dJ7_fill_53178_7 : decode cJ7_fill_53178 7 = .ok (.if_icmp .ge 13, 3) := by decide +kernel
theorem dJ7_fill_53178_10 : decode cJ7_fill_53178 10 = .ok (.aload_n 0, 1) := by decide +kernel
theorem dJ7_fill_53178_11 : decode cJ7_fill_53178 11 = .ok (.iload_n 2, 1) := by decide +kernel
theorem dJ7_fill_53178_12 : decode cJ7_fill_53178 12 = .ok (.iload_n 1, 1) := by decide +kernel
theorem dJ7_fill_53178_13 : decode cJ7_fill_53178 13 = .ok (.iastore, 1) := by decide +kernel
theorem dJ7_fill_53178_14 : decode cJ7_fill_53178 14 = .ok (.iinc 2 1, 3) := by decide +kernel
theorem dJ7_fill_53178_17 : decode cJ7_fill_53178 17 = .ok (.goto (-12), 3) := by decide +kernel
theorem dJ7_fill_53178_20 : decode cJ7_fill_53178 20 = .ok (.return_, 1) := by decide +kernel
theorem dJ3_checkFromToIndex_8c36e_0 : decode cJ3_checkFromToIndex_8c36e 0 = .ok (.iload_n 0, 1) := by decide +kernel
theorem dJ3_checkFromToIndex_8c36e_1 : decode cJ3_checkFromToIndex_8c36e 1 = .ok (.ifCond .lt 13, 3) := by decide +kernel
theorem dJ3_checkFromToIndex_8c36e_4 : decode cJ3_checkFromToIndex_8c36e 4 = .ok (.iload_n 0, 1) := by decide +kernel
theorem dJ3_checkFromToIndex_8c36e_5 : decode cJ3_checkFromToIndex_8c36e 5 = .ok (.iload_n 1, 1) := by decide +kernel
theorem dJ3_checkFromToIndex_8c36e_6 : decode cJ3_checkFromToIndex_8c36e 6 = .ok (.if_icmp .gt 8, 3) := by decide +kernel
theorem dJ3_checkFromToIndex_8c36e_9 : decode cJ3_checkFromToIndex_8c36e 9 = .ok (.iload_n 1, 1) := by decide +kernel
theorem dJ3_checkFromToIndex_8c36e_10 : decode cJ3_checkFromToIndex_8c36e 10 = .ok (.iload_n 2, 1) := by decide +kernel
theorem dJ3_checkFromToIndex_8c36e_11 : decode cJ3_checkFromToIndex_8c36e 11 = .ok (.if_icmp .le 11, 3) := by decide +kernel
theorem dJ3_checkFromToIndex_8c36e_14 : decode cJ3_checkFromToIndex_8c36e 14 = .ok (.aload_n 3, 1) := by decide +kernel
theorem dJ3_checkFromToIndex_8c36e_15 : decode cJ3_checkFromToIndex_8c36e 15 = .ok (.iload_n 0, 1) := by decide +kernel
theorem dJ3_checkFromToIndex_8c36e_16 : decode cJ3_checkFromToIndex_8c36e 16 = .ok (.iload_n 1, 1) := by decide +kernel
theorem dJ3_checkFromToIndex_8c36e_17 : decode cJ3_checkFromToIndex_8c36e 17 = .ok (.iload_n 2, 1) := by decide +kernel
theorem dJ3_checkFromToIndex_8c36e_18 : decode cJ3_checkFromToIndex_8c36e 18 = .ok (.invokestatic 99, 3) := by decide +kernel
theorem dJ3_checkFromToIndex_8c36e_21 : decode cJ3_checkFromToIndex_8c36e 21 = .ok (.athrow, 1) := by decide +kernel
theorem dJ3_checkFromToIndex_8c36e_22 : decode cJ3_checkFromToIndex_8c36e 22 = .ok (.iload_n 0, 1) := by decide +kernel
theorem dJ3_checkFromToIndex_8c36e_23 : decode cJ3_checkFromToIndex_8c36e 23 = .ok (.ireturn, 1) := by decide +kernel
theorem dL_law_0 : decode cL_law 0 = .ok (.new 7, 3) := by decide +kernel
theorem dL_law_3 : decode cL_law 3 = .ok (.dup, 1) := by decide +kernel
theorem dL_law_4 : decode cL_law 4 = .ok (.invokespecial 9, 3) := by decide +kernel
theorem dL_law_7 : decode cL_law 7 = .ok (.astore_n 1, 1) := by decide +kernel
theorem dL_law_8 : decode cL_law 8 = .ok (.new 10, 3) := by decide +kernel
theorem dL_law_11 : decode cL_law 11 = .ok (.dup, 1) := by decide +kernel
theorem dL_law_12 : decode cL_law 12 = .ok (.invokespecial 12, 3) := by decide +kernel
theorem dL_law_15 : decode cL_law 15 = .ok (.astore_n 2, 1) := by decide +kernel
theorem dL_law_16 : decode cL_law 16 = .ok (.iconst 0, 1) := by decide +kernel
theorem dL_law_17 : decode cL_law 17 = .ok (.istore_n 3, 1) := by decide +kernel
theorem dL_law_18 : decode cL_law 18 = .ok (.iload_n 3, 1) := by decide +kernel
theorem dL_law_19 : decode cL_law 19 = .ok (.aload_n 0, 1) := by decide +kernel
theorem dL_law_20 : decode cL_law 20 = .ok (.arraylength, 1) := by decide +kernel
theorem dL_law_21 : decode cL_law 21 = .ok (.bipush 6, 2) := by decide +kernel
theorem dL_law_23 : decode cL_law 23 = .ok (.isub, 1) := by decide +kernel
theorem dL_law_24 : decode cL_law 24 = .ok (.if_icmp .gt 1431, 3) := by decide +kernel
theorem dL_law_27 : decode cL_law 27 = .ok (.aload_n 0, 1) := by decide +kernel
theorem dL_law_28 : decode cL_law 28 = .ok (.iload_n 3, 1) := by decide +kernel
theorem dL_law_29 : decode cL_law 29 = .ok (.iaload, 1) := by decide +kernel
theorem dL_law_30 : decode cL_law 30 = .ok (.bipush 63, 2) := by decide +kernel
theorem dL_law_32 : decode cL_law 32 = .ok (.iand, 1) := by decide +kernel
theorem dL_law_33 : decode cL_law 33 = .ok (.tableswitch 1416 0 37 #[167, 190, 233, 266, 309, 342, 365, 378, 411, 465, 508, 552, 585, 629, 672, 695, 728, 762, 785, 828, 881, 914, 937, 950, 973, 986, 999, 1012, 1025, 1048, 1091, 1114, 1147, 1190, 1263, 1297, 1360, 1393], 167) := by decide +kernel
theorem dL_law_200 : decode cL_law 200 = .ok (.aload_n 1, 1) := by decide +kernel
theorem dL_law_201 : decode cL_law 201 = .ok (.aload_n 0, 1) := by decide +kernel
theorem dL_law_202 : decode cL_law 202 = .ok (.iload_n 3, 1) := by decide +kernel
theorem dL_law_203 : decode cL_law 203 = .ok (.iconst 1, 1) := by decide +kernel
theorem dL_law_204 : decode cL_law 204 = .ok (.iadd, 1) := by decide +kernel
theorem dL_law_205 : decode cL_law 205 = .ok (.iaload, 1) := by decide +kernel
theorem dL_law_206 : decode cL_law 206 = .ok (.invokevirtual 13, 3) := by decide +kernel
theorem dL_law_209 : decode cL_law 209 = .ok (.aload_n 2, 1) := by decide +kernel
theorem dL_law_210 : decode cL_law 210 = .ok (.aload_n 0, 1) := by decide +kernel
theorem dL_law_211 : decode cL_law 211 = .ok (.iload_n 3, 1) := by decide +kernel
theorem dL_law_212 : decode cL_law 212 = .ok (.iconst 1, 1) := by decide +kernel
theorem dL_law_213 : decode cL_law 213 = .ok (.iadd, 1) := by decide +kernel
theorem dL_law_214 : decode cL_law 214 = .ok (.iaload, 1) := by decide +kernel
theorem dL_law_215 : decode cL_law 215 = .ok (.invokevirtual 17, 3) := by decide +kernel
theorem dL_law_218 : decode cL_law 218 = .ok (.if_icmp .eq 1231, 3) := by decide +kernel
theorem dL_law_221 : decode cL_law 221 = .ok (.iconst 0, 1) := by decide +kernel
theorem dL_law_222 : decode cL_law 222 = .ok (.ireturn, 1) := by decide +kernel
theorem dL_law_223 : decode cL_law 223 = .ok (.aload_n 1, 1) := by decide +kernel
theorem dL_law_224 : decode cL_law 224 = .ok (.aload_n 0, 1) := by decide +kernel
theorem dL_law_225 : decode cL_law 225 = .ok (.iload_n 3, 1) := by decide +kernel
theorem dL_law_226 : decode cL_law 226 = .ok (.iconst 1, 1) := by decide +kernel
theorem dL_law_227 : decode cL_law 227 = .ok (.iadd, 1) := by decide +kernel
theorem dL_law_228 : decode cL_law 228 = .ok (.iaload, 1) := by decide +kernel
theorem dL_law_229 : decode cL_law 229 = .ok (.aload_n 0, 1) := by decide +kernel
theorem dL_law_230 : decode cL_law 230 = .ok (.iload_n 3, 1) := by decide +kernel
theorem dL_law_231 : decode cL_law 231 = .ok (.iconst 2, 1) := by decide +kernel
theorem dL_law_232 : decode cL_law 232 = .ok (.iadd, 1) := by decide +kernel
theorem dL_law_233 : decode cL_law 233 = .ok (.iaload, 1) := by decide +kernel
theorem dL_law_234 : decode cL_law 234 = .ok (.aload_n 0, 1) := by decide +kernel
theorem dL_law_235 : decode cL_law 235 = .ok (.iload_n 3, 1) := by decide +kernel
theorem dL_law_236 : decode cL_law 236 = .ok (.iconst 3, 1) := by decide +kernel
theorem dL_law_237 : decode cL_law 237 = .ok (.iadd, 1) := by decide +kernel
theorem dL_law_238 : decode cL_law 238 = .ok (.iaload, 1) := by decide +kernel
theorem dL_law_239 : decode cL_law 239 = .ok (.invokevirtual 18, 3) := by decide +kernel
theorem dL_law_242 : decode cL_law 242 = .ok (.aload_n 2, 1) := by decide +kernel
theorem dL_law_243 : decode cL_law 243 = .ok (.aload_n 0, 1) := by decide +kernel
theorem dL_law_244 : decode cL_law 244 = .ok (.iload_n 3, 1) := by decide +kernel
theorem dL_law_245 : decode cL_law 245 = .ok (.iconst 1, 1) := by decide +kernel
theorem dL_law_246 : decode cL_law 246 = .ok (.iadd, 1) := by decide +kernel
theorem dL_law_247 : decode cL_law 247 = .ok (.iaload, 1) := by decide +kernel
theorem dL_law_248 : decode cL_law 248 = .ok (.aload_n 0, 1) := by decide +kernel
theorem dL_law_249 : decode cL_law 249 = .ok (.iload_n 3, 1) := by decide +kernel
theorem dL_law_250 : decode cL_law 250 = .ok (.iconst 2, 1) := by decide +kernel
theorem dL_law_251 : decode cL_law 251 = .ok (.iadd, 1) := by decide +kernel
theorem dL_law_252 : decode cL_law 252 = .ok (.iaload, 1) := by decide +kernel
theorem dL_law_253 : decode cL_law 253 = .ok (.aload_n 0, 1) := by decide +kernel
theorem dL_law_254 : decode cL_law 254 = .ok (.iload_n 3, 1) := by decide +kernel
theorem dL_law_255 : decode cL_law 255 = .ok (.iconst 3, 1) := by decide +kernel
theorem dL_law_256 : decode cL_law 256 = .ok (.iadd, 1) := by decide +kernel
theorem dL_law_257 : decode cL_law 257 = .ok (.iaload, 1) := by decide +kernel
theorem dL_law_258 : decode cL_law 258 = .ok (.invokevirtual 22, 3) := by decide +kernel
theorem dL_law_261 : decode cL_law 261 = .ok (.if_icmp .eq 1188, 3) := by decide +kernel
theorem dL_law_264 : decode cL_law 264 = .ok (.iconst 0, 1) := by decide +kernel
theorem dL_law_265 : decode cL_law 265 = .ok (.ireturn, 1) := by decide +kernel
theorem dL_law_266 : decode cL_law 266 = .ok (.aload_n 1, 1) := by decide +kernel
theorem dL_law_267 : decode cL_law 267 = .ok (.aload_n 0, 1) := by decide +kernel
theorem dL_law_268 : decode cL_law 268 = .ok (.iload_n 3, 1) := by decide +kernel
theorem dL_law_269 : decode cL_law 269 = .ok (.iconst 1, 1) := by decide +kernel
theorem dL_law_270 : decode cL_law 270 = .ok (.iadd, 1) := by decide +kernel
theorem dL_law_271 : decode cL_law 271 = .ok (.iaload, 1) := by decide +kernel
theorem dL_law_272 : decode cL_law 272 = .ok (.aload_n 0, 1) := by decide +kernel
theorem dL_law_273 : decode cL_law 273 = .ok (.iload_n 3, 1) := by decide +kernel
theorem dL_law_274 : decode cL_law 274 = .ok (.iconst 2, 1) := by decide +kernel
theorem dL_law_275 : decode cL_law 275 = .ok (.iadd, 1) := by decide +kernel
theorem dL_law_276 : decode cL_law 276 = .ok (.iaload, 1) := by decide +kernel
theorem dL_law_277 : decode cL_law 277 = .ok (.invokevirtual 23, 3) := by decide +kernel
theorem dL_law_280 : decode cL_law 280 = .ok (.aload_n 2, 1) := by decide +kernel
theorem dL_law_281 : decode cL_law 281 = .ok (.aload_n 0, 1) := by decide +kernel
theorem dL_law_282 : decode cL_law 282 = .ok (.iload_n 3, 1) := by decide +kernel
theorem dL_law_283 : decode cL_law 283 = .ok (.iconst 1, 1) := by decide +kernel
theorem dL_law_284 : decode cL_law 284 = .ok (.iadd, 1) := by decide +kernel
theorem dL_law_285 : decode cL_law 285 = .ok (.iaload, 1) := by decide +kernel
theorem dL_law_286 : decode cL_law 286 = .ok (.aload_n 0, 1) := by decide +kernel
theorem dL_law_287 : decode cL_law 287 = .ok (.iload_n 3, 1) := by decide +kernel
theorem dL_law_288 : decode cL_law 288 = .ok (.iconst 2, 1) := by decide +kernel
theorem dL_law_289 : decode cL_law 289 = .ok (.iadd, 1) := by decide +kernel
theorem dL_law_290 : decode cL_law 290 = .ok (.iaload, 1) := by decide +kernel
theorem dL_law_291 : decode cL_law 291 = .ok (.invokevirtual 27, 3) := by decide +kernel
theorem dL_law_294 : decode cL_law 294 = .ok (.if_icmp .eq 1155, 3) := by decide +kernel
theorem dL_law_297 : decode cL_law 297 = .ok (.iconst 0, 1) := by decide +kernel
theorem dL_law_298 : decode cL_law 298 = .ok (.ireturn, 1) := by decide +kernel
theorem dL_law_299 : decode cL_law 299 = .ok (.aload_n 1, 1) := by decide +kernel
theorem dL_law_300 : decode cL_law 300 = .ok (.aload_n 0, 1) := by decide +kernel
theorem dL_law_301 : decode cL_law 301 = .ok (.iload_n 3, 1) := by decide +kernel
theorem dL_law_302 : decode cL_law 302 = .ok (.iconst 1, 1) := by decide +kernel
theorem dL_law_303 : decode cL_law 303 = .ok (.iadd, 1) := by decide +kernel
theorem dL_law_304 : decode cL_law 304 = .ok (.iaload, 1) := by decide +kernel
theorem dL_law_305 : decode cL_law 305 = .ok (.aload_n 0, 1) := by decide +kernel
theorem dL_law_306 : decode cL_law 306 = .ok (.iload_n 3, 1) := by decide +kernel
theorem dL_law_307 : decode cL_law 307 = .ok (.iconst 2, 1) := by decide +kernel
theorem dL_law_308 : decode cL_law 308 = .ok (.iadd, 1) := by decide +kernel
theorem dL_law_309 : decode cL_law 309 = .ok (.iaload, 1) := by decide +kernel
theorem dL_law_310 : decode cL_law 310 = .ok (.aload_n 0, 1) := by decide +kernel
theorem dL_law_311 : decode cL_law 311 = .ok (.iload_n 3, 1) := by decide +kernel
theorem dL_law_312 : decode cL_law 312 = .ok (.iconst 3, 1) := by decide +kernel
theorem dL_law_313 : decode cL_law 313 = .ok (.iadd, 1) := by decide +kernel
theorem dL_law_314 : decode cL_law 314 = .ok (.iaload, 1) := by decide +kernel
theorem dL_law_315 : decode cL_law 315 = .ok (.invokevirtual 28, 3) := by decide +kernel
theorem dL_law_318 : decode cL_law 318 = .ok (.aload_n 2, 1) := by decide +kernel
theorem dL_law_319 : decode cL_law 319 = .ok (.aload_n 0, 1) := by decide +kernel
theorem dL_law_320 : decode cL_law 320 = .ok (.iload_n 3, 1) := by decide +kernel
theorem dL_law_321 : decode cL_law 321 = .ok (.iconst 1, 1) := by decide +kernel
theorem dL_law_322 : decode cL_law 322 = .ok (.iadd, 1) := by decide +kernel
theorem dL_law_323 : decode cL_law 323 = .ok (.iaload, 1) := by decide +kernel
theorem dL_law_324 : decode cL_law 324 = .ok (.aload_n 0, 1) := by decide +kernel
theorem dL_law_325 : decode cL_law 325 = .ok (.iload_n 3, 1) := by decide +kernel
theorem dL_law_326 : decode cL_law 326 = .ok (.iconst 2, 1) := by decide +kernel
theorem dL_law_327 : decode cL_law 327 = .ok (.iadd, 1) := by decide +kernel
theorem dL_law_328 : decode cL_law 328 = .ok (.iaload, 1) := by decide +kernel
theorem dL_law_329 : decode cL_law 329 = .ok (.aload_n 0, 1) := by decide +kernel
theorem dL_law_330 : decode cL_law 330 = .ok (.iload_n 3, 1) := by decide +kernel
theorem dL_law_331 : decode cL_law 331 = .ok (.iconst 3, 1) := by decide +kernel
theorem dL_law_332 : decode cL_law 332 = .ok (.iadd, 1) := by decide +kernel
theorem dL_law_333 : decode cL_law 333 = .ok (.iaload, 1) := by decide +kernel
theorem dL_law_334 : decode cL_law 334 = .ok (.invokevirtual 31, 3) := by decide +kernel
theorem dL_law_337 : decode cL_law 337 = .ok (.if_icmp .eq 1112, 3) := by decide +kernel
theorem dL_law_340 : decode cL_law 340 = .ok (.iconst 0, 1) := by decide +kernel
theorem dL_law_341 : decode cL_law 341 = .ok (.ireturn, 1) := by decide +kernel
theorem dL_law_342 : decode cL_law 342 = .ok (.aload_n 1, 1) := by decide +kernel
theorem dL_law_343 : decode cL_law 343 = .ok (.aload_n 0, 1) := by decide +kernel
theorem dL_law_344 : decode cL_law 344 = .ok (.iload_n 3, 1) := by decide +kernel
theorem dL_law_345 : decode cL_law 345 = .ok (.iconst 1, 1) := by decide +kernel
theorem dL_law_346 : decode cL_law 346 = .ok (.iadd, 1) := by decide +kernel
theorem dL_law_347 : decode cL_law 347 = .ok (.iaload, 1) := by decide +kernel
theorem dL_law_348 : decode cL_law 348 = .ok (.aload_n 0, 1) := by decide +kernel
theorem dL_law_349 : decode cL_law 349 = .ok (.iload_n 3, 1) := by decide +kernel
theorem dL_law_350 : decode cL_law 350 = .ok (.iconst 2, 1) := by decide +kernel
theorem dL_law_351 : decode cL_law 351 = .ok (.iadd, 1) := by decide +kernel
theorem dL_law_352 : decode cL_law 352 = .ok (.iaload, 1) := by decide +kernel
theorem dL_law_353 : decode cL_law 353 = .ok (.invokevirtual 32, 3) := by decide +kernel
theorem dL_law_356 : decode cL_law 356 = .ok (.aload_n 2, 1) := by decide +kernel
theorem dL_law_357 : decode cL_law 357 = .ok (.aload_n 0, 1) := by decide +kernel
theorem dL_law_358 : decode cL_law 358 = .ok (.iload_n 3, 1) := by decide +kernel
theorem dL_law_359 : decode cL_law 359 = .ok (.iconst 1, 1) := by decide +kernel
theorem dL_law_360 : decode cL_law 360 = .ok (.iadd, 1) := by decide +kernel
theorem dL_law_361 : decode cL_law 361 = .ok (.iaload, 1) := by decide +kernel
theorem dL_law_362 : decode cL_law 362 = .ok (.aload_n 0, 1) := by decide +kernel
theorem dL_law_363 : decode cL_law 363 = .ok (.iload_n 3, 1) := by decide +kernel
theorem dL_law_364 : decode cL_law 364 = .ok (.iconst 2, 1) := by decide +kernel
theorem dL_law_365 : decode cL_law 365 = .ok (.iadd, 1) := by decide +kernel
theorem dL_law_366 : decode cL_law 366 = .ok (.iaload, 1) := by decide +kernel
theorem dL_law_367 : decode cL_law 367 = .ok (.invokevirtual 35, 3) := by decide +kernel
theorem dL_law_370 : decode cL_law 370 = .ok (.if_icmp .eq 1079, 3) := by decide +kernel
theorem dL_law_373 : decode cL_law 373 = .ok (.iconst 0, 1) := by decide +kernel
theorem dL_law_374 : decode cL_law 374 = .ok (.ireturn, 1) := by decide +kernel
theorem dL_law_375 : decode cL_law 375 = .ok (.aload_n 1, 1) := by decide +kernel
theorem dL_law_376 : decode cL_law 376 = .ok (.aload_n 0, 1) := by decide +kernel
theorem dL_law_377 : decode cL_law 377 = .ok (.iload_n 3, 1) := by decide +kernel
theorem dL_law_378 : decode cL_law 378 = .ok (.iconst 1, 1) := by decide +kernel
theorem dL_law_379 : decode cL_law 379 = .ok (.iadd, 1) := by decide +kernel
theorem dL_law_380 : decode cL_law 380 = .ok (.iaload, 1) := by decide +kernel
theorem dL_law_381 : decode cL_law 381 = .ok (.invokevirtual 36, 3) := by decide +kernel
theorem dL_law_384 : decode cL_law 384 = .ok (.aload_n 2, 1) := by decide +kernel
theorem dL_law_385 : decode cL_law 385 = .ok (.aload_n 0, 1) := by decide +kernel
theorem dL_law_386 : decode cL_law 386 = .ok (.iload_n 3, 1) := by decide +kernel
theorem dL_law_387 : decode cL_law 387 = .ok (.iconst 1, 1) := by decide +kernel
theorem dL_law_388 : decode cL_law 388 = .ok (.iadd, 1) := by decide +kernel
theorem dL_law_389 : decode cL_law 389 = .ok (.iaload, 1) := by decide +kernel
theorem dL_law_390 : decode cL_law 390 = .ok (.invokevirtual 39, 3) := by decide +kernel
theorem dL_law_393 : decode cL_law 393 = .ok (.if_icmp .eq 1056, 3) := by decide +kernel
theorem dL_law_396 : decode cL_law 396 = .ok (.iconst 0, 1) := by decide +kernel
theorem dL_law_397 : decode cL_law 397 = .ok (.ireturn, 1) := by decide +kernel
theorem dL_law_398 : decode cL_law 398 = .ok (.aload_n 1, 1) := by decide +kernel
theorem dL_law_399 : decode cL_law 399 = .ok (.invokevirtual 40, 3) := by decide +kernel
theorem dL_law_402 : decode cL_law 402 = .ok (.aload_n 2, 1) := by decide +kernel
theorem dL_law_403 : decode cL_law 403 = .ok (.invokevirtual 44, 3) := by decide +kernel
theorem dL_law_406 : decode cL_law 406 = .ok (.if_icmp .eq 1043, 3) := by decide +kernel
theorem dL_law_409 : decode cL_law 409 = .ok (.iconst 0, 1) := by decide +kernel
theorem dL_law_410 : decode cL_law 410 = .ok (.ireturn, 1) := by decide +kernel
theorem dL_law_411 : decode cL_law 411 = .ok (.aload_n 1, 1) := by decide +kernel
theorem dL_law_412 : decode cL_law 412 = .ok (.aload_n 0, 1) := by decide +kernel
theorem dL_law_413 : decode cL_law 413 = .ok (.iload_n 3, 1) := by decide +kernel
theorem dL_law_414 : decode cL_law 414 = .ok (.iconst 1, 1) := by decide +kernel
theorem dL_law_415 : decode cL_law 415 = .ok (.iadd, 1) := by decide +kernel
theorem dL_law_416 : decode cL_law 416 = .ok (.iaload, 1) := by decide +kernel
theorem dL_law_417 : decode cL_law 417 = .ok (.aload_n 0, 1) := by decide +kernel
theorem dL_law_418 : decode cL_law 418 = .ok (.iload_n 3, 1) := by decide +kernel
theorem dL_law_419 : decode cL_law 419 = .ok (.iconst 2, 1) := by decide +kernel
theorem dL_law_420 : decode cL_law 420 = .ok (.iadd, 1) := by decide +kernel
theorem dL_law_421 : decode cL_law 421 = .ok (.iaload, 1) := by decide +kernel
theorem dL_law_422 : decode cL_law 422 = .ok (.invokevirtual 45, 3) := by decide +kernel
theorem dL_law_425 : decode cL_law 425 = .ok (.aload_n 2, 1) := by decide +kernel
theorem dL_law_426 : decode cL_law 426 = .ok (.aload_n 0, 1) := by decide +kernel
theorem dL_law_427 : decode cL_law 427 = .ok (.iload_n 3, 1) := by decide +kernel
theorem dL_law_428 : decode cL_law 428 = .ok (.iconst 1, 1) := by decide +kernel
theorem dL_law_429 : decode cL_law 429 = .ok (.iadd, 1) := by decide +kernel
theorem dL_law_430 : decode cL_law 430 = .ok (.iaload, 1) := by decide +kernel
theorem dL_law_431 : decode cL_law 431 = .ok (.aload_n 0, 1) := by decide +kernel
theorem dL_law_432 : decode cL_law 432 = .ok (.iload_n 3, 1) := by decide +kernel
theorem dL_law_433 : decode cL_law 433 = .ok (.iconst 2, 1) := by decide +kernel
theorem dL_law_434 : decode cL_law 434 = .ok (.iadd, 1) := by decide +kernel
theorem dL_law_435 : decode cL_law 435 = .ok (.iaload, 1) := by decide +kernel
theorem dL_law_436 : decode cL_law 436 = .ok (.invokevirtual 48, 3) := by decide +kernel
theorem dL_law_439 : decode cL_law 439 = .ok (.if_icmp .eq 1010, 3) := by decide +kernel
theorem dL_law_442 : decode cL_law 442 = .ok (.iconst 0, 1) := by decide +kernel
theorem dL_law_443 : decode cL_law 443 = .ok (.ireturn, 1) := by decide +kernel
theorem dL_law_444 : decode cL_law 444 = .ok (.aload_n 1, 1) := by decide +kernel
theorem dL_law_445 : decode cL_law 445 = .ok (.aload_n 0, 1) := by decide +kernel
theorem dL_law_446 : decode cL_law 446 = .ok (.iload_n 3, 1) := by decide +kernel
theorem dL_law_447 : decode cL_law 447 = .ok (.iconst 1, 1) := by decide +kernel
theorem dL_law_448 : decode cL_law 448 = .ok (.iadd, 1) := by decide +kernel
theorem dL_law_449 : decode cL_law 449 = .ok (.iaload, 1) := by decide +kernel
theorem dL_law_450 : decode cL_law 450 = .ok (.aload_n 0, 1) := by decide +kernel
theorem dL_law_451 : decode cL_law 451 = .ok (.iload_n 3, 1) := by decide +kernel
theorem dL_law_452 : decode cL_law 452 = .ok (.iconst 2, 1) := by decide +kernel
theorem dL_law_453 : decode cL_law 453 = .ok (.iadd, 1) := by decide +kernel
theorem dL_law_454 : decode cL_law 454 = .ok (.iaload, 1) := by decide +kernel
theorem dL_law_455 : decode cL_law 455 = .ok (.aload_n 0, 1) := by decide +kernel
theorem dL_law_456 : decode cL_law 456 = .ok (.iload_n 3, 1) := by decide +kernel
theorem dL_law_457 : decode cL_law 457 = .ok (.iconst 3, 1) := by decide +kernel
theorem dL_law_458 : decode cL_law 458 = .ok (.iadd, 1) := by decide +kernel
theorem dL_law_459 : decode cL_law 459 = .ok (.iaload, 1) := by decide +kernel
theorem dL_law_460 : decode cL_law 460 = .ok (.aload_n 0, 1) := by decide +kernel
theorem dL_law_461 : decode cL_law 461 = .ok (.iload_n 3, 1) := by decide +kernel
theorem dL_law_462 : decode cL_law 462 = .ok (.iconst 4, 1) := by decide +kernel
theorem dL_law_463 : decode cL_law 463 = .ok (.iadd, 1) := by decide +kernel
theorem dL_law_464 : decode cL_law 464 = .ok (.iaload, 1) := by decide +kernel
theorem dL_law_465 : decode cL_law 465 = .ok (.invokevirtual 49, 3) := by decide +kernel
theorem dL_law_468 : decode cL_law 468 = .ok (.aload_n 2, 1) := by decide +kernel
theorem dL_law_469 : decode cL_law 469 = .ok (.aload_n 0, 1) := by decide +kernel
theorem dL_law_470 : decode cL_law 470 = .ok (.iload_n 3, 1) := by decide +kernel
theorem dL_law_471 : decode cL_law 471 = .ok (.iconst 1, 1) := by decide +kernel
theorem dL_law_472 : decode cL_law 472 = .ok (.iadd, 1) := by decide +kernel
theorem dL_law_473 : decode cL_law 473 = .ok (.iaload, 1) := by decide +kernel
theorem dL_law_474 : decode cL_law 474 = .ok (.aload_n 0, 1) := by decide +kernel
theorem dL_law_475 : decode cL_law 475 = .ok (.iload_n 3, 1) := by decide +kernel
theorem dL_law_476 : decode cL_law 476 = .ok (.iconst 2, 1) := by decide +kernel
theorem dL_law_477 : decode cL_law 477 = .ok (.iadd, 1) := by decide +kernel
theorem dL_law_478 : decode cL_law 478 = .ok (.iaload, 1) := by decide +kernel
theorem dL_law_479 : decode cL_law 479 = .ok (.aload_n 0, 1) := by decide +kernel
theorem dL_law_480 : decode cL_law 480 = .ok (.iload_n 3, 1) := by decide +kernel
theorem dL_law_481 : decode cL_law 481 = .ok (.iconst 3, 1) := by decide +kernel
theorem dL_law_482 : decode cL_law 482 = .ok (.iadd, 1) := by decide +kernel
theorem dL_law_483 : decode cL_law 483 = .ok (.iaload, 1) := by decide +kernel
theorem dL_law_484 : decode cL_law 484 = .ok (.aload_n 0, 1) := by decide +kernel
theorem dL_law_485 : decode cL_law 485 = .ok (.iload_n 3, 1) := by decide +kernel
theorem dL_law_486 : decode cL_law 486 = .ok (.iconst 4, 1) := by decide +kernel
theorem dL_law_487 : decode cL_law 487 = .ok (.iadd, 1) := by decide +kernel
theorem dL_law_488 : decode cL_law 488 = .ok (.iaload, 1) := by decide +kernel
theorem dL_law_489 : decode cL_law 489 = .ok (.invokevirtual 53, 3) := by decide +kernel
theorem dL_law_492 : decode cL_law 492 = .ok (.lcmp, 1) := by decide +kernel
theorem dL_law_493 : decode cL_law 493 = .ok (.ifCond .eq 956, 3) := by decide +kernel
theorem dL_law_496 : decode cL_law 496 = .ok (.iconst 0, 1) := by decide +kernel
theorem dL_law_497 : decode cL_law 497 = .ok (.ireturn, 1) := by decide +kernel
theorem dL_law_498 : decode cL_law 498 = .ok (.aload_n 1, 1) := by decide +kernel
theorem dL_law_499 : decode cL_law 499 = .ok (.aload_n 0, 1) := by decide +kernel
theorem dL_law_500 : decode cL_law 500 = .ok (.iload_n 3, 1) := by decide +kernel
theorem dL_law_501 : decode cL_law 501 = .ok (.iconst 1, 1) := by decide +kernel
theorem dL_law_502 : decode cL_law 502 = .ok (.iadd, 1) := by decide +kernel
theorem dL_law_503 : decode cL_law 503 = .ok (.iaload, 1) := by decide +kernel
theorem dL_law_504 : decode cL_law 504 = .ok (.aload_n 0, 1) := by decide +kernel
theorem dL_law_505 : decode cL_law 505 = .ok (.iload_n 3, 1) := by decide +kernel
theorem dL_law_506 : decode cL_law 506 = .ok (.iconst 2, 1) := by decide +kernel
theorem dL_law_507 : decode cL_law 507 = .ok (.iadd, 1) := by decide +kernel
theorem dL_law_508 : decode cL_law 508 = .ok (.iaload, 1) := by decide +kernel
theorem dL_law_509 : decode cL_law 509 = .ok (.aload_n 0, 1) := by decide +kernel
theorem dL_law_510 : decode cL_law 510 = .ok (.iload_n 3, 1) := by decide +kernel
theorem dL_law_511 : decode cL_law 511 = .ok (.iconst 3, 1) := by decide +kernel
theorem dL_law_512 : decode cL_law 512 = .ok (.iadd, 1) := by decide +kernel
theorem dL_law_513 : decode cL_law 513 = .ok (.iaload, 1) := by decide +kernel
theorem dL_law_514 : decode cL_law 514 = .ok (.invokevirtual 54, 3) := by decide +kernel
theorem dL_law_517 : decode cL_law 517 = .ok (.aload_n 2, 1) := by decide +kernel
theorem dL_law_518 : decode cL_law 518 = .ok (.aload_n 0, 1) := by decide +kernel
theorem dL_law_519 : decode cL_law 519 = .ok (.iload_n 3, 1) := by decide +kernel
theorem dL_law_520 : decode cL_law 520 = .ok (.iconst 1, 1) := by decide +kernel
theorem dL_law_521 : decode cL_law 521 = .ok (.iadd, 1) := by decide +kernel
theorem dL_law_522 : decode cL_law 522 = .ok (.iaload, 1) := by decide +kernel
theorem dL_law_523 : decode cL_law 523 = .ok (.aload_n 0, 1) := by decide +kernel
theorem dL_law_524 : decode cL_law 524 = .ok (.iload_n 3, 1) := by decide +kernel
theorem dL_law_525 : decode cL_law 525 = .ok (.iconst 2, 1) := by decide +kernel
theorem dL_law_526 : decode cL_law 526 = .ok (.iadd, 1) := by decide +kernel
theorem dL_law_527 : decode cL_law 527 = .ok (.iaload, 1) := by decide +kernel
theorem dL_law_528 : decode cL_law 528 = .ok (.aload_n 0, 1) := by decide +kernel
theorem dL_law_529 : decode cL_law 529 = .ok (.iload_n 3, 1) := by decide +kernel
theorem dL_law_530 : decode cL_law 530 = .ok (.iconst 3, 1) := by decide +kernel
theorem dL_law_531 : decode cL_law 531 = .ok (.iadd, 1) := by decide +kernel
theorem dL_law_532 : decode cL_law 532 = .ok (.iaload, 1) := by decide +kernel
theorem dL_law_533 : decode cL_law 533 = .ok (.invokevirtual 57, 3) := by decide +kernel
theorem dL_law_536 : decode cL_law 536 = .ok (.if_icmp .eq 913, 3) := by decide +kernel
theorem dL_law_539 : decode cL_law 539 = .ok (.iconst 0, 1) := by decide +kernel
theorem dL_law_540 : decode cL_law 540 = .ok (.ireturn, 1) := by decide +kernel
theorem dL_law_541 : decode cL_law 541 = .ok (.aload_n 1, 1) := by decide +kernel
theorem dL_law_542 : decode cL_law 542 = .ok (.aload_n 0, 1) := by decide +kernel
theorem dL_law_543 : decode cL_law 543 = .ok (.iload_n 3, 1) := by decide +kernel
theorem dL_law_544 : decode cL_law 544 = .ok (.iconst 1, 1) := by decide +kernel
theorem dL_law_545 : decode cL_law 545 = .ok (.iadd, 1) := by decide +kernel
theorem dL_law_546 : decode cL_law 546 = .ok (.iaload, 1) := by decide +kernel
theorem dL_law_547 : decode cL_law 547 = .ok (.aload_n 0, 1) := by decide +kernel
theorem dL_law_548 : decode cL_law 548 = .ok (.iload_n 3, 1) := by decide +kernel
theorem dL_law_549 : decode cL_law 549 = .ok (.iconst 2, 1) := by decide +kernel
theorem dL_law_550 : decode cL_law 550 = .ok (.iadd, 1) := by decide +kernel
theorem dL_law_551 : decode cL_law 551 = .ok (.iaload, 1) := by decide +kernel
theorem dL_law_552 : decode cL_law 552 = .ok (.aload_n 0, 1) := by decide +kernel
theorem dL_law_553 : decode cL_law 553 = .ok (.iload_n 3, 1) := by decide +kernel
theorem dL_law_554 : decode cL_law 554 = .ok (.iconst 3, 1) := by decide +kernel
theorem dL_law_555 : decode cL_law 555 = .ok (.iadd, 1) := by decide +kernel
theorem dL_law_556 : decode cL_law 556 = .ok (.iaload, 1) := by decide +kernel
theorem dL_law_557 : decode cL_law 557 = .ok (.invokevirtual 58, 3) := by decide +kernel
theorem dL_law_560 : decode cL_law 560 = .ok (.aload_n 2, 1) := by decide +kernel
theorem dL_law_561 : decode cL_law 561 = .ok (.aload_n 0, 1) := by decide +kernel
theorem dL_law_562 : decode cL_law 562 = .ok (.iload_n 3, 1) := by decide +kernel
theorem dL_law_563 : decode cL_law 563 = .ok (.iconst 1, 1) := by decide +kernel
theorem dL_law_564 : decode cL_law 564 = .ok (.iadd, 1) := by decide +kernel
theorem dL_law_565 : decode cL_law 565 = .ok (.iaload, 1) := by decide +kernel
theorem dL_law_566 : decode cL_law 566 = .ok (.aload_n 0, 1) := by decide +kernel
theorem dL_law_567 : decode cL_law 567 = .ok (.iload_n 3, 1) := by decide +kernel
theorem dL_law_568 : decode cL_law 568 = .ok (.iconst 2, 1) := by decide +kernel
theorem dL_law_569 : decode cL_law 569 = .ok (.iadd, 1) := by decide +kernel
theorem dL_law_570 : decode cL_law 570 = .ok (.iaload, 1) := by decide +kernel
theorem dL_law_571 : decode cL_law 571 = .ok (.aload_n 0, 1) := by decide +kernel
theorem dL_law_572 : decode cL_law 572 = .ok (.iload_n 3, 1) := by decide +kernel
theorem dL_law_573 : decode cL_law 573 = .ok (.iconst 3, 1) := by decide +kernel
theorem dL_law_574 : decode cL_law 574 = .ok (.iadd, 1) := by decide +kernel
theorem dL_law_575 : decode cL_law 575 = .ok (.iaload, 1) := by decide +kernel
theorem dL_law_576 : decode cL_law 576 = .ok (.invokevirtual 62, 3) := by decide +kernel
theorem dL_law_579 : decode cL_law 579 = .ok (.lcmp, 1) := by decide +kernel
theorem dL_law_580 : decode cL_law 580 = .ok (.ifCond .eq 869, 3) := by decide +kernel
theorem dL_law_583 : decode cL_law 583 = .ok (.iconst 0, 1) := by decide +kernel
theorem dL_law_584 : decode cL_law 584 = .ok (.ireturn, 1) := by decide +kernel
theorem dL_law_585 : decode cL_law 585 = .ok (.aload_n 1, 1) := by decide +kernel
theorem dL_law_586 : decode cL_law 586 = .ok (.aload_n 0, 1) := by decide +kernel
theorem dL_law_587 : decode cL_law 587 = .ok (.iload_n 3, 1) := by decide +kernel
theorem dL_law_588 : decode cL_law 588 = .ok (.iconst 1, 1) := by decide +kernel
theorem dL_law_589 : decode cL_law 589 = .ok (.iadd, 1) := by decide +kernel
theorem dL_law_590 : decode cL_law 590 = .ok (.iaload, 1) := by decide +kernel
theorem dL_law_591 : decode cL_law 591 = .ok (.aload_n 0, 1) := by decide +kernel
theorem dL_law_592 : decode cL_law 592 = .ok (.iload_n 3, 1) := by decide +kernel
theorem dL_law_593 : decode cL_law 593 = .ok (.iconst 2, 1) := by decide +kernel
theorem dL_law_594 : decode cL_law 594 = .ok (.iadd, 1) := by decide +kernel
theorem dL_law_595 : decode cL_law 595 = .ok (.iaload, 1) := by decide +kernel
theorem dL_law_596 : decode cL_law 596 = .ok (.invokevirtual 63, 3) := by decide +kernel
theorem dL_law_599 : decode cL_law 599 = .ok (.aload_n 2, 1) := by decide +kernel
theorem dL_law_600 : decode cL_law 600 = .ok (.aload_n 0, 1) := by decide +kernel
theorem dL_law_601 : decode cL_law 601 = .ok (.iload_n 3, 1) := by decide +kernel
theorem dL_law_602 : decode cL_law 602 = .ok (.iconst 1, 1) := by decide +kernel
theorem dL_law_603 : decode cL_law 603 = .ok (.iadd, 1) := by decide +kernel
theorem dL_law_604 : decode cL_law 604 = .ok (.iaload, 1) := by decide +kernel
theorem dL_law_605 : decode cL_law 605 = .ok (.aload_n 0, 1) := by decide +kernel
theorem dL_law_606 : decode cL_law 606 = .ok (.iload_n 3, 1) := by decide +kernel
theorem dL_law_607 : decode cL_law 607 = .ok (.iconst 2, 1) := by decide +kernel
theorem dL_law_608 : decode cL_law 608 = .ok (.iadd, 1) := by decide +kernel
theorem dL_law_609 : decode cL_law 609 = .ok (.iaload, 1) := by decide +kernel
theorem dL_law_610 : decode cL_law 610 = .ok (.invokevirtual 66, 3) := by decide +kernel
theorem dL_law_613 : decode cL_law 613 = .ok (.if_icmp .eq 836, 3) := by decide +kernel
theorem dL_law_616 : decode cL_law 616 = .ok (.iconst 0, 1) := by decide +kernel
theorem dL_law_617 : decode cL_law 617 = .ok (.ireturn, 1) := by decide +kernel
theorem dL_law_618 : decode cL_law 618 = .ok (.aload_n 1, 1) := by decide +kernel
theorem dL_law_619 : decode cL_law 619 = .ok (.aload_n 0, 1) := by decide +kernel
theorem dL_law_620 : decode cL_law 620 = .ok (.iload_n 3, 1) := by decide +kernel
theorem dL_law_621 : decode cL_law 621 = .ok (.iconst 1, 1) := by decide +kernel
theorem dL_law_622 : decode cL_law 622 = .ok (.iadd, 1) := by decide +kernel
theorem dL_law_623 : decode cL_law 623 = .ok (.iaload, 1) := by decide +kernel
theorem dL_law_624 : decode cL_law 624 = .ok (.aload_n 0, 1) := by decide +kernel
theorem dL_law_625 : decode cL_law 625 = .ok (.iload_n 3, 1) := by decide +kernel
theorem dL_law_626 : decode cL_law 626 = .ok (.iconst 2, 1) := by decide +kernel
theorem dL_law_627 : decode cL_law 627 = .ok (.iadd, 1) := by decide +kernel
theorem dL_law_628 : decode cL_law 628 = .ok (.iaload, 1) := by decide +kernel
theorem dL_law_629 : decode cL_law 629 = .ok (.aload_n 0, 1) := by decide +kernel
theorem dL_law_630 : decode cL_law 630 = .ok (.iload_n 3, 1) := by decide +kernel
theorem dL_law_631 : decode cL_law 631 = .ok (.iconst 3, 1) := by decide +kernel
theorem dL_law_632 : decode cL_law 632 = .ok (.iadd, 1) := by decide +kernel
theorem dL_law_633 : decode cL_law 633 = .ok (.iaload, 1) := by decide +kernel
theorem dL_law_634 : decode cL_law 634 = .ok (.invokevirtual 67, 3) := by decide +kernel
theorem dL_law_637 : decode cL_law 637 = .ok (.aload_n 2, 1) := by decide +kernel
theorem dL_law_638 : decode cL_law 638 = .ok (.aload_n 0, 1) := by decide +kernel
theorem dL_law_639 : decode cL_law 639 = .ok (.iload_n 3, 1) := by decide +kernel
theorem dL_law_640 : decode cL_law 640 = .ok (.iconst 1, 1) := by decide +kernel
theorem dL_law_641 : decode cL_law 641 = .ok (.iadd, 1) := by decide +kernel
theorem dL_law_642 : decode cL_law 642 = .ok (.iaload, 1) := by decide +kernel
theorem dL_law_643 : decode cL_law 643 = .ok (.aload_n 0, 1) := by decide +kernel
theorem dL_law_644 : decode cL_law 644 = .ok (.iload_n 3, 1) := by decide +kernel
theorem dL_law_645 : decode cL_law 645 = .ok (.iconst 2, 1) := by decide +kernel
theorem dL_law_646 : decode cL_law 646 = .ok (.iadd, 1) := by decide +kernel
theorem dL_law_647 : decode cL_law 647 = .ok (.iaload, 1) := by decide +kernel
theorem dL_law_648 : decode cL_law 648 = .ok (.aload_n 0, 1) := by decide +kernel
theorem dL_law_649 : decode cL_law 649 = .ok (.iload_n 3, 1) := by decide +kernel
theorem dL_law_650 : decode cL_law 650 = .ok (.iconst 3, 1) := by decide +kernel
theorem dL_law_651 : decode cL_law 651 = .ok (.iadd, 1) := by decide +kernel
theorem dL_law_652 : decode cL_law 652 = .ok (.iaload, 1) := by decide +kernel
theorem dL_law_653 : decode cL_law 653 = .ok (.invokevirtual 70, 3) := by decide +kernel
theorem dL_law_656 : decode cL_law 656 = .ok (.lcmp, 1) := by decide +kernel
theorem dL_law_657 : decode cL_law 657 = .ok (.ifCond .eq 792, 3) := by decide +kernel
theorem dL_law_660 : decode cL_law 660 = .ok (.iconst 0, 1) := by decide +kernel
theorem dL_law_661 : decode cL_law 661 = .ok (.ireturn, 1) := by decide +kernel
theorem dL_law_662 : decode cL_law 662 = .ok (.aload_n 1, 1) := by decide +kernel
theorem dL_law_663 : decode cL_law 663 = .ok (.aload_n 0, 1) := by decide +kernel
theorem dL_law_664 : decode cL_law 664 = .ok (.iload_n 3, 1) := by decide +kernel
theorem dL_law_665 : decode cL_law 665 = .ok (.iconst 1, 1) := by decide +kernel
theorem dL_law_666 : decode cL_law 666 = .ok (.iadd, 1) := by decide +kernel
theorem dL_law_667 : decode cL_law 667 = .ok (.iaload, 1) := by decide +kernel
theorem dL_law_668 : decode cL_law 668 = .ok (.aload_n 0, 1) := by decide +kernel
theorem dL_law_669 : decode cL_law 669 = .ok (.iload_n 3, 1) := by decide +kernel
theorem dL_law_670 : decode cL_law 670 = .ok (.iconst 2, 1) := by decide +kernel
theorem dL_law_671 : decode cL_law 671 = .ok (.iadd, 1) := by decide +kernel
theorem dL_law_672 : decode cL_law 672 = .ok (.iaload, 1) := by decide +kernel
theorem dL_law_673 : decode cL_law 673 = .ok (.aload_n 0, 1) := by decide +kernel
theorem dL_law_674 : decode cL_law 674 = .ok (.iload_n 3, 1) := by decide +kernel
theorem dL_law_675 : decode cL_law 675 = .ok (.iconst 3, 1) := by decide +kernel
theorem dL_law_676 : decode cL_law 676 = .ok (.iadd, 1) := by decide +kernel
theorem dL_law_677 : decode cL_law 677 = .ok (.iaload, 1) := by decide +kernel
theorem dL_law_678 : decode cL_law 678 = .ok (.invokevirtual 71, 3) := by decide +kernel
theorem dL_law_681 : decode cL_law 681 = .ok (.aload_n 2, 1) := by decide +kernel
theorem dL_law_682 : decode cL_law 682 = .ok (.aload_n 0, 1) := by decide +kernel
theorem dL_law_683 : decode cL_law 683 = .ok (.iload_n 3, 1) := by decide +kernel
theorem dL_law_684 : decode cL_law 684 = .ok (.iconst 1, 1) := by decide +kernel
theorem dL_law_685 : decode cL_law 685 = .ok (.iadd, 1) := by decide +kernel
theorem dL_law_686 : decode cL_law 686 = .ok (.iaload, 1) := by decide +kernel
theorem dL_law_687 : decode cL_law 687 = .ok (.aload_n 0, 1) := by decide +kernel
theorem dL_law_688 : decode cL_law 688 = .ok (.iload_n 3, 1) := by decide +kernel
theorem dL_law_689 : decode cL_law 689 = .ok (.iconst 2, 1) := by decide +kernel
theorem dL_law_690 : decode cL_law 690 = .ok (.iadd, 1) := by decide +kernel
theorem dL_law_691 : decode cL_law 691 = .ok (.iaload, 1) := by decide +kernel
theorem dL_law_692 : decode cL_law 692 = .ok (.aload_n 0, 1) := by decide +kernel
theorem dL_law_693 : decode cL_law 693 = .ok (.iload_n 3, 1) := by decide +kernel
theorem dL_law_694 : decode cL_law 694 = .ok (.iconst 3, 1) := by decide +kernel
theorem dL_law_695 : decode cL_law 695 = .ok (.iadd, 1) := by decide +kernel
theorem dL_law_696 : decode cL_law 696 = .ok (.iaload, 1) := by decide +kernel
theorem dL_law_697 : decode cL_law 697 = .ok (.invokevirtual 74, 3) := by decide +kernel
theorem dL_law_700 : decode cL_law 700 = .ok (.if_icmp .eq 749, 3) := by decide +kernel
theorem dL_law_703 : decode cL_law 703 = .ok (.iconst 0, 1) := by decide +kernel
theorem dL_law_704 : decode cL_law 704 = .ok (.ireturn, 1) := by decide +kernel
theorem dL_law_705 : decode cL_law 705 = .ok (.aload_n 1, 1) := by decide +kernel
theorem dL_law_706 : decode cL_law 706 = .ok (.aload_n 0, 1) := by decide +kernel
theorem dL_law_707 : decode cL_law 707 = .ok (.iload_n 3, 1) := by decide +kernel
theorem dL_law_708 : decode cL_law 708 = .ok (.iconst 1, 1) := by decide +kernel
theorem dL_law_709 : decode cL_law 709 = .ok (.iadd, 1) := by decide +kernel
theorem dL_law_710 : decode cL_law 710 = .ok (.iaload, 1) := by decide +kernel
theorem dL_law_711 : decode cL_law 711 = .ok (.invokevirtual 75, 3) := by decide +kernel
theorem dL_law_714 : decode cL_law 714 = .ok (.aload_n 2, 1) := by decide +kernel
theorem dL_law_715 : decode cL_law 715 = .ok (.aload_n 0, 1) := by decide +kernel
theorem dL_law_716 : decode cL_law 716 = .ok (.iload_n 3, 1) := by decide +kernel
theorem dL_law_717 : decode cL_law 717 = .ok (.iconst 1, 1) := by decide +kernel
theorem dL_law_718 : decode cL_law 718 = .ok (.iadd, 1) := by decide +kernel
theorem dL_law_719 : decode cL_law 719 = .ok (.iaload, 1) := by decide +kernel
theorem dL_law_720 : decode cL_law 720 = .ok (.invokevirtual 78, 3) := by decide +kernel
theorem dL_law_723 : decode cL_law 723 = .ok (.if_icmp .eq 726, 3) := by decide +kernel
theorem dL_law_726 : decode cL_law 726 = .ok (.iconst 0, 1) := by decide +kernel
theorem dL_law_727 : decode cL_law 727 = .ok (.ireturn, 1) := by decide +kernel
theorem dL_law_728 : decode cL_law 728 = .ok (.aload_n 1, 1) := by decide +kernel
theorem dL_law_729 : decode cL_law 729 = .ok (.aload_n 0, 1) := by decide +kernel
theorem dL_law_730 : decode cL_law 730 = .ok (.iload_n 3, 1) := by decide +kernel
theorem dL_law_731 : decode cL_law 731 = .ok (.iconst 1, 1) := by decide +kernel
theorem dL_law_732 : decode cL_law 732 = .ok (.iadd, 1) := by decide +kernel
theorem dL_law_733 : decode cL_law 733 = .ok (.iaload, 1) := by decide +kernel
theorem dL_law_734 : decode cL_law 734 = .ok (.aload_n 0, 1) := by decide +kernel
theorem dL_law_735 : decode cL_law 735 = .ok (.iload_n 3, 1) := by decide +kernel
theorem dL_law_736 : decode cL_law 736 = .ok (.iconst 2, 1) := by decide +kernel
theorem dL_law_737 : decode cL_law 737 = .ok (.iadd, 1) := by decide +kernel
theorem dL_law_738 : decode cL_law 738 = .ok (.iaload, 1) := by decide +kernel
theorem dL_law_739 : decode cL_law 739 = .ok (.invokevirtual 79, 3) := by decide +kernel
theorem dL_law_742 : decode cL_law 742 = .ok (.aload_n 2, 1) := by decide +kernel
theorem dL_law_743 : decode cL_law 743 = .ok (.aload_n 0, 1) := by decide +kernel
theorem dL_law_744 : decode cL_law 744 = .ok (.iload_n 3, 1) := by decide +kernel
theorem dL_law_745 : decode cL_law 745 = .ok (.iconst 1, 1) := by decide +kernel
theorem dL_law_746 : decode cL_law 746 = .ok (.iadd, 1) := by decide +kernel
theorem dL_law_747 : decode cL_law 747 = .ok (.iaload, 1) := by decide +kernel
theorem dL_law_748 : decode cL_law 748 = .ok (.aload_n 0, 1) := by decide +kernel
theorem dL_law_749 : decode cL_law 749 = .ok (.iload_n 3, 1) := by decide +kernel
theorem dL_law_750 : decode cL_law 750 = .ok (.iconst 2, 1) := by decide +kernel
theorem dL_law_751 : decode cL_law 751 = .ok (.iadd, 1) := by decide +kernel
theorem dL_law_752 : decode cL_law 752 = .ok (.iaload, 1) := by decide +kernel
theorem dL_law_753 : decode cL_law 753 = .ok (.invokevirtual 82, 3) := by decide +kernel
theorem dL_law_756 : decode cL_law 756 = .ok (.if_icmp .eq 693, 3) := by decide +kernel
theorem dL_law_759 : decode cL_law 759 = .ok (.iconst 0, 1) := by decide +kernel
theorem dL_law_760 : decode cL_law 760 = .ok (.ireturn, 1) := by decide +kernel
theorem dL_law_761 : decode cL_law 761 = .ok (.aload_n 1, 1) := by decide +kernel
theorem dL_law_762 : decode cL_law 762 = .ok (.aload_n 0, 1) := by decide +kernel
theorem dL_law_763 : decode cL_law 763 = .ok (.iload_n 3, 1) := by decide +kernel
theorem dL_law_764 : decode cL_law 764 = .ok (.iconst 1, 1) := by decide +kernel
theorem dL_law_765 : decode cL_law 765 = .ok (.iadd, 1) := by decide +kernel
theorem dL_law_766 : decode cL_law 766 = .ok (.iaload, 1) := by decide +kernel
theorem dL_law_767 : decode cL_law 767 = .ok (.aload_n 0, 1) := by decide +kernel
theorem dL_law_768 : decode cL_law 768 = .ok (.iload_n 3, 1) := by decide +kernel
theorem dL_law_769 : decode cL_law 769 = .ok (.iconst 2, 1) := by decide +kernel
theorem dL_law_770 : decode cL_law 770 = .ok (.iadd, 1) := by decide +kernel
theorem dL_law_771 : decode cL_law 771 = .ok (.iaload, 1) := by decide +kernel
theorem dL_law_772 : decode cL_law 772 = .ok (.invokevirtual 83, 3) := by decide +kernel
theorem dL_law_775 : decode cL_law 775 = .ok (.aload_n 2, 1) := by decide +kernel
theorem dL_law_776 : decode cL_law 776 = .ok (.aload_n 0, 1) := by decide +kernel
theorem dL_law_777 : decode cL_law 777 = .ok (.iload_n 3, 1) := by decide +kernel
theorem dL_law_778 : decode cL_law 778 = .ok (.iconst 1, 1) := by decide +kernel
theorem dL_law_779 : decode cL_law 779 = .ok (.iadd, 1) := by decide +kernel
theorem dL_law_780 : decode cL_law 780 = .ok (.iaload, 1) := by decide +kernel
theorem dL_law_781 : decode cL_law 781 = .ok (.aload_n 0, 1) := by decide +kernel
theorem dL_law_782 : decode cL_law 782 = .ok (.iload_n 3, 1) := by decide +kernel
theorem dL_law_783 : decode cL_law 783 = .ok (.iconst 2, 1) := by decide +kernel
theorem dL_law_784 : decode cL_law 784 = .ok (.iadd, 1) := by decide +kernel
theorem dL_law_785 : decode cL_law 785 = .ok (.iaload, 1) := by decide +kernel
theorem dL_law_786 : decode cL_law 786 = .ok (.invokevirtual 87, 3) := by decide +kernel
theorem dL_law_789 : decode cL_law 789 = .ok (.lcmp, 1) := by decide +kernel
theorem dL_law_790 : decode cL_law 790 = .ok (.ifCond .eq 659, 3) := by decide +kernel
theorem dL_law_793 : decode cL_law 793 = .ok (.iconst 0, 1) := by decide +kernel
theorem dL_law_794 : decode cL_law 794 = .ok (.ireturn, 1) := by decide +kernel
theorem dL_law_795 : decode cL_law 795 = .ok (.aload_n 1, 1) := by decide +kernel
theorem dL_law_796 : decode cL_law 796 = .ok (.aload_n 0, 1) := by decide +kernel
theorem dL_law_797 : decode cL_law 797 = .ok (.iload_n 3, 1) := by decide +kernel
theorem dL_law_798 : decode cL_law 798 = .ok (.iconst 1, 1) := by decide +kernel
theorem dL_law_799 : decode cL_law 799 = .ok (.iadd, 1) := by decide +kernel
theorem dL_law_800 : decode cL_law 800 = .ok (.iaload, 1) := by decide +kernel
theorem dL_law_801 : decode cL_law 801 = .ok (.invokevirtual 88, 3) := by decide +kernel
theorem dL_law_804 : decode cL_law 804 = .ok (.aload_n 2, 1) := by decide +kernel
theorem dL_law_805 : decode cL_law 805 = .ok (.aload_n 0, 1) := by decide +kernel
theorem dL_law_806 : decode cL_law 806 = .ok (.iload_n 3, 1) := by decide +kernel
theorem dL_law_807 : decode cL_law 807 = .ok (.iconst 1, 1) := by decide +kernel
theorem dL_law_808 : decode cL_law 808 = .ok (.iadd, 1) := by decide +kernel
theorem dL_law_809 : decode cL_law 809 = .ok (.iaload, 1) := by decide +kernel
theorem dL_law_810 : decode cL_law 810 = .ok (.invokevirtual 91, 3) := by decide +kernel
theorem dL_law_813 : decode cL_law 813 = .ok (.if_icmp .eq 636, 3) := by decide +kernel
theorem dL_law_816 : decode cL_law 816 = .ok (.iconst 0, 1) := by decide +kernel
theorem dL_law_817 : decode cL_law 817 = .ok (.ireturn, 1) := by decide +kernel
theorem dL_law_818 : decode cL_law 818 = .ok (.aload_n 1, 1) := by decide +kernel
theorem dL_law_819 : decode cL_law 819 = .ok (.aload_n 0, 1) := by decide +kernel
theorem dL_law_820 : decode cL_law 820 = .ok (.iload_n 3, 1) := by decide +kernel
theorem dL_law_821 : decode cL_law 821 = .ok (.iconst 1, 1) := by decide +kernel
theorem dL_law_822 : decode cL_law 822 = .ok (.iadd, 1) := by decide +kernel
theorem dL_law_823 : decode cL_law 823 = .ok (.iaload, 1) := by decide +kernel
theorem dL_law_824 : decode cL_law 824 = .ok (.aload_n 0, 1) := by decide +kernel
theorem dL_law_825 : decode cL_law 825 = .ok (.iload_n 3, 1) := by decide +kernel
theorem dL_law_826 : decode cL_law 826 = .ok (.iconst 2, 1) := by decide +kernel
theorem dL_law_827 : decode cL_law 827 = .ok (.iadd, 1) := by decide +kernel
theorem dL_law_828 : decode cL_law 828 = .ok (.iaload, 1) := by decide +kernel
theorem dL_law_829 : decode cL_law 829 = .ok (.aload_n 0, 1) := by decide +kernel
theorem dL_law_830 : decode cL_law 830 = .ok (.iload_n 3, 1) := by decide +kernel
theorem dL_law_831 : decode cL_law 831 = .ok (.iconst 3, 1) := by decide +kernel
theorem dL_law_832 : decode cL_law 832 = .ok (.iadd, 1) := by decide +kernel
theorem dL_law_833 : decode cL_law 833 = .ok (.iaload, 1) := by decide +kernel
theorem dL_law_834 : decode cL_law 834 = .ok (.invokevirtual 92, 3) := by decide +kernel
theorem dL_law_837 : decode cL_law 837 = .ok (.aload_n 2, 1) := by decide +kernel
theorem dL_law_838 : decode cL_law 838 = .ok (.aload_n 0, 1) := by decide +kernel
theorem dL_law_839 : decode cL_law 839 = .ok (.iload_n 3, 1) := by decide +kernel
theorem dL_law_840 : decode cL_law 840 = .ok (.iconst 1, 1) := by decide +kernel
theorem dL_law_841 : decode cL_law 841 = .ok (.iadd, 1) := by decide +kernel
theorem dL_law_842 : decode cL_law 842 = .ok (.iaload, 1) := by decide +kernel
theorem dL_law_843 : decode cL_law 843 = .ok (.aload_n 0, 1) := by decide +kernel
theorem dL_law_844 : decode cL_law 844 = .ok (.iload_n 3, 1) := by decide +kernel
theorem dL_law_845 : decode cL_law 845 = .ok (.iconst 2, 1) := by decide +kernel
theorem dL_law_846 : decode cL_law 846 = .ok (.iadd, 1) := by decide +kernel
theorem dL_law_847 : decode cL_law 847 = .ok (.iaload, 1) := by decide +kernel
theorem dL_law_848 : decode cL_law 848 = .ok (.aload_n 0, 1) := by decide +kernel
theorem dL_law_849 : decode cL_law 849 = .ok (.iload_n 3, 1) := by decide +kernel
theorem dL_law_850 : decode cL_law 850 = .ok (.iconst 3, 1) := by decide +kernel
theorem dL_law_851 : decode cL_law 851 = .ok (.iadd, 1) := by decide +kernel
theorem dL_law_852 : decode cL_law 852 = .ok (.iaload, 1) := by decide +kernel
theorem dL_law_853 : decode cL_law 853 = .ok (.invokevirtual 95, 3) := by decide +kernel
theorem dL_law_856 : decode cL_law 856 = .ok (.if_icmp .eq 593, 3) := by decide +kernel
theorem dL_law_859 : decode cL_law 859 = .ok (.iconst 0, 1) := by decide +kernel
theorem dL_law_860 : decode cL_law 860 = .ok (.ireturn, 1) := by decide +kernel
theorem dL_law_861 : decode cL_law 861 = .ok (.aload_n 1, 1) := by decide +kernel
theorem dL_law_862 : decode cL_law 862 = .ok (.aload_n 0, 1) := by decide +kernel
theorem dL_law_863 : decode cL_law 863 = .ok (.iload_n 3, 1) := by decide +kernel
theorem dL_law_864 : decode cL_law 864 = .ok (.iconst 1, 1) := by decide +kernel
theorem dL_law_865 : decode cL_law 865 = .ok (.iadd, 1) := by decide +kernel
theorem dL_law_866 : decode cL_law 866 = .ok (.iaload, 1) := by decide +kernel
theorem dL_law_867 : decode cL_law 867 = .ok (.aload_n 0, 1) := by decide +kernel
theorem dL_law_868 : decode cL_law 868 = .ok (.iload_n 3, 1) := by decide +kernel
theorem dL_law_869 : decode cL_law 869 = .ok (.iconst 2, 1) := by decide +kernel
theorem dL_law_870 : decode cL_law 870 = .ok (.iadd, 1) := by decide +kernel
theorem dL_law_871 : decode cL_law 871 = .ok (.iaload, 1) := by decide +kernel
theorem dL_law_872 : decode cL_law 872 = .ok (.aload_n 0, 1) := by decide +kernel
theorem dL_law_873 : decode cL_law 873 = .ok (.iload_n 3, 1) := by decide +kernel
theorem dL_law_874 : decode cL_law 874 = .ok (.iconst 3, 1) := by decide +kernel
theorem dL_law_875 : decode cL_law 875 = .ok (.iadd, 1) := by decide +kernel
theorem dL_law_876 : decode cL_law 876 = .ok (.iaload, 1) := by decide +kernel
theorem dL_law_877 : decode cL_law 877 = .ok (.aload_n 0, 1) := by decide +kernel
theorem dL_law_878 : decode cL_law 878 = .ok (.iload_n 3, 1) := by decide +kernel
theorem dL_law_879 : decode cL_law 879 = .ok (.iconst 4, 1) := by decide +kernel
theorem dL_law_880 : decode cL_law 880 = .ok (.iadd, 1) := by decide +kernel
theorem dL_law_881 : decode cL_law 881 = .ok (.iaload, 1) := by decide +kernel
theorem dL_law_882 : decode cL_law 882 = .ok (.invokevirtual 96, 3) := by decide +kernel
theorem dL_law_885 : decode cL_law 885 = .ok (.aload_n 2, 1) := by decide +kernel
theorem dL_law_886 : decode cL_law 886 = .ok (.aload_n 0, 1) := by decide +kernel
theorem dL_law_887 : decode cL_law 887 = .ok (.iload_n 3, 1) := by decide +kernel
theorem dL_law_888 : decode cL_law 888 = .ok (.iconst 1, 1) := by decide +kernel
theorem dL_law_889 : decode cL_law 889 = .ok (.iadd, 1) := by decide +kernel
theorem dL_law_890 : decode cL_law 890 = .ok (.iaload, 1) := by decide +kernel
theorem dL_law_891 : decode cL_law 891 = .ok (.aload_n 0, 1) := by decide +kernel
theorem dL_law_892 : decode cL_law 892 = .ok (.iload_n 3, 1) := by decide +kernel
theorem dL_law_893 : decode cL_law 893 = .ok (.iconst 2, 1) := by decide +kernel
theorem dL_law_894 : decode cL_law 894 = .ok (.iadd, 1) := by decide +kernel
theorem dL_law_895 : decode cL_law 895 = .ok (.iaload, 1) := by decide +kernel
theorem dL_law_896 : decode cL_law 896 = .ok (.aload_n 0, 1) := by decide +kernel
theorem dL_law_897 : decode cL_law 897 = .ok (.iload_n 3, 1) := by decide +kernel
theorem dL_law_898 : decode cL_law 898 = .ok (.iconst 3, 1) := by decide +kernel
theorem dL_law_899 : decode cL_law 899 = .ok (.iadd, 1) := by decide +kernel
theorem dL_law_900 : decode cL_law 900 = .ok (.iaload, 1) := by decide +kernel
theorem dL_law_901 : decode cL_law 901 = .ok (.aload_n 0, 1) := by decide +kernel
theorem dL_law_902 : decode cL_law 902 = .ok (.iload_n 3, 1) := by decide +kernel
theorem dL_law_903 : decode cL_law 903 = .ok (.iconst 4, 1) := by decide +kernel
theorem dL_law_904 : decode cL_law 904 = .ok (.iadd, 1) := by decide +kernel
theorem dL_law_905 : decode cL_law 905 = .ok (.iaload, 1) := by decide +kernel
theorem dL_law_906 : decode cL_law 906 = .ok (.invokevirtual 100, 3) := by decide +kernel
theorem dL_law_909 : decode cL_law 909 = .ok (.if_icmp .eq 540, 3) := by decide +kernel
theorem dL_law_912 : decode cL_law 912 = .ok (.iconst 0, 1) := by decide +kernel
theorem dL_law_913 : decode cL_law 913 = .ok (.ireturn, 1) := by decide +kernel
theorem dL_law_914 : decode cL_law 914 = .ok (.aload_n 1, 1) := by decide +kernel
theorem dL_law_915 : decode cL_law 915 = .ok (.aload_n 0, 1) := by decide +kernel
theorem dL_law_916 : decode cL_law 916 = .ok (.iload_n 3, 1) := by decide +kernel
theorem dL_law_917 : decode cL_law 917 = .ok (.iconst 1, 1) := by decide +kernel
theorem dL_law_918 : decode cL_law 918 = .ok (.iadd, 1) := by decide +kernel
theorem dL_law_919 : decode cL_law 919 = .ok (.iaload, 1) := by decide +kernel
theorem dL_law_920 : decode cL_law 920 = .ok (.aload_n 0, 1) := by decide +kernel
theorem dL_law_921 : decode cL_law 921 = .ok (.iload_n 3, 1) := by decide +kernel
theorem dL_law_922 : decode cL_law 922 = .ok (.iconst 2, 1) := by decide +kernel
theorem dL_law_923 : decode cL_law 923 = .ok (.iadd, 1) := by decide +kernel
theorem dL_law_924 : decode cL_law 924 = .ok (.iaload, 1) := by decide +kernel
theorem dL_law_925 : decode cL_law 925 = .ok (.invokevirtual 101, 3) := by decide +kernel
theorem dL_law_928 : decode cL_law 928 = .ok (.aload_n 2, 1) := by decide +kernel
theorem dL_law_929 : decode cL_law 929 = .ok (.aload_n 0, 1) := by decide +kernel
theorem dL_law_930 : decode cL_law 930 = .ok (.iload_n 3, 1) := by decide +kernel
theorem dL_law_931 : decode cL_law 931 = .ok (.iconst 1, 1) := by decide +kernel
theorem dL_law_932 : decode cL_law 932 = .ok (.iadd, 1) := by decide +kernel
theorem dL_law_933 : decode cL_law 933 = .ok (.iaload, 1) := by decide +kernel
theorem dL_law_934 : decode cL_law 934 = .ok (.aload_n 0, 1) := by decide +kernel
theorem dL_law_935 : decode cL_law 935 = .ok (.iload_n 3, 1) := by decide +kernel
theorem dL_law_936 : decode cL_law 936 = .ok (.iconst 2, 1) := by decide +kernel
theorem dL_law_937 : decode cL_law 937 = .ok (.iadd, 1) := by decide +kernel
theorem dL_law_938 : decode cL_law 938 = .ok (.iaload, 1) := by decide +kernel
theorem dL_law_939 : decode cL_law 939 = .ok (.invokevirtual 104, 3) := by decide +kernel
theorem dL_law_942 : decode cL_law 942 = .ok (.if_icmp .eq 507, 3) := by decide +kernel
theorem dL_law_945 : decode cL_law 945 = .ok (.iconst 0, 1) := by decide +kernel
theorem dL_law_946 : decode cL_law 946 = .ok (.ireturn, 1) := by decide +kernel
theorem dL_law_947 : decode cL_law 947 = .ok (.aload_n 1, 1) := by decide +kernel
theorem dL_law_948 : decode cL_law 948 = .ok (.aload_n 0, 1) := by decide +kernel
theorem dL_law_949 : decode cL_law 949 = .ok (.iload_n 3, 1) := by decide +kernel
theorem dL_law_950 : decode cL_law 950 = .ok (.iconst 1, 1) := by decide +kernel
theorem dL_law_951 : decode cL_law 951 = .ok (.iadd, 1) := by decide +kernel
theorem dL_law_952 : decode cL_law 952 = .ok (.iaload, 1) := by decide +kernel
theorem dL_law_953 : decode cL_law 953 = .ok (.invokevirtual 105, 3) := by decide +kernel
theorem dL_law_956 : decode cL_law 956 = .ok (.aload_n 2, 1) := by decide +kernel
theorem dL_law_957 : decode cL_law 957 = .ok (.aload_n 0, 1) := by decide +kernel
theorem dL_law_958 : decode cL_law 958 = .ok (.iload_n 3, 1) := by decide +kernel
theorem dL_law_959 : decode cL_law 959 = .ok (.iconst 1, 1) := by decide +kernel
theorem dL_law_960 : decode cL_law 960 = .ok (.iadd, 1) := by decide +kernel
theorem dL_law_961 : decode cL_law 961 = .ok (.iaload, 1) := by decide +kernel
theorem dL_law_962 : decode cL_law 962 = .ok (.invokevirtual 108, 3) := by decide +kernel
theorem dL_law_965 : decode cL_law 965 = .ok (.if_icmp .eq 484, 3) := by decide +kernel
theorem dL_law_968 : decode cL_law 968 = .ok (.iconst 0, 1) := by decide +kernel
theorem dL_law_969 : decode cL_law 969 = .ok (.ireturn, 1) := by decide +kernel
theorem dL_law_970 : decode cL_law 970 = .ok (.aload_n 1, 1) := by decide +kernel
theorem dL_law_971 : decode cL_law 971 = .ok (.invokevirtual 109, 3) := by decide +kernel
theorem dL_law_974 : decode cL_law 974 = .ok (.aload_n 2, 1) := by decide +kernel
theorem dL_law_975 : decode cL_law 975 = .ok (.invokevirtual 112, 3) := by decide +kernel
theorem dL_law_978 : decode cL_law 978 = .ok (.if_icmp .eq 471, 3) := by decide +kernel
theorem dL_law_981 : decode cL_law 981 = .ok (.iconst 0, 1) := by decide +kernel
theorem dL_law_982 : decode cL_law 982 = .ok (.ireturn, 1) := by decide +kernel
theorem dL_law_983 : decode cL_law 983 = .ok (.aload_n 1, 1) := by decide +kernel
theorem dL_law_984 : decode cL_law 984 = .ok (.aload_n 0, 1) := by decide +kernel
theorem dL_law_985 : decode cL_law 985 = .ok (.iload_n 3, 1) := by decide +kernel
theorem dL_law_986 : decode cL_law 986 = .ok (.iconst 1, 1) := by decide +kernel
theorem dL_law_987 : decode cL_law 987 = .ok (.iadd, 1) := by decide +kernel
theorem dL_law_988 : decode cL_law 988 = .ok (.iaload, 1) := by decide +kernel
theorem dL_law_989 : decode cL_law 989 = .ok (.invokevirtual 113, 3) := by decide +kernel
theorem dL_law_992 : decode cL_law 992 = .ok (.aload_n 2, 1) := by decide +kernel
theorem dL_law_993 : decode cL_law 993 = .ok (.aload_n 0, 1) := by decide +kernel
theorem dL_law_994 : decode cL_law 994 = .ok (.iload_n 3, 1) := by decide +kernel
theorem dL_law_995 : decode cL_law 995 = .ok (.iconst 1, 1) := by decide +kernel
theorem dL_law_996 : decode cL_law 996 = .ok (.iadd, 1) := by decide +kernel
theorem dL_law_997 : decode cL_law 997 = .ok (.iaload, 1) := by decide +kernel
theorem dL_law_998 : decode cL_law 998 = .ok (.invokevirtual 116, 3) := by decide +kernel
theorem dL_law_1001 : decode cL_law 1001 = .ok (.if_icmp .eq 448, 3) := by decide +kernel
theorem dL_law_1004 : decode cL_law 1004 = .ok (.iconst 0, 1) := by decide +kernel
theorem dL_law_1005 : decode cL_law 1005 = .ok (.ireturn, 1) := by decide +kernel
theorem dL_law_1006 : decode cL_law 1006 = .ok (.aload_n 1, 1) := by decide +kernel
theorem dL_law_1007 : decode cL_law 1007 = .ok (.invokevirtual 117, 3) := by decide +kernel
theorem dL_law_1010 : decode cL_law 1010 = .ok (.aload_n 2, 1) := by decide +kernel
theorem dL_law_1011 : decode cL_law 1011 = .ok (.invokevirtual 120, 3) := by decide +kernel
theorem dL_law_1014 : decode cL_law 1014 = .ok (.if_icmp .eq 435, 3) := by decide +kernel
theorem dL_law_1017 : decode cL_law 1017 = .ok (.iconst 0, 1) := by decide +kernel
theorem dL_law_1018 : decode cL_law 1018 = .ok (.ireturn, 1) := by decide +kernel
theorem dL_law_1019 : decode cL_law 1019 = .ok (.aload_n 1, 1) := by decide +kernel
theorem dL_law_1020 : decode cL_law 1020 = .ok (.invokevirtual 121, 3) := by decide +kernel
theorem dL_law_1023 : decode cL_law 1023 = .ok (.aload_n 2, 1) := by decide +kernel
theorem dL_law_1024 : decode cL_law 1024 = .ok (.invokevirtual 124, 3) := by decide +kernel
theorem dL_law_1027 : decode cL_law 1027 = .ok (.if_icmp .eq 422, 3) := by decide +kernel
theorem dL_law_1030 : decode cL_law 1030 = .ok (.iconst 0, 1) := by decide +kernel
theorem dL_law_1031 : decode cL_law 1031 = .ok (.ireturn, 1) := by decide +kernel
theorem dL_law_1032 : decode cL_law 1032 = .ok (.aload_n 1, 1) := by decide +kernel
theorem dL_law_1033 : decode cL_law 1033 = .ok (.invokevirtual 125, 3) := by decide +kernel
theorem dL_law_1036 : decode cL_law 1036 = .ok (.aload_n 2, 1) := by decide +kernel
theorem dL_law_1037 : decode cL_law 1037 = .ok (.invokevirtual 128, 3) := by decide +kernel
theorem dL_law_1040 : decode cL_law 1040 = .ok (.if_icmp .eq 409, 3) := by decide +kernel
theorem dL_law_1043 : decode cL_law 1043 = .ok (.iconst 0, 1) := by decide +kernel
theorem dL_law_1044 : decode cL_law 1044 = .ok (.ireturn, 1) := by decide +kernel
theorem dL_law_1045 : decode cL_law 1045 = .ok (.aload_n 1, 1) := by decide +kernel
theorem dL_law_1046 : decode cL_law 1046 = .ok (.invokevirtual 129, 3) := by decide +kernel
theorem dL_law_1049 : decode cL_law 1049 = .ok (.aload_n 2, 1) := by decide +kernel
theorem dL_law_1050 : decode cL_law 1050 = .ok (.invokevirtual 132, 3) := by decide +kernel
theorem dL_law_1053 : decode cL_law 1053 = .ok (.if_icmp .eq 396, 3) := by decide +kernel
theorem dL_law_1056 : decode cL_law 1056 = .ok (.iconst 0, 1) := by decide +kernel
theorem dL_law_1057 : decode cL_law 1057 = .ok (.ireturn, 1) := by decide +kernel
theorem dL_law_1058 : decode cL_law 1058 = .ok (.aload_n 1, 1) := by decide +kernel
theorem dL_law_1059 : decode cL_law 1059 = .ok (.aload_n 0, 1) := by decide +kernel
theorem dL_law_1060 : decode cL_law 1060 = .ok (.iload_n 3, 1) := by decide +kernel
theorem dL_law_1061 : decode cL_law 1061 = .ok (.iconst 1, 1) := by decide +kernel
theorem dL_law_1062 : decode cL_law 1062 = .ok (.iadd, 1) := by decide +kernel
theorem dL_law_1063 : decode cL_law 1063 = .ok (.iaload, 1) := by decide +kernel
theorem dL_law_1064 : decode cL_law 1064 = .ok (.invokevirtual 133, 3) := by decide +kernel
theorem dL_law_1067 : decode cL_law 1067 = .ok (.aload_n 2, 1) := by decide +kernel
theorem dL_law_1068 : decode cL_law 1068 = .ok (.aload_n 0, 1) := by decide +kernel
theorem dL_law_1069 : decode cL_law 1069 = .ok (.iload_n 3, 1) := by decide +kernel
theorem dL_law_1070 : decode cL_law 1070 = .ok (.iconst 1, 1) := by decide +kernel
theorem dL_law_1071 : decode cL_law 1071 = .ok (.iadd, 1) := by decide +kernel
theorem dL_law_1072 : decode cL_law 1072 = .ok (.iaload, 1) := by decide +kernel
theorem dL_law_1073 : decode cL_law 1073 = .ok (.invokevirtual 136, 3) := by decide +kernel
theorem dL_law_1076 : decode cL_law 1076 = .ok (.if_icmp .eq 373, 3) := by decide +kernel
theorem dL_law_1079 : decode cL_law 1079 = .ok (.iconst 0, 1) := by decide +kernel
theorem dL_law_1080 : decode cL_law 1080 = .ok (.ireturn, 1) := by decide +kernel
theorem dL_law_1081 : decode cL_law 1081 = .ok (.aload_n 1, 1) := by decide +kernel
theorem dL_law_1082 : decode cL_law 1082 = .ok (.aload_n 0, 1) := by decide +kernel
theorem dL_law_1083 : decode cL_law 1083 = .ok (.iload_n 3, 1) := by decide +kernel
theorem dL_law_1084 : decode cL_law 1084 = .ok (.iconst 1, 1) := by decide +kernel
theorem dL_law_1085 : decode cL_law 1085 = .ok (.iadd, 1) := by decide +kernel
theorem dL_law_1086 : decode cL_law 1086 = .ok (.iaload, 1) := by decide +kernel
theorem dL_law_1087 : decode cL_law 1087 = .ok (.aload_n 0, 1) := by decide +kernel
theorem dL_law_1088 : decode cL_law 1088 = .ok (.iload_n 3, 1) := by decide +kernel
theorem dL_law_1089 : decode cL_law 1089 = .ok (.iconst 2, 1) := by decide +kernel
theorem dL_law_1090 : decode cL_law 1090 = .ok (.iadd, 1) := by decide +kernel
theorem dL_law_1091 : decode cL_law 1091 = .ok (.iaload, 1) := by decide +kernel
theorem dL_law_1092 : decode cL_law 1092 = .ok (.aload_n 0, 1) := by decide +kernel
theorem dL_law_1093 : decode cL_law 1093 = .ok (.iload_n 3, 1) := by decide +kernel
theorem dL_law_1094 : decode cL_law 1094 = .ok (.iconst 3, 1) := by decide +kernel
theorem dL_law_1095 : decode cL_law 1095 = .ok (.iadd, 1) := by decide +kernel
theorem dL_law_1096 : decode cL_law 1096 = .ok (.iaload, 1) := by decide +kernel
theorem dL_law_1097 : decode cL_law 1097 = .ok (.invokevirtual 137, 3) := by decide +kernel
theorem dL_law_1100 : decode cL_law 1100 = .ok (.aload_n 2, 1) := by decide +kernel
theorem dL_law_1101 : decode cL_law 1101 = .ok (.aload_n 0, 1) := by decide +kernel
theorem dL_law_1102 : decode cL_law 1102 = .ok (.iload_n 3, 1) := by decide +kernel
theorem dL_law_1103 : decode cL_law 1103 = .ok (.iconst 1, 1) := by decide +kernel
theorem dL_law_1104 : decode cL_law 1104 = .ok (.iadd, 1) := by decide +kernel
theorem dL_law_1105 : decode cL_law 1105 = .ok (.iaload, 1) := by decide +kernel
theorem dL_law_1106 : decode cL_law 1106 = .ok (.aload_n 0, 1) := by decide +kernel
theorem dL_law_1107 : decode cL_law 1107 = .ok (.iload_n 3, 1) := by decide +kernel
theorem dL_law_1108 : decode cL_law 1108 = .ok (.iconst 2, 1) := by decide +kernel
theorem dL_law_1109 : decode cL_law 1109 = .ok (.iadd, 1) := by decide +kernel
theorem dL_law_1110 : decode cL_law 1110 = .ok (.iaload, 1) := by decide +kernel
theorem dL_law_1111 : decode cL_law 1111 = .ok (.aload_n 0, 1) := by decide +kernel
theorem dL_law_1112 : decode cL_law 1112 = .ok (.iload_n 3, 1) := by decide +kernel
theorem dL_law_1113 : decode cL_law 1113 = .ok (.iconst 3, 1) := by decide +kernel
theorem dL_law_1114 : decode cL_law 1114 = .ok (.iadd, 1) := by decide +kernel
theorem dL_law_1115 : decode cL_law 1115 = .ok (.iaload, 1) := by decide +kernel
theorem dL_law_1116 : decode cL_law 1116 = .ok (.invokevirtual 140, 3) := by decide +kernel
theorem dL_law_1119 : decode cL_law 1119 = .ok (.if_icmp .eq 330, 3) := by decide +kernel
theorem dL_law_1122 : decode cL_law 1122 = .ok (.iconst 0, 1) := by decide +kernel
theorem dL_law_1123 : decode cL_law 1123 = .ok (.ireturn, 1) := by decide +kernel
theorem dL_law_1124 : decode cL_law 1124 = .ok (.aload_n 1, 1) := by decide +kernel
theorem dL_law_1125 : decode cL_law 1125 = .ok (.aload_n 0, 1) := by decide +kernel
theorem dL_law_1126 : decode cL_law 1126 = .ok (.iload_n 3, 1) := by decide +kernel
theorem dL_law_1127 : decode cL_law 1127 = .ok (.iconst 1, 1) := by decide +kernel
theorem dL_law_1128 : decode cL_law 1128 = .ok (.iadd, 1) := by decide +kernel
theorem dL_law_1129 : decode cL_law 1129 = .ok (.iaload, 1) := by decide +kernel
theorem dL_law_1130 : decode cL_law 1130 = .ok (.invokevirtual 141, 3) := by decide +kernel
theorem dL_law_1133 : decode cL_law 1133 = .ok (.aload_n 2, 1) := by decide +kernel
theorem dL_law_1134 : decode cL_law 1134 = .ok (.aload_n 0, 1) := by decide +kernel
theorem dL_law_1135 : decode cL_law 1135 = .ok (.iload_n 3, 1) := by decide +kernel
theorem dL_law_1136 : decode cL_law 1136 = .ok (.iconst 1, 1) := by decide +kernel
theorem dL_law_1137 : decode cL_law 1137 = .ok (.iadd, 1) := by decide +kernel
theorem dL_law_1138 : decode cL_law 1138 = .ok (.iaload, 1) := by decide +kernel
theorem dL_law_1139 : decode cL_law 1139 = .ok (.invokevirtual 144, 3) := by decide +kernel
theorem dL_law_1142 : decode cL_law 1142 = .ok (.if_icmp .eq 307, 3) := by decide +kernel
theorem dL_law_1145 : decode cL_law 1145 = .ok (.iconst 0, 1) := by decide +kernel
theorem dL_law_1146 : decode cL_law 1146 = .ok (.ireturn, 1) := by decide +kernel
theorem dL_law_1147 : decode cL_law 1147 = .ok (.aload_n 1, 1) := by decide +kernel
theorem dL_law_1148 : decode cL_law 1148 = .ok (.aload_n 0, 1) := by decide +kernel
theorem dL_law_1149 : decode cL_law 1149 = .ok (.iload_n 3, 1) := by decide +kernel
theorem dL_law_1150 : decode cL_law 1150 = .ok (.iconst 1, 1) := by decide +kernel
theorem dL_law_1151 : decode cL_law 1151 = .ok (.iadd, 1) := by decide +kernel
theorem dL_law_1152 : decode cL_law 1152 = .ok (.iaload, 1) := by decide +kernel
theorem dL_law_1153 : decode cL_law 1153 = .ok (.aload_n 0, 1) := by decide +kernel
theorem dL_law_1154 : decode cL_law 1154 = .ok (.iload_n 3, 1) := by decide +kernel
theorem dL_law_1155 : decode cL_law 1155 = .ok (.iconst 2, 1) := by decide +kernel
theorem dL_law_1156 : decode cL_law 1156 = .ok (.iadd, 1) := by decide +kernel
theorem dL_law_1157 : decode cL_law 1157 = .ok (.iaload, 1) := by decide +kernel
theorem dL_law_1158 : decode cL_law 1158 = .ok (.invokevirtual 145, 3) := by decide +kernel
theorem dL_law_1161 : decode cL_law 1161 = .ok (.aload_n 2, 1) := by decide +kernel
theorem dL_law_1162 : decode cL_law 1162 = .ok (.aload_n 0, 1) := by decide +kernel
theorem dL_law_1163 : decode cL_law 1163 = .ok (.iload_n 3, 1) := by decide +kernel
theorem dL_law_1164 : decode cL_law 1164 = .ok (.iconst 1, 1) := by decide +kernel
theorem dL_law_1165 : decode cL_law 1165 = .ok (.iadd, 1) := by decide +kernel
theorem dL_law_1166 : decode cL_law 1166 = .ok (.iaload, 1) := by decide +kernel
theorem dL_law_1167 : decode cL_law 1167 = .ok (.aload_n 0, 1) := by decide +kernel
theorem dL_law_1168 : decode cL_law 1168 = .ok (.iload_n 3, 1) := by decide +kernel
theorem dL_law_1169 : decode cL_law 1169 = .ok (.iconst 2, 1) := by decide +kernel
theorem dL_law_1170 : decode cL_law 1170 = .ok (.iadd, 1) := by decide +kernel
theorem dL_law_1171 : decode cL_law 1171 = .ok (.iaload, 1) := by decide +kernel
theorem dL_law_1172 : decode cL_law 1172 = .ok (.invokevirtual 148, 3) := by decide +kernel
theorem dL_law_1175 : decode cL_law 1175 = .ok (.if_icmp .eq 274, 3) := by decide +kernel
theorem dL_law_1178 : decode cL_law 1178 = .ok (.iconst 0, 1) := by decide +kernel
theorem dL_law_1179 : decode cL_law 1179 = .ok (.ireturn, 1) := by decide +kernel
theorem dL_law_1180 : decode cL_law 1180 = .ok (.aload_n 1, 1) := by decide +kernel
theorem dL_law_1181 : decode cL_law 1181 = .ok (.aload_n 0, 1) := by decide +kernel
theorem dL_law_1182 : decode cL_law 1182 = .ok (.iload_n 3, 1) := by decide +kernel
theorem dL_law_1183 : decode cL_law 1183 = .ok (.iconst 1, 1) := by decide +kernel
theorem dL_law_1184 : decode cL_law 1184 = .ok (.iadd, 1) := by decide +kernel
theorem dL_law_1185 : decode cL_law 1185 = .ok (.iaload, 1) := by decide +kernel
theorem dL_law_1186 : decode cL_law 1186 = .ok (.aload_n 0, 1) := by decide +kernel
theorem dL_law_1187 : decode cL_law 1187 = .ok (.iload_n 3, 1) := by decide +kernel
theorem dL_law_1188 : decode cL_law 1188 = .ok (.iconst 2, 1) := by decide +kernel
theorem dL_law_1189 : decode cL_law 1189 = .ok (.iadd, 1) := by decide +kernel
theorem dL_law_1190 : decode cL_law 1190 = .ok (.iaload, 1) := by decide +kernel
theorem dL_law_1191 : decode cL_law 1191 = .ok (.aload_n 0, 1) := by decide +kernel
theorem dL_law_1192 : decode cL_law 1192 = .ok (.iload_n 3, 1) := by decide +kernel
theorem dL_law_1193 : decode cL_law 1193 = .ok (.iconst 3, 1) := by decide +kernel
theorem dL_law_1194 : decode cL_law 1194 = .ok (.iadd, 1) := by decide +kernel
theorem dL_law_1195 : decode cL_law 1195 = .ok (.iaload, 1) := by decide +kernel
theorem dL_law_1196 : decode cL_law 1196 = .ok (.invokevirtual 149, 3) := by decide +kernel
theorem dL_law_1199 : decode cL_law 1199 = .ok (.aload_n 2, 1) := by decide +kernel
theorem dL_law_1200 : decode cL_law 1200 = .ok (.aload_n 0, 1) := by decide +kernel
theorem dL_law_1201 : decode cL_law 1201 = .ok (.iload_n 3, 1) := by decide +kernel
theorem dL_law_1202 : decode cL_law 1202 = .ok (.iconst 1, 1) := by decide +kernel
theorem dL_law_1203 : decode cL_law 1203 = .ok (.iadd, 1) := by decide +kernel
theorem dL_law_1204 : decode cL_law 1204 = .ok (.iaload, 1) := by decide +kernel
theorem dL_law_1205 : decode cL_law 1205 = .ok (.aload_n 0, 1) := by decide +kernel
theorem dL_law_1206 : decode cL_law 1206 = .ok (.iload_n 3, 1) := by decide +kernel
theorem dL_law_1207 : decode cL_law 1207 = .ok (.iconst 2, 1) := by decide +kernel
theorem dL_law_1208 : decode cL_law 1208 = .ok (.iadd, 1) := by decide +kernel
theorem dL_law_1209 : decode cL_law 1209 = .ok (.iaload, 1) := by decide +kernel
theorem dL_law_1210 : decode cL_law 1210 = .ok (.aload_n 0, 1) := by decide +kernel
theorem dL_law_1211 : decode cL_law 1211 = .ok (.iload_n 3, 1) := by decide +kernel
theorem dL_law_1212 : decode cL_law 1212 = .ok (.iconst 3, 1) := by decide +kernel
theorem dL_law_1213 : decode cL_law 1213 = .ok (.iadd, 1) := by decide +kernel
theorem dL_law_1214 : decode cL_law 1214 = .ok (.iaload, 1) := by decide +kernel
theorem dL_law_1215 : decode cL_law 1215 = .ok (.invokevirtual 152, 3) := by decide +kernel
theorem dL_law_1218 : decode cL_law 1218 = .ok (.if_icmp .eq 231, 3) := by decide +kernel
theorem dL_law_1221 : decode cL_law 1221 = .ok (.iconst 0, 1) := by decide +kernel
theorem dL_law_1222 : decode cL_law 1222 = .ok (.ireturn, 1) := by decide +kernel
theorem dL_law_1223 : decode cL_law 1223 = .ok (.aload_n 1, 1) := by decide +kernel
theorem dL_law_1224 : decode cL_law 1224 = .ok (.aload_n 0, 1) := by decide +kernel
theorem dL_law_1225 : decode cL_law 1225 = .ok (.iload_n 3, 1) := by decide +kernel
theorem dL_law_1226 : decode cL_law 1226 = .ok (.iconst 1, 1) := by decide +kernel
theorem dL_law_1227 : decode cL_law 1227 = .ok (.iadd, 1) := by decide +kernel
theorem dL_law_1228 : decode cL_law 1228 = .ok (.iaload, 1) := by decide +kernel
theorem dL_law_1229 : decode cL_law 1229 = .ok (.aload_n 0, 1) := by decide +kernel
theorem dL_law_1230 : decode cL_law 1230 = .ok (.iload_n 3, 1) := by decide +kernel
theorem dL_law_1231 : decode cL_law 1231 = .ok (.iconst 2, 1) := by decide +kernel
theorem dL_law_1232 : decode cL_law 1232 = .ok (.iadd, 1) := by decide +kernel
theorem dL_law_1233 : decode cL_law 1233 = .ok (.iaload, 1) := by decide +kernel
theorem dL_law_1234 : decode cL_law 1234 = .ok (.aload_n 0, 1) := by decide +kernel
theorem dL_law_1235 : decode cL_law 1235 = .ok (.iload_n 3, 1) := by decide +kernel
theorem dL_law_1236 : decode cL_law 1236 = .ok (.iconst 3, 1) := by decide +kernel
theorem dL_law_1237 : decode cL_law 1237 = .ok (.iadd, 1) := by decide +kernel
theorem dL_law_1238 : decode cL_law 1238 = .ok (.iaload, 1) := by decide +kernel
theorem dL_law_1239 : decode cL_law 1239 = .ok (.i2l, 1) := by decide +kernel
theorem dL_law_1240 : decode cL_law 1240 = .ok (.bipush 32, 2) := by decide +kernel
theorem dL_law_1242 : decode cL_law 1242 = .ok (.lshl, 1) := by decide +kernel
theorem dL_law_1243 : decode cL_law 1243 = .ok (.aload_n 0, 1) := by decide +kernel
theorem dL_law_1244 : decode cL_law 1244 = .ok (.iload_n 3, 1) := by decide +kernel
theorem dL_law_1245 : decode cL_law 1245 = .ok (.iconst 4, 1) := by decide +kernel
theorem dL_law_1246 : decode cL_law 1246 = .ok (.iadd, 1) := by decide +kernel
theorem dL_law_1247 : decode cL_law 1247 = .ok (.iaload, 1) := by decide +kernel
theorem dL_law_1248 : decode cL_law 1248 = .ok (.i2l, 1) := by decide +kernel
theorem dL_law_1249 : decode cL_law 1249 = .ok (.ldc2_w 153, 3) := by decide +kernel
theorem dL_law_1252 : decode cL_law 1252 = .ok (.land, 1) := by decide +kernel
theorem dL_law_1253 : decode cL_law 1253 = .ok (.lor, 1) := by decide +kernel
theorem dL_law_1254 : decode cL_law 1254 = .ok (.invokevirtual 155, 3) := by decide +kernel
theorem dL_law_1257 : decode cL_law 1257 = .ok (.aload_n 2, 1) := by decide +kernel
theorem dL_law_1258 : decode cL_law 1258 = .ok (.aload_n 0, 1) := by decide +kernel
theorem dL_law_1259 : decode cL_law 1259 = .ok (.iload_n 3, 1) := by decide +kernel
theorem dL_law_1260 : decode cL_law 1260 = .ok (.iconst 1, 1) := by decide +kernel
theorem dL_law_1261 : decode cL_law 1261 = .ok (.iadd, 1) := by decide +kernel
theorem dL_law_1262 : decode cL_law 1262 = .ok (.iaload, 1) := by decide +kernel
theorem dL_law_1263 : decode cL_law 1263 = .ok (.aload_n 0, 1) := by decide +kernel
theorem dL_law_1264 : decode cL_law 1264 = .ok (.iload_n 3, 1) := by decide +kernel
theorem dL_law_1265 : decode cL_law 1265 = .ok (.iconst 2, 1) := by decide +kernel
theorem dL_law_1266 : decode cL_law 1266 = .ok (.iadd, 1) := by decide +kernel
theorem dL_law_1267 : decode cL_law 1267 = .ok (.iaload, 1) := by decide +kernel
theorem dL_law_1268 : decode cL_law 1268 = .ok (.aload_n 0, 1) := by decide +kernel
theorem dL_law_1269 : decode cL_law 1269 = .ok (.iload_n 3, 1) := by decide +kernel
theorem dL_law_1270 : decode cL_law 1270 = .ok (.iconst 3, 1) := by decide +kernel
theorem dL_law_1271 : decode cL_law 1271 = .ok (.iadd, 1) := by decide +kernel
theorem dL_law_1272 : decode cL_law 1272 = .ok (.iaload, 1) := by decide +kernel
theorem dL_law_1273 : decode cL_law 1273 = .ok (.i2l, 1) := by decide +kernel
theorem dL_law_1274 : decode cL_law 1274 = .ok (.bipush 32, 2) := by decide +kernel
theorem dL_law_1276 : decode cL_law 1276 = .ok (.lshl, 1) := by decide +kernel
theorem dL_law_1277 : decode cL_law 1277 = .ok (.aload_n 0, 1) := by decide +kernel
theorem dL_law_1278 : decode cL_law 1278 = .ok (.iload_n 3, 1) := by decide +kernel
theorem dL_law_1279 : decode cL_law 1279 = .ok (.iconst 4, 1) := by decide +kernel
theorem dL_law_1280 : decode cL_law 1280 = .ok (.iadd, 1) := by decide +kernel
theorem dL_law_1281 : decode cL_law 1281 = .ok (.iaload, 1) := by decide +kernel
theorem dL_law_1282 : decode cL_law 1282 = .ok (.i2l, 1) := by decide +kernel
theorem dL_law_1283 : decode cL_law 1283 = .ok (.ldc2_w 153, 3) := by decide +kernel
theorem dL_law_1286 : decode cL_law 1286 = .ok (.land, 1) := by decide +kernel
theorem dL_law_1287 : decode cL_law 1287 = .ok (.lor, 1) := by decide +kernel
theorem dL_law_1288 : decode cL_law 1288 = .ok (.invokevirtual 159, 3) := by decide +kernel
theorem dL_law_1291 : decode cL_law 1291 = .ok (.if_icmp .eq 158, 3) := by decide +kernel
theorem dL_law_1294 : decode cL_law 1294 = .ok (.iconst 0, 1) := by decide +kernel
theorem dL_law_1295 : decode cL_law 1295 = .ok (.ireturn, 1) := by decide +kernel
theorem dL_law_1296 : decode cL_law 1296 = .ok (.aload_n 1, 1) := by decide +kernel
theorem dL_law_1297 : decode cL_law 1297 = .ok (.aload_n 0, 1) := by decide +kernel
theorem dL_law_1298 : decode cL_law 1298 = .ok (.iload_n 3, 1) := by decide +kernel
theorem dL_law_1299 : decode cL_law 1299 = .ok (.iconst 1, 1) := by decide +kernel
theorem dL_law_1300 : decode cL_law 1300 = .ok (.iadd, 1) := by decide +kernel
theorem dL_law_1301 : decode cL_law 1301 = .ok (.iaload, 1) := by decide +kernel
theorem dL_law_1302 : decode cL_law 1302 = .ok (.aload_n 0, 1) := by decide +kernel
theorem dL_law_1303 : decode cL_law 1303 = .ok (.iload_n 3, 1) := by decide +kernel
theorem dL_law_1304 : decode cL_law 1304 = .ok (.iconst 2, 1) := by decide +kernel
theorem dL_law_1305 : decode cL_law 1305 = .ok (.iadd, 1) := by decide +kernel
theorem dL_law_1306 : decode cL_law 1306 = .ok (.iaload, 1) := by decide +kernel
theorem dL_law_1307 : decode cL_law 1307 = .ok (.invokevirtual 160, 3) := by decide +kernel
theorem dL_law_1310 : decode cL_law 1310 = .ok (.aload_n 2, 1) := by decide +kernel
theorem dL_law_1311 : decode cL_law 1311 = .ok (.aload_n 0, 1) := by decide +kernel
theorem dL_law_1312 : decode cL_law 1312 = .ok (.iload_n 3, 1) := by decide +kernel
theorem dL_law_1313 : decode cL_law 1313 = .ok (.iconst 1, 1) := by decide +kernel
theorem dL_law_1314 : decode cL_law 1314 = .ok (.iadd, 1) := by decide +kernel
theorem dL_law_1315 : decode cL_law 1315 = .ok (.iaload, 1) := by decide +kernel
theorem dL_law_1316 : decode cL_law 1316 = .ok (.aload_n 0, 1) := by decide +kernel
theorem dL_law_1317 : decode cL_law 1317 = .ok (.iload_n 3, 1) := by decide +kernel
theorem dL_law_1318 : decode cL_law 1318 = .ok (.iconst 2, 1) := by decide +kernel
theorem dL_law_1319 : decode cL_law 1319 = .ok (.iadd, 1) := by decide +kernel
theorem dL_law_1320 : decode cL_law 1320 = .ok (.iaload, 1) := by decide +kernel
theorem dL_law_1321 : decode cL_law 1321 = .ok (.invokevirtual 163, 3) := by decide +kernel
theorem dL_law_1324 : decode cL_law 1324 = .ok (.lcmp, 1) := by decide +kernel
theorem dL_law_1325 : decode cL_law 1325 = .ok (.ifCond .eq 124, 3) := by decide +kernel
theorem dL_law_1328 : decode cL_law 1328 = .ok (.iconst 0, 1) := by decide +kernel
theorem dL_law_1329 : decode cL_law 1329 = .ok (.ireturn, 1) := by decide +kernel
theorem dL_law_1330 : decode cL_law 1330 = .ok (.aload_n 1, 1) := by decide +kernel
theorem dL_law_1331 : decode cL_law 1331 = .ok (.aload_n 0, 1) := by decide +kernel
theorem dL_law_1332 : decode cL_law 1332 = .ok (.iload_n 3, 1) := by decide +kernel
theorem dL_law_1333 : decode cL_law 1333 = .ok (.iconst 1, 1) := by decide +kernel
theorem dL_law_1334 : decode cL_law 1334 = .ok (.iadd, 1) := by decide +kernel
theorem dL_law_1335 : decode cL_law 1335 = .ok (.iaload, 1) := by decide +kernel
theorem dL_law_1336 : decode cL_law 1336 = .ok (.aload_n 0, 1) := by decide +kernel
theorem dL_law_1337 : decode cL_law 1337 = .ok (.iload_n 3, 1) := by decide +kernel
theorem dL_law_1338 : decode cL_law 1338 = .ok (.iconst 2, 1) := by decide +kernel
theorem dL_law_1339 : decode cL_law 1339 = .ok (.iadd, 1) := by decide +kernel
theorem dL_law_1340 : decode cL_law 1340 = .ok (.iaload, 1) := by decide +kernel
theorem dL_law_1341 : decode cL_law 1341 = .ok (.aload_n 0, 1) := by decide +kernel
theorem dL_law_1342 : decode cL_law 1342 = .ok (.iload_n 3, 1) := by decide +kernel
theorem dL_law_1343 : decode cL_law 1343 = .ok (.iconst 3, 1) := by decide +kernel
theorem dL_law_1344 : decode cL_law 1344 = .ok (.iadd, 1) := by decide +kernel
theorem dL_law_1345 : decode cL_law 1345 = .ok (.iaload, 1) := by decide +kernel
theorem dL_law_1346 : decode cL_law 1346 = .ok (.aload_n 0, 1) := by decide +kernel
theorem dL_law_1347 : decode cL_law 1347 = .ok (.iload_n 3, 1) := by decide +kernel
theorem dL_law_1348 : decode cL_law 1348 = .ok (.iconst 4, 1) := by decide +kernel
theorem dL_law_1349 : decode cL_law 1349 = .ok (.iadd, 1) := by decide +kernel
theorem dL_law_1350 : decode cL_law 1350 = .ok (.iaload, 1) := by decide +kernel
theorem dL_law_1351 : decode cL_law 1351 = .ok (.aload_n 0, 1) := by decide +kernel
theorem dL_law_1352 : decode cL_law 1352 = .ok (.iload_n 3, 1) := by decide +kernel
theorem dL_law_1353 : decode cL_law 1353 = .ok (.iconst 5, 1) := by decide +kernel
theorem dL_law_1354 : decode cL_law 1354 = .ok (.iadd, 1) := by decide +kernel
theorem dL_law_1355 : decode cL_law 1355 = .ok (.iaload, 1) := by decide +kernel
theorem dL_law_1356 : decode cL_law 1356 = .ok (.invokevirtual 164, 3) := by decide +kernel
theorem dL_law_1359 : decode cL_law 1359 = .ok (.aload_n 2, 1) := by decide +kernel
theorem dL_law_1360 : decode cL_law 1360 = .ok (.aload_n 0, 1) := by decide +kernel
theorem dL_law_1361 : decode cL_law 1361 = .ok (.iload_n 3, 1) := by decide +kernel
theorem dL_law_1362 : decode cL_law 1362 = .ok (.iconst 1, 1) := by decide +kernel
theorem dL_law_1363 : decode cL_law 1363 = .ok (.iadd, 1) := by decide +kernel
theorem dL_law_1364 : decode cL_law 1364 = .ok (.iaload, 1) := by decide +kernel
theorem dL_law_1365 : decode cL_law 1365 = .ok (.aload_n 0, 1) := by decide +kernel
theorem dL_law_1366 : decode cL_law 1366 = .ok (.iload_n 3, 1) := by decide +kernel
theorem dL_law_1367 : decode cL_law 1367 = .ok (.iconst 2, 1) := by decide +kernel
theorem dL_law_1368 : decode cL_law 1368 = .ok (.iadd, 1) := by decide +kernel
theorem dL_law_1369 : decode cL_law 1369 = .ok (.iaload, 1) := by decide +kernel
theorem dL_law_1370 : decode cL_law 1370 = .ok (.aload_n 0, 1) := by decide +kernel
theorem dL_law_1371 : decode cL_law 1371 = .ok (.iload_n 3, 1) := by decide +kernel
theorem dL_law_1372 : decode cL_law 1372 = .ok (.iconst 3, 1) := by decide +kernel
theorem dL_law_1373 : decode cL_law 1373 = .ok (.iadd, 1) := by decide +kernel
theorem dL_law_1374 : decode cL_law 1374 = .ok (.iaload, 1) := by decide +kernel
theorem dL_law_1375 : decode cL_law 1375 = .ok (.aload_n 0, 1) := by decide +kernel
theorem dL_law_1376 : decode cL_law 1376 = .ok (.iload_n 3, 1) := by decide +kernel
theorem dL_law_1377 : decode cL_law 1377 = .ok (.iconst 4, 1) := by decide +kernel
theorem dL_law_1378 : decode cL_law 1378 = .ok (.iadd, 1) := by decide +kernel
theorem dL_law_1379 : decode cL_law 1379 = .ok (.iaload, 1) := by decide +kernel
theorem dL_law_1380 : decode cL_law 1380 = .ok (.aload_n 0, 1) := by decide +kernel
theorem dL_law_1381 : decode cL_law 1381 = .ok (.iload_n 3, 1) := by decide +kernel
theorem dL_law_1382 : decode cL_law 1382 = .ok (.iconst 5, 1) := by decide +kernel
theorem dL_law_1383 : decode cL_law 1383 = .ok (.iadd, 1) := by decide +kernel
theorem dL_law_1384 : decode cL_law 1384 = .ok (.iaload, 1) := by decide +kernel
theorem dL_law_1385 : decode cL_law 1385 = .ok (.invokevirtual 168, 3) := by decide +kernel
theorem dL_law_1388 : decode cL_law 1388 = .ok (.if_icmp .eq 61, 3) := by decide +kernel
theorem dL_law_1391 : decode cL_law 1391 = .ok (.iconst 0, 1) := by decide +kernel
theorem dL_law_1392 : decode cL_law 1392 = .ok (.ireturn, 1) := by decide +kernel
theorem dL_law_1393 : decode cL_law 1393 = .ok (.aload_n 1, 1) := by decide +kernel
theorem dL_law_1394 : decode cL_law 1394 = .ok (.aload_n 0, 1) := by decide +kernel
theorem dL_law_1395 : decode cL_law 1395 = .ok (.iload_n 3, 1) := by decide +kernel
theorem dL_law_1396 : decode cL_law 1396 = .ok (.iconst 1, 1) := by decide +kernel
theorem dL_law_1397 : decode cL_law 1397 = .ok (.iadd, 1) := by decide +kernel
theorem dL_law_1398 : decode cL_law 1398 = .ok (.iaload, 1) := by decide +kernel
theorem dL_law_1399 : decode cL_law 1399 = .ok (.aload_n 0, 1) := by decide +kernel
theorem dL_law_1400 : decode cL_law 1400 = .ok (.iload_n 3, 1) := by decide +kernel
theorem dL_law_1401 : decode cL_law 1401 = .ok (.iconst 2, 1) := by decide +kernel
theorem dL_law_1402 : decode cL_law 1402 = .ok (.iadd, 1) := by decide +kernel
theorem dL_law_1403 : decode cL_law 1403 = .ok (.iaload, 1) := by decide +kernel
theorem dL_law_1404 : decode cL_law 1404 = .ok (.invokevirtual 169, 3) := by decide +kernel
theorem dL_law_1407 : decode cL_law 1407 = .ok (.aload_n 2, 1) := by decide +kernel
theorem dL_law_1408 : decode cL_law 1408 = .ok (.aload_n 0, 1) := by decide +kernel
theorem dL_law_1409 : decode cL_law 1409 = .ok (.iload_n 3, 1) := by decide +kernel
theorem dL_law_1410 : decode cL_law 1410 = .ok (.iconst 1, 1) := by decide +kernel
theorem dL_law_1411 : decode cL_law 1411 = .ok (.iadd, 1) := by decide +kernel
theorem dL_law_1412 : decode cL_law 1412 = .ok (.iaload, 1) := by decide +kernel
theorem dL_law_1413 : decode cL_law 1413 = .ok (.aload_n 0, 1) := by decide +kernel
theorem dL_law_1414 : decode cL_law 1414 = .ok (.iload_n 3, 1) := by decide +kernel
theorem dL_law_1415 : decode cL_law 1415 = .ok (.iconst 2, 1) := by decide +kernel
theorem dL_law_1416 : decode cL_law 1416 = .ok (.iadd, 1) := by decide +kernel
theorem dL_law_1417 : decode cL_law 1417 = .ok (.iaload, 1) := by decide +kernel
theorem dL_law_1418 : decode cL_law 1418 = .ok (.invokevirtual 172, 3) := by decide +kernel
theorem dL_law_1421 : decode cL_law 1421 = .ok (.if_icmp .eq 28, 3) := by decide +kernel
theorem dL_law_1424 : decode cL_law 1424 = .ok (.iconst 0, 1) := by decide +kernel
theorem dL_law_1425 : decode cL_law 1425 = .ok (.ireturn, 1) := by decide +kernel
theorem dL_law_1426 : decode cL_law 1426 = .ok (.aload_n 1, 1) := by decide +kernel
theorem dL_law_1427 : decode cL_law 1427 = .ok (.aload_n 0, 1) := by decide +kernel
theorem dL_law_1428 : decode cL_law 1428 = .ok (.iload_n 3, 1) := by decide +kernel
theorem dL_law_1429 : decode cL_law 1429 = .ok (.iconst 1, 1) := by decide +kernel
theorem dL_law_1430 : decode cL_law 1430 = .ok (.iadd, 1) := by decide +kernel
theorem dL_law_1431 : decode cL_law 1431 = .ok (.iaload, 1) := by decide +kernel
theorem dL_law_1432 : decode cL_law 1432 = .ok (.invokevirtual 173, 3) := by decide +kernel
theorem dL_law_1435 : decode cL_law 1435 = .ok (.aload_n 2, 1) := by decide +kernel
theorem dL_law_1436 : decode cL_law 1436 = .ok (.aload_n 0, 1) := by decide +kernel
theorem dL_law_1437 : decode cL_law 1437 = .ok (.iload_n 3, 1) := by decide +kernel
theorem dL_law_1438 : decode cL_law 1438 = .ok (.iconst 1, 1) := by decide +kernel
theorem dL_law_1439 : decode cL_law 1439 = .ok (.iadd, 1) := by decide +kernel
theorem dL_law_1440 : decode cL_law 1440 = .ok (.iaload, 1) := by decide +kernel
theorem dL_law_1441 : decode cL_law 1441 = .ok (.invokevirtual 176, 3) := by decide +kernel
theorem dL_law_1444 : decode cL_law 1444 = .ok (.if_icmp .eq 5, 3) := by decide +kernel
theorem dL_law_1447 : decode cL_law 1447 = .ok (.iconst 0, 1) := by decide +kernel
theorem dL_law_1448 : decode cL_law 1448 = .ok (.ireturn, 1) := by decide +kernel
theorem dL_law_1449 : decode cL_law 1449 = .ok (.iinc 3 6, 3) := by decide +kernel
theorem dL_law_1452 : decode cL_law 1452 = .ok (.goto (-1434), 3) := by decide +kernel
theorem dL_law_1455 : decode cL_law 1455 = .ok (.iconst 1, 1) := by decide +kernel
theorem dL_law_1456 : decode cL_law 1456 = .ok (.ireturn, 1) := by decide +kernel
