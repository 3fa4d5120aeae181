theorem dX3_settle_0 : decode cX3_settle 0 = .ok (.aload_n 0, 1) := by decide +kernel
theorem dX3_settle_1 : decode cX3_settle 1 = .ok (.dup, 1) := by decide +kernel
theorem dX3_settle_2 : decode cX3_settle 2 = .ok (.getfield 40, 3) := by decide +kernel
theorem dX3_settle_5 : decode cX3_settle 5 = .ok (.iload_n 1, 1) := by decide +kernel
theorem dX3_settle_6 : decode cX3_settle 6 = .ok (.invokestatic 193, 3) := by decide +kernel
theorem dX3_settle_9 : decode cX3_settle 9 = .ok (.ior, 1) := by decide +kernel
theorem dX3_settle_10 : decode cX3_settle 10 = .ok (.putfield 40, 3) := by decide +kernel
theorem dX3_settle_13 : decode cX3_settle 13 = .ok (.iconst 0, 1) := by decide +kernel
theorem dX3_settle_14 : decode cX3_settle 14 = .ok (.istore_n 3, 1) := by decide +kernel
theorem dX3_settle_15 : decode cX3_settle 15 = .ok (.iload_n 3, 1) := by decide +kernel
theorem dX3_settle_16 : decode cX3_settle 16 = .ok (.iconst 3, 1) := by decide +kernel
theorem dX3_settle_17 : decode cX3_settle 17 = .ok (.if_icmp .ge 47, 3) := by decide +kernel
theorem dX3_settle_20 : decode cX3_settle 20 = .ok (.aload_n 0, 1) := by decide +kernel
theorem dX3_settle_21 : decode cX3_settle 21 = .ok (.iload_n 3, 1) := by decide +kernel
theorem dX3_settle_22 : decode cX3_settle 22 = .ok (.invokevirtual 120, 3) := by decide +kernel
theorem dX3_settle_25 : decode cX3_settle 25 = .ok (.getfield 92, 3) := by decide +kernel
theorem dX3_settle_28 : decode cX3_settle 28 = .ok (.iload_n 1, 1) := by decide +kernel
theorem dX3_settle_29 : decode cX3_settle 29 = .ok (.aload_n 0, 1) := by decide +kernel
theorem dX3_settle_30 : decode cX3_settle 30 = .ok (.getfield 10, 3) := by decide +kernel
theorem dX3_settle_33 : decode cX3_settle 33 = .ok (.iload_n 2, 1) := by decide +kernel
theorem dX3_settle_34 : decode cX3_settle 34 = .ok (.iload_n 3, 1) := by decide +kernel
theorem dX3_settle_35 : decode cX3_settle 35 = .ok (.invokevirtual 260, 3) := by decide +kernel
theorem dX3_settle_38 : decode cX3_settle 38 = .ok (.iastore, 1) := by decide +kernel
theorem dX3_settle_39 : decode cX3_settle 39 = .ok (.aload_n 0, 1) := by decide +kernel
theorem dX3_settle_40 : decode cX3_settle 40 = .ok (.iload_n 3, 1) := by decide +kernel
theorem dX3_settle_41 : decode cX3_settle 41 = .ok (.invokevirtual 120, 3) := by decide +kernel
theorem dX3_settle_44 : decode cX3_settle 44 = .ok (.getfield 95, 3) := by decide +kernel
theorem dX3_settle_47 : decode cX3_settle 47 = .ok (.iload_n 1, 1) := by decide +kernel
theorem dX3_settle_48 : decode cX3_settle 48 = .ok (.aload_n 0, 1) := by decide +kernel
theorem dX3_settle_49 : decode cX3_settle 49 = .ok (.getfield 10, 3) := by decide +kernel
theorem dX3_settle_52 : decode cX3_settle 52 = .ok (.iload_n 2, 1) := by decide +kernel
theorem dX3_settle_53 : decode cX3_settle 53 = .ok (.iload_n 3, 1) := by decide +kernel
theorem dX3_settle_54 : decode cX3_settle 54 = .ok (.invokevirtual 263, 3) := by decide +kernel
theorem dX3_settle_57 : decode cX3_settle 57 = .ok (.iastore, 1) := by decide +kernel
theorem dX3_settle_58 : decode cX3_settle 58 = .ok (.iinc 3 1, 3) := by decide +kernel
theorem dX3_settle_61 : decode cX3_settle 61 = .ok (.goto (-46), 3) := by decide +kernel
theorem dX3_settle_64 : decode cX3_settle 64 = .ok (.return_, 1) := by decide +kernel
theorem dX3_rearrange_0 : decode cX3_rearrange 0 = .ok (.iconst 0, 1) := by decide +kernel
theorem dX3_rearrange_1 : decode cX3_rearrange 1 = .ok (.istore_n 1, 1) := by decide +kernel
theorem dX3_rearrange_2 : decode cX3_rearrange 2 = .ok (.iload_n 1, 1) := by decide +kernel
theorem dX3_rearrange_3 : decode cX3_rearrange 3 = .ok (.iconst 3, 1) := by decide +kernel
theorem dX3_rearrange_4 : decode cX3_rearrange 4 = .ok (.if_icmp .ge 25, 3) := by decide +kernel
theorem dX3_rearrange_7 : decode cX3_rearrange 7 = .ok (.aload_n 0, 1) := by decide +kernel
theorem dX3_rearrange_8 : decode cX3_rearrange 8 = .ok (.iload_n 1, 1) := by decide +kernel
theorem dX3_rearrange_9 : decode cX3_rearrange 9 = .ok (.invokevirtual 120, 3) := by decide +kernel
theorem dX3_rearrange_12 : decode cX3_rearrange 12 = .ok (.aload_n 0, 1) := by decide +kernel
theorem dX3_rearrange_13 : decode cX3_rearrange 13 = .ok (.getfield 40, 3) := by decide +kernel
theorem dX3_rearrange_16 : decode cX3_rearrange 16 = .ok (.aload_n 0, 1) := by decide +kernel
theorem dX3_rearrange_17 : decode cX3_rearrange 17 = .ok (.getfield 44, 3) := by decide +kernel
theorem dX3_rearrange_20 : decode cX3_rearrange 20 = .ok (.invokevirtual 266, 3) := by decide +kernel
theorem dX3_rearrange_23 : decode cX3_rearrange 23 = .ok (.iinc 1 1, 3) := by decide +kernel
theorem dX3_rearrange_26 : decode cX3_rearrange 26 = .ok (.goto (-24), 3) := by decide +kernel
theorem dX3_rearrange_29 : decode cX3_rearrange 29 = .ok (.aload_n 0, 1) := by decide +kernel
theorem dX3_rearrange_30 : decode cX3_rearrange 30 = .ok (.invokevirtual 102, 3) := by decide +kernel
theorem dX3_rearrange_33 : decode cX3_rearrange 33 = .ok (.return_, 1) := by decide +kernel
theorem dX3_layOn_0 : decode cX3_layOn 0 = .ok (.aload_n 0, 1) := by decide +kernel
theorem dX3_layOn_1 : decode cX3_layOn 1 = .ok (.iload_n 1, 1) := by decide +kernel
theorem dX3_layOn_2 : decode cX3_layOn 2 = .ok (.invokevirtual 120, 3) := by decide +kernel
theorem dX3_layOn_5 : decode cX3_layOn 5 = .ok (.astore 5, 2) := by decide +kernel
theorem dX3_layOn_7 : decode cX3_layOn 7 = .ok (.iload_n 3, 1) := by decide +kernel
theorem dX3_layOn_8 : decode cX3_layOn 8 = .ok (.aload 5, 2) := by decide +kernel
theorem dX3_layOn_10 : decode cX3_layOn 10 = .ok (.getfield 92, 3) := by decide +kernel
theorem dX3_layOn_13 : decode cX3_layOn 13 = .ok (.iload_n 2, 1) := by decide +kernel
theorem dX3_layOn_14 : decode cX3_layOn 14 = .ok (.iaload, 1) := by decide +kernel
theorem dX3_layOn_15 : decode cX3_layOn 15 = .ok (.if_icmp .le 41, 3) := by decide +kernel
theorem dX3_layOn_18 : decode cX3_layOn 18 = .ok (.aload 5, 2) := by decide +kernel
theorem dX3_layOn_20 : decode cX3_layOn 20 = .ok (.getfield 95, 3) := by decide +kernel
theorem dX3_layOn_23 : decode cX3_layOn 23 = .ok (.iload_n 2, 1) := by decide +kernel
theorem dX3_layOn_24 : decode cX3_layOn 24 = .ok (.iload 4, 2) := by decide +kernel
theorem dX3_layOn_26 : decode cX3_layOn 26 = .ok (.iastore, 1) := by decide +kernel
theorem dX3_layOn_27 : decode cX3_layOn 27 = .ok (.aload_n 0, 1) := by decide +kernel
theorem dX3_layOn_28 : decode cX3_layOn 28 = .ok (.iload_n 1, 1) := by decide +kernel
theorem dX3_layOn_29 : decode cX3_layOn 29 = .ok (.iload_n 2, 1) := by decide +kernel
theorem dX3_layOn_30 : decode cX3_layOn 30 = .ok (.invokestatic 270, 3) := by decide +kernel
theorem dX3_layOn_33 : decode cX3_layOn 33 = .ok (.invokevirtual 273, 3) := by decide +kernel
theorem dX3_layOn_36 : decode cX3_layOn 36 = .ok (.aload 5, 2) := by decide +kernel
theorem dX3_layOn_38 : decode cX3_layOn 38 = .ok (.getfield 92, 3) := by decide +kernel
theorem dX3_layOn_41 : decode cX3_layOn 41 = .ok (.iload_n 2, 1) := by decide +kernel
theorem dX3_layOn_42 : decode cX3_layOn 42 = .ok (.iload_n 3, 1) := by decide +kernel
theorem dX3_layOn_43 : decode cX3_layOn 43 = .ok (.iastore, 1) := by decide +kernel
theorem dX3_layOn_44 : decode cX3_layOn 44 = .ok (.aload_n 0, 1) := by decide +kernel
theorem dX3_layOn_45 : decode cX3_layOn 45 = .ok (.iload_n 1, 1) := by decide +kernel
theorem dX3_layOn_46 : decode cX3_layOn 46 = .ok (.iload_n 2, 1) := by decide +kernel
theorem dX3_layOn_47 : decode cX3_layOn 47 = .ok (.invokestatic 276, 3) := by decide +kernel
theorem dX3_layOn_50 : decode cX3_layOn 50 = .ok (.invokevirtual 273, 3) := by decide +kernel
theorem dX3_layOn_53 : decode cX3_layOn 53 = .ok (.goto 38, 3) := by decide +kernel
theorem dX3_layOn_56 : decode cX3_layOn 56 = .ok (.aload 5, 2) := by decide +kernel
theorem dX3_layOn_58 : decode cX3_layOn 58 = .ok (.getfield 92, 3) := by decide +kernel
theorem dX3_layOn_61 : decode cX3_layOn 61 = .ok (.iload_n 2, 1) := by decide +kernel
theorem dX3_layOn_62 : decode cX3_layOn 62 = .ok (.iload_n 3, 1) := by decide +kernel
theorem dX3_layOn_63 : decode cX3_layOn 63 = .ok (.iastore, 1) := by decide +kernel
theorem dX3_layOn_64 : decode cX3_layOn 64 = .ok (.aload_n 0, 1) := by decide +kernel
theorem dX3_layOn_65 : decode cX3_layOn 65 = .ok (.iload_n 1, 1) := by decide +kernel
theorem dX3_layOn_66 : decode cX3_layOn 66 = .ok (.iload_n 2, 1) := by decide +kernel
theorem dX3_layOn_67 : decode cX3_layOn 67 = .ok (.invokestatic 276, 3) := by decide +kernel
theorem dX3_layOn_70 : decode cX3_layOn 70 = .ok (.invokevirtual 273, 3) := by decide +kernel
theorem dX3_layOn_73 : decode cX3_layOn 73 = .ok (.aload 5, 2) := by decide +kernel
theorem dX3_layOn_75 : decode cX3_layOn 75 = .ok (.getfield 95, 3) := by decide +kernel
theorem dX3_layOn_78 : decode cX3_layOn 78 = .ok (.iload_n 2, 1) := by decide +kernel
theorem dX3_layOn_79 : decode cX3_layOn 79 = .ok (.iload 4, 2) := by decide +kernel
theorem dX3_layOn_81 : decode cX3_layOn 81 = .ok (.iastore, 1) := by decide +kernel
theorem dX3_layOn_82 : decode cX3_layOn 82 = .ok (.aload_n 0, 1) := by decide +kernel
theorem dX3_layOn_83 : decode cX3_layOn 83 = .ok (.iload_n 1, 1) := by decide +kernel
theorem dX3_layOn_84 : decode cX3_layOn 84 = .ok (.iload_n 2, 1) := by decide +kernel
theorem dX3_layOn_85 : decode cX3_layOn 85 = .ok (.invokestatic 270, 3) := by decide +kernel
theorem dX3_layOn_88 : decode cX3_layOn 88 = .ok (.invokevirtual 273, 3) := by decide +kernel
theorem dX3_layOn_91 : decode cX3_layOn 91 = .ok (.return_, 1) := by decide +kernel
theorem dX3_putRight_0 : decode cX3_putRight 0 = .ok (.aload_n 0, 1) := by decide +kernel
theorem dX3_putRight_1 : decode cX3_putRight 1 = .ok (.iload_n 1, 1) := by decide +kernel
theorem dX3_putRight_2 : decode cX3_putRight 2 = .ok (.invokevirtual 120, 3) := by decide +kernel
theorem dX3_putRight_5 : decode cX3_putRight 5 = .ok (.astore_n 3, 1) := by decide +kernel
theorem dX3_putRight_6 : decode cX3_putRight 6 = .ok (.aload_n 3, 1) := by decide +kernel
theorem dX3_putRight_7 : decode cX3_putRight 7 = .ok (.iload_n 2, 1) := by decide +kernel
theorem dX3_putRight_8 : decode cX3_putRight 8 = .ok (.invokevirtual 279, 3) := by decide +kernel
theorem dX3_putRight_11 : decode cX3_putRight 11 = .ok (.istore 4, 2) := by decide +kernel
theorem dX3_putRight_13 : decode cX3_putRight 13 = .ok (.aload_n 3, 1) := by decide +kernel
theorem dX3_putRight_14 : decode cX3_putRight 14 = .ok (.iload 4, 2) := by decide +kernel
theorem dX3_putRight_16 : decode cX3_putRight 16 = .ok (.invokevirtual 282, 3) := by decide +kernel
theorem dX3_putRight_19 : decode cX3_putRight 19 = .ok (.istore 5, 2) := by decide +kernel
theorem dX3_putRight_21 : decode cX3_putRight 21 = .ok (.iconst 0, 1) := by decide +kernel
theorem dX3_putRight_22 : decode cX3_putRight 22 = .ok (.istore 6, 2) := by decide +kernel
theorem dX3_putRight_24 : decode cX3_putRight 24 = .ok (.iload 6, 2) := by decide +kernel
theorem dX3_putRight_26 : decode cX3_putRight 26 = .ok (.bipush 24, 2) := by decide +kernel
theorem dX3_putRight_28 : decode cX3_putRight 28 = .ok (.if_icmp .ge 93, 3) := by decide +kernel
theorem dX3_putRight_31 : decode cX3_putRight 31 = .ok (.iload 5, 2) := by decide +kernel
theorem dX3_putRight_33 : decode cX3_putRight 33 = .ok (.ifCond .eq 88, 3) := by decide +kernel
theorem dX3_putRight_36 : decode cX3_putRight 36 = .ok (.aload_n 3, 1) := by decide +kernel
theorem dX3_putRight_37 : decode cX3_putRight 37 = .ok (.getfield 127, 3) := by decide +kernel
theorem dX3_putRight_40 : decode cX3_putRight 40 = .ok (.iload 4, 2) := by decide +kernel
theorem dX3_putRight_42 : decode cX3_putRight 42 = .ok (.iload 5, 2) := by decide +kernel
theorem dX3_putRight_44 : decode cX3_putRight 44 = .ok (.iadd, 1) := by decide +kernel
theorem dX3_putRight_45 : decode cX3_putRight 45 = .ok (.iaload, 1) := by decide +kernel
theorem dX3_putRight_46 : decode cX3_putRight 46 = .ok (.istore 7, 2) := by decide +kernel
theorem dX3_putRight_48 : decode cX3_putRight 48 = .ok (.aload_n 3, 1) := by decide +kernel
theorem dX3_putRight_49 : decode cX3_putRight 49 = .ok (.iload 5, 2) := by decide +kernel
theorem dX3_putRight_51 : decode cX3_putRight 51 = .ok (.ifCond .le 8, 3) := by decide +kernel
theorem dX3_putRight_54 : decode cX3_putRight 54 = .ok (.iload 4, 2) := by decide +kernel
theorem dX3_putRight_56 : decode cX3_putRight 56 = .ok (.goto 7, 3) := by decide +kernel
theorem dX3_putRight_59 : decode cX3_putRight 59 = .ok (.iload 4, 2) := by decide +kernel
theorem dX3_putRight_61 : decode cX3_putRight 61 = .ok (.iconst 1, 1) := by decide +kernel
theorem dX3_putRight_62 : decode cX3_putRight 62 = .ok (.isub, 1) := by decide +kernel
theorem dX3_putRight_63 : decode cX3_putRight 63 = .ok (.invokevirtual 285, 3) := by decide +kernel
theorem dX3_putRight_66 : decode cX3_putRight 66 = .ok (.aload_n 0, 1) := by decide +kernel
theorem dX3_putRight_67 : decode cX3_putRight 67 = .ok (.getfield 32, 3) := by decide +kernel
theorem dX3_putRight_70 : decode cX3_putRight 70 = .ok (.iload_n 1, 1) := by decide +kernel
theorem dX3_putRight_71 : decode cX3_putRight 71 = .ok (.invokevirtual 289, 3) := by decide +kernel
theorem dX3_putRight_74 : decode cX3_putRight 74 = .ok (.iload 7, 2) := by decide +kernel
theorem dX3_putRight_76 : decode cX3_putRight 76 = .ok (.invokestatic 133, 3) := by decide +kernel
theorem dX3_putRight_79 : decode cX3_putRight 79 = .ok (.iload_n 2, 1) := by decide +kernel
theorem dX3_putRight_80 : decode cX3_putRight 80 = .ok (.invokestatic 133, 3) := by decide +kernel
theorem dX3_putRight_83 : decode cX3_putRight 83 = .ok (.if_icmp .eq 17, 3) := by decide +kernel
theorem dX3_putRight_86 : decode cX3_putRight 86 = .ok (.aload_n 0, 1) := by decide +kernel
theorem dX3_putRight_87 : decode cX3_putRight 87 = .ok (.iload_n 1, 1) := by decide +kernel
theorem dX3_putRight_88 : decode cX3_putRight 88 = .ok (.iload_n 2, 1) := by decide +kernel
theorem dX3_putRight_89 : decode cX3_putRight 89 = .ok (.invokestatic 130, 3) := by decide +kernel
theorem dX3_putRight_92 : decode cX3_putRight 92 = .ok (.iload 7, 2) := by decide +kernel
theorem dX3_putRight_94 : decode cX3_putRight 94 = .ok (.invokestatic 130, 3) := by decide +kernel
theorem dX3_putRight_97 : decode cX3_putRight 97 = .ok (.invokevirtual 292, 3) := by decide +kernel
theorem dX3_putRight_100 : decode cX3_putRight 100 = .ok (.iload 4, 2) := by decide +kernel
theorem dX3_putRight_102 : decode cX3_putRight 102 = .ok (.iload 5, 2) := by decide +kernel
theorem dX3_putRight_104 : decode cX3_putRight 104 = .ok (.iadd, 1) := by decide +kernel
theorem dX3_putRight_105 : decode cX3_putRight 105 = .ok (.istore 4, 2) := by decide +kernel
theorem dX3_putRight_107 : decode cX3_putRight 107 = .ok (.aload_n 3, 1) := by decide +kernel
theorem dX3_putRight_108 : decode cX3_putRight 108 = .ok (.iload 4, 2) := by decide +kernel
theorem dX3_putRight_110 : decode cX3_putRight 110 = .ok (.invokevirtual 282, 3) := by decide +kernel
theorem dX3_putRight_113 : decode cX3_putRight 113 = .ok (.istore 5, 2) := by decide +kernel
theorem dX3_putRight_115 : decode cX3_putRight 115 = .ok (.iinc 6 1, 3) := by decide +kernel
theorem dX3_putRight_118 : decode cX3_putRight 118 = .ok (.goto (-94), 3) := by decide +kernel
theorem dX3_putRight_121 : decode cX3_putRight 121 = .ok (.return_, 1) := by decide +kernel
theorem dX3_turn_0 : decode cX3_turn 0 = .ok (.aload_n 0, 1) := by decide +kernel
theorem dX3_turn_1 : decode cX3_turn 1 = .ok (.iload_n 1, 1) := by decide +kernel
theorem dX3_turn_2 : decode cX3_turn 2 = .ok (.invokevirtual 120, 3) := by decide +kernel
theorem dX3_turn_5 : decode cX3_turn 5 = .ok (.iload_n 2, 1) := by decide +kernel
theorem dX3_turn_6 : decode cX3_turn 6 = .ok (.iload_n 3, 1) := by decide +kernel
theorem dX3_turn_7 : decode cX3_turn 7 = .ok (.invokevirtual 296, 3) := by decide +kernel
theorem dX3_turn_10 : decode cX3_turn 10 = .ok (.aload_n 0, 1) := by decide +kernel
theorem dX3_turn_11 : decode cX3_turn 11 = .ok (.iload_n 1, 1) := by decide +kernel
theorem dX3_turn_12 : decode cX3_turn 12 = .ok (.iload_n 2, 1) := by decide +kernel
theorem dX3_turn_13 : decode cX3_turn 13 = .ok (.invokevirtual 170, 3) := by decide +kernel
theorem dX3_turn_16 : decode cX3_turn 16 = .ok (.iload_n 3, 1) := by decide +kernel
theorem dX3_turn_17 : decode cX3_turn 17 = .ok (.invokestatic 142, 3) := by decide +kernel
theorem dX3_turn_20 : decode cX3_turn 20 = .ok (.ifCond .eq 10, 3) := by decide +kernel
theorem dX3_turn_23 : decode cX3_turn 23 = .ok (.aload_n 0, 1) := by decide +kernel
theorem dX3_turn_24 : decode cX3_turn 24 = .ok (.getfield 32, 3) := by decide +kernel
theorem dX3_turn_27 : decode cX3_turn 27 = .ok (.invokevirtual 299, 3) := by decide +kernel
theorem dX3_turn_30 : decode cX3_turn 30 = .ok (.return_, 1) := by decide +kernel
theorem dX3_tellEvents_0 : decode cX3_tellEvents 0 = .ok (.iconst 0, 1) := by decide +kernel
theorem dX3_tellEvents_1 : decode cX3_tellEvents 1 = .ok (.istore_n 1, 1) := by decide +kernel
theorem dX3_tellEvents_2 : decode cX3_tellEvents 2 = .ok (.iload_n 1, 1) := by decide +kernel
theorem dX3_tellEvents_3 : decode cX3_tellEvents 3 = .ok (.bipush 12, 2) := by decide +kernel
theorem dX3_tellEvents_5 : decode cX3_tellEvents 5 = .ok (.if_icmp .ge 70, 3) := by decide +kernel
theorem dX3_tellEvents_8 : decode cX3_tellEvents 8 = .ok (.aload_n 0, 1) := by decide +kernel
theorem dX3_tellEvents_9 : decode cX3_tellEvents 9 = .ok (.iload_n 1, 1) := by decide +kernel
theorem dX3_tellEvents_10 : decode cX3_tellEvents 10 = .ok (.invokevirtual 302, 3) := by decide +kernel
theorem dX3_tellEvents_13 : decode cX3_tellEvents 13 = .ok (.istore_n 2, 1) := by decide +kernel
theorem dX3_tellEvents_14 : decode cX3_tellEvents 14 = .ok (.iload_n 1, 1) := by decide +kernel
theorem dX3_tellEvents_15 : decode cX3_tellEvents 15 = .ok (.iconst 1, 1) := by decide +kernel
theorem dX3_tellEvents_16 : decode cX3_tellEvents 16 = .ok (.iadd, 1) := by decide +kernel
theorem dX3_tellEvents_17 : decode cX3_tellEvents 17 = .ok (.istore_n 3, 1) := by decide +kernel
theorem dX3_tellEvents_18 : decode cX3_tellEvents 18 = .ok (.iload_n 3, 1) := by decide +kernel
theorem dX3_tellEvents_19 : decode cX3_tellEvents 19 = .ok (.bipush 12, 2) := by decide +kernel
theorem dX3_tellEvents_21 : decode cX3_tellEvents 21 = .ok (.if_icmp .ge 41, 3) := by decide +kernel
theorem dX3_tellEvents_24 : decode cX3_tellEvents 24 = .ok (.iload_n 2, 1) := by decide +kernel
theorem dX3_tellEvents_25 : decode cX3_tellEvents 25 = .ok (.aload_n 0, 1) := by decide +kernel
theorem dX3_tellEvents_26 : decode cX3_tellEvents 26 = .ok (.getfield 36, 3) := by decide +kernel
theorem dX3_tellEvents_29 : decode cX3_tellEvents 29 = .ok (.iload_n 1, 1) := by decide +kernel
theorem dX3_tellEvents_30 : decode cX3_tellEvents 30 = .ok (.iaload, 1) := by decide +kernel
theorem dX3_tellEvents_31 : decode cX3_tellEvents 31 = .ok (.ixor, 1) := by decide +kernel
theorem dX3_tellEvents_32 : decode cX3_tellEvents 32 = .ok (.iload_n 3, 1) := by decide +kernel
theorem dX3_tellEvents_33 : decode cX3_tellEvents 33 = .ok (.invokestatic 142, 3) := by decide +kernel
theorem dX3_tellEvents_36 : decode cX3_tellEvents 36 = .ok (.ifCond .eq 20, 3) := by decide +kernel
theorem dX3_tellEvents_39 : decode cX3_tellEvents 39 = .ok (.aload_n 0, 1) := by decide +kernel
theorem dX3_tellEvents_40 : decode cX3_tellEvents 40 = .ok (.getfield 32, 3) := by decide +kernel
theorem dX3_tellEvents_43 : decode cX3_tellEvents 43 = .ok (.iload_n 1, 1) := by decide +kernel
theorem dX3_tellEvents_44 : decode cX3_tellEvents 44 = .ok (.iload_n 3, 1) := by decide +kernel
theorem dX3_tellEvents_45 : decode cX3_tellEvents 45 = .ok (.invokestatic 145, 3) := by decide +kernel
theorem dX3_tellEvents_48 : decode cX3_tellEvents 48 = .ok (.iload_n 2, 1) := by decide +kernel
theorem dX3_tellEvents_49 : decode cX3_tellEvents 49 = .ok (.iload_n 3, 1) := by decide +kernel
theorem dX3_tellEvents_50 : decode cX3_tellEvents 50 = .ok (.invokestatic 142, 3) := by decide +kernel
theorem dX3_tellEvents_53 : decode cX3_tellEvents 53 = .ok (.invokevirtual 305, 3) := by decide +kernel
theorem dX3_tellEvents_56 : decode cX3_tellEvents 56 = .ok (.iinc 3 1, 3) := by decide +kernel
theorem dX3_tellEvents_59 : decode cX3_tellEvents 59 = .ok (.goto (-41), 3) := by decide +kernel
theorem dX3_tellEvents_62 : decode cX3_tellEvents 62 = .ok (.aload_n 0, 1) := by decide +kernel
theorem dX3_tellEvents_63 : decode cX3_tellEvents 63 = .ok (.getfield 36, 3) := by decide +kernel
theorem dX3_tellEvents_66 : decode cX3_tellEvents 66 = .ok (.iload_n 1, 1) := by decide +kernel
theorem dX3_tellEvents_67 : decode cX3_tellEvents 67 = .ok (.iload_n 2, 1) := by decide +kernel
theorem dX3_tellEvents_68 : decode cX3_tellEvents 68 = .ok (.iastore, 1) := by decide +kernel
theorem dX3_tellEvents_69 : decode cX3_tellEvents 69 = .ok (.iinc 1 1, 3) := by decide +kernel
theorem dX3_tellEvents_72 : decode cX3_tellEvents 72 = .ok (.goto (-70), 3) := by decide +kernel
theorem dX3_tellEvents_75 : decode cX3_tellEvents 75 = .ok (.aload_n 0, 1) := by decide +kernel
theorem dX3_tellEvents_76 : decode cX3_tellEvents 76 = .ok (.getfield 32, 3) := by decide +kernel
theorem dX3_tellEvents_79 : decode cX3_tellEvents 79 = .ok (.invokevirtual 308, 3) := by decide +kernel
theorem dX3_tellEvents_82 : decode cX3_tellEvents 82 = .ok (.return_, 1) := by decide +kernel
theorem dX3_groupOf_0 : decode cX3_groupOf 0 = .ok (.iload_n 1, 1) := by decide +kernel
theorem dX3_groupOf_1 : decode cX3_groupOf 1 = .ok (.invokestatic 193, 3) := by decide +kernel
theorem dX3_groupOf_4 : decode cX3_groupOf 4 = .ok (.istore_n 2, 1) := by decide +kernel
theorem dX3_groupOf_5 : decode cX3_groupOf 5 = .ok (.iconst 0, 1) := by decide +kernel
theorem dX3_groupOf_6 : decode cX3_groupOf 6 = .ok (.istore_n 3, 1) := by decide +kernel
theorem dX3_groupOf_7 : decode cX3_groupOf 7 = .ok (.iload_n 3, 1) := by decide +kernel
theorem dX3_groupOf_8 : decode cX3_groupOf 8 = .ok (.bipush 12, 2) := by decide +kernel
theorem dX3_groupOf_10 : decode cX3_groupOf 10 = .ok (.if_icmp .ge 61, 3) := by decide +kernel
theorem dX3_groupOf_13 : decode cX3_groupOf 13 = .ok (.iload_n 2, 1) := by decide +kernel
theorem dX3_groupOf_14 : decode cX3_groupOf 14 = .ok (.istore 4, 2) := by decide +kernel
theorem dX3_groupOf_16 : decode cX3_groupOf 16 = .ok (.iconst 0, 1) := by decide +kernel
theorem dX3_groupOf_17 : decode cX3_groupOf 17 = .ok (.istore 5, 2) := by decide +kernel
theorem dX3_groupOf_19 : decode cX3_groupOf 19 = .ok (.iload 5, 2) := by decide +kernel
theorem dX3_groupOf_21 : decode cX3_groupOf 21 = .ok (.bipush 12, 2) := by decide +kernel
theorem dX3_groupOf_23 : decode cX3_groupOf 23 = .ok (.if_icmp .ge 30, 3) := by decide +kernel
theorem dX3_groupOf_26 : decode cX3_groupOf 26 = .ok (.iload_n 2, 1) := by decide +kernel
theorem dX3_groupOf_27 : decode cX3_groupOf 27 = .ok (.iload 5, 2) := by decide +kernel
theorem dX3_groupOf_29 : decode cX3_groupOf 29 = .ok (.invokestatic 142, 3) := by decide +kernel
theorem dX3_groupOf_32 : decode cX3_groupOf 32 = .ok (.ifCond .eq 15, 3) := by decide +kernel
theorem dX3_groupOf_35 : decode cX3_groupOf 35 = .ok (.iload 4, 2) := by decide +kernel
theorem dX3_groupOf_37 : decode cX3_groupOf 37 = .ok (.aload_n 0, 1) := by decide +kernel
theorem dX3_groupOf_38 : decode cX3_groupOf 38 = .ok (.getfield 36, 3) := by decide +kernel
theorem dX3_groupOf_41 : decode cX3_groupOf 41 = .ok (.iload 5, 2) := by decide +kernel
theorem dX3_groupOf_43 : decode cX3_groupOf 43 = .ok (.iaload, 1) := by decide +kernel
theorem dX3_groupOf_44 : decode cX3_groupOf 44 = .ok (.ior, 1) := by decide +kernel
theorem dX3_groupOf_45 : decode cX3_groupOf 45 = .ok (.istore 4, 2) := by decide +kernel
theorem dX3_groupOf_47 : decode cX3_groupOf 47 = .ok (.iinc 5 1, 3) := by decide +kernel
theorem dX3_groupOf_50 : decode cX3_groupOf 50 = .ok (.goto (-31), 3) := by decide +kernel
theorem dX3_groupOf_53 : decode cX3_groupOf 53 = .ok (.iload 4, 2) := by decide +kernel
theorem dX3_groupOf_55 : decode cX3_groupOf 55 = .ok (.iload_n 2, 1) := by decide +kernel
theorem dX3_groupOf_56 : decode cX3_groupOf 56 = .ok (.if_icmp .ne 6, 3) := by decide +kernel
theorem dX3_groupOf_59 : decode cX3_groupOf 59 = .ok (.goto 12, 3) := by decide +kernel
theorem dX3_groupOf_62 : decode cX3_groupOf 62 = .ok (.iload 4, 2) := by decide +kernel
theorem dX3_groupOf_64 : decode cX3_groupOf 64 = .ok (.istore_n 2, 1) := by decide +kernel
theorem dX3_groupOf_65 : decode cX3_groupOf 65 = .ok (.iinc 3 1, 3) := by decide +kernel
theorem dX3_groupOf_68 : decode cX3_groupOf 68 = .ok (.goto (-61), 3) := by decide +kernel
theorem dX3_groupOf_71 : decode cX3_groupOf 71 = .ok (.iload_n 2, 1) := by decide +kernel
theorem dX3_groupOf_72 : decode cX3_groupOf 72 = .ok (.ireturn, 1) := by decide +kernel
theorem dX3_leastOf_0 : decode cX3_leastOf 0 = .ok (.iconst 0, 1) := by decide +kernel
theorem dX3_leastOf_1 : decode cX3_leastOf 1 = .ok (.istore_n 1, 1) := by decide +kernel
theorem dX3_leastOf_2 : decode cX3_leastOf 2 = .ok (.iload_n 1, 1) := by decide +kernel
theorem dX3_leastOf_3 : decode cX3_leastOf 3 = .ok (.bipush 12, 2) := by decide +kernel
theorem dX3_leastOf_5 : decode cX3_leastOf 5 = .ok (.if_icmp .ge 17, 3) := by decide +kernel
theorem dX3_leastOf_8 : decode cX3_leastOf 8 = .ok (.iload_n 0, 1) := by decide +kernel
theorem dX3_leastOf_9 : decode cX3_leastOf 9 = .ok (.iload_n 1, 1) := by decide +kernel
theorem dX3_leastOf_10 : decode cX3_leastOf 10 = .ok (.invokestatic 142, 3) := by decide +kernel
theorem dX3_leastOf_13 : decode cX3_leastOf 13 = .ok (.ifCond .ne 9, 3) := by decide +kernel
theorem dX3_leastOf_16 : decode cX3_leastOf 16 = .ok (.iinc 1 1, 3) := by decide +kernel
theorem dX3_leastOf_19 : decode cX3_leastOf 19 = .ok (.goto (-17), 3) := by decide +kernel
theorem dX3_leastOf_22 : decode cX3_leastOf 22 = .ok (.iload_n 1, 1) := by decide +kernel
theorem dX3_leastOf_23 : decode cX3_leastOf 23 = .ok (.ireturn, 1) := by decide +kernel
theorem dX3_groupCount_0 : decode cX3_groupCount 0 = .ok (.iconst 0, 1) := by decide +kernel
theorem dX3_groupCount_1 : decode cX3_groupCount 1 = .ok (.istore_n 1, 1) := by decide +kernel
theorem dX3_groupCount_2 : decode cX3_groupCount 2 = .ok (.aload_n 0, 1) := by decide +kernel
theorem dX3_groupCount_3 : decode cX3_groupCount 3 = .ok (.getfield 40, 3) := by decide +kernel
theorem dX3_groupCount_6 : decode cX3_groupCount 6 = .ok (.istore_n 2, 1) := by decide +kernel
theorem dX3_groupCount_7 : decode cX3_groupCount 7 = .ok (.iconst 0, 1) := by decide +kernel
theorem dX3_groupCount_8 : decode cX3_groupCount 8 = .ok (.istore_n 3, 1) := by decide +kernel
theorem dX3_groupCount_9 : decode cX3_groupCount 9 = .ok (.iload_n 3, 1) := by decide +kernel
theorem dX3_groupCount_10 : decode cX3_groupCount 10 = .ok (.bipush 12, 2) := by decide +kernel
theorem dX3_groupCount_12 : decode cX3_groupCount 12 = .ok (.if_icmp .ge 30, 3) := by decide +kernel
theorem dX3_groupCount_15 : decode cX3_groupCount 15 = .ok (.iload_n 2, 1) := by decide +kernel
theorem dX3_groupCount_16 : decode cX3_groupCount 16 = .ok (.iload_n 3, 1) := by decide +kernel
theorem dX3_groupCount_17 : decode cX3_groupCount 17 = .ok (.invokestatic 142, 3) := by decide +kernel
theorem dX3_groupCount_20 : decode cX3_groupCount 20 = .ok (.ifCond .eq 16, 3) := by decide +kernel
theorem dX3_groupCount_23 : decode cX3_groupCount 23 = .ok (.iload_n 2, 1) := by decide +kernel
theorem dX3_groupCount_24 : decode cX3_groupCount 24 = .ok (.aload_n 0, 1) := by decide +kernel
theorem dX3_groupCount_25 : decode cX3_groupCount 25 = .ok (.iload_n 3, 1) := by decide +kernel
theorem dX3_groupCount_26 : decode cX3_groupCount 26 = .ok (.invokevirtual 114, 3) := by decide +kernel
theorem dX3_groupCount_29 : decode cX3_groupCount 29 = .ok (.iconst (-1), 1) := by decide +kernel
theorem dX3_groupCount_30 : decode cX3_groupCount 30 = .ok (.ixor, 1) := by decide +kernel
theorem dX3_groupCount_31 : decode cX3_groupCount 31 = .ok (.iand, 1) := by decide +kernel
theorem dX3_groupCount_32 : decode cX3_groupCount 32 = .ok (.istore_n 2, 1) := by decide +kernel
theorem dX3_groupCount_33 : decode cX3_groupCount 33 = .ok (.iinc 1 1, 3) := by decide +kernel
theorem dX3_groupCount_36 : decode cX3_groupCount 36 = .ok (.iinc 3 1, 3) := by decide +kernel
theorem dX3_groupCount_39 : decode cX3_groupCount 39 = .ok (.goto (-30), 3) := by decide +kernel
theorem dX3_groupCount_42 : decode cX3_groupCount 42 = .ok (.iload_n 1, 1) := by decide +kernel
theorem dX3_groupCount_43 : decode cX3_groupCount 43 = .ok (.ireturn, 1) := by decide +kernel
theorem dX3_greatestGroup_0 : decode cX3_greatestGroup 0 = .ok (.iconst 0, 1) := by decide +kernel
theorem dX3_greatestGroup_1 : decode cX3_greatestGroup 1 = .ok (.istore_n 1, 1) := by decide +kernel
theorem dX3_greatestGroup_2 : decode cX3_greatestGroup 2 = .ok (.aload_n 0, 1) := by decide +kernel
theorem dX3_greatestGroup_3 : decode cX3_greatestGroup 3 = .ok (.getfield 40, 3) := by decide +kernel
theorem dX3_greatestGroup_6 : decode cX3_greatestGroup 6 = .ok (.istore_n 2, 1) := by decide +kernel
theorem dX3_greatestGroup_7 : decode cX3_greatestGroup 7 = .ok (.iconst 0, 1) := by decide +kernel
theorem dX3_greatestGroup_8 : decode cX3_greatestGroup 8 = .ok (.istore_n 3, 1) := by decide +kernel
theorem dX3_greatestGroup_9 : decode cX3_greatestGroup 9 = .ok (.iload_n 3, 1) := by decide +kernel
theorem dX3_greatestGroup_10 : decode cX3_greatestGroup 10 = .ok (.bipush 12, 2) := by decide +kernel
theorem dX3_greatestGroup_12 : decode cX3_greatestGroup 12 = .ok (.if_icmp .ge 41, 3) := by decide +kernel
theorem dX3_greatestGroup_15 : decode cX3_greatestGroup 15 = .ok (.iload_n 2, 1) := by decide +kernel
theorem dX3_greatestGroup_16 : decode cX3_greatestGroup 16 = .ok (.iload_n 3, 1) := by decide +kernel
theorem dX3_greatestGroup_17 : decode cX3_greatestGroup 17 = .ok (.invokestatic 142, 3) := by decide +kernel
theorem dX3_greatestGroup_20 : decode cX3_greatestGroup 20 = .ok (.ifCond .eq 27, 3) := by decide +kernel
theorem dX3_greatestGroup_23 : decode cX3_greatestGroup 23 = .ok (.aload_n 0, 1) := by decide +kernel
theorem dX3_greatestGroup_24 : decode cX3_greatestGroup 24 = .ok (.iload_n 3, 1) := by decide +kernel
theorem dX3_greatestGroup_25 : decode cX3_greatestGroup 25 = .ok (.invokevirtual 114, 3) := by decide +kernel
theorem dX3_greatestGroup_28 : decode cX3_greatestGroup 28 = .ok (.istore 4, 2) := by decide +kernel
theorem dX3_greatestGroup_30 : decode cX3_greatestGroup 30 = .ok (.iload_n 2, 1) := by decide +kernel
theorem dX3_greatestGroup_31 : decode cX3_greatestGroup 31 = .ok (.iload 4, 2) := by decide +kernel
theorem dX3_greatestGroup_33 : decode cX3_greatestGroup 33 = .ok (.iconst (-1), 1) := by decide +kernel
theorem dX3_greatestGroup_34 : decode cX3_greatestGroup 34 = .ok (.ixor, 1) := by decide +kernel
theorem dX3_greatestGroup_35 : decode cX3_greatestGroup 35 = .ok (.iand, 1) := by decide +kernel
theorem dX3_greatestGroup_36 : decode cX3_greatestGroup 36 = .ok (.istore_n 2, 1) := by decide +kernel
theorem dX3_greatestGroup_37 : decode cX3_greatestGroup 37 = .ok (.iload_n 1, 1) := by decide +kernel
theorem dX3_greatestGroup_38 : decode cX3_greatestGroup 38 = .ok (.iload 4, 2) := by decide +kernel
theorem dX3_greatestGroup_40 : decode cX3_greatestGroup 40 = .ok (.invokestatic 69, 3) := by decide +kernel
theorem dX3_greatestGroup_43 : decode cX3_greatestGroup 43 = .ok (.invokestatic 311, 3) := by decide +kernel
theorem dX3_greatestGroup_46 : decode cX3_greatestGroup 46 = .ok (.istore_n 1, 1) := by decide +kernel
theorem dX3_greatestGroup_47 : decode cX3_greatestGroup 47 = .ok (.iinc 3 1, 3) := by decide +kernel
theorem dX3_greatestGroup_50 : decode cX3_greatestGroup 50 = .ok (.goto (-41), 3) := by decide +kernel
theorem dX3_greatestGroup_53 : decode cX3_greatestGroup 53 = .ok (.iload_n 1, 1) := by decide +kernel
theorem dX3_greatestGroup_54 : decode cX3_greatestGroup 54 = .ok (.ireturn, 1) := by decide +kernel
theorem dX3_deepest_0 : decode cX3_deepest 0 = .ok (.aload_n 0, 1) := by decide +kernel
theorem dX3_deepest_1 : decode cX3_deepest 1 = .ok (.getfield 36, 3) := by decide +kernel
theorem dX3_deepest_4 : decode cX3_deepest 4 = .ok (.bipush 11, 2) := by decide +kernel
theorem dX3_deepest_6 : decode cX3_deepest 6 = .ok (.iconst 0, 1) := by decide +kernel
theorem dX3_deepest_7 : decode cX3_deepest 7 = .ok (.aload_n 0, 1) := by decide +kernel
theorem dX3_deepest_8 : decode cX3_deepest 8 = .ok (.getfield 40, 3) := by decide +kernel
theorem dX3_deepest_11 : decode cX3_deepest 11 = .ok (.iconst 0, 1) := by decide +kernel
theorem dX3_deepest_12 : decode cX3_deepest 12 = .ok (.invokestatic 316, 3) := by decide +kernel
theorem dX3_deepest_15 : decode cX3_deepest 15 = .ok (.ireturn, 1) := by decide +kernel
theorem dX3_deepestFrom_0 : decode cX3_deepestFrom 0 = .ok (.iload_n 2, 1) := by decide +kernel
theorem dX3_deepestFrom_1 : decode cX3_deepestFrom 1 = .ok (.iload_n 3, 1) := by decide +kernel
theorem dX3_deepestFrom_2 : decode cX3_deepestFrom 2 = .ok (.ior, 1) := by decide +kernel
theorem dX3_deepestFrom_3 : decode cX3_deepestFrom 3 = .ok (.invokestatic 69, 3) := by decide +kernel
theorem dX3_deepestFrom_6 : decode cX3_deepestFrom 6 = .ok (.iload 4, 2) := by decide +kernel
theorem dX3_deepestFrom_8 : decode cX3_deepestFrom 8 = .ok (.invokestatic 69, 3) := by decide +kernel
theorem dX3_deepestFrom_11 : decode cX3_deepestFrom 11 = .ok (.if_icmp .gt 6, 3) := by decide +kernel
theorem dX3_deepestFrom_14 : decode cX3_deepestFrom 14 = .ok (.iload 4, 2) := by decide +kernel
theorem dX3_deepestFrom_16 : decode cX3_deepestFrom 16 = .ok (.ireturn, 1) := by decide +kernel
theorem dX3_deepestFrom_17 : decode cX3_deepestFrom 17 = .ok (.iload_n 1, 1) := by decide +kernel
theorem dX3_deepestFrom_18 : decode cX3_deepestFrom 18 = .ok (.ifCond .lt 9, 3) := by decide +kernel
theorem dX3_deepestFrom_21 : decode cX3_deepestFrom 21 = .ok (.iload_n 1, 1) := by decide +kernel
theorem dX3_deepestFrom_22 : decode cX3_deepestFrom 22 = .ok (.aload_n 0, 1) := by decide +kernel
theorem dX3_deepestFrom_23 : decode cX3_deepestFrom 23 = .ok (.arraylength, 1) := by decide +kernel
theorem dX3_deepestFrom_24 : decode cX3_deepestFrom 24 = .ok (.if_icmp .lt 5, 3) := by decide +kernel
theorem dX3_deepestFrom_27 : decode cX3_deepestFrom 27 = .ok (.iload_n 2, 1) := by decide +kernel
theorem dX3_deepestFrom_28 : decode cX3_deepestFrom 28 = .ok (.ireturn, 1) := by decide +kernel
theorem dX3_deepestFrom_29 : decode cX3_deepestFrom 29 = .ok (.iload_n 3, 1) := by decide +kernel
theorem dX3_deepestFrom_30 : decode cX3_deepestFrom 30 = .ok (.iload_n 1, 1) := by decide +kernel
theorem dX3_deepestFrom_31 : decode cX3_deepestFrom 31 = .ok (.invokestatic 193, 3) := by decide +kernel
theorem dX3_deepestFrom_34 : decode cX3_deepestFrom 34 = .ok (.iconst (-1), 1) := by decide +kernel
theorem dX3_deepestFrom_35 : decode cX3_deepestFrom 35 = .ok (.ixor, 1) := by decide +kernel
theorem dX3_deepestFrom_36 : decode cX3_deepestFrom 36 = .ok (.iand, 1) := by decide +kernel
theorem dX3_deepestFrom_37 : decode cX3_deepestFrom 37 = .ok (.istore 5, 2) := by decide +kernel
theorem dX3_deepestFrom_39 : decode cX3_deepestFrom 39 = .ok (.aload_n 0, 1) := by decide +kernel
theorem dX3_deepestFrom_40 : decode cX3_deepestFrom 40 = .ok (.iload_n 1, 1) := by decide +kernel
theorem dX3_deepestFrom_41 : decode cX3_deepestFrom 41 = .ok (.iconst 1, 1) := by decide +kernel
theorem dX3_deepestFrom_42 : decode cX3_deepestFrom 42 = .ok (.isub, 1) := by decide +kernel
theorem dX3_deepestFrom_43 : decode cX3_deepestFrom 43 = .ok (.iload_n 2, 1) := by decide +kernel
theorem dX3_deepestFrom_44 : decode cX3_deepestFrom 44 = .ok (.iload 5, 2) := by decide +kernel
theorem dX3_deepestFrom_46 : decode cX3_deepestFrom 46 = .ok (.iload 4, 2) := by decide +kernel
theorem dX3_deepestFrom_48 : decode cX3_deepestFrom 48 = .ok (.invokestatic 316, 3) := by decide +kernel
theorem dX3_deepestFrom_51 : decode cX3_deepestFrom 51 = .ok (.istore 6, 2) := by decide +kernel
theorem dX3_deepestFrom_53 : decode cX3_deepestFrom 53 = .ok (.iload_n 3, 1) := by decide +kernel
theorem dX3_deepestFrom_54 : decode cX3_deepestFrom 54 = .ok (.iload_n 1, 1) := by decide +kernel
theorem dX3_deepestFrom_55 : decode cX3_deepestFrom 55 = .ok (.invokestatic 142, 3) := by decide +kernel
theorem dX3_deepestFrom_58 : decode cX3_deepestFrom 58 = .ok (.ifCond .ne 6, 3) := by decide +kernel
theorem dX3_deepestFrom_61 : decode cX3_deepestFrom 61 = .ok (.iload 6, 2) := by decide +kernel
theorem dX3_deepestFrom_63 : decode cX3_deepestFrom 63 = .ok (.ireturn, 1) := by decide +kernel
theorem dX3_deepestFrom_64 : decode cX3_deepestFrom 64 = .ok (.aload_n 0, 1) := by decide +kernel
theorem dX3_deepestFrom_65 : decode cX3_deepestFrom 65 = .ok (.iload_n 1, 1) := by decide +kernel
theorem dX3_deepestFrom_66 : decode cX3_deepestFrom 66 = .ok (.iconst 1, 1) := by decide +kernel
theorem dX3_deepestFrom_67 : decode cX3_deepestFrom 67 = .ok (.isub, 1) := by decide +kernel
theorem dX3_deepestFrom_68 : decode cX3_deepestFrom 68 = .ok (.iload_n 2, 1) := by decide +kernel
theorem dX3_deepestFrom_69 : decode cX3_deepestFrom 69 = .ok (.iload_n 1, 1) := by decide +kernel
theorem dX3_deepestFrom_70 : decode cX3_deepestFrom 70 = .ok (.invokestatic 193, 3) := by decide +kernel
theorem dX3_deepestFrom_73 : decode cX3_deepestFrom 73 = .ok (.ior, 1) := by decide +kernel
theorem dX3_deepestFrom_74 : decode cX3_deepestFrom 74 = .ok (.iload 5, 2) := by decide +kernel
theorem dX3_deepestFrom_76 : decode cX3_deepestFrom 76 = .ok (.aload_n 0, 1) := by decide +kernel
theorem dX3_deepestFrom_77 : decode cX3_deepestFrom 77 = .ok (.iload_n 1, 1) := by decide +kernel
theorem dX3_deepestFrom_78 : decode cX3_deepestFrom 78 = .ok (.iaload, 1) := by decide +kernel
theorem dX3_deepestFrom_79 : decode cX3_deepestFrom 79 = .ok (.iand, 1) := by decide +kernel
theorem dX3_deepestFrom_80 : decode cX3_deepestFrom 80 = .ok (.iload 6, 2) := by decide +kernel
theorem dX3_deepestFrom_82 : decode cX3_deepestFrom 82 = .ok (.invokestatic 316, 3) := by decide +kernel
theorem dX3_deepestFrom_85 : decode cX3_deepestFrom 85 = .ok (.ireturn, 1) := by decide +kernel
theorem dX4_init_0 : decode cX4_init 0 = .ok (.aload_n 0, 1) := by decide +kernel
theorem dX4_init_1 : decode cX4_init 1 = .ok (.invokespecial 1, 3) := by decide +kernel
theorem dX4_init_4 : decode cX4_init 4 = .ok (.aload_n 0, 1) := by decide +kernel
theorem dX4_init_5 : decode cX4_init 5 = .ok (.bipush 60, 2) := by decide +kernel
theorem dX4_init_7 : decode cX4_init 7 = .ok (.newarray .int, 2) := by decide +kernel
theorem dX4_init_9 : decode cX4_init 9 = .ok (.putfield 7, 3) := by decide +kernel
theorem dX4_init_12 : decode cX4_init 12 = .ok (.aload_n 0, 1) := by decide +kernel
theorem dX4_init_13 : decode cX4_init 13 = .ok (.bipush 72, 2) := by decide +kernel
theorem dX4_init_15 : decode cX4_init 15 = .ok (.newarray .int, 2) := by decide +kernel
theorem dX4_init_17 : decode cX4_init 17 = .ok (.putfield 13, 3) := by decide +kernel
theorem dX4_init_20 : decode cX4_init 20 = .ok (.aload_n 0, 1) := by decide +kernel
theorem dX4_init_21 : decode cX4_init 21 = .ok (.bipush 72, 2) := by decide +kernel
theorem dX4_init_23 : decode cX4_init 23 = .ok (.newarray .int, 2) := by decide +kernel
theorem dX4_init_25 : decode cX4_init 25 = .ok (.putfield 16, 3) := by decide +kernel
theorem dX4_init_28 : decode cX4_init 28 = .ok (.aload_n 0, 1) := by decide +kernel
theorem dX4_init_29 : decode cX4_init 29 = .ok (.sipush 144, 3) := by decide +kernel
theorem dX4_init_32 : decode cX4_init 32 = .ok (.newarray .int, 2) := by decide +kernel
theorem dX4_init_34 : decode cX4_init 34 = .ok (.putfield 19, 3) := by decide +kernel
theorem dX4_init_37 : decode cX4_init 37 = .ok (.aload_n 0, 1) := by decide +kernel
theorem dX4_init_38 : decode cX4_init 38 = .ok (.bipush 66, 2) := by decide +kernel
theorem dX4_init_40 : decode cX4_init 40 = .ok (.newarray .int, 2) := by decide +kernel
theorem dX4_init_42 : decode cX4_init 42 = .ok (.putfield 22, 3) := by decide +kernel
theorem dX4_init_45 : decode cX4_init 45 = .ok (.aload_n 0, 1) := by decide +kernel
theorem dX4_init_46 : decode cX4_init 46 = .ok (.bipush 66, 2) := by decide +kernel
theorem dX4_init_48 : decode cX4_init 48 = .ok (.newarray .int, 2) := by decide +kernel
theorem dX4_init_50 : decode cX4_init 50 = .ok (.putfield 25, 3) := by decide +kernel
theorem dX4_init_53 : decode cX4_init 53 = .ok (.aload_n 0, 1) := by decide +kernel
theorem dX4_init_54 : decode cX4_init 54 = .ok (.iconst 3, 1) := by decide +kernel
theorem dX4_init_55 : decode cX4_init 55 = .ok (.newarray .int, 2) := by decide +kernel
theorem dX4_init_57 : decode cX4_init 57 = .ok (.putfield 28, 3) := by decide +kernel
theorem dX4_init_60 : decode cX4_init 60 = .ok (.aload_n 0, 1) := by decide +kernel
theorem dX4_init_61 : decode cX4_init 61 = .ok (.bipush 24, 2) := by decide +kernel
theorem dX4_init_63 : decode cX4_init 63 = .ok (.newarray .int, 2) := by decide +kernel
theorem dX4_init_65 : decode cX4_init 65 = .ok (.putfield 31, 3) := by decide +kernel
theorem dX4_init_68 : decode cX4_init 68 = .ok (.aload_n 0, 1) := by decide +kernel
theorem dX4_init_69 : decode cX4_init 69 = .ok (.sipush 144, 3) := by decide +kernel
theorem dX4_init_72 : decode cX4_init 72 = .ok (.newarray .boolean, 2) := by decide +kernel
theorem dX4_init_74 : decode cX4_init 74 = .ok (.putfield 34, 3) := by decide +kernel
theorem dX4_init_77 : decode cX4_init 77 = .ok (.aload_n 0, 1) := by decide +kernel
theorem dX4_init_78 : decode cX4_init 78 = .ok (.bipush 66, 2) := by decide +kernel
theorem dX4_init_80 : decode cX4_init 80 = .ok (.newarray .int, 2) := by decide +kernel
theorem dX4_init_82 : decode cX4_init 82 = .ok (.putfield 38, 3) := by decide +kernel
theorem dX4_init_85 : decode cX4_init 85 = .ok (.return_, 1) := by decide +kernel
theorem dX4_within_0 : decode cX4_within 0 = .ok (.iload_n 0, 1) := by decide +kernel
theorem dX4_within_1 : decode cX4_within 1 = .ok (.iload_n 1, 1) := by decide +kernel
theorem dX4_within_2 : decode cX4_within 2 = .ok (.if_icmp .lt 12, 3) := by decide +kernel
theorem dX4_within_5 : decode cX4_within 5 = .ok (.iload_n 0, 1) := by decide +kernel
theorem dX4_within_6 : decode cX4_within 6 = .ok (.iload_n 2, 1) := by decide +kernel
theorem dX4_within_7 : decode cX4_within 7 = .ok (.if_icmp .gt 7, 3) := by decide +kernel
theorem dX4_within_10 : decode cX4_within 10 = .ok (.iconst 1, 1) := by decide +kernel
theorem dX4_within_11 : decode cX4_within 11 = .ok (.goto 4, 3) := by decide +kernel
theorem dX4_within_14 : decode cX4_within 14 = .ok (.iconst 0, 1) := by decide +kernel
theorem dX4_within_15 : decode cX4_within 15 = .ok (.ireturn, 1) := by decide +kernel
theorem dX4_has_0 : decode cX4_has 0 = .ok (.iload_n 0, 1) := by decide +kernel
theorem dX4_has_1 : decode cX4_has 1 = .ok (.iload_n 1, 1) := by decide +kernel
theorem dX4_has_2 : decode cX4_has 2 = .ok (.ishr, 1) := by decide +kernel
theorem dX4_has_3 : decode cX4_has 3 = .ok (.iconst 1, 1) := by decide +kernel
theorem dX4_has_4 : decode cX4_has 4 = .ok (.iand, 1) := by decide +kernel
theorem dX4_has_5 : decode cX4_has 5 = .ok (.iconst 1, 1) := by decide +kernel
theorem dX4_has_6 : decode cX4_has 6 = .ok (.if_icmp .ne 7, 3) := by decide +kernel
theorem dX4_has_9 : decode cX4_has 9 = .ok (.iconst 1, 1) := by decide +kernel
theorem dX4_has_10 : decode cX4_has 10 = .ok (.goto 4, 3) := by decide +kernel
theorem dX4_has_13 : decode cX4_has 13 = .ok (.iconst 0, 1) := by decide +kernel
theorem dX4_has_14 : decode cX4_has 14 = .ok (.ireturn, 1) := by decide +kernel
theorem dX4_letter_0 : decode cX4_letter 0 = .ok (.iload_n 1, 1) := by decide +kernel
theorem dX4_letter_1 : decode cX4_letter 1 = .ok (.bipush 32, 2) := by decide +kernel
theorem dX4_letter_3 : decode cX4_letter 3 = .ok (.bipush 126, 2) := by decide +kernel
theorem dX4_letter_5 : decode cX4_letter 5 = .ok (.invokestatic 41, 3) := by decide +kernel
theorem dX4_letter_8 : decode cX4_letter 8 = .ok (.ifCond .ne 7, 3) := by decide +kernel
theorem dX4_letter_11 : decode cX4_letter 11 = .ok (.sipush (-10003), 3) := by decide +kernel
theorem dX4_letter_14 : decode cX4_letter 14 = .ok (.ireturn, 1) := by decide +kernel
theorem dX4_letter_15 : decode cX4_letter 15 = .ok (.aload_n 0, 1) := by decide +kernel
theorem dX4_letter_16 : decode cX4_letter 16 = .ok (.getfield 45, 3) := by decide +kernel
theorem dX4_letter_19 : decode cX4_letter 19 = .ok (.bipush 60, 2) := by decide +kernel
theorem dX4_letter_21 : decode cX4_letter 21 = .ok (.if_icmp .ne 7, 3) := by decide +kernel
theorem dX4_letter_24 : decode cX4_letter 24 = .ok (.sipush (-10005), 3) := by decide +kernel
theorem dX4_letter_27 : decode cX4_letter 27 = .ok (.ireturn, 1) := by decide +kernel
theorem dX4_letter_28 : decode cX4_letter 28 = .ok (.aload_n 0, 1) := by decide +kernel
theorem dX4_letter_29 : decode cX4_letter 29 = .ok (.getfield 7, 3) := by decide +kernel
theorem dX4_letter_32 : decode cX4_letter 32 = .ok (.aload_n 0, 1) := by decide +kernel
theorem dX4_letter_33 : decode cX4_letter 33 = .ok (.getfield 45, 3) := by decide +kernel
theorem dX4_letter_36 : decode cX4_letter 36 = .ok (.iload_n 1, 1) := by decide +kernel
theorem dX4_letter_37 : decode cX4_letter 37 = .ok (.iastore, 1) := by decide +kernel
theorem dX4_letter_38 : decode cX4_letter 38 = .ok (.aload_n 0, 1) := by decide +kernel
theorem dX4_letter_39 : decode cX4_letter 39 = .ok (.dup, 1) := by decide +kernel
theorem dX4_letter_40 : decode cX4_letter 40 = .ok (.getfield 45, 3) := by decide +kernel
theorem dX4_letter_43 : decode cX4_letter 43 = .ok (.iconst 1, 1) := by decide +kernel
theorem dX4_letter_44 : decode cX4_letter 44 = .ok (.iadd, 1) := by decide +kernel
theorem dX4_letter_45 : decode cX4_letter 45 = .ok (.putfield 45, 3) := by decide +kernel
theorem dX4_letter_48 : decode cX4_letter 48 = .ok (.aload_n 0, 1) := by decide +kernel
theorem dX4_letter_49 : decode cX4_letter 49 = .ok (.getfield 45, 3) := by decide +kernel
theorem dX4_letter_52 : decode cX4_letter 52 = .ok (.ireturn, 1) := by decide +kernel
theorem dX4_blank_0 : decode cX4_blank 0 = .ok (.aload_n 0, 1) := by decide +kernel
theorem dX4_blank_1 : decode cX4_blank 1 = .ok (.getfield 45, 3) := by decide +kernel
theorem dX4_blank_4 : decode cX4_blank 4 = .ok (.istore_n 1, 1) := by decide +kernel
theorem dX4_blank_5 : decode cX4_blank 5 = .ok (.aload_n 0, 1) := by decide +kernel
theorem dX4_blank_6 : decode cX4_blank 6 = .ok (.iconst 0, 1) := by decide +kernel
theorem dX4_blank_7 : decode cX4_blank 7 = .ok (.putfield 45, 3) := by decide +kernel
theorem dX4_blank_10 : decode cX4_blank 10 = .ok (.iload_n 1, 1) := by decide +kernel
theorem dX4_blank_11 : decode cX4_blank 11 = .ok (.ireturn, 1) := by decide +kernel
theorem dX4_takesFigure_0 : decode cX4_takesFigure 0 = .ok (.aload_n 0, 1) := by decide +kernel
theorem dX4_takesFigure_1 : decode cX4_takesFigure 1 = .ok (.getfield 49, 3) := by decide +kernel
theorem dX4_takesFigure_4 : decode cX4_takesFigure 4 = .ok (.sipush (-10001), 3) := by decide +kernel
theorem dX4_takesFigure_7 : decode cX4_takesFigure 7 = .ok (.if_icmp .ne 7, 3) := by decide +kernel
theorem dX4_takesFigure_10 : decode cX4_takesFigure 10 = .ok (.iload_n 1, 1) := by decide +kernel
theorem dX4_takesFigure_11 : decode cX4_takesFigure 11 = .ok (.goto 12, 3) := by decide +kernel
theorem dX4_takesFigure_14 : decode cX4_takesFigure 14 = .ok (.bipush 10, 2) := by decide +kernel
theorem dX4_takesFigure_16 : decode cX4_takesFigure 16 = .ok (.aload_n 0, 1) := by decide +kernel
theorem dX4_takesFigure_17 : decode cX4_takesFigure 17 = .ok (.getfield 49, 3) := by decide +kernel
theorem dX4_takesFigure_20 : decode cX4_takesFigure 20 = .ok (.imul, 1) := by decide +kernel
theorem dX4_takesFigure_21 : decode cX4_takesFigure 21 = .ok (.iload_n 1, 1) := by decide +kernel
theorem dX4_takesFigure_22 : decode cX4_takesFigure 22 = .ok (.iadd, 1) := by decide +kernel
theorem dX4_takesFigure_23 : decode cX4_takesFigure 23 = .ok (.istore_n 2, 1) := by decide +kernel
theorem dX4_takesFigure_24 : decode cX4_takesFigure 24 = .ok (.aload_n 0, 1) := by decide +kernel
theorem dX4_takesFigure_25 : decode cX4_takesFigure 25 = .ok (.getfield 49, 3) := by decide +kernel
theorem dX4_takesFigure_28 : decode cX4_takesFigure 28 = .ok (.ifCond .eq 25, 3) := by decide +kernel
theorem dX4_takesFigure_31 : decode cX4_takesFigure 31 = .ok (.iload_n 2, 1) := by decide +kernel
theorem dX4_takesFigure_32 : decode cX4_takesFigure 32 = .ok (.sipush 999, 3) := by decide +kernel
theorem dX4_takesFigure_35 : decode cX4_takesFigure 35 = .ok (.if_icmp .gt 18, 3) := by decide +kernel
theorem dX4_takesFigure_38 : decode cX4_takesFigure 38 = .ok (.iload_n 2, 1) := by decide +kernel
theorem dX4_takesFigure_39 : decode cX4_takesFigure 39 = .ok (.ifCond .gt 10, 3) := by decide +kernel
theorem dX4_takesFigure_42 : decode cX4_takesFigure 42 = .ok (.aload_n 0, 1) := by decide +kernel
theorem dX4_takesFigure_43 : decode cX4_takesFigure 43 = .ok (.getfield 52, 3) := by decide +kernel
theorem dX4_takesFigure_46 : decode cX4_takesFigure 46 = .ok (.ifCond .ne 7, 3) := by decide +kernel
theorem dX4_takesFigure_49 : decode cX4_takesFigure 49 = .ok (.iconst 1, 1) := by decide +kernel
theorem dX4_takesFigure_50 : decode cX4_takesFigure 50 = .ok (.goto 4, 3) := by decide +kernel
theorem dX4_takesFigure_53 : decode cX4_takesFigure 53 = .ok (.iconst 0, 1) := by decide +kernel
theorem dX4_takesFigure_54 : decode cX4_takesFigure 54 = .ok (.istore_n 3, 1) := by decide +kernel
theorem dX4_takesFigure_55 : decode cX4_takesFigure 55 = .ok (.aload_n 0, 1) := by decide +kernel
theorem dX4_takesFigure_56 : decode cX4_takesFigure 56 = .ok (.iload_n 3, 1) := by decide +kernel
theorem dX4_takesFigure_57 : decode cX4_takesFigure 57 = .ok (.ifCond .eq 7, 3) := by decide +kernel
theorem dX4_takesFigure_60 : decode cX4_takesFigure 60 = .ok (.iload_n 2, 1) := by decide +kernel
theorem dX4_takesFigure_61 : decode cX4_takesFigure 61 = .ok (.goto 7, 3) := by decide +kernel
theorem dX4_takesFigure_64 : decode cX4_takesFigure 64 = .ok (.aload_n 0, 1) := by decide +kernel
theorem dX4_takesFigure_65 : decode cX4_takesFigure 65 = .ok (.getfield 49, 3) := by decide +kernel
theorem dX4_takesFigure_68 : decode cX4_takesFigure 68 = .ok (.putfield 49, 3) := by decide +kernel
theorem dX4_takesFigure_71 : decode cX4_takesFigure 71 = .ok (.iload_n 3, 1) := by decide +kernel
theorem dX4_takesFigure_72 : decode cX4_takesFigure 72 = .ok (.ireturn, 1) := by decide +kernel
theorem dX4_takes_0 : decode cX4_takes 0 = .ok (.iload_n 1, 1) := by decide +kernel
theorem dX4_takes_1 : decode cX4_takes 1 = .ok (.bipush 48, 2) := by decide +kernel
theorem dX4_takes_3 : decode cX4_takes 3 = .ok (.bipush 57, 2) := by decide +kernel
theorem dX4_takes_5 : decode cX4_takes 5 = .ok (.invokestatic 41, 3) := by decide +kernel
theorem dX4_takes_8 : decode cX4_takes 8 = .ok (.ifCond .eq 12, 3) := by decide +kernel
theorem dX4_takes_11 : decode cX4_takes 11 = .ok (.aload_n 0, 1) := by decide +kernel
theorem dX4_takes_12 : decode cX4_takes 12 = .ok (.iload_n 1, 1) := by decide +kernel
theorem dX4_takes_13 : decode cX4_takes 13 = .ok (.bipush 48, 2) := by decide +kernel
theorem dX4_takes_15 : decode cX4_takes 15 = .ok (.isub, 1) := by decide +kernel
theorem dX4_takes_16 : decode cX4_takes 16 = .ok (.invokevirtual 56, 3) := by decide +kernel
theorem dX4_takes_19 : decode cX4_takes 19 = .ok (.ireturn, 1) := by decide +kernel
theorem dX4_takes_20 : decode cX4_takes 20 = .ok (.iload_n 1, 1) := by decide +kernel
theorem dX4_takes_21 : decode cX4_takes 21 = .ok (.bipush 45, 2) := by decide +kernel
theorem dX4_takes_23 : decode cX4_takes 23 = .ok (.if_icmp .ne 27, 3) := by decide +kernel
theorem dX4_takes_26 : decode cX4_takes 26 = .ok (.aload_n 0, 1) := by decide +kernel
theorem dX4_takes_27 : decode cX4_takes 27 = .ok (.getfield 49, 3) := by decide +kernel
theorem dX4_takes_30 : decode cX4_takes 30 = .ok (.sipush (-10001), 3) := by decide +kernel
theorem dX4_takes_33 : decode cX4_takes 33 = .ok (.if_icmp .ne 17, 3) := by decide +kernel
theorem dX4_takes_36 : decode cX4_takes 36 = .ok (.aload_n 0, 1) := by decide +kernel
theorem dX4_takes_37 : decode cX4_takes 37 = .ok (.getfield 52, 3) := by decide +kernel
theorem dX4_takes_40 : decode cX4_takes 40 = .ok (.ifCond .ne 10, 3) := by decide +kernel
theorem dX4_takes_43 : decode cX4_takes 43 = .ok (.aload_n 0, 1) := by decide +kernel
theorem dX4_takes_44 : decode cX4_takes 44 = .ok (.iconst 1, 1) := by decide +kernel
theorem dX4_takes_45 : decode cX4_takes 45 = .ok (.putfield 52, 3) := by decide +kernel
theorem dX4_takes_48 : decode cX4_takes 48 = .ok (.iconst 1, 1) := by decide +kernel
theorem dX4_takes_49 : decode cX4_takes 49 = .ok (.ireturn, 1) := by decide +kernel
theorem dX4_takes_50 : decode cX4_takes 50 = .ok (.aload_n 0, 1) := by decide +kernel
theorem dX4_takes_51 : decode cX4_takes 51 = .ok (.getfield 60, 3) := by decide +kernel
theorem dX4_takes_54 : decode cX4_takes 54 = .ok (.bipush 6, 2) := by decide +kernel
theorem dX4_takes_56 : decode cX4_takes 56 = .ok (.irem, 1) := by decide +kernel
theorem dX4_takes_57 : decode cX4_takes 57 = .ok (.istore_n 2, 1) := by decide +kernel
theorem dX4_takes_58 : decode cX4_takes 58 = .ok (.iload_n 2, 1) := by decide +kernel
theorem dX4_takes_59 : decode cX4_takes 59 = .ok (.iconst 2, 1) := by decide +kernel
theorem dX4_takes_60 : decode cX4_takes 60 = .ok (.irem, 1) := by decide +kernel
theorem dX4_takes_61 : decode cX4_takes 61 = .ok (.ifCond .ne 17, 3) := by decide +kernel
theorem dX4_takes_64 : decode cX4_takes 64 = .ok (.iload_n 1, 1) := by decide +kernel
theorem dX4_takes_65 : decode cX4_takes 65 = .ok (.bipush 58, 2) := by decide +kernel
theorem dX4_takes_67 : decode cX4_takes 67 = .ok (.if_icmp .ne 7, 3) := by decide +kernel
theorem dX4_takes_70 : decode cX4_takes 70 = .ok (.iconst 1, 1) := by decide +kernel
theorem dX4_takes_71 : decode cX4_takes 71 = .ok (.goto 46, 3) := by decide +kernel
theorem dX4_takes_74 : decode cX4_takes 74 = .ok (.iconst 0, 1) := by decide +kernel
theorem dX4_takes_75 : decode cX4_takes 75 = .ok (.goto 42, 3) := by decide +kernel
theorem dX4_takes_78 : decode cX4_takes 78 = .ok (.iload_n 2, 1) := by decide +kernel
theorem dX4_takes_79 : decode cX4_takes 79 = .ok (.iconst 5, 1) := by decide +kernel
theorem dX4_takes_80 : decode cX4_takes 80 = .ok (.if_icmp .ge 17, 3) := by decide +kernel
theorem dX4_takes_83 : decode cX4_takes 83 = .ok (.iload_n 1, 1) := by decide +kernel
theorem dX4_takes_84 : decode cX4_takes 84 = .ok (.bipush 44, 2) := by decide +kernel
theorem dX4_takes_86 : decode cX4_takes 86 = .ok (.if_icmp .ne 7, 3) := by decide +kernel
theorem dX4_takes_89 : decode cX4_takes 89 = .ok (.iconst 1, 1) := by decide +kernel
theorem dX4_takes_90 : decode cX4_takes 90 = .ok (.goto 27, 3) := by decide +kernel
theorem dX4_takes_93 : decode cX4_takes 93 = .ok (.iconst 0, 1) := by decide +kernel
theorem dX4_takes_94 : decode cX4_takes 94 = .ok (.goto 23, 3) := by decide +kernel
theorem dX4_takes_97 : decode cX4_takes 97 = .ok (.iload_n 1, 1) := by decide +kernel
theorem dX4_takes_98 : decode cX4_takes 98 = .ok (.bipush 59, 2) := by decide +kernel
theorem dX4_takes_100 : decode cX4_takes 100 = .ok (.if_icmp .ne 16, 3) := by decide +kernel
theorem dX4_takes_103 : decode cX4_takes 103 = .ok (.aload_n 0, 1) := by decide +kernel
theorem dX4_takes_104 : decode cX4_takes 104 = .ok (.getfield 60, 3) := by decide +kernel
theorem dX4_takes_107 : decode cX4_takes 107 = .ok (.bipush 23, 2) := by decide +kernel
theorem dX4_takes_109 : decode cX4_takes 109 = .ok (.if_icmp .ge 7, 3) := by decide +kernel
theorem dX4_takes_112 : decode cX4_takes 112 = .ok (.iconst 1, 1) := by decide +kernel
theorem dX4_takes_113 : decode cX4_takes 113 = .ok (.goto 4, 3) := by decide +kernel
theorem dX4_takes_116 : decode cX4_takes 116 = .ok (.iconst 0, 1) := by decide +kernel
theorem dX4_takes_117 : decode cX4_takes 117 = .ok (.istore_n 3, 1) := by decide +kernel
theorem dX4_takes_118 : decode cX4_takes 118 = .ok (.aload_n 0, 1) := by decide +kernel
theorem dX4_takes_119 : decode cX4_takes 119 = .ok (.getfield 49, 3) := by decide +kernel
theorem dX4_takes_122 : decode cX4_takes 122 = .ok (.sipush (-10001), 3) := by decide +kernel
theorem dX4_takes_125 : decode cX4_takes 125 = .ok (.if_icmp .eq 7, 3) := by decide +kernel
theorem dX4_takes_128 : decode cX4_takes 128 = .ok (.iload_n 3, 1) := by decide +kernel
theorem dX4_takes_129 : decode cX4_takes 129 = .ok (.ifCond .ne 5, 3) := by decide +kernel
theorem dX4_takes_132 : decode cX4_takes 132 = .ok (.iconst 0, 1) := by decide +kernel
theorem dX4_takes_133 : decode cX4_takes 133 = .ok (.ireturn, 1) := by decide +kernel
theorem dX4_takes_134 : decode cX4_takes 134 = .ok (.aload_n 0, 1) := by decide +kernel
theorem dX4_takes_135 : decode cX4_takes 135 = .ok (.invokevirtual 63, 3) := by decide +kernel
theorem dX4_takes_138 : decode cX4_takes 138 = .ok (.iconst 1, 1) := by decide +kernel
theorem dX4_takes_139 : decode cX4_takes 139 = .ok (.ireturn, 1) := by decide +kernel
theorem dX4_keepNumber_0 : decode cX4_keepNumber 0 = .ok (.aload_n 0, 1) := by decide +kernel
theorem dX4_keepNumber_1 : decode cX4_keepNumber 1 = .ok (.getfield 31, 3) := by decide +kernel
theorem dX4_keepNumber_4 : decode cX4_keepNumber 4 = .ok (.aload_n 0, 1) := by decide +kernel
theorem dX4_keepNumber_5 : decode cX4_keepNumber 5 = .ok (.getfield 60, 3) := by decide +kernel
theorem dX4_keepNumber_8 : decode cX4_keepNumber 8 = .ok (.aload_n 0, 1) := by decide +kernel
theorem dX4_keepNumber_9 : decode cX4_keepNumber 9 = .ok (.getfield 52, 3) := by decide +kernel
theorem dX4_keepNumber_12 : decode cX4_keepNumber 12 = .ok (.ifCond .eq 11, 3) := by decide +kernel
theorem dX4_keepNumber_15 : decode cX4_keepNumber 15 = .ok (.aload_n 0, 1) := by decide +kernel
theorem dX4_keepNumber_16 : decode cX4_keepNumber 16 = .ok (.getfield 49, 3) := by decide +kernel
theorem dX4_keepNumber_19 : decode cX4_keepNumber 19 = .ok (.ineg, 1) := by decide +kernel
theorem dX4_keepNumber_20 : decode cX4_keepNumber 20 = .ok (.goto 7, 3) := by decide +kernel
theorem dX4_keepNumber_23 : decode cX4_keepNumber 23 = .ok (.aload_n 0, 1) := by decide +kernel
theorem dX4_keepNumber_24 : decode cX4_keepNumber 24 = .ok (.getfield 49, 3) := by decide +kernel
theorem dX4_keepNumber_27 : decode cX4_keepNumber 27 = .ok (.iastore, 1) := by decide +kernel
theorem dX4_keepNumber_28 : decode cX4_keepNumber 28 = .ok (.aload_n 0, 1) := by decide +kernel
theorem dX4_keepNumber_29 : decode cX4_keepNumber 29 = .ok (.dup, 1) := by decide +kernel
theorem dX4_keepNumber_30 : decode cX4_keepNumber 30 = .ok (.getfield 60, 3) := by decide +kernel
theorem dX4_keepNumber_33 : decode cX4_keepNumber 33 = .ok (.iconst 1, 1) := by decide +kernel
theorem dX4_keepNumber_34 : decode cX4_keepNumber 34 = .ok (.iadd, 1) := by decide +kernel
theorem dX4_keepNumber_35 : decode cX4_keepNumber 35 = .ok (.putfield 60, 3) := by decide +kernel
theorem dX4_keepNumber_38 : decode cX4_keepNumber 38 = .ok (.aload_n 0, 1) := by decide +kernel
theorem dX4_keepNumber_39 : decode cX4_keepNumber 39 = .ok (.sipush (-10001), 3) := by decide +kernel
theorem dX4_keepNumber_42 : decode cX4_keepNumber 42 = .ok (.putfield 49, 3) := by decide +kernel
theorem dX4_keepNumber_45 : decode cX4_keepNumber 45 = .ok (.aload_n 0, 1) := by decide +kernel
theorem dX4_keepNumber_46 : decode cX4_keepNumber 46 = .ok (.iconst 0, 1) := by decide +kernel
theorem dX4_keepNumber_47 : decode cX4_keepNumber 47 = .ok (.putfield 52, 3) := by decide +kernel
theorem dX4_keepNumber_50 : decode cX4_keepNumber 50 = .ok (.return_, 1) := by decide +kernel
theorem dX4_read_0 : decode cX4_read 0 = .ok (.aload_n 0, 1) := by decide +kernel
theorem dX4_read_1 : decode cX4_read 1 = .ok (.iconst 0, 1) := by decide +kernel
theorem dX4_read_2 : decode cX4_read 2 = .ok (.putfield 60, 3) := by decide +kernel
theorem dX4_read_5 : decode cX4_read 5 = .ok (.aload_n 0, 1) := by decide +kernel
theorem dX4_read_6 : decode cX4_read 6 = .ok (.sipush (-10001), 3) := by decide +kernel
theorem dX4_read_9 : decode cX4_read 9 = .ok (.putfield 49, 3) := by decide +kernel
theorem dX4_read_12 : decode cX4_read 12 = .ok (.aload_n 0, 1) := by decide +kernel
theorem dX4_read_13 : decode cX4_read 13 = .ok (.iconst 0, 1) := by decide +kernel
theorem dX4_read_14 : decode cX4_read 14 = .ok (.putfield 52, 3) := by decide +kernel
theorem dX4_read_17 : decode cX4_read 17 = .ok (.iconst 0, 1) := by decide +kernel
theorem dX4_read_18 : decode cX4_read 18 = .ok (.istore_n 1, 1) := by decide +kernel
theorem dX4_read_19 : decode cX4_read 19 = .ok (.iload_n 1, 1) := by decide +kernel
theorem dX4_read_20 : decode cX4_read 20 = .ok (.aload_n 0, 1) := by decide +kernel
theorem dX4_read_21 : decode cX4_read 21 = .ok (.getfield 45, 3) := by decide +kernel
theorem dX4_read_24 : decode cX4_read 24 = .ok (.if_icmp .ge 22, 3) := by decide +kernel
theorem dX4_read_27 : decode cX4_read 27 = .ok (.aload_n 0, 1) := by decide +kernel
theorem dX4_read_28 : decode cX4_read 28 = .ok (.aload_n 0, 1) := by decide +kernel
theorem dX4_read_29 : decode cX4_read 29 = .ok (.getfield 7, 3) := by decide +kernel
theorem dX4_read_32 : decode cX4_read 32 = .ok (.iload_n 1, 1) := by decide +kernel
theorem dX4_read_33 : decode cX4_read 33 = .ok (.iaload, 1) := by decide +kernel
theorem dX4_read_34 : decode cX4_read 34 = .ok (.invokevirtual 66, 3) := by decide +kernel
theorem dX4_read_37 : decode cX4_read 37 = .ok (.ifCond .eq 9, 3) := by decide +kernel
theorem dX4_read_40 : decode cX4_read 40 = .ok (.iinc 1 1, 3) := by decide +kernel
theorem dX4_read_43 : decode cX4_read 43 = .ok (.goto (-24), 3) := by decide +kernel
theorem dX4_read_46 : decode cX4_read 46 = .ok (.iload_n 1, 1) := by decide +kernel
theorem dX4_read_47 : decode cX4_read 47 = .ok (.ireturn, 1) := by decide +kernel
