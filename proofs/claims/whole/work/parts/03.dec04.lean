theorem dX4_fault_0 : decode cX4_fault 0 = .ok (.aload_n 0, 1) := by decide +kernel
theorem dX4_fault_1 : decode cX4_fault 1 = .ok (.invokevirtual 69, 3) := by decide +kernel
theorem dX4_fault_4 : decode cX4_fault 4 = .ok (.ireturn, 1) := by decide +kernel
theorem dX4_isBatch_0 : decode cX4_isBatch 0 = .ok (.aload_n 0, 1) := by decide +kernel
theorem dX4_isBatch_1 : decode cX4_isBatch 1 = .ok (.invokevirtual 69, 3) := by decide +kernel
theorem dX4_isBatch_4 : decode cX4_isBatch 4 = .ok (.aload_n 0, 1) := by decide +kernel
theorem dX4_isBatch_5 : decode cX4_isBatch 5 = .ok (.getfield 45, 3) := by decide +kernel
theorem dX4_isBatch_8 : decode cX4_isBatch 8 = .ok (.if_icmp .lt 24, 3) := by decide +kernel
theorem dX4_isBatch_11 : decode cX4_isBatch 11 = .ok (.aload_n 0, 1) := by decide +kernel
theorem dX4_isBatch_12 : decode cX4_isBatch 12 = .ok (.getfield 49, 3) := by decide +kernel
theorem dX4_isBatch_15 : decode cX4_isBatch 15 = .ok (.sipush (-10001), 3) := by decide +kernel
theorem dX4_isBatch_18 : decode cX4_isBatch 18 = .ok (.if_icmp .eq 14, 3) := by decide +kernel
theorem dX4_isBatch_21 : decode cX4_isBatch 21 = .ok (.aload_n 0, 1) := by decide +kernel
theorem dX4_isBatch_22 : decode cX4_isBatch 22 = .ok (.getfield 60, 3) := by decide +kernel
theorem dX4_isBatch_25 : decode cX4_isBatch 25 = .ok (.bipush 6, 2) := by decide +kernel
theorem dX4_isBatch_27 : decode cX4_isBatch 27 = .ok (.irem, 1) := by decide +kernel
theorem dX4_isBatch_28 : decode cX4_isBatch 28 = .ok (.iconst 5, 1) := by decide +kernel
theorem dX4_isBatch_29 : decode cX4_isBatch 29 = .ok (.if_icmp .eq 5, 3) := by decide +kernel
theorem dX4_isBatch_32 : decode cX4_isBatch 32 = .ok (.iconst 0, 1) := by decide +kernel
theorem dX4_isBatch_33 : decode cX4_isBatch 33 = .ok (.ireturn, 1) := by decide +kernel
theorem dX4_isBatch_34 : decode cX4_isBatch 34 = .ok (.aload_n 0, 1) := by decide +kernel
theorem dX4_isBatch_35 : decode cX4_isBatch 35 = .ok (.invokevirtual 63, 3) := by decide +kernel
theorem dX4_isBatch_38 : decode cX4_isBatch 38 = .ok (.iconst 1, 1) := by decide +kernel
theorem dX4_isBatch_39 : decode cX4_isBatch 39 = .ok (.istore_n 1, 1) := by decide +kernel
theorem dX4_isBatch_40 : decode cX4_isBatch 40 = .ok (.iconst 0, 1) := by decide +kernel
theorem dX4_isBatch_41 : decode cX4_isBatch 41 = .ok (.istore_n 2, 1) := by decide +kernel
theorem dX4_isBatch_42 : decode cX4_isBatch 42 = .ok (.iload_n 2, 1) := by decide +kernel
theorem dX4_isBatch_43 : decode cX4_isBatch 43 = .ok (.aload_n 0, 1) := by decide +kernel
theorem dX4_isBatch_44 : decode cX4_isBatch 44 = .ok (.getfield 60, 3) := by decide +kernel
theorem dX4_isBatch_47 : decode cX4_isBatch 47 = .ok (.if_icmp .ge 36, 3) := by decide +kernel
theorem dX4_isBatch_50 : decode cX4_isBatch 50 = .ok (.iload_n 1, 1) := by decide +kernel
theorem dX4_isBatch_51 : decode cX4_isBatch 51 = .ok (.ifCond .eq 24, 3) := by decide +kernel
theorem dX4_isBatch_54 : decode cX4_isBatch 54 = .ok (.aload_n 0, 1) := by decide +kernel
theorem dX4_isBatch_55 : decode cX4_isBatch 55 = .ok (.getfield 31, 3) := by decide +kernel
theorem dX4_isBatch_58 : decode cX4_isBatch 58 = .ok (.iload_n 2, 1) := by decide +kernel
theorem dX4_isBatch_59 : decode cX4_isBatch 59 = .ok (.iaload, 1) := by decide +kernel
theorem dX4_isBatch_60 : decode cX4_isBatch 60 = .ok (.aload_n 0, 1) := by decide +kernel
theorem dX4_isBatch_61 : decode cX4_isBatch 61 = .ok (.getfield 31, 3) := by decide +kernel
theorem dX4_isBatch_64 : decode cX4_isBatch 64 = .ok (.iload_n 2, 1) := by decide +kernel
theorem dX4_isBatch_65 : decode cX4_isBatch 65 = .ok (.iconst 1, 1) := by decide +kernel
theorem dX4_isBatch_66 : decode cX4_isBatch 66 = .ok (.iadd, 1) := by decide +kernel
theorem dX4_isBatch_67 : decode cX4_isBatch 67 = .ok (.iaload, 1) := by decide +kernel
theorem dX4_isBatch_68 : decode cX4_isBatch 68 = .ok (.if_icmp .ge 7, 3) := by decide +kernel
theorem dX4_isBatch_71 : decode cX4_isBatch 71 = .ok (.iconst 1, 1) := by decide +kernel
theorem dX4_isBatch_72 : decode cX4_isBatch 72 = .ok (.goto 4, 3) := by decide +kernel
theorem dX4_isBatch_75 : decode cX4_isBatch 75 = .ok (.iconst 0, 1) := by decide +kernel
theorem dX4_isBatch_76 : decode cX4_isBatch 76 = .ok (.istore_n 1, 1) := by decide +kernel
theorem dX4_isBatch_77 : decode cX4_isBatch 77 = .ok (.iinc 2 2, 3) := by decide +kernel
theorem dX4_isBatch_80 : decode cX4_isBatch 80 = .ok (.goto (-38), 3) := by decide +kernel
theorem dX4_isBatch_83 : decode cX4_isBatch 83 = .ok (.iload_n 1, 1) := by decide +kernel
theorem dX4_isBatch_84 : decode cX4_isBatch 84 = .ok (.ireturn, 1) := by decide +kernel
theorem dX4_boxMany_0 : decode cX4_boxMany 0 = .ok (.iconst 0, 1) := by decide +kernel
theorem dX4_boxMany_1 : decode cX4_boxMany 1 = .ok (.istore_n 1, 1) := by decide +kernel
theorem dX4_boxMany_2 : decode cX4_boxMany 2 = .ok (.iconst 0, 1) := by decide +kernel
theorem dX4_boxMany_3 : decode cX4_boxMany 3 = .ok (.istore_n 2, 1) := by decide +kernel
theorem dX4_boxMany_4 : decode cX4_boxMany 4 = .ok (.iload_n 2, 1) := by decide +kernel
theorem dX4_boxMany_5 : decode cX4_boxMany 5 = .ok (.bipush 12, 2) := by decide +kernel
theorem dX4_boxMany_7 : decode cX4_boxMany 7 = .ok (.if_icmp .ge 20, 3) := by decide +kernel
theorem dX4_boxMany_10 : decode cX4_boxMany 10 = .ok (.iload_n 1, 1) := by decide +kernel
theorem dX4_boxMany_11 : decode cX4_boxMany 11 = .ok (.aload_n 0, 1) := by decide +kernel
theorem dX4_boxMany_12 : decode cX4_boxMany 12 = .ok (.getfield 73, 3) := by decide +kernel
theorem dX4_boxMany_15 : decode cX4_boxMany 15 = .ok (.iload_n 2, 1) := by decide +kernel
theorem dX4_boxMany_16 : decode cX4_boxMany 16 = .ok (.ishr, 1) := by decide +kernel
theorem dX4_boxMany_17 : decode cX4_boxMany 17 = .ok (.iconst 1, 1) := by decide +kernel
theorem dX4_boxMany_18 : decode cX4_boxMany 18 = .ok (.iand, 1) := by decide +kernel
theorem dX4_boxMany_19 : decode cX4_boxMany 19 = .ok (.iadd, 1) := by decide +kernel
theorem dX4_boxMany_20 : decode cX4_boxMany 20 = .ok (.istore_n 1, 1) := by decide +kernel
theorem dX4_boxMany_21 : decode cX4_boxMany 21 = .ok (.iinc 2 1, 3) := by decide +kernel
theorem dX4_boxMany_24 : decode cX4_boxMany 24 = .ok (.goto (-20), 3) := by decide +kernel
theorem dX4_boxMany_27 : decode cX4_boxMany 27 = .ok (.iload_n 1, 1) := by decide +kernel
theorem dX4_boxMany_28 : decode cX4_boxMany 28 = .ok (.ireturn, 1) := by decide +kernel
theorem dX4_boxes_0 : decode cX4_boxes 0 = .ok (.aload_n 0, 1) := by decide +kernel
theorem dX4_boxes_1 : decode cX4_boxes 1 = .ok (.invokevirtual 76, 3) := by decide +kernel
theorem dX4_boxes_4 : decode cX4_boxes 4 = .ok (.ifCond .ne 7, 3) := by decide +kernel
theorem dX4_boxes_7 : decode cX4_boxes 7 = .ok (.sipush (-10004), 3) := by decide +kernel
theorem dX4_boxes_10 : decode cX4_boxes 10 = .ok (.ireturn, 1) := by decide +kernel
theorem dX4_boxes_11 : decode cX4_boxes 11 = .ok (.aload_n 0, 1) := by decide +kernel
theorem dX4_boxes_12 : decode cX4_boxes 12 = .ok (.getfield 60, 3) := by decide +kernel
theorem dX4_boxes_15 : decode cX4_boxes 15 = .ok (.bipush 6, 2) := by decide +kernel
theorem dX4_boxes_17 : decode cX4_boxes 17 = .ok (.idiv, 1) := by decide +kernel
theorem dX4_boxes_18 : decode cX4_boxes 18 = .ok (.istore_n 1, 1) := by decide +kernel
theorem dX4_boxes_19 : decode cX4_boxes 19 = .ok (.aload_n 0, 1) := by decide +kernel
theorem dX4_boxes_20 : decode cX4_boxes 20 = .ok (.invokevirtual 80, 3) := by decide +kernel
theorem dX4_boxes_23 : decode cX4_boxes 23 = .ok (.iload_n 1, 1) := by decide +kernel
theorem dX4_boxes_24 : decode cX4_boxes 24 = .ok (.iadd, 1) := by decide +kernel
theorem dX4_boxes_25 : decode cX4_boxes 25 = .ok (.bipush 12, 2) := by decide +kernel
theorem dX4_boxes_27 : decode cX4_boxes 27 = .ok (.if_icmp .le 7, 3) := by decide +kernel
theorem dX4_boxes_30 : decode cX4_boxes 30 = .ok (.sipush (-10005), 3) := by decide +kernel
theorem dX4_boxes_33 : decode cX4_boxes 33 = .ok (.ireturn, 1) := by decide +kernel
theorem dX4_boxes_34 : decode cX4_boxes 34 = .ok (.aload_n 0, 1) := by decide +kernel
theorem dX4_boxes_35 : decode cX4_boxes 35 = .ok (.invokevirtual 83, 3) := by decide +kernel
theorem dX4_boxes_38 : decode cX4_boxes 38 = .ok (.iconst 0, 1) := by decide +kernel
theorem dX4_boxes_39 : decode cX4_boxes 39 = .ok (.istore_n 2, 1) := by decide +kernel
theorem dX4_boxes_40 : decode cX4_boxes 40 = .ok (.iload_n 2, 1) := by decide +kernel
theorem dX4_boxes_41 : decode cX4_boxes 41 = .ok (.iload_n 1, 1) := by decide +kernel
theorem dX4_boxes_42 : decode cX4_boxes 42 = .ok (.if_icmp .ge 80, 3) := by decide +kernel
theorem dX4_boxes_45 : decode cX4_boxes 45 = .ok (.iconst 0, 1) := by decide +kernel
theorem dX4_boxes_46 : decode cX4_boxes 46 = .ok (.istore_n 3, 1) := by decide +kernel
theorem dX4_boxes_47 : decode cX4_boxes 47 = .ok (.aload_n 0, 1) := by decide +kernel
theorem dX4_boxes_48 : decode cX4_boxes 48 = .ok (.getfield 73, 3) := by decide +kernel
theorem dX4_boxes_51 : decode cX4_boxes 51 = .ok (.iload_n 3, 1) := by decide +kernel
theorem dX4_boxes_52 : decode cX4_boxes 52 = .ok (.invokestatic 86, 3) := by decide +kernel
theorem dX4_boxes_55 : decode cX4_boxes 55 = .ok (.ifCond .eq 9, 3) := by decide +kernel
theorem dX4_boxes_58 : decode cX4_boxes 58 = .ok (.iinc 3 1, 3) := by decide +kernel
theorem dX4_boxes_61 : decode cX4_boxes 61 = .ok (.goto (-14), 3) := by decide +kernel
theorem dX4_boxes_64 : decode cX4_boxes 64 = .ok (.aload_n 0, 1) := by decide +kernel
theorem dX4_boxes_65 : decode cX4_boxes 65 = .ok (.dup, 1) := by decide +kernel
theorem dX4_boxes_66 : decode cX4_boxes 66 = .ok (.getfield 73, 3) := by decide +kernel
theorem dX4_boxes_69 : decode cX4_boxes 69 = .ok (.iconst 1, 1) := by decide +kernel
theorem dX4_boxes_70 : decode cX4_boxes 70 = .ok (.iload_n 3, 1) := by decide +kernel
theorem dX4_boxes_71 : decode cX4_boxes 71 = .ok (.ishl, 1) := by decide +kernel
theorem dX4_boxes_72 : decode cX4_boxes 72 = .ok (.ior, 1) := by decide +kernel
theorem dX4_boxes_73 : decode cX4_boxes 73 = .ok (.putfield 73, 3) := by decide +kernel
theorem dX4_boxes_76 : decode cX4_boxes 76 = .ok (.iconst 0, 1) := by decide +kernel
theorem dX4_boxes_77 : decode cX4_boxes 77 = .ok (.istore 4, 2) := by decide +kernel
theorem dX4_boxes_79 : decode cX4_boxes 79 = .ok (.iload 4, 2) := by decide +kernel
theorem dX4_boxes_81 : decode cX4_boxes 81 = .ok (.bipush 6, 2) := by decide +kernel
theorem dX4_boxes_83 : decode cX4_boxes 83 = .ok (.if_icmp .ge 33, 3) := by decide +kernel
theorem dX4_boxes_86 : decode cX4_boxes 86 = .ok (.aload_n 0, 1) := by decide +kernel
theorem dX4_boxes_87 : decode cX4_boxes 87 = .ok (.getfield 13, 3) := by decide +kernel
theorem dX4_boxes_90 : decode cX4_boxes 90 = .ok (.bipush 6, 2) := by decide +kernel
theorem dX4_boxes_92 : decode cX4_boxes 92 = .ok (.iload_n 3, 1) := by decide +kernel
theorem dX4_boxes_93 : decode cX4_boxes 93 = .ok (.imul, 1) := by decide +kernel
theorem dX4_boxes_94 : decode cX4_boxes 94 = .ok (.iload 4, 2) := by decide +kernel
theorem dX4_boxes_96 : decode cX4_boxes 96 = .ok (.iadd, 1) := by decide +kernel
theorem dX4_boxes_97 : decode cX4_boxes 97 = .ok (.aload_n 0, 1) := by decide +kernel
theorem dX4_boxes_98 : decode cX4_boxes 98 = .ok (.getfield 31, 3) := by decide +kernel
theorem dX4_boxes_101 : decode cX4_boxes 101 = .ok (.bipush 6, 2) := by decide +kernel
theorem dX4_boxes_103 : decode cX4_boxes 103 = .ok (.iload_n 2, 1) := by decide +kernel
theorem dX4_boxes_104 : decode cX4_boxes 104 = .ok (.imul, 1) := by decide +kernel
theorem dX4_boxes_105 : decode cX4_boxes 105 = .ok (.iload 4, 2) := by decide +kernel
theorem dX4_boxes_107 : decode cX4_boxes 107 = .ok (.iadd, 1) := by decide +kernel
theorem dX4_boxes_108 : decode cX4_boxes 108 = .ok (.iaload, 1) := by decide +kernel
theorem dX4_boxes_109 : decode cX4_boxes 109 = .ok (.iastore, 1) := by decide +kernel
theorem dX4_boxes_110 : decode cX4_boxes 110 = .ok (.iinc 4 1, 3) := by decide +kernel
theorem dX4_boxes_113 : decode cX4_boxes 113 = .ok (.goto (-34), 3) := by decide +kernel
theorem dX4_boxes_116 : decode cX4_boxes 116 = .ok (.iinc 2 1, 3) := by decide +kernel
theorem dX4_boxes_119 : decode cX4_boxes 119 = .ok (.goto (-79), 3) := by decide +kernel
theorem dX4_boxes_122 : decode cX4_boxes 122 = .ok (.aload_n 0, 1) := by decide +kernel
theorem dX4_boxes_123 : decode cX4_boxes 123 = .ok (.invokevirtual 90, 3) := by decide +kernel
theorem dX4_boxes_126 : decode cX4_boxes 126 = .ok (.aload_n 0, 1) := by decide +kernel
theorem dX4_boxes_127 : decode cX4_boxes 127 = .ok (.iconst 0, 1) := by decide +kernel
theorem dX4_boxes_128 : decode cX4_boxes 128 = .ok (.invokevirtual 93, 3) := by decide +kernel
theorem dX4_boxes_131 : decode cX4_boxes 131 = .ok (.aload_n 0, 1) := by decide +kernel
theorem dX4_boxes_132 : decode cX4_boxes 132 = .ok (.iconst 0, 1) := by decide +kernel
theorem dX4_boxes_133 : decode cX4_boxes 133 = .ok (.putfield 45, 3) := by decide +kernel
theorem dX4_boxes_136 : decode cX4_boxes 136 = .ok (.iload_n 1, 1) := by decide +kernel
theorem dX4_boxes_137 : decode cX4_boxes 137 = .ok (.ireturn, 1) := by decide +kernel
theorem dX4_lowOf_0 : decode cX4_lowOf 0 = .ok (.aload_n 0, 1) := by decide +kernel
theorem dX4_lowOf_1 : decode cX4_lowOf 1 = .ok (.getfield 13, 3) := by decide +kernel
theorem dX4_lowOf_4 : decode cX4_lowOf 4 = .ok (.bipush 6, 2) := by decide +kernel
theorem dX4_lowOf_6 : decode cX4_lowOf 6 = .ok (.iload_n 1, 1) := by decide +kernel
theorem dX4_lowOf_7 : decode cX4_lowOf 7 = .ok (.imul, 1) := by decide +kernel
theorem dX4_lowOf_8 : decode cX4_lowOf 8 = .ok (.iconst 2, 1) := by decide +kernel
theorem dX4_lowOf_9 : decode cX4_lowOf 9 = .ok (.iload_n 2, 1) := by decide +kernel
theorem dX4_lowOf_10 : decode cX4_lowOf 10 = .ok (.imul, 1) := by decide +kernel
theorem dX4_lowOf_11 : decode cX4_lowOf 11 = .ok (.iadd, 1) := by decide +kernel
theorem dX4_lowOf_12 : decode cX4_lowOf 12 = .ok (.iaload, 1) := by decide +kernel
theorem dX4_lowOf_13 : decode cX4_lowOf 13 = .ok (.ireturn, 1) := by decide +kernel
theorem dX4_highOf_0 : decode cX4_highOf 0 = .ok (.aload_n 0, 1) := by decide +kernel
theorem dX4_highOf_1 : decode cX4_highOf 1 = .ok (.getfield 13, 3) := by decide +kernel
theorem dX4_highOf_4 : decode cX4_highOf 4 = .ok (.bipush 6, 2) := by decide +kernel
theorem dX4_highOf_6 : decode cX4_highOf 6 = .ok (.iload_n 1, 1) := by decide +kernel
theorem dX4_highOf_7 : decode cX4_highOf 7 = .ok (.imul, 1) := by decide +kernel
theorem dX4_highOf_8 : decode cX4_highOf 8 = .ok (.iconst 2, 1) := by decide +kernel
theorem dX4_highOf_9 : decode cX4_highOf 9 = .ok (.iload_n 2, 1) := by decide +kernel
theorem dX4_highOf_10 : decode cX4_highOf 10 = .ok (.imul, 1) := by decide +kernel
theorem dX4_highOf_11 : decode cX4_highOf 11 = .ok (.iadd, 1) := by decide +kernel
theorem dX4_highOf_12 : decode cX4_highOf 12 = .ok (.iconst 1, 1) := by decide +kernel
theorem dX4_highOf_13 : decode cX4_highOf 13 = .ok (.iadd, 1) := by decide +kernel
theorem dX4_highOf_14 : decode cX4_highOf 14 = .ok (.iaload, 1) := by decide +kernel
theorem dX4_highOf_15 : decode cX4_highOf 15 = .ok (.ireturn, 1) := by decide +kernel
theorem dX4_valueOf_0 : decode cX4_valueOf 0 = .ok (.aload_n 0, 1) := by decide +kernel
theorem dX4_valueOf_1 : decode cX4_valueOf 1 = .ok (.getfield 13, 3) := by decide +kernel
theorem dX4_valueOf_4 : decode cX4_valueOf 4 = .ok (.bipush 6, 2) := by decide +kernel
theorem dX4_valueOf_6 : decode cX4_valueOf 6 = .ok (.iload_n 1, 1) := by decide +kernel
theorem dX4_valueOf_7 : decode cX4_valueOf 7 = .ok (.iconst 2, 1) := by decide +kernel
theorem dX4_valueOf_8 : decode cX4_valueOf 8 = .ok (.idiv, 1) := by decide +kernel
theorem dX4_valueOf_9 : decode cX4_valueOf 9 = .ok (.imul, 1) := by decide +kernel
theorem dX4_valueOf_10 : decode cX4_valueOf 10 = .ok (.iconst 2, 1) := by decide +kernel
theorem dX4_valueOf_11 : decode cX4_valueOf 11 = .ok (.iload_n 2, 1) := by decide +kernel
theorem dX4_valueOf_12 : decode cX4_valueOf 12 = .ok (.imul, 1) := by decide +kernel
theorem dX4_valueOf_13 : decode cX4_valueOf 13 = .ok (.iadd, 1) := by decide +kernel
theorem dX4_valueOf_14 : decode cX4_valueOf 14 = .ok (.iload_n 1, 1) := by decide +kernel
theorem dX4_valueOf_15 : decode cX4_valueOf 15 = .ok (.iconst 2, 1) := by decide +kernel
theorem dX4_valueOf_16 : decode cX4_valueOf 16 = .ok (.irem, 1) := by decide +kernel
theorem dX4_valueOf_17 : decode cX4_valueOf 17 = .ok (.iadd, 1) := by decide +kernel
theorem dX4_valueOf_18 : decode cX4_valueOf 18 = .ok (.iaload, 1) := by decide +kernel
theorem dX4_valueOf_19 : decode cX4_valueOf 19 = .ok (.ireturn, 1) := by decide +kernel
theorem dX4_isAhead_0 : decode cX4_isAhead 0 = .ok (.aload_n 0, 1) := by decide +kernel
theorem dX4_isAhead_1 : decode cX4_isAhead 1 = .ok (.iload_n 3, 1) := by decide +kernel
theorem dX4_isAhead_2 : decode cX4_isAhead 2 = .ok (.iload 4, 2) := by decide +kernel
theorem dX4_isAhead_4 : decode cX4_isAhead 4 = .ok (.invokevirtual 97, 3) := by decide +kernel
theorem dX4_isAhead_7 : decode cX4_isAhead 7 = .ok (.istore 5, 2) := by decide +kernel
theorem dX4_isAhead_9 : decode cX4_isAhead 9 = .ok (.iload_n 2, 1) := by decide +kernel
theorem dX4_isAhead_10 : decode cX4_isAhead 10 = .ok (.iload 5, 2) := by decide +kernel
theorem dX4_isAhead_12 : decode cX4_isAhead 12 = .ok (.if_icmp .eq 15, 3) := by decide +kernel
theorem dX4_isAhead_15 : decode cX4_isAhead 15 = .ok (.iload_n 2, 1) := by decide +kernel
theorem dX4_isAhead_16 : decode cX4_isAhead 16 = .ok (.iload 5, 2) := by decide +kernel
theorem dX4_isAhead_18 : decode cX4_isAhead 18 = .ok (.if_icmp .ge 7, 3) := by decide +kernel
theorem dX4_isAhead_21 : decode cX4_isAhead 21 = .ok (.iconst 1, 1) := by decide +kernel
theorem dX4_isAhead_22 : decode cX4_isAhead 22 = .ok (.goto 4, 3) := by decide +kernel
theorem dX4_isAhead_25 : decode cX4_isAhead 25 = .ok (.iconst 0, 1) := by decide +kernel
theorem dX4_isAhead_26 : decode cX4_isAhead 26 = .ok (.ireturn, 1) := by decide +kernel
theorem dX4_isAhead_27 : decode cX4_isAhead 27 = .ok (.iload_n 1, 1) := by decide +kernel
theorem dX4_isAhead_28 : decode cX4_isAhead 28 = .ok (.iconst 2, 1) := by decide +kernel
theorem dX4_isAhead_29 : decode cX4_isAhead 29 = .ok (.irem, 1) := by decide +kernel
theorem dX4_isAhead_30 : decode cX4_isAhead 30 = .ok (.iload_n 3, 1) := by decide +kernel
theorem dX4_isAhead_31 : decode cX4_isAhead 31 = .ok (.iconst 2, 1) := by decide +kernel
theorem dX4_isAhead_32 : decode cX4_isAhead 32 = .ok (.irem, 1) := by decide +kernel
theorem dX4_isAhead_33 : decode cX4_isAhead 33 = .ok (.if_icmp .eq 27, 3) := by decide +kernel
theorem dX4_isAhead_36 : decode cX4_isAhead 36 = .ok (.iload_n 1, 1) := by decide +kernel
theorem dX4_isAhead_37 : decode cX4_isAhead 37 = .ok (.iconst 2, 1) := by decide +kernel
theorem dX4_isAhead_38 : decode cX4_isAhead 38 = .ok (.irem, 1) := by decide +kernel
theorem dX4_isAhead_39 : decode cX4_isAhead 39 = .ok (.ifCond .ne 7, 3) := by decide +kernel
theorem dX4_isAhead_42 : decode cX4_isAhead 42 = .ok (.iconst 1, 1) := by decide +kernel
theorem dX4_isAhead_43 : decode cX4_isAhead 43 = .ok (.goto 4, 3) := by decide +kernel
theorem dX4_isAhead_46 : decode cX4_isAhead 46 = .ok (.iconst 0, 1) := by decide +kernel
theorem dX4_isAhead_47 : decode cX4_isAhead 47 = .ok (.aload_n 0, 1) := by decide +kernel
theorem dX4_isAhead_48 : decode cX4_isAhead 48 = .ok (.getfield 101, 3) := by decide +kernel
theorem dX4_isAhead_51 : decode cX4_isAhead 51 = .ok (.if_icmp .ne 7, 3) := by decide +kernel
theorem dX4_isAhead_54 : decode cX4_isAhead 54 = .ok (.iconst 1, 1) := by decide +kernel
theorem dX4_isAhead_55 : decode cX4_isAhead 55 = .ok (.goto 4, 3) := by decide +kernel
theorem dX4_isAhead_58 : decode cX4_isAhead 58 = .ok (.iconst 0, 1) := by decide +kernel
theorem dX4_isAhead_59 : decode cX4_isAhead 59 = .ok (.ireturn, 1) := by decide +kernel
theorem dX4_isAhead_60 : decode cX4_isAhead 60 = .ok (.iload_n 1, 1) := by decide +kernel
theorem dX4_isAhead_61 : decode cX4_isAhead 61 = .ok (.iconst 2, 1) := by decide +kernel
theorem dX4_isAhead_62 : decode cX4_isAhead 62 = .ok (.idiv, 1) := by decide +kernel
theorem dX4_isAhead_63 : decode cX4_isAhead 63 = .ok (.iload_n 3, 1) := by decide +kernel
theorem dX4_isAhead_64 : decode cX4_isAhead 64 = .ok (.iconst 2, 1) := by decide +kernel
theorem dX4_isAhead_65 : decode cX4_isAhead 65 = .ok (.idiv, 1) := by decide +kernel
theorem dX4_isAhead_66 : decode cX4_isAhead 66 = .ok (.if_icmp .ge 7, 3) := by decide +kernel
theorem dX4_isAhead_69 : decode cX4_isAhead 69 = .ok (.iconst 1, 1) := by decide +kernel
theorem dX4_isAhead_70 : decode cX4_isAhead 70 = .ok (.goto 4, 3) := by decide +kernel
theorem dX4_isAhead_73 : decode cX4_isAhead 73 = .ok (.iconst 0, 1) := by decide +kernel
theorem dX4_isAhead_74 : decode cX4_isAhead 74 = .ok (.ireturn, 1) := by decide +kernel
theorem dX4_areMeeting_0 : decode cX4_areMeeting 0 = .ok (.aload_n 0, 1) := by decide +kernel
theorem dX4_areMeeting_1 : decode cX4_areMeeting 1 = .ok (.getfield 101, 3) := by decide +kernel
theorem dX4_areMeeting_4 : decode cX4_areMeeting 4 = .ok (.ifCond .eq 7, 3) := by decide +kernel
theorem dX4_areMeeting_7 : decode cX4_areMeeting 7 = .ok (.iconst 1, 1) := by decide +kernel
theorem dX4_areMeeting_8 : decode cX4_areMeeting 8 = .ok (.goto 4, 3) := by decide +kernel
theorem dX4_areMeeting_11 : decode cX4_areMeeting 11 = .ok (.iconst 0, 1) := by decide +kernel
theorem dX4_areMeeting_12 : decode cX4_areMeeting 12 = .ok (.istore 4, 2) := by decide +kernel
theorem dX4_areMeeting_14 : decode cX4_areMeeting 14 = .ok (.aload_n 0, 1) := by decide +kernel
theorem dX4_areMeeting_15 : decode cX4_areMeeting 15 = .ok (.iload_n 1, 1) := by decide +kernel
theorem dX4_areMeeting_16 : decode cX4_areMeeting 16 = .ok (.iload_n 3, 1) := by decide +kernel
theorem dX4_areMeeting_17 : decode cX4_areMeeting 17 = .ok (.invokevirtual 104, 3) := by decide +kernel
theorem dX4_areMeeting_20 : decode cX4_areMeeting 20 = .ok (.aload_n 0, 1) := by decide +kernel
theorem dX4_areMeeting_21 : decode cX4_areMeeting 21 = .ok (.iload_n 2, 1) := by decide +kernel
theorem dX4_areMeeting_22 : decode cX4_areMeeting 22 = .ok (.iload_n 3, 1) := by decide +kernel
theorem dX4_areMeeting_23 : decode cX4_areMeeting 23 = .ok (.invokevirtual 107, 3) := by decide +kernel
theorem dX4_areMeeting_26 : decode cX4_areMeeting 26 = .ok (.iload 4, 2) := by decide +kernel
theorem dX4_areMeeting_28 : decode cX4_areMeeting 28 = .ok (.iadd, 1) := by decide +kernel
theorem dX4_areMeeting_29 : decode cX4_areMeeting 29 = .ok (.if_icmp .ge 25, 3) := by decide +kernel
theorem dX4_areMeeting_32 : decode cX4_areMeeting 32 = .ok (.aload_n 0, 1) := by decide +kernel
theorem dX4_areMeeting_33 : decode cX4_areMeeting 33 = .ok (.iload_n 2, 1) := by decide +kernel
theorem dX4_areMeeting_34 : decode cX4_areMeeting 34 = .ok (.iload_n 3, 1) := by decide +kernel
theorem dX4_areMeeting_35 : decode cX4_areMeeting 35 = .ok (.invokevirtual 104, 3) := by decide +kernel
theorem dX4_areMeeting_38 : decode cX4_areMeeting 38 = .ok (.aload_n 0, 1) := by decide +kernel
theorem dX4_areMeeting_39 : decode cX4_areMeeting 39 = .ok (.iload_n 1, 1) := by decide +kernel
theorem dX4_areMeeting_40 : decode cX4_areMeeting 40 = .ok (.iload_n 3, 1) := by decide +kernel
theorem dX4_areMeeting_41 : decode cX4_areMeeting 41 = .ok (.invokevirtual 107, 3) := by decide +kernel
theorem dX4_areMeeting_44 : decode cX4_areMeeting 44 = .ok (.iload 4, 2) := by decide +kernel
theorem dX4_areMeeting_46 : decode cX4_areMeeting 46 = .ok (.iadd, 1) := by decide +kernel
theorem dX4_areMeeting_47 : decode cX4_areMeeting 47 = .ok (.if_icmp .ge 7, 3) := by decide +kernel
theorem dX4_areMeeting_50 : decode cX4_areMeeting 50 = .ok (.iconst 1, 1) := by decide +kernel
theorem dX4_areMeeting_51 : decode cX4_areMeeting 51 = .ok (.goto 4, 3) := by decide +kernel
theorem dX4_areMeeting_54 : decode cX4_areMeeting 54 = .ok (.iconst 0, 1) := by decide +kernel
theorem dX4_areMeeting_55 : decode cX4_areMeeting 55 = .ok (.ireturn, 1) := by decide +kernel
theorem dX4_layRow_0 : decode cX4_layRow 0 = .ok (.aload_n 0, 1) := by decide +kernel
theorem dX4_layRow_1 : decode cX4_layRow 1 = .ok (.iconst 0, 1) := by decide +kernel
theorem dX4_layRow_2 : decode cX4_layRow 2 = .ok (.putfield 110, 3) := by decide +kernel
theorem dX4_layRow_5 : decode cX4_layRow 5 = .ok (.iconst 0, 1) := by decide +kernel
theorem dX4_layRow_6 : decode cX4_layRow 6 = .ok (.istore_n 2, 1) := by decide +kernel
theorem dX4_layRow_7 : decode cX4_layRow 7 = .ok (.iload_n 2, 1) := by decide +kernel
theorem dX4_layRow_8 : decode cX4_layRow 8 = .ok (.bipush 24, 2) := by decide +kernel
theorem dX4_layRow_10 : decode cX4_layRow 10 = .ok (.if_icmp .ge 111, 3) := by decide +kernel
theorem dX4_layRow_13 : decode cX4_layRow 13 = .ok (.aload_n 0, 1) := by decide +kernel
theorem dX4_layRow_14 : decode cX4_layRow 14 = .ok (.getfield 73, 3) := by decide +kernel
theorem dX4_layRow_17 : decode cX4_layRow 17 = .ok (.iload_n 2, 1) := by decide +kernel
theorem dX4_layRow_18 : decode cX4_layRow 18 = .ok (.iconst 2, 1) := by decide +kernel
theorem dX4_layRow_19 : decode cX4_layRow 19 = .ok (.idiv, 1) := by decide +kernel
theorem dX4_layRow_20 : decode cX4_layRow 20 = .ok (.invokestatic 86, 3) := by decide +kernel
theorem dX4_layRow_23 : decode cX4_layRow 23 = .ok (.ifCond .eq 92, 3) := by decide +kernel
theorem dX4_layRow_26 : decode cX4_layRow 26 = .ok (.aload_n 0, 1) := by decide +kernel
theorem dX4_layRow_27 : decode cX4_layRow 27 = .ok (.getfield 110, 3) := by decide +kernel
theorem dX4_layRow_30 : decode cX4_layRow 30 = .ok (.istore_n 3, 1) := by decide +kernel
theorem dX4_layRow_31 : decode cX4_layRow 31 = .ok (.iload_n 3, 1) := by decide +kernel
theorem dX4_layRow_32 : decode cX4_layRow 32 = .ok (.ifCond .le 61, 3) := by decide +kernel
theorem dX4_layRow_35 : decode cX4_layRow 35 = .ok (.aload_n 0, 1) := by decide +kernel
theorem dX4_layRow_36 : decode cX4_layRow 36 = .ok (.iload_n 2, 1) := by decide +kernel
theorem dX4_layRow_37 : decode cX4_layRow 37 = .ok (.aload_n 0, 1) := by decide +kernel
theorem dX4_layRow_38 : decode cX4_layRow 38 = .ok (.iload_n 2, 1) := by decide +kernel
theorem dX4_layRow_39 : decode cX4_layRow 39 = .ok (.iload_n 1, 1) := by decide +kernel
theorem dX4_layRow_40 : decode cX4_layRow 40 = .ok (.invokevirtual 97, 3) := by decide +kernel
theorem dX4_layRow_43 : decode cX4_layRow 43 = .ok (.aload_n 0, 1) := by decide +kernel
theorem dX4_layRow_44 : decode cX4_layRow 44 = .ok (.getfield 16, 3) := by decide +kernel
theorem dX4_layRow_47 : decode cX4_layRow 47 = .ok (.bipush 24, 2) := by decide +kernel
theorem dX4_layRow_49 : decode cX4_layRow 49 = .ok (.iload_n 1, 1) := by decide +kernel
theorem dX4_layRow_50 : decode cX4_layRow 50 = .ok (.imul, 1) := by decide +kernel
theorem dX4_layRow_51 : decode cX4_layRow 51 = .ok (.iload_n 3, 1) := by decide +kernel
theorem dX4_layRow_52 : decode cX4_layRow 52 = .ok (.iadd, 1) := by decide +kernel
theorem dX4_layRow_53 : decode cX4_layRow 53 = .ok (.iconst 1, 1) := by decide +kernel
theorem dX4_layRow_54 : decode cX4_layRow 54 = .ok (.isub, 1) := by decide +kernel
theorem dX4_layRow_55 : decode cX4_layRow 55 = .ok (.iaload, 1) := by decide +kernel
theorem dX4_layRow_56 : decode cX4_layRow 56 = .ok (.iload_n 1, 1) := by decide +kernel
theorem dX4_layRow_57 : decode cX4_layRow 57 = .ok (.invokevirtual 113, 3) := by decide +kernel
theorem dX4_layRow_60 : decode cX4_layRow 60 = .ok (.ifCond .eq 33, 3) := by decide +kernel
theorem dX4_layRow_63 : decode cX4_layRow 63 = .ok (.aload_n 0, 1) := by decide +kernel
theorem dX4_layRow_64 : decode cX4_layRow 64 = .ok (.getfield 16, 3) := by decide +kernel
theorem dX4_layRow_67 : decode cX4_layRow 67 = .ok (.bipush 24, 2) := by decide +kernel
theorem dX4_layRow_69 : decode cX4_layRow 69 = .ok (.iload_n 1, 1) := by decide +kernel
theorem dX4_layRow_70 : decode cX4_layRow 70 = .ok (.imul, 1) := by decide +kernel
theorem dX4_layRow_71 : decode cX4_layRow 71 = .ok (.iload_n 3, 1) := by decide +kernel
theorem dX4_layRow_72 : decode cX4_layRow 72 = .ok (.iadd, 1) := by decide +kernel
theorem dX4_layRow_73 : decode cX4_layRow 73 = .ok (.aload_n 0, 1) := by decide +kernel
theorem dX4_layRow_74 : decode cX4_layRow 74 = .ok (.getfield 16, 3) := by decide +kernel
theorem dX4_layRow_77 : decode cX4_layRow 77 = .ok (.bipush 24, 2) := by decide +kernel
theorem dX4_layRow_79 : decode cX4_layRow 79 = .ok (.iload_n 1, 1) := by decide +kernel
theorem dX4_layRow_80 : decode cX4_layRow 80 = .ok (.imul, 1) := by decide +kernel
theorem dX4_layRow_81 : decode cX4_layRow 81 = .ok (.iload_n 3, 1) := by decide +kernel
theorem dX4_layRow_82 : decode cX4_layRow 82 = .ok (.iadd, 1) := by decide +kernel
theorem dX4_layRow_83 : decode cX4_layRow 83 = .ok (.iconst 1, 1) := by decide +kernel
theorem dX4_layRow_84 : decode cX4_layRow 84 = .ok (.isub, 1) := by decide +kernel
theorem dX4_layRow_85 : decode cX4_layRow 85 = .ok (.iaload, 1) := by decide +kernel
theorem dX4_layRow_86 : decode cX4_layRow 86 = .ok (.iastore, 1) := by decide +kernel
theorem dX4_layRow_87 : decode cX4_layRow 87 = .ok (.iinc 3 (-1), 3) := by decide +kernel
theorem dX4_layRow_90 : decode cX4_layRow 90 = .ok (.goto (-59), 3) := by decide +kernel
theorem dX4_layRow_93 : decode cX4_layRow 93 = .ok (.aload_n 0, 1) := by decide +kernel
theorem dX4_layRow_94 : decode cX4_layRow 94 = .ok (.getfield 16, 3) := by decide +kernel
theorem dX4_layRow_97 : decode cX4_layRow 97 = .ok (.bipush 24, 2) := by decide +kernel
theorem dX4_layRow_99 : decode cX4_layRow 99 = .ok (.iload_n 1, 1) := by decide +kernel
theorem dX4_layRow_100 : decode cX4_layRow 100 = .ok (.imul, 1) := by decide +kernel
theorem dX4_layRow_101 : decode cX4_layRow 101 = .ok (.iload_n 3, 1) := by decide +kernel
theorem dX4_layRow_102 : decode cX4_layRow 102 = .ok (.iadd, 1) := by decide +kernel
theorem dX4_layRow_103 : decode cX4_layRow 103 = .ok (.iload_n 2, 1) := by decide +kernel
theorem dX4_layRow_104 : decode cX4_layRow 104 = .ok (.iastore, 1) := by decide +kernel
theorem dX4_layRow_105 : decode cX4_layRow 105 = .ok (.aload_n 0, 1) := by decide +kernel
theorem dX4_layRow_106 : decode cX4_layRow 106 = .ok (.dup, 1) := by decide +kernel
theorem dX4_layRow_107 : decode cX4_layRow 107 = .ok (.getfield 110, 3) := by decide +kernel
theorem dX4_layRow_110 : decode cX4_layRow 110 = .ok (.iconst 1, 1) := by decide +kernel
theorem dX4_layRow_111 : decode cX4_layRow 111 = .ok (.iadd, 1) := by decide +kernel
theorem dX4_layRow_112 : decode cX4_layRow 112 = .ok (.putfield 110, 3) := by decide +kernel
theorem dX4_layRow_115 : decode cX4_layRow 115 = .ok (.iinc 2 1, 3) := by decide +kernel
theorem dX4_layRow_118 : decode cX4_layRow 118 = .ok (.goto (-111), 3) := by decide +kernel
theorem dX4_layRow_121 : decode cX4_layRow 121 = .ok (.return_, 1) := by decide +kernel
theorem dX4_layAll_0 : decode cX4_layAll 0 = .ok (.iconst 0, 1) := by decide +kernel
theorem dX4_layAll_1 : decode cX4_layAll 1 = .ok (.istore_n 1, 1) := by decide +kernel
theorem dX4_layAll_2 : decode cX4_layAll 2 = .ok (.iload_n 1, 1) := by decide +kernel
theorem dX4_layAll_3 : decode cX4_layAll 3 = .ok (.iconst 3, 1) := by decide +kernel
theorem dX4_layAll_4 : decode cX4_layAll 4 = .ok (.if_icmp .ge 14, 3) := by decide +kernel
theorem dX4_layAll_7 : decode cX4_layAll 7 = .ok (.aload_n 0, 1) := by decide +kernel
theorem dX4_layAll_8 : decode cX4_layAll 8 = .ok (.iload_n 1, 1) := by decide +kernel
theorem dX4_layAll_9 : decode cX4_layAll 9 = .ok (.invokevirtual 117, 3) := by decide +kernel
theorem dX4_layAll_12 : decode cX4_layAll 12 = .ok (.iinc 1 1, 3) := by decide +kernel
theorem dX4_layAll_15 : decode cX4_layAll 15 = .ok (.goto (-13), 3) := by decide +kernel
theorem dX4_layAll_18 : decode cX4_layAll 18 = .ok (.iconst 0, 1) := by decide +kernel
theorem dX4_layAll_19 : decode cX4_layAll 19 = .ok (.istore_n 1, 1) := by decide +kernel
theorem dX4_layAll_20 : decode cX4_layAll 20 = .ok (.iload_n 1, 1) := by decide +kernel
theorem dX4_layAll_21 : decode cX4_layAll 21 = .ok (.sipush 144, 3) := by decide +kernel
theorem dX4_layAll_24 : decode cX4_layAll 24 = .ok (.if_icmp .ge 96, 3) := by decide +kernel
theorem dX4_layAll_27 : decode cX4_layAll 27 = .ok (.iload_n 1, 1) := by decide +kernel
theorem dX4_layAll_28 : decode cX4_layAll 28 = .ok (.bipush 12, 2) := by decide +kernel
theorem dX4_layAll_30 : decode cX4_layAll 30 = .ok (.idiv, 1) := by decide +kernel
theorem dX4_layAll_31 : decode cX4_layAll 31 = .ok (.istore_n 2, 1) := by decide +kernel
theorem dX4_layAll_32 : decode cX4_layAll 32 = .ok (.iload_n 1, 1) := by decide +kernel
theorem dX4_layAll_33 : decode cX4_layAll 33 = .ok (.bipush 12, 2) := by decide +kernel
theorem dX4_layAll_35 : decode cX4_layAll 35 = .ok (.irem, 1) := by decide +kernel
theorem dX4_layAll_36 : decode cX4_layAll 36 = .ok (.istore_n 3, 1) := by decide +kernel
theorem dX4_layAll_37 : decode cX4_layAll 37 = .ok (.aload_n 0, 1) := by decide +kernel
theorem dX4_layAll_38 : decode cX4_layAll 38 = .ok (.getfield 19, 3) := by decide +kernel
theorem dX4_layAll_41 : decode cX4_layAll 41 = .ok (.iload_n 1, 1) := by decide +kernel
theorem dX4_layAll_42 : decode cX4_layAll 42 = .ok (.iconst 0, 1) := by decide +kernel
theorem dX4_layAll_43 : decode cX4_layAll 43 = .ok (.iastore, 1) := by decide +kernel
theorem dX4_layAll_44 : decode cX4_layAll 44 = .ok (.iconst 0, 1) := by decide +kernel
theorem dX4_layAll_45 : decode cX4_layAll 45 = .ok (.istore 4, 2) := by decide +kernel
theorem dX4_layAll_47 : decode cX4_layAll 47 = .ok (.iload 4, 2) := by decide +kernel
theorem dX4_layAll_49 : decode cX4_layAll 49 = .ok (.iconst 3, 1) := by decide +kernel
theorem dX4_layAll_50 : decode cX4_layAll 50 = .ok (.if_icmp .ge 64, 3) := by decide +kernel
theorem dX4_layAll_53 : decode cX4_layAll 53 = .ok (.iload_n 2, 1) := by decide +kernel
theorem dX4_layAll_54 : decode cX4_layAll 54 = .ok (.iload_n 3, 1) := by decide +kernel
theorem dX4_layAll_55 : decode cX4_layAll 55 = .ok (.if_icmp .eq 59, 3) := by decide +kernel
theorem dX4_layAll_58 : decode cX4_layAll 58 = .ok (.aload_n 0, 1) := by decide +kernel
theorem dX4_layAll_59 : decode cX4_layAll 59 = .ok (.getfield 73, 3) := by decide +kernel
theorem dX4_layAll_62 : decode cX4_layAll 62 = .ok (.iload_n 2, 1) := by decide +kernel
theorem dX4_layAll_63 : decode cX4_layAll 63 = .ok (.invokestatic 86, 3) := by decide +kernel
theorem dX4_layAll_66 : decode cX4_layAll 66 = .ok (.ifCond .eq 48, 3) := by decide +kernel
theorem dX4_layAll_69 : decode cX4_layAll 69 = .ok (.aload_n 0, 1) := by decide +kernel
theorem dX4_layAll_70 : decode cX4_layAll 70 = .ok (.getfield 73, 3) := by decide +kernel
theorem dX4_layAll_73 : decode cX4_layAll 73 = .ok (.iload_n 3, 1) := by decide +kernel
theorem dX4_layAll_74 : decode cX4_layAll 74 = .ok (.invokestatic 86, 3) := by decide +kernel
theorem dX4_layAll_77 : decode cX4_layAll 77 = .ok (.ifCond .eq 37, 3) := by decide +kernel
theorem dX4_layAll_80 : decode cX4_layAll 80 = .ok (.aload_n 0, 1) := by decide +kernel
theorem dX4_layAll_81 : decode cX4_layAll 81 = .ok (.getfield 19, 3) := by decide +kernel
theorem dX4_layAll_84 : decode cX4_layAll 84 = .ok (.iload_n 1, 1) := by decide +kernel
theorem dX4_layAll_85 : decode cX4_layAll 85 = .ok (.dup2, 1) := by decide +kernel
theorem dX4_layAll_86 : decode cX4_layAll 86 = .ok (.iaload, 1) := by decide +kernel
theorem dX4_layAll_87 : decode cX4_layAll 87 = .ok (.aload_n 0, 1) := by decide +kernel
theorem dX4_layAll_88 : decode cX4_layAll 88 = .ok (.iload_n 2, 1) := by decide +kernel
theorem dX4_layAll_89 : decode cX4_layAll 89 = .ok (.iload_n 3, 1) := by decide +kernel
theorem dX4_layAll_90 : decode cX4_layAll 90 = .ok (.iload 4, 2) := by decide +kernel
theorem dX4_layAll_92 : decode cX4_layAll 92 = .ok (.invokevirtual 120, 3) := by decide +kernel
theorem dX4_layAll_95 : decode cX4_layAll 95 = .ok (.ifCond .eq 10, 3) := by decide +kernel
theorem dX4_layAll_98 : decode cX4_layAll 98 = .ok (.iconst 1, 1) := by decide +kernel
theorem dX4_layAll_99 : decode cX4_layAll 99 = .ok (.iload 4, 2) := by decide +kernel
theorem dX4_layAll_101 : decode cX4_layAll 101 = .ok (.ishl, 1) := by decide +kernel
theorem dX4_layAll_102 : decode cX4_layAll 102 = .ok (.goto 4, 3) := by decide +kernel
theorem dX4_layAll_105 : decode cX4_layAll 105 = .ok (.iconst 0, 1) := by decide +kernel
theorem dX4_layAll_106 : decode cX4_layAll 106 = .ok (.ior, 1) := by decide +kernel
theorem dX4_layAll_107 : decode cX4_layAll 107 = .ok (.iastore, 1) := by decide +kernel
theorem dX4_layAll_108 : decode cX4_layAll 108 = .ok (.iinc 4 1, 3) := by decide +kernel
theorem dX4_layAll_111 : decode cX4_layAll 111 = .ok (.goto (-64), 3) := by decide +kernel
theorem dX4_layAll_114 : decode cX4_layAll 114 = .ok (.iinc 1 1, 3) := by decide +kernel
theorem dX4_layAll_117 : decode cX4_layAll 117 = .ok (.goto (-97), 3) := by decide +kernel
theorem dX4_layAll_120 : decode cX4_layAll 120 = .ok (.return_, 1) := by decide +kernel
theorem dX4_areOver_0 : decode cX4_areOver 0 = .ok (.aload_n 0, 1) := by decide +kernel
theorem dX4_areOver_1 : decode cX4_areOver 1 = .ok (.getfield 19, 3) := by decide +kernel
theorem dX4_areOver_4 : decode cX4_areOver 4 = .ok (.bipush 12, 2) := by decide +kernel
theorem dX4_areOver_6 : decode cX4_areOver 6 = .ok (.iload_n 1, 1) := by decide +kernel
theorem dX4_areOver_7 : decode cX4_areOver 7 = .ok (.imul, 1) := by decide +kernel
theorem dX4_areOver_8 : decode cX4_areOver 8 = .ok (.iload_n 2, 1) := by decide +kernel
theorem dX4_areOver_9 : decode cX4_areOver 9 = .ok (.iadd, 1) := by decide +kernel
theorem dX4_areOver_10 : decode cX4_areOver 10 = .ok (.iaload, 1) := by decide +kernel
theorem dX4_areOver_11 : decode cX4_areOver 11 = .ok (.bipush 7, 2) := by decide +kernel
theorem dX4_areOver_13 : decode cX4_areOver 13 = .ok (.if_icmp .ne 7, 3) := by decide +kernel
theorem dX4_areOver_16 : decode cX4_areOver 16 = .ok (.iconst 1, 1) := by decide +kernel
theorem dX4_areOver_17 : decode cX4_areOver 17 = .ok (.goto 4, 3) := by decide +kernel
theorem dX4_areOver_20 : decode cX4_areOver 20 = .ok (.iconst 0, 1) := by decide +kernel
theorem dX4_areOver_21 : decode cX4_areOver 21 = .ok (.ireturn, 1) := by decide +kernel
theorem dX4_beginChange_0 : decode cX4_beginChange 0 = .ok (.iconst 0, 1) := by decide +kernel
theorem dX4_beginChange_1 : decode cX4_beginChange 1 = .ok (.istore_n 1, 1) := by decide +kernel
theorem dX4_beginChange_2 : decode cX4_beginChange 2 = .ok (.iload_n 1, 1) := by decide +kernel
theorem dX4_beginChange_3 : decode cX4_beginChange 3 = .ok (.sipush 144, 3) := by decide +kernel
theorem dX4_beginChange_6 : decode cX4_beginChange 6 = .ok (.if_icmp .ge 31, 3) := by decide +kernel
theorem dX4_beginChange_9 : decode cX4_beginChange 9 = .ok (.aload_n 0, 1) := by decide +kernel
theorem dX4_beginChange_10 : decode cX4_beginChange 10 = .ok (.getfield 34, 3) := by decide +kernel
theorem dX4_beginChange_13 : decode cX4_beginChange 13 = .ok (.iload_n 1, 1) := by decide +kernel
theorem dX4_beginChange_14 : decode cX4_beginChange 14 = .ok (.aload_n 0, 1) := by decide +kernel
theorem dX4_beginChange_15 : decode cX4_beginChange 15 = .ok (.getfield 19, 3) := by decide +kernel
theorem dX4_beginChange_18 : decode cX4_beginChange 18 = .ok (.iload_n 1, 1) := by decide +kernel
theorem dX4_beginChange_19 : decode cX4_beginChange 19 = .ok (.iaload, 1) := by decide +kernel
theorem dX4_beginChange_20 : decode cX4_beginChange 20 = .ok (.bipush 7, 2) := by decide +kernel
theorem dX4_beginChange_22 : decode cX4_beginChange 22 = .ok (.if_icmp .ne 7, 3) := by decide +kernel
theorem dX4_beginChange_25 : decode cX4_beginChange 25 = .ok (.iconst 1, 1) := by decide +kernel
theorem dX4_beginChange_26 : decode cX4_beginChange 26 = .ok (.goto 4, 3) := by decide +kernel
theorem dX4_beginChange_29 : decode cX4_beginChange 29 = .ok (.iconst 0, 1) := by decide +kernel
theorem dX4_beginChange_30 : decode cX4_beginChange 30 = .ok (.bastore, 1) := by decide +kernel
theorem dX4_beginChange_31 : decode cX4_beginChange 31 = .ok (.iinc 1 1, 3) := by decide +kernel
theorem dX4_beginChange_34 : decode cX4_beginChange 34 = .ok (.goto (-32), 3) := by decide +kernel
theorem dX4_beginChange_37 : decode cX4_beginChange 37 = .ok (.aload_n 0, 1) := by decide +kernel
theorem dX4_beginChange_38 : decode cX4_beginChange 38 = .ok (.iconst 0, 1) := by decide +kernel
theorem dX4_beginChange_39 : decode cX4_beginChange 39 = .ok (.putfield 123, 3) := by decide +kernel
theorem dX4_beginChange_42 : decode cX4_beginChange 42 = .ok (.aload_n 0, 1) := by decide +kernel
theorem dX4_beginChange_43 : decode cX4_beginChange 43 = .ok (.getfield 28, 3) := by decide +kernel
theorem dX4_beginChange_46 : decode cX4_beginChange 46 = .ok (.iconst 0, 1) := by decide +kernel
theorem dX4_beginChange_47 : decode cX4_beginChange 47 = .ok (.iconst 0, 1) := by decide +kernel
theorem dX4_beginChange_48 : decode cX4_beginChange 48 = .ok (.iastore, 1) := by decide +kernel
theorem dX4_beginChange_49 : decode cX4_beginChange 49 = .ok (.aload_n 0, 1) := by decide +kernel
theorem dX4_beginChange_50 : decode cX4_beginChange 50 = .ok (.getfield 28, 3) := by decide +kernel
theorem dX4_beginChange_53 : decode cX4_beginChange 53 = .ok (.iconst 1, 1) := by decide +kernel
theorem dX4_beginChange_54 : decode cX4_beginChange 54 = .ok (.iconst 0, 1) := by decide +kernel
theorem dX4_beginChange_55 : decode cX4_beginChange 55 = .ok (.iastore, 1) := by decide +kernel
theorem dX4_beginChange_56 : decode cX4_beginChange 56 = .ok (.aload_n 0, 1) := by decide +kernel
theorem dX4_beginChange_57 : decode cX4_beginChange 57 = .ok (.getfield 28, 3) := by decide +kernel
theorem dX4_beginChange_60 : decode cX4_beginChange 60 = .ok (.iconst 2, 1) := by decide +kernel
theorem dX4_beginChange_61 : decode cX4_beginChange 61 = .ok (.iconst 0, 1) := by decide +kernel
theorem dX4_beginChange_62 : decode cX4_beginChange 62 = .ok (.iastore, 1) := by decide +kernel
theorem dX4_beginChange_63 : decode cX4_beginChange 63 = .ok (.return_, 1) := by decide +kernel
theorem dX4_endChange_0 : decode cX4_endChange 0 = .ok (.aload_n 0, 1) := by decide +kernel
theorem dX4_endChange_1 : decode cX4_endChange 1 = .ok (.iconst 0, 1) := by decide +kernel
theorem dX4_endChange_2 : decode cX4_endChange 2 = .ok (.putfield 126, 3) := by decide +kernel
theorem dX4_endChange_5 : decode cX4_endChange 5 = .ok (.aload_n 0, 1) := by decide +kernel
theorem dX4_endChange_6 : decode cX4_endChange 6 = .ok (.iconst 0, 1) := by decide +kernel
theorem dX4_endChange_7 : decode cX4_endChange 7 = .ok (.putfield 129, 3) := by decide +kernel
theorem dX4_endChange_10 : decode cX4_endChange 10 = .ok (.iconst 0, 1) := by decide +kernel
theorem dX4_endChange_11 : decode cX4_endChange 11 = .ok (.istore_n 2, 1) := by decide +kernel
theorem dX4_endChange_12 : decode cX4_endChange 12 = .ok (.iload_n 2, 1) := by decide +kernel
theorem dX4_endChange_13 : decode cX4_endChange 13 = .ok (.bipush 12, 2) := by decide +kernel
theorem dX4_endChange_15 : decode cX4_endChange 15 = .ok (.if_icmp .ge 111, 3) := by decide +kernel
theorem dX4_endChange_18 : decode cX4_endChange 18 = .ok (.iload_n 2, 1) := by decide +kernel
theorem dX4_endChange_19 : decode cX4_endChange 19 = .ok (.iconst 1, 1) := by decide +kernel
theorem dX4_endChange_20 : decode cX4_endChange 20 = .ok (.iadd, 1) := by decide +kernel
theorem dX4_endChange_21 : decode cX4_endChange 21 = .ok (.istore_n 3, 1) := by decide +kernel
theorem dX4_endChange_22 : decode cX4_endChange 22 = .ok (.iload_n 3, 1) := by decide +kernel
theorem dX4_endChange_23 : decode cX4_endChange 23 = .ok (.bipush 12, 2) := by decide +kernel
theorem dX4_endChange_25 : decode cX4_endChange 25 = .ok (.if_icmp .ge 95, 3) := by decide +kernel
theorem dX4_endChange_28 : decode cX4_endChange 28 = .ok (.aload_n 0, 1) := by decide +kernel
theorem dX4_endChange_29 : decode cX4_endChange 29 = .ok (.getfield 34, 3) := by decide +kernel
theorem dX4_endChange_32 : decode cX4_endChange 32 = .ok (.bipush 12, 2) := by decide +kernel
theorem dX4_endChange_34 : decode cX4_endChange 34 = .ok (.iload_n 2, 1) := by decide +kernel
theorem dX4_endChange_35 : decode cX4_endChange 35 = .ok (.imul, 1) := by decide +kernel
theorem dX4_endChange_36 : decode cX4_endChange 36 = .ok (.iload_n 3, 1) := by decide +kernel
theorem dX4_endChange_37 : decode cX4_endChange 37 = .ok (.iadd, 1) := by decide +kernel
theorem dX4_endChange_38 : decode cX4_endChange 38 = .ok (.baload, 1) := by decide +kernel
theorem dX4_endChange_39 : decode cX4_endChange 39 = .ok (.aload_n 0, 1) := by decide +kernel
theorem dX4_endChange_40 : decode cX4_endChange 40 = .ok (.iload_n 2, 1) := by decide +kernel
theorem dX4_endChange_41 : decode cX4_endChange 41 = .ok (.iload_n 3, 1) := by decide +kernel
theorem dX4_endChange_42 : decode cX4_endChange 42 = .ok (.invokevirtual 132, 3) := by decide +kernel
theorem dX4_endChange_45 : decode cX4_endChange 45 = .ok (.if_icmp .eq 69, 3) := by decide +kernel
theorem dX4_endChange_48 : decode cX4_endChange 48 = .ok (.aload_n 0, 1) := by decide +kernel
theorem dX4_endChange_49 : decode cX4_endChange 49 = .ok (.getfield 22, 3) := by decide +kernel
theorem dX4_endChange_52 : decode cX4_endChange 52 = .ok (.aload_n 0, 1) := by decide +kernel
theorem dX4_endChange_53 : decode cX4_endChange 53 = .ok (.getfield 126, 3) := by decide +kernel
theorem dX4_endChange_56 : decode cX4_endChange 56 = .ok (.bipush 12, 2) := by decide +kernel
theorem dX4_endChange_58 : decode cX4_endChange 58 = .ok (.iload_n 2, 1) := by decide +kernel
theorem dX4_endChange_59 : decode cX4_endChange 59 = .ok (.imul, 1) := by decide +kernel
theorem dX4_endChange_60 : decode cX4_endChange 60 = .ok (.iload_n 3, 1) := by decide +kernel
theorem dX4_endChange_61 : decode cX4_endChange 61 = .ok (.iadd, 1) := by decide +kernel
theorem dX4_endChange_62 : decode cX4_endChange 62 = .ok (.iastore, 1) := by decide +kernel
theorem dX4_endChange_63 : decode cX4_endChange 63 = .ok (.aload_n 0, 1) := by decide +kernel
theorem dX4_endChange_64 : decode cX4_endChange 64 = .ok (.getfield 25, 3) := by decide +kernel
theorem dX4_endChange_67 : decode cX4_endChange 67 = .ok (.aload_n 0, 1) := by decide +kernel
theorem dX4_endChange_68 : decode cX4_endChange 68 = .ok (.getfield 126, 3) := by decide +kernel
theorem dX4_endChange_71 : decode cX4_endChange 71 = .ok (.aload_n 0, 1) := by decide +kernel
theorem dX4_endChange_72 : decode cX4_endChange 72 = .ok (.iload_n 2, 1) := by decide +kernel
theorem dX4_endChange_73 : decode cX4_endChange 73 = .ok (.iload_n 3, 1) := by decide +kernel
theorem dX4_endChange_74 : decode cX4_endChange 74 = .ok (.invokevirtual 132, 3) := by decide +kernel
theorem dX4_endChange_77 : decode cX4_endChange 77 = .ok (.ifCond .eq 7, 3) := by decide +kernel
theorem dX4_endChange_80 : decode cX4_endChange 80 = .ok (.iconst 1, 1) := by decide +kernel
theorem dX4_endChange_81 : decode cX4_endChange 81 = .ok (.goto 4, 3) := by decide +kernel
theorem dX4_endChange_84 : decode cX4_endChange 84 = .ok (.iconst 0, 1) := by decide +kernel
theorem dX4_endChange_85 : decode cX4_endChange 85 = .ok (.iastore, 1) := by decide +kernel
theorem dX4_endChange_86 : decode cX4_endChange 86 = .ok (.aload_n 0, 1) := by decide +kernel
theorem dX4_endChange_87 : decode cX4_endChange 87 = .ok (.dup, 1) := by decide +kernel
theorem dX4_endChange_88 : decode cX4_endChange 88 = .ok (.getfield 129, 3) := by decide +kernel
theorem dX4_endChange_91 : decode cX4_endChange 91 = .ok (.aload_n 0, 1) := by decide +kernel
theorem dX4_endChange_92 : decode cX4_endChange 92 = .ok (.getfield 25, 3) := by decide +kernel
theorem dX4_endChange_95 : decode cX4_endChange 95 = .ok (.aload_n 0, 1) := by decide +kernel
theorem dX4_endChange_96 : decode cX4_endChange 96 = .ok (.getfield 126, 3) := by decide +kernel
theorem dX4_endChange_99 : decode cX4_endChange 99 = .ok (.iaload, 1) := by decide +kernel
theorem dX4_endChange_100 : decode cX4_endChange 100 = .ok (.iadd, 1) := by decide +kernel
theorem dX4_endChange_101 : decode cX4_endChange 101 = .ok (.putfield 129, 3) := by decide +kernel
theorem dX4_endChange_104 : decode cX4_endChange 104 = .ok (.aload_n 0, 1) := by decide +kernel
theorem dX4_endChange_105 : decode cX4_endChange 105 = .ok (.dup, 1) := by decide +kernel
theorem dX4_endChange_106 : decode cX4_endChange 106 = .ok (.getfield 126, 3) := by decide +kernel
theorem dX4_endChange_109 : decode cX4_endChange 109 = .ok (.iconst 1, 1) := by decide +kernel
theorem dX4_endChange_110 : decode cX4_endChange 110 = .ok (.iadd, 1) := by decide +kernel
theorem dX4_endChange_111 : decode cX4_endChange 111 = .ok (.putfield 126, 3) := by decide +kernel
theorem dX4_endChange_114 : decode cX4_endChange 114 = .ok (.iinc 3 1, 3) := by decide +kernel
theorem dX4_endChange_117 : decode cX4_endChange 117 = .ok (.goto (-95), 3) := by decide +kernel
theorem dX4_endChange_120 : decode cX4_endChange 120 = .ok (.iinc 2 1, 3) := by decide +kernel
theorem dX4_endChange_123 : decode cX4_endChange 123 = .ok (.goto (-111), 3) := by decide +kernel
theorem dX4_endChange_126 : decode cX4_endChange 126 = .ok (.aload_n 0, 1) := by decide +kernel
theorem dX4_endChange_127 : decode cX4_endChange 127 = .ok (.iload_n 1, 1) := by decide +kernel
theorem dX4_endChange_128 : decode cX4_endChange 128 = .ok (.ifCond .le 12, 3) := by decide +kernel
theorem dX4_endChange_131 : decode cX4_endChange 131 = .ok (.iload_n 1, 1) := by decide +kernel
theorem dX4_endChange_132 : decode cX4_endChange 132 = .ok (.aload_n 0, 1) := by decide +kernel
theorem dX4_endChange_133 : decode cX4_endChange 133 = .ok (.getfield 126, 3) := by decide +kernel
theorem dX4_endChange_136 : decode cX4_endChange 136 = .ok (.isub, 1) := by decide +kernel
theorem dX4_endChange_137 : decode cX4_endChange 137 = .ok (.goto 4, 3) := by decide +kernel
theorem dX4_endChange_140 : decode cX4_endChange 140 = .ok (.iconst 0, 1) := by decide +kernel
theorem dX4_endChange_141 : decode cX4_endChange 141 = .ok (.putfield 135, 3) := by decide +kernel
theorem dX4_endChange_144 : decode cX4_endChange 144 = .ok (.aload_n 0, 1) := by decide +kernel
theorem dX4_endChange_145 : decode cX4_endChange 145 = .ok (.dup, 1) := by decide +kernel
theorem dX4_endChange_146 : decode cX4_endChange 146 = .ok (.getfield 138, 3) := by decide +kernel
theorem dX4_endChange_149 : decode cX4_endChange 149 = .ok (.aload_n 0, 1) := by decide +kernel
theorem dX4_endChange_150 : decode cX4_endChange 150 = .ok (.getfield 129, 3) := by decide +kernel
theorem dX4_endChange_153 : decode cX4_endChange 153 = .ok (.iadd, 1) := by decide +kernel
theorem dX4_endChange_154 : decode cX4_endChange 154 = .ok (.putfield 138, 3) := by decide +kernel
theorem dX4_endChange_157 : decode cX4_endChange 157 = .ok (.aload_n 0, 1) := by decide +kernel
theorem dX4_endChange_158 : decode cX4_endChange 158 = .ok (.dup, 1) := by decide +kernel
theorem dX4_endChange_159 : decode cX4_endChange 159 = .ok (.getfield 141, 3) := by decide +kernel
theorem dX4_endChange_162 : decode cX4_endChange 162 = .ok (.aload_n 0, 1) := by decide +kernel
theorem dX4_endChange_163 : decode cX4_endChange 163 = .ok (.getfield 126, 3) := by decide +kernel
theorem dX4_endChange_166 : decode cX4_endChange 166 = .ok (.aload_n 0, 1) := by decide +kernel
theorem dX4_endChange_167 : decode cX4_endChange 167 = .ok (.getfield 129, 3) := by decide +kernel
theorem dX4_endChange_170 : decode cX4_endChange 170 = .ok (.isub, 1) := by decide +kernel
theorem dX4_endChange_171 : decode cX4_endChange 171 = .ok (.iadd, 1) := by decide +kernel
theorem dX4_endChange_172 : decode cX4_endChange 172 = .ok (.putfield 141, 3) := by decide +kernel
theorem dX4_endChange_175 : decode cX4_endChange 175 = .ok (.aload_n 0, 1) := by decide +kernel
theorem dX4_endChange_176 : decode cX4_endChange 176 = .ok (.dup, 1) := by decide +kernel
theorem dX4_endChange_177 : decode cX4_endChange 177 = .ok (.getfield 144, 3) := by decide +kernel
theorem dX4_endChange_180 : decode cX4_endChange 180 = .ok (.aload_n 0, 1) := by decide +kernel
theorem dX4_endChange_181 : decode cX4_endChange 181 = .ok (.getfield 28, 3) := by decide +kernel
theorem dX4_endChange_184 : decode cX4_endChange 184 = .ok (.iconst 0, 1) := by decide +kernel
theorem dX4_endChange_185 : decode cX4_endChange 185 = .ok (.iaload, 1) := by decide +kernel
theorem dX4_endChange_186 : decode cX4_endChange 186 = .ok (.aload_n 0, 1) := by decide +kernel
theorem dX4_endChange_187 : decode cX4_endChange 187 = .ok (.getfield 28, 3) := by decide +kernel
theorem dX4_endChange_190 : decode cX4_endChange 190 = .ok (.iconst 1, 1) := by decide +kernel
theorem dX4_endChange_191 : decode cX4_endChange 191 = .ok (.iaload, 1) := by decide +kernel
theorem dX4_endChange_192 : decode cX4_endChange 192 = .ok (.iadd, 1) := by decide +kernel
theorem dX4_endChange_193 : decode cX4_endChange 193 = .ok (.aload_n 0, 1) := by decide +kernel
theorem dX4_endChange_194 : decode cX4_endChange 194 = .ok (.getfield 28, 3) := by decide +kernel
theorem dX4_endChange_197 : decode cX4_endChange 197 = .ok (.iconst 2, 1) := by decide +kernel
theorem dX4_endChange_198 : decode cX4_endChange 198 = .ok (.iaload, 1) := by decide +kernel
theorem dX4_endChange_199 : decode cX4_endChange 199 = .ok (.iadd, 1) := by decide +kernel
theorem dX4_endChange_200 : decode cX4_endChange 200 = .ok (.iadd, 1) := by decide +kernel
theorem dX4_endChange_201 : decode cX4_endChange 201 = .ok (.putfield 144, 3) := by decide +kernel
theorem dX4_endChange_204 : decode cX4_endChange 204 = .ok (.aload_n 0, 1) := by decide +kernel
theorem dX4_endChange_205 : decode cX4_endChange 205 = .ok (.dup, 1) := by decide +kernel
theorem dX4_endChange_206 : decode cX4_endChange 206 = .ok (.getfield 147, 3) := by decide +kernel
theorem dX4_endChange_209 : decode cX4_endChange 209 = .ok (.aload_n 0, 1) := by decide +kernel
theorem dX4_endChange_210 : decode cX4_endChange 210 = .ok (.getfield 135, 3) := by decide +kernel
theorem dX4_endChange_213 : decode cX4_endChange 213 = .ok (.iadd, 1) := by decide +kernel
theorem dX4_endChange_214 : decode cX4_endChange 214 = .ok (.putfield 147, 3) := by decide +kernel
theorem dX4_endChange_217 : decode cX4_endChange 217 = .ok (.aload_n 0, 1) := by decide +kernel
theorem dX4_endChange_218 : decode cX4_endChange 218 = .ok (.dup, 1) := by decide +kernel
theorem dX4_endChange_219 : decode cX4_endChange 219 = .ok (.getfield 150, 3) := by decide +kernel
theorem dX4_endChange_222 : decode cX4_endChange 222 = .ok (.iconst 1, 1) := by decide +kernel
theorem dX4_endChange_223 : decode cX4_endChange 223 = .ok (.iadd, 1) := by decide +kernel
theorem dX4_endChange_224 : decode cX4_endChange 224 = .ok (.putfield 150, 3) := by decide +kernel
theorem dX4_endChange_227 : decode cX4_endChange 227 = .ok (.return_, 1) := by decide +kernel
theorem dX4_remove_0 : decode cX4_remove 0 = .ok (.iload_n 1, 1) := by decide +kernel
theorem dX4_remove_1 : decode cX4_remove 1 = .ok (.ifCond .eq 14, 3) := by decide +kernel
theorem dX4_remove_4 : decode cX4_remove 4 = .ok (.iload_n 1, 1) := by decide +kernel
theorem dX4_remove_5 : decode cX4_remove 5 = .ok (.aload_n 0, 1) := by decide +kernel
theorem dX4_remove_6 : decode cX4_remove 6 = .ok (.getfield 73, 3) := by decide +kernel
theorem dX4_remove_9 : decode cX4_remove 9 = .ok (.iconst (-1), 1) := by decide +kernel
theorem dX4_remove_10 : decode cX4_remove 10 = .ok (.ixor, 1) := by decide +kernel
theorem dX4_remove_11 : decode cX4_remove 11 = .ok (.iand, 1) := by decide +kernel
theorem dX4_remove_12 : decode cX4_remove 12 = .ok (.ifCond .eq 7, 3) := by decide +kernel
theorem dX4_remove_15 : decode cX4_remove 15 = .ok (.sipush (-10003), 3) := by decide +kernel
theorem dX4_remove_18 : decode cX4_remove 18 = .ok (.ireturn, 1) := by decide +kernel
theorem dX4_remove_19 : decode cX4_remove 19 = .ok (.aload_n 0, 1) := by decide +kernel
theorem dX4_remove_20 : decode cX4_remove 20 = .ok (.invokevirtual 80, 3) := by decide +kernel
theorem dX4_remove_23 : decode cX4_remove 23 = .ok (.istore_n 2, 1) := by decide +kernel
theorem dX4_remove_24 : decode cX4_remove 24 = .ok (.aload_n 0, 1) := by decide +kernel
theorem dX4_remove_25 : decode cX4_remove 25 = .ok (.invokevirtual 83, 3) := by decide +kernel
theorem dX4_remove_28 : decode cX4_remove 28 = .ok (.aload_n 0, 1) := by decide +kernel
theorem dX4_remove_29 : decode cX4_remove 29 = .ok (.dup, 1) := by decide +kernel
theorem dX4_remove_30 : decode cX4_remove 30 = .ok (.getfield 73, 3) := by decide +kernel
theorem dX4_remove_33 : decode cX4_remove 33 = .ok (.iload_n 1, 1) := by decide +kernel
theorem dX4_remove_34 : decode cX4_remove 34 = .ok (.iconst (-1), 1) := by decide +kernel
theorem dX4_remove_35 : decode cX4_remove 35 = .ok (.ixor, 1) := by decide +kernel
theorem dX4_remove_36 : decode cX4_remove 36 = .ok (.iand, 1) := by decide +kernel
theorem dX4_remove_37 : decode cX4_remove 37 = .ok (.putfield 73, 3) := by decide +kernel
theorem dX4_remove_40 : decode cX4_remove 40 = .ok (.aload_n 0, 1) := by decide +kernel
theorem dX4_remove_41 : decode cX4_remove 41 = .ok (.invokevirtual 90, 3) := by decide +kernel
theorem dX4_remove_44 : decode cX4_remove 44 = .ok (.aload_n 0, 1) := by decide +kernel
theorem dX4_remove_45 : decode cX4_remove 45 = .ok (.iconst 0, 1) := by decide +kernel
theorem dX4_remove_46 : decode cX4_remove 46 = .ok (.invokevirtual 93, 3) := by decide +kernel
theorem dX4_remove_49 : decode cX4_remove 49 = .ok (.iload_n 2, 1) := by decide +kernel
theorem dX4_remove_50 : decode cX4_remove 50 = .ok (.aload_n 0, 1) := by decide +kernel
theorem dX4_remove_51 : decode cX4_remove 51 = .ok (.invokevirtual 80, 3) := by decide +kernel
theorem dX4_remove_54 : decode cX4_remove 54 = .ok (.isub, 1) := by decide +kernel
theorem dX4_remove_55 : decode cX4_remove 55 = .ok (.ireturn, 1) := by decide +kernel
theorem dX4_touch_0 : decode cX4_touch 0 = .ok (.aload_n 0, 1) := by decide +kernel
theorem dX4_touch_1 : decode cX4_touch 1 = .ok (.getfield 101, 3) := by decide +kernel
theorem dX4_touch_4 : decode cX4_touch 4 = .ok (.ifCond .eq 7, 3) := by decide +kernel
theorem dX4_touch_7 : decode cX4_touch 7 = .ok (.iconst 1, 1) := by decide +kernel
theorem dX4_touch_8 : decode cX4_touch 8 = .ok (.goto 4, 3) := by decide +kernel
theorem dX4_touch_11 : decode cX4_touch 11 = .ok (.iconst 0, 1) := by decide +kernel
theorem dX4_touch_12 : decode cX4_touch 12 = .ok (.istore_n 2, 1) := by decide +kernel
theorem dX4_touch_13 : decode cX4_touch 13 = .ok (.aload_n 0, 1) := by decide +kernel
theorem dX4_touch_14 : decode cX4_touch 14 = .ok (.invokevirtual 83, 3) := by decide +kernel
theorem dX4_touch_17 : decode cX4_touch 17 = .ok (.aload_n 0, 1) := by decide +kernel
theorem dX4_touch_18 : decode cX4_touch 18 = .ok (.iload_n 1, 1) := by decide +kernel
theorem dX4_touch_19 : decode cX4_touch 19 = .ok (.putfield 101, 3) := by decide +kernel
theorem dX4_touch_22 : decode cX4_touch 22 = .ok (.aload_n 0, 1) := by decide +kernel
theorem dX4_touch_23 : decode cX4_touch 23 = .ok (.invokevirtual 90, 3) := by decide +kernel
theorem dX4_touch_26 : decode cX4_touch 26 = .ok (.aload_n 0, 1) := by decide +kernel
theorem dX4_touch_27 : decode cX4_touch 27 = .ok (.iconst 0, 1) := by decide +kernel
theorem dX4_touch_28 : decode cX4_touch 28 = .ok (.invokevirtual 93, 3) := by decide +kernel
theorem dX4_touch_31 : decode cX4_touch 31 = .ok (.iload_n 2, 1) := by decide +kernel
theorem dX4_touch_32 : decode cX4_touch 32 = .ok (.ireturn, 1) := by decide +kernel
