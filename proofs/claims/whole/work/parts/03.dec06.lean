theorem dX4_pair_0 : decode cX4_pair 0 = .ok (.aload_n 0, 1) := by decide +kernel
theorem dX4_pair_1 : decode cX4_pair 1 = .ok (.invokevirtual 202, 3) := by decide +kernel
theorem dX4_pair_4 : decode cX4_pair 4 = .ok (.iload_n 1, 1) := by decide +kernel
theorem dX4_pair_5 : decode cX4_pair 5 = .ok (.iconst 0, 1) := by decide +kernel
theorem dX4_pair_6 : decode cX4_pair 6 = .ok (.aload_n 0, 1) := by decide +kernel
theorem dX4_pair_7 : decode cX4_pair 7 = .ok (.getfield 199, 3) := by decide +kernel
theorem dX4_pair_10 : decode cX4_pair 10 = .ok (.iconst 1, 1) := by decide +kernel
theorem dX4_pair_11 : decode cX4_pair 11 = .ok (.isub, 1) := by decide +kernel
theorem dX4_pair_12 : decode cX4_pair 12 = .ok (.invokestatic 41, 3) := by decide +kernel
theorem dX4_pair_15 : decode cX4_pair 15 = .ok (.ifCond .eq 12, 3) := by decide +kernel
theorem dX4_pair_18 : decode cX4_pair 18 = .ok (.aload_n 0, 1) := by decide +kernel
theorem dX4_pair_19 : decode cX4_pair 19 = .ok (.getfield 38, 3) := by decide +kernel
theorem dX4_pair_22 : decode cX4_pair 22 = .ok (.iload_n 1, 1) := by decide +kernel
theorem dX4_pair_23 : decode cX4_pair 23 = .ok (.iaload, 1) := by decide +kernel
theorem dX4_pair_24 : decode cX4_pair 24 = .ok (.goto 6, 3) := by decide +kernel
theorem dX4_pair_27 : decode cX4_pair 27 = .ok (.sipush (-10002), 3) := by decide +kernel
theorem dX4_pair_30 : decode cX4_pair 30 = .ok (.ireturn, 1) := by decide +kernel
theorem dX4_event_0 : decode cX4_event 0 = .ok (.iload_n 1, 1) := by decide +kernel
theorem dX4_event_1 : decode cX4_event 1 = .ok (.iconst 0, 1) := by decide +kernel
theorem dX4_event_2 : decode cX4_event 2 = .ok (.aload_n 0, 1) := by decide +kernel
theorem dX4_event_3 : decode cX4_event 3 = .ok (.getfield 126, 3) := by decide +kernel
theorem dX4_event_6 : decode cX4_event 6 = .ok (.iconst 1, 1) := by decide +kernel
theorem dX4_event_7 : decode cX4_event 7 = .ok (.isub, 1) := by decide +kernel
theorem dX4_event_8 : decode cX4_event 8 = .ok (.invokestatic 41, 3) := by decide +kernel
theorem dX4_event_11 : decode cX4_event 11 = .ok (.ifCond .ne 7, 3) := by decide +kernel
theorem dX4_event_14 : decode cX4_event 14 = .ok (.sipush (-10002), 3) := by decide +kernel
theorem dX4_event_17 : decode cX4_event 17 = .ok (.ireturn, 1) := by decide +kernel
theorem dX4_event_18 : decode cX4_event 18 = .ok (.iload_n 2, 1) := by decide +kernel
theorem dX4_event_19 : decode cX4_event 19 = .ok (.ifCond .ne 12, 3) := by decide +kernel
theorem dX4_event_22 : decode cX4_event 22 = .ok (.aload_n 0, 1) := by decide +kernel
theorem dX4_event_23 : decode cX4_event 23 = .ok (.getfield 22, 3) := by decide +kernel
theorem dX4_event_26 : decode cX4_event 26 = .ok (.iload_n 1, 1) := by decide +kernel
theorem dX4_event_27 : decode cX4_event 27 = .ok (.iaload, 1) := by decide +kernel
theorem dX4_event_28 : decode cX4_event 28 = .ok (.goto 20, 3) := by decide +kernel
theorem dX4_event_31 : decode cX4_event 31 = .ok (.iload_n 2, 1) := by decide +kernel
theorem dX4_event_32 : decode cX4_event 32 = .ok (.iconst 1, 1) := by decide +kernel
theorem dX4_event_33 : decode cX4_event 33 = .ok (.if_icmp .ne 12, 3) := by decide +kernel
theorem dX4_event_36 : decode cX4_event 36 = .ok (.aload_n 0, 1) := by decide +kernel
theorem dX4_event_37 : decode cX4_event 37 = .ok (.getfield 25, 3) := by decide +kernel
theorem dX4_event_40 : decode cX4_event 40 = .ok (.iload_n 1, 1) := by decide +kernel
theorem dX4_event_41 : decode cX4_event 41 = .ok (.iaload, 1) := by decide +kernel
theorem dX4_event_42 : decode cX4_event 42 = .ok (.goto 6, 3) := by decide +kernel
theorem dX4_event_45 : decode cX4_event 45 = .ok (.sipush (-10003), 3) := by decide +kernel
theorem dX4_event_48 : decode cX4_event 48 = .ok (.ireturn, 1) := by decide +kernel
theorem dX4_latestNow_0 : decode cX4_latestNow 0 = .ok (.iload_n 1, 1) := by decide +kernel
theorem dX4_latestNow_1 : decode cX4_latestNow 1 = .ok (.tableswitch 56 0 3 #[31, 36, 41, 51], 31) := by decide +kernel
theorem dX4_latestNow_32 : decode cX4_latestNow 32 = .ok (.aload_n 0, 1) := by decide +kernel
theorem dX4_latestNow_33 : decode cX4_latestNow 33 = .ok (.getfield 126, 3) := by decide +kernel
theorem dX4_latestNow_36 : decode cX4_latestNow 36 = .ok (.ireturn, 1) := by decide +kernel
theorem dX4_latestNow_37 : decode cX4_latestNow 37 = .ok (.aload_n 0, 1) := by decide +kernel
theorem dX4_latestNow_38 : decode cX4_latestNow 38 = .ok (.getfield 129, 3) := by decide +kernel
theorem dX4_latestNow_41 : decode cX4_latestNow 41 = .ok (.ireturn, 1) := by decide +kernel
theorem dX4_latestNow_42 : decode cX4_latestNow 42 = .ok (.aload_n 0, 1) := by decide +kernel
theorem dX4_latestNow_43 : decode cX4_latestNow 43 = .ok (.getfield 126, 3) := by decide +kernel
theorem dX4_latestNow_46 : decode cX4_latestNow 46 = .ok (.aload_n 0, 1) := by decide +kernel
theorem dX4_latestNow_47 : decode cX4_latestNow 47 = .ok (.getfield 129, 3) := by decide +kernel
theorem dX4_latestNow_50 : decode cX4_latestNow 50 = .ok (.isub, 1) := by decide +kernel
theorem dX4_latestNow_51 : decode cX4_latestNow 51 = .ok (.ireturn, 1) := by decide +kernel
theorem dX4_latestNow_52 : decode cX4_latestNow 52 = .ok (.aload_n 0, 1) := by decide +kernel
theorem dX4_latestNow_53 : decode cX4_latestNow 53 = .ok (.getfield 135, 3) := by decide +kernel
theorem dX4_latestNow_56 : decode cX4_latestNow 56 = .ok (.ireturn, 1) := by decide +kernel
theorem dX4_latestNow_57 : decode cX4_latestNow 57 = .ok (.aload_n 0, 1) := by decide +kernel
theorem dX4_latestNow_58 : decode cX4_latestNow 58 = .ok (.getfield 28, 3) := by decide +kernel
theorem dX4_latestNow_61 : decode cX4_latestNow 61 = .ok (.iload_n 1, 1) := by decide +kernel
theorem dX4_latestNow_62 : decode cX4_latestNow 62 = .ok (.iconst 4, 1) := by decide +kernel
theorem dX4_latestNow_63 : decode cX4_latestNow 63 = .ok (.isub, 1) := by decide +kernel
theorem dX4_latestNow_64 : decode cX4_latestNow 64 = .ok (.iaload, 1) := by decide +kernel
theorem dX4_latestNow_65 : decode cX4_latestNow 65 = .ok (.ireturn, 1) := by decide +kernel
theorem dX4_latest_0 : decode cX4_latest 0 = .ok (.iload_n 1, 1) := by decide +kernel
theorem dX4_latest_1 : decode cX4_latest 1 = .ok (.iconst 0, 1) := by decide +kernel
theorem dX4_latest_2 : decode cX4_latest 2 = .ok (.bipush 6, 2) := by decide +kernel
theorem dX4_latest_4 : decode cX4_latest 4 = .ok (.invokestatic 41, 3) := by decide +kernel
theorem dX4_latest_7 : decode cX4_latest 7 = .ok (.ifCond .eq 11, 3) := by decide +kernel
theorem dX4_latest_10 : decode cX4_latest 10 = .ok (.aload_n 0, 1) := by decide +kernel
theorem dX4_latest_11 : decode cX4_latest 11 = .ok (.iload_n 1, 1) := by decide +kernel
theorem dX4_latest_12 : decode cX4_latest 12 = .ok (.invokevirtual 205, 3) := by decide +kernel
theorem dX4_latest_15 : decode cX4_latest 15 = .ok (.goto 6, 3) := by decide +kernel
theorem dX4_latest_18 : decode cX4_latest 18 = .ok (.sipush (-10003), 3) := by decide +kernel
theorem dX4_latest_21 : decode cX4_latest 21 = .ok (.ireturn, 1) := by decide +kernel
theorem dX4_letBy_0 : decode cX4_letBy 0 = .ok (.bipush 7, 2) := by decide +kernel
theorem dX4_letBy_2 : decode cX4_letBy 2 = .ok (.iconst 1, 1) := by decide +kernel
theorem dX4_letBy_3 : decode cX4_letBy 3 = .ok (.iload_n 3, 1) := by decide +kernel
theorem dX4_letBy_4 : decode cX4_letBy 4 = .ok (.ishl, 1) := by decide +kernel
theorem dX4_letBy_5 : decode cX4_letBy 5 = .ok (.iconst (-1), 1) := by decide +kernel
theorem dX4_letBy_6 : decode cX4_letBy 6 = .ok (.ixor, 1) := by decide +kernel
theorem dX4_letBy_7 : decode cX4_letBy 7 = .ok (.iand, 1) := by decide +kernel
theorem dX4_letBy_8 : decode cX4_letBy 8 = .ok (.istore 5, 2) := by decide +kernel
theorem dX4_letBy_10 : decode cX4_letBy 10 = .ok (.aload_n 0, 1) := by decide +kernel
theorem dX4_letBy_11 : decode cX4_letBy 11 = .ok (.getfield 19, 3) := by decide +kernel
theorem dX4_letBy_14 : decode cX4_letBy 14 = .ok (.bipush 12, 2) := by decide +kernel
theorem dX4_letBy_16 : decode cX4_letBy 16 = .ok (.iload_n 1, 1) := by decide +kernel
theorem dX4_letBy_17 : decode cX4_letBy 17 = .ok (.imul, 1) := by decide +kernel
theorem dX4_letBy_18 : decode cX4_letBy 18 = .ok (.iload_n 2, 1) := by decide +kernel
theorem dX4_letBy_19 : decode cX4_letBy 19 = .ok (.iadd, 1) := by decide +kernel
theorem dX4_letBy_20 : decode cX4_letBy 20 = .ok (.iaload, 1) := by decide +kernel
theorem dX4_letBy_21 : decode cX4_letBy 21 = .ok (.iload 5, 2) := by decide +kernel
theorem dX4_letBy_23 : decode cX4_letBy 23 = .ok (.iand, 1) := by decide +kernel
theorem dX4_letBy_24 : decode cX4_letBy 24 = .ok (.iload 5, 2) := by decide +kernel
theorem dX4_letBy_26 : decode cX4_letBy 26 = .ok (.if_icmp .eq 7, 3) := by decide +kernel
theorem dX4_letBy_29 : decode cX4_letBy 29 = .ok (.sipush (-10001), 3) := by decide +kernel
theorem dX4_letBy_32 : decode cX4_letBy 32 = .ok (.ireturn, 1) := by decide +kernel
theorem dX4_letBy_33 : decode cX4_letBy 33 = .ok (.aload_n 0, 1) := by decide +kernel
theorem dX4_letBy_34 : decode cX4_letBy 34 = .ok (.getfield 101, 3) := by decide +kernel
theorem dX4_letBy_37 : decode cX4_letBy 37 = .ok (.ifCond .eq 7, 3) := by decide +kernel
theorem dX4_letBy_40 : decode cX4_letBy 40 = .ok (.iconst 1, 1) := by decide +kernel
theorem dX4_letBy_41 : decode cX4_letBy 41 = .ok (.goto 4, 3) := by decide +kernel
theorem dX4_letBy_44 : decode cX4_letBy 44 = .ok (.iconst 0, 1) := by decide +kernel
theorem dX4_letBy_45 : decode cX4_letBy 45 = .ok (.istore 6, 2) := by decide +kernel
theorem dX4_letBy_47 : decode cX4_letBy 47 = .ok (.aload_n 0, 1) := by decide +kernel
theorem dX4_letBy_48 : decode cX4_letBy 48 = .ok (.getfield 19, 3) := by decide +kernel
theorem dX4_letBy_51 : decode cX4_letBy 51 = .ok (.bipush 12, 2) := by decide +kernel
theorem dX4_letBy_53 : decode cX4_letBy 53 = .ok (.iload_n 1, 1) := by decide +kernel
theorem dX4_letBy_54 : decode cX4_letBy 54 = .ok (.imul, 1) := by decide +kernel
theorem dX4_letBy_55 : decode cX4_letBy 55 = .ok (.iload_n 2, 1) := by decide +kernel
theorem dX4_letBy_56 : decode cX4_letBy 56 = .ok (.iadd, 1) := by decide +kernel
theorem dX4_letBy_57 : decode cX4_letBy 57 = .ok (.iaload, 1) := by decide +kernel
theorem dX4_letBy_58 : decode cX4_letBy 58 = .ok (.iload_n 3, 1) := by decide +kernel
theorem dX4_letBy_59 : decode cX4_letBy 59 = .ok (.invokestatic 86, 3) := by decide +kernel
theorem dX4_letBy_62 : decode cX4_letBy 62 = .ok (.ifCond .eq 45, 3) := by decide +kernel
theorem dX4_letBy_65 : decode cX4_letBy 65 = .ok (.iload 4, 2) := by decide +kernel
theorem dX4_letBy_67 : decode cX4_letBy 67 = .ok (.iconst 1, 1) := by decide +kernel
theorem dX4_letBy_68 : decode cX4_letBy 68 = .ok (.if_icmp .ne 22, 3) := by decide +kernel
theorem dX4_letBy_71 : decode cX4_letBy 71 = .ok (.aload_n 0, 1) := by decide +kernel
theorem dX4_letBy_72 : decode cX4_letBy 72 = .ok (.iload_n 2, 1) := by decide +kernel
theorem dX4_letBy_73 : decode cX4_letBy 73 = .ok (.iload_n 3, 1) := by decide +kernel
theorem dX4_letBy_74 : decode cX4_letBy 74 = .ok (.invokevirtual 107, 3) := by decide +kernel
theorem dX4_letBy_77 : decode cX4_letBy 77 = .ok (.aload_n 0, 1) := by decide +kernel
theorem dX4_letBy_78 : decode cX4_letBy 78 = .ok (.iload_n 1, 1) := by decide +kernel
theorem dX4_letBy_79 : decode cX4_letBy 79 = .ok (.iload_n 3, 1) := by decide +kernel
theorem dX4_letBy_80 : decode cX4_letBy 80 = .ok (.invokevirtual 104, 3) := by decide +kernel
theorem dX4_letBy_83 : decode cX4_letBy 83 = .ok (.isub, 1) := by decide +kernel
theorem dX4_letBy_84 : decode cX4_letBy 84 = .ok (.iload 6, 2) := by decide +kernel
theorem dX4_letBy_86 : decode cX4_letBy 86 = .ok (.iadd, 1) := by decide +kernel
theorem dX4_letBy_87 : decode cX4_letBy 87 = .ok (.goto 19, 3) := by decide +kernel
theorem dX4_letBy_90 : decode cX4_letBy 90 = .ok (.aload_n 0, 1) := by decide +kernel
theorem dX4_letBy_91 : decode cX4_letBy 91 = .ok (.iload_n 1, 1) := by decide +kernel
theorem dX4_letBy_92 : decode cX4_letBy 92 = .ok (.iload_n 3, 1) := by decide +kernel
theorem dX4_letBy_93 : decode cX4_letBy 93 = .ok (.invokevirtual 107, 3) := by decide +kernel
theorem dX4_letBy_96 : decode cX4_letBy 96 = .ok (.aload_n 0, 1) := by decide +kernel
theorem dX4_letBy_97 : decode cX4_letBy 97 = .ok (.iload_n 2, 1) := by decide +kernel
theorem dX4_letBy_98 : decode cX4_letBy 98 = .ok (.iload_n 3, 1) := by decide +kernel
theorem dX4_letBy_99 : decode cX4_letBy 99 = .ok (.invokevirtual 104, 3) := by decide +kernel
theorem dX4_letBy_102 : decode cX4_letBy 102 = .ok (.isub, 1) := by decide +kernel
theorem dX4_letBy_103 : decode cX4_letBy 103 = .ok (.iload 6, 2) := by decide +kernel
theorem dX4_letBy_105 : decode cX4_letBy 105 = .ok (.iadd, 1) := by decide +kernel
theorem dX4_letBy_106 : decode cX4_letBy 106 = .ok (.ireturn, 1) := by decide +kernel
theorem dX4_letBy_107 : decode cX4_letBy 107 = .ok (.iload 4, 2) := by decide +kernel
theorem dX4_letBy_109 : decode cX4_letBy 109 = .ok (.iconst 1, 1) := by decide +kernel
theorem dX4_letBy_110 : decode cX4_letBy 110 = .ok (.if_icmp .ne 19, 3) := by decide +kernel
theorem dX4_letBy_113 : decode cX4_letBy 113 = .ok (.aload_n 0, 1) := by decide +kernel
theorem dX4_letBy_114 : decode cX4_letBy 114 = .ok (.iload_n 2, 1) := by decide +kernel
theorem dX4_letBy_115 : decode cX4_letBy 115 = .ok (.iload_n 3, 1) := by decide +kernel
theorem dX4_letBy_116 : decode cX4_letBy 116 = .ok (.invokevirtual 104, 3) := by decide +kernel
theorem dX4_letBy_119 : decode cX4_letBy 119 = .ok (.aload_n 0, 1) := by decide +kernel
theorem dX4_letBy_120 : decode cX4_letBy 120 = .ok (.iload_n 1, 1) := by decide +kernel
theorem dX4_letBy_121 : decode cX4_letBy 121 = .ok (.iload_n 3, 1) := by decide +kernel
theorem dX4_letBy_122 : decode cX4_letBy 122 = .ok (.invokevirtual 107, 3) := by decide +kernel
theorem dX4_letBy_125 : decode cX4_letBy 125 = .ok (.isub, 1) := by decide +kernel
theorem dX4_letBy_126 : decode cX4_letBy 126 = .ok (.goto 16, 3) := by decide +kernel
theorem dX4_letBy_129 : decode cX4_letBy 129 = .ok (.aload_n 0, 1) := by decide +kernel
theorem dX4_letBy_130 : decode cX4_letBy 130 = .ok (.iload_n 1, 1) := by decide +kernel
theorem dX4_letBy_131 : decode cX4_letBy 131 = .ok (.iload_n 3, 1) := by decide +kernel
theorem dX4_letBy_132 : decode cX4_letBy 132 = .ok (.invokevirtual 104, 3) := by decide +kernel
theorem dX4_letBy_135 : decode cX4_letBy 135 = .ok (.aload_n 0, 1) := by decide +kernel
theorem dX4_letBy_136 : decode cX4_letBy 136 = .ok (.iload_n 2, 1) := by decide +kernel
theorem dX4_letBy_137 : decode cX4_letBy 137 = .ok (.iload_n 3, 1) := by decide +kernel
theorem dX4_letBy_138 : decode cX4_letBy 138 = .ok (.invokevirtual 107, 3) := by decide +kernel
theorem dX4_letBy_141 : decode cX4_letBy 141 = .ok (.isub, 1) := by decide +kernel
theorem dX4_letBy_142 : decode cX4_letBy 142 = .ok (.istore 7, 2) := by decide +kernel
theorem dX4_letBy_144 : decode cX4_letBy 144 = .ok (.iload 7, 2) := by decide +kernel
theorem dX4_letBy_146 : decode cX4_letBy 146 = .ok (.ifCond .ge 9, 3) := by decide +kernel
theorem dX4_letBy_149 : decode cX4_letBy 149 = .ok (.sipush (-10001), 3) := by decide +kernel
theorem dX4_letBy_152 : decode cX4_letBy 152 = .ok (.goto 10, 3) := by decide +kernel
theorem dX4_letBy_155 : decode cX4_letBy 155 = .ok (.iload 7, 2) := by decide +kernel
theorem dX4_letBy_157 : decode cX4_letBy 157 = .ok (.iconst 1, 1) := by decide +kernel
theorem dX4_letBy_158 : decode cX4_letBy 158 = .ok (.iadd, 1) := by decide +kernel
theorem dX4_letBy_159 : decode cX4_letBy 159 = .ok (.iload 6, 2) := by decide +kernel
theorem dX4_letBy_161 : decode cX4_letBy 161 = .ok (.isub, 1) := by decide +kernel
theorem dX4_letBy_162 : decode cX4_letBy 162 = .ok (.ireturn, 1) := by decide +kernel
theorem dX4_letNow_0 : decode cX4_letNow 0 = .ok (.iload_n 3, 1) := by decide +kernel
theorem dX4_letNow_1 : decode cX4_letNow 1 = .ok (.iconst 1, 1) := by decide +kernel
theorem dX4_letNow_2 : decode cX4_letNow 2 = .ok (.if_icmp .ne 16, 3) := by decide +kernel
theorem dX4_letNow_5 : decode cX4_letNow 5 = .ok (.sipush 999, 3) := by decide +kernel
theorem dX4_letNow_8 : decode cX4_letNow 8 = .ok (.aload_n 0, 1) := by decide +kernel
theorem dX4_letNow_9 : decode cX4_letNow 9 = .ok (.iload_n 1, 1) := by decide +kernel
theorem dX4_letNow_10 : decode cX4_letNow 10 = .ok (.iload_n 2, 1) := by decide +kernel
theorem dX4_letNow_11 : decode cX4_letNow 11 = .ok (.invokevirtual 107, 3) := by decide +kernel
theorem dX4_letNow_14 : decode cX4_letNow 14 = .ok (.isub, 1) := by decide +kernel
theorem dX4_letNow_15 : decode cX4_letNow 15 = .ok (.goto 13, 3) := by decide +kernel
theorem dX4_letNow_18 : decode cX4_letNow 18 = .ok (.aload_n 0, 1) := by decide +kernel
theorem dX4_letNow_19 : decode cX4_letNow 19 = .ok (.iload_n 1, 1) := by decide +kernel
theorem dX4_letNow_20 : decode cX4_letNow 20 = .ok (.iload_n 2, 1) := by decide +kernel
theorem dX4_letNow_21 : decode cX4_letNow 21 = .ok (.invokevirtual 104, 3) := by decide +kernel
theorem dX4_letNow_24 : decode cX4_letNow 24 = .ok (.sipush 999, 3) := by decide +kernel
theorem dX4_letNow_27 : decode cX4_letNow 27 = .ok (.iadd, 1) := by decide +kernel
theorem dX4_letNow_28 : decode cX4_letNow 28 = .ok (.istore 4, 2) := by decide +kernel
theorem dX4_letNow_30 : decode cX4_letNow 30 = .ok (.sipush (-10001), 3) := by decide +kernel
theorem dX4_letNow_33 : decode cX4_letNow 33 = .ok (.istore 5, 2) := by decide +kernel
theorem dX4_letNow_35 : decode cX4_letNow 35 = .ok (.iconst 0, 1) := by decide +kernel
theorem dX4_letNow_36 : decode cX4_letNow 36 = .ok (.istore 6, 2) := by decide +kernel
theorem dX4_letNow_38 : decode cX4_letNow 38 = .ok (.iload 6, 2) := by decide +kernel
theorem dX4_letNow_40 : decode cX4_letNow 40 = .ok (.bipush 12, 2) := by decide +kernel
theorem dX4_letNow_42 : decode cX4_letNow 42 = .ok (.if_icmp .ge 83, 3) := by decide +kernel
theorem dX4_letNow_45 : decode cX4_letNow 45 = .ok (.iload 6, 2) := by decide +kernel
theorem dX4_letNow_47 : decode cX4_letNow 47 = .ok (.iload_n 1, 1) := by decide +kernel
theorem dX4_letNow_48 : decode cX4_letNow 48 = .ok (.if_icmp .eq 27, 3) := by decide +kernel
theorem dX4_letNow_51 : decode cX4_letNow 51 = .ok (.aload_n 0, 1) := by decide +kernel
theorem dX4_letNow_52 : decode cX4_letNow 52 = .ok (.getfield 73, 3) := by decide +kernel
theorem dX4_letNow_55 : decode cX4_letNow 55 = .ok (.iload 6, 2) := by decide +kernel
theorem dX4_letNow_57 : decode cX4_letNow 57 = .ok (.invokestatic 86, 3) := by decide +kernel
theorem dX4_letNow_60 : decode cX4_letNow 60 = .ok (.ifCond .eq 15, 3) := by decide +kernel
theorem dX4_letNow_63 : decode cX4_letNow 63 = .ok (.aload_n 0, 1) := by decide +kernel
theorem dX4_letNow_64 : decode cX4_letNow 64 = .ok (.iload_n 1, 1) := by decide +kernel
theorem dX4_letNow_65 : decode cX4_letNow 65 = .ok (.iload 6, 2) := by decide +kernel
theorem dX4_letNow_67 : decode cX4_letNow 67 = .ok (.iload_n 2, 1) := by decide +kernel
theorem dX4_letNow_68 : decode cX4_letNow 68 = .ok (.iload_n 3, 1) := by decide +kernel
theorem dX4_letNow_69 : decode cX4_letNow 69 = .ok (.invokevirtual 208, 3) := by decide +kernel
theorem dX4_letNow_72 : decode cX4_letNow 72 = .ok (.goto 6, 3) := by decide +kernel
theorem dX4_letNow_75 : decode cX4_letNow 75 = .ok (.sipush (-10001), 3) := by decide +kernel
theorem dX4_letNow_78 : decode cX4_letNow 78 = .ok (.istore 7, 2) := by decide +kernel
theorem dX4_letNow_80 : decode cX4_letNow 80 = .ok (.iload 7, 2) := by decide +kernel
theorem dX4_letNow_82 : decode cX4_letNow 82 = .ok (.sipush (-10001), 3) := by decide +kernel
theorem dX4_letNow_85 : decode cX4_letNow 85 = .ok (.if_icmp .eq 30, 3) := by decide +kernel
theorem dX4_letNow_88 : decode cX4_letNow 88 = .ok (.iload 7, 2) := by decide +kernel
theorem dX4_letNow_90 : decode cX4_letNow 90 = .ok (.iload 4, 2) := by decide +kernel
theorem dX4_letNow_92 : decode cX4_letNow 92 = .ok (.if_icmp .gt 23, 3) := by decide +kernel
theorem dX4_letNow_95 : decode cX4_letNow 95 = .ok (.iload 5, 2) := by decide +kernel
theorem dX4_letNow_97 : decode cX4_letNow 97 = .ok (.sipush (-10001), 3) := by decide +kernel
theorem dX4_letNow_100 : decode cX4_letNow 100 = .ok (.if_icmp .eq 10, 3) := by decide +kernel
theorem dX4_letNow_103 : decode cX4_letNow 103 = .ok (.iload 7, 2) := by decide +kernel
theorem dX4_letNow_105 : decode cX4_letNow 105 = .ok (.iload 5, 2) := by decide +kernel
theorem dX4_letNow_107 : decode cX4_letNow 107 = .ok (.if_icmp .ge 8, 3) := by decide +kernel
theorem dX4_letNow_110 : decode cX4_letNow 110 = .ok (.iload 7, 2) := by decide +kernel
theorem dX4_letNow_112 : decode cX4_letNow 112 = .ok (.goto 5, 3) := by decide +kernel
theorem dX4_letNow_115 : decode cX4_letNow 115 = .ok (.iload 5, 2) := by decide +kernel
theorem dX4_letNow_117 : decode cX4_letNow 117 = .ok (.istore 5, 2) := by decide +kernel
theorem dX4_letNow_119 : decode cX4_letNow 119 = .ok (.iinc 6 1, 3) := by decide +kernel
theorem dX4_letNow_122 : decode cX4_letNow 122 = .ok (.goto (-84), 3) := by decide +kernel
theorem dX4_letNow_125 : decode cX4_letNow 125 = .ok (.iload 5, 2) := by decide +kernel
theorem dX4_letNow_127 : decode cX4_letNow 127 = .ok (.ireturn, 1) := by decide +kernel
theorem dX4_let_0 : decode cX4_let 0 = .ok (.aload_n 0, 1) := by decide +kernel
theorem dX4_let_1 : decode cX4_let 1 = .ok (.iload_n 1, 1) := by decide +kernel
theorem dX4_let_2 : decode cX4_let 2 = .ok (.invokevirtual 160, 3) := by decide +kernel
theorem dX4_let_5 : decode cX4_let 5 = .ok (.ifCond .eq 10, 3) := by decide +kernel
theorem dX4_let_8 : decode cX4_let 8 = .ok (.iload_n 2, 1) := by decide +kernel
theorem dX4_let_9 : decode cX4_let 9 = .ok (.invokestatic 173, 3) := by decide +kernel
theorem dX4_let_12 : decode cX4_let 12 = .ok (.ifCond .ne 7, 3) := by decide +kernel
theorem dX4_let_15 : decode cX4_let 15 = .ok (.sipush (-10002), 3) := by decide +kernel
theorem dX4_let_18 : decode cX4_let 18 = .ok (.ireturn, 1) := by decide +kernel
theorem dX4_let_19 : decode cX4_let 19 = .ok (.iload_n 3, 1) := by decide +kernel
theorem dX4_let_20 : decode cX4_let 20 = .ok (.iconst 1, 1) := by decide +kernel
theorem dX4_let_21 : decode cX4_let 21 = .ok (.if_icmp .eq 8, 3) := by decide +kernel
theorem dX4_let_24 : decode cX4_let 24 = .ok (.iload_n 3, 1) := by decide +kernel
theorem dX4_let_25 : decode cX4_let 25 = .ok (.iconst (-1), 1) := by decide +kernel
theorem dX4_let_26 : decode cX4_let 26 = .ok (.if_icmp .ne 13, 3) := by decide +kernel
theorem dX4_let_29 : decode cX4_let 29 = .ok (.aload_n 0, 1) := by decide +kernel
theorem dX4_let_30 : decode cX4_let 30 = .ok (.iload_n 1, 1) := by decide +kernel
theorem dX4_let_31 : decode cX4_let 31 = .ok (.iload_n 2, 1) := by decide +kernel
theorem dX4_let_32 : decode cX4_let 32 = .ok (.iload_n 3, 1) := by decide +kernel
theorem dX4_let_33 : decode cX4_let 33 = .ok (.invokevirtual 212, 3) := by decide +kernel
theorem dX4_let_36 : decode cX4_let 36 = .ok (.goto 6, 3) := by decide +kernel
theorem dX4_let_39 : decode cX4_let 39 = .ok (.sipush (-10003), 3) := by decide +kernel
theorem dX4_let_42 : decode cX4_let 42 = .ok (.ireturn, 1) := by decide +kernel
theorem dX4_isHeap_0 : decode cX4_isHeap 0 = .ok (.iload_n 1, 1) := by decide +kernel
theorem dX4_isHeap_1 : decode cX4_isHeap 1 = .ok (.aload_n 0, 1) := by decide +kernel
theorem dX4_isHeap_2 : decode cX4_isHeap 2 = .ok (.getfield 73, 3) := by decide +kernel
theorem dX4_isHeap_5 : decode cX4_isHeap 5 = .ok (.iconst (-1), 1) := by decide +kernel
theorem dX4_isHeap_6 : decode cX4_isHeap 6 = .ok (.ixor, 1) := by decide +kernel
theorem dX4_isHeap_7 : decode cX4_isHeap 7 = .ok (.iand, 1) := by decide +kernel
theorem dX4_isHeap_8 : decode cX4_isHeap 8 = .ok (.ifCond .ne 7, 3) := by decide +kernel
theorem dX4_isHeap_11 : decode cX4_isHeap 11 = .ok (.iconst 1, 1) := by decide +kernel
theorem dX4_isHeap_12 : decode cX4_isHeap 12 = .ok (.goto 4, 3) := by decide +kernel
theorem dX4_isHeap_15 : decode cX4_isHeap 15 = .ok (.iconst 0, 1) := by decide +kernel
theorem dX4_isHeap_16 : decode cX4_isHeap 16 = .ok (.istore_n 2, 1) := by decide +kernel
theorem dX4_isHeap_17 : decode cX4_isHeap 17 = .ok (.iconst 0, 1) := by decide +kernel
theorem dX4_isHeap_18 : decode cX4_isHeap 18 = .ok (.istore_n 3, 1) := by decide +kernel
theorem dX4_isHeap_19 : decode cX4_isHeap 19 = .ok (.iload_n 3, 1) := by decide +kernel
theorem dX4_isHeap_20 : decode cX4_isHeap 20 = .ok (.bipush 12, 2) := by decide +kernel
theorem dX4_isHeap_22 : decode cX4_isHeap 22 = .ok (.if_icmp .ge 45, 3) := by decide +kernel
theorem dX4_isHeap_25 : decode cX4_isHeap 25 = .ok (.iload_n 2, 1) := by decide +kernel
theorem dX4_isHeap_26 : decode cX4_isHeap 26 = .ok (.ifCond .eq 41, 3) := by decide +kernel
theorem dX4_isHeap_29 : decode cX4_isHeap 29 = .ok (.iload_n 1, 1) := by decide +kernel
theorem dX4_isHeap_30 : decode cX4_isHeap 30 = .ok (.iload_n 3, 1) := by decide +kernel
theorem dX4_isHeap_31 : decode cX4_isHeap 31 = .ok (.invokestatic 86, 3) := by decide +kernel
theorem dX4_isHeap_34 : decode cX4_isHeap 34 = .ok (.ifCond .eq 21, 3) := by decide +kernel
theorem dX4_isHeap_37 : decode cX4_isHeap 37 = .ok (.iload_n 1, 1) := by decide +kernel
theorem dX4_isHeap_38 : decode cX4_isHeap 38 = .ok (.iconst 1, 1) := by decide +kernel
theorem dX4_isHeap_39 : decode cX4_isHeap 39 = .ok (.iload_n 3, 1) := by decide +kernel
theorem dX4_isHeap_40 : decode cX4_isHeap 40 = .ok (.ishl, 1) := by decide +kernel
theorem dX4_isHeap_41 : decode cX4_isHeap 41 = .ok (.iconst (-1), 1) := by decide +kernel
theorem dX4_isHeap_42 : decode cX4_isHeap 42 = .ok (.ixor, 1) := by decide +kernel
theorem dX4_isHeap_43 : decode cX4_isHeap 43 = .ok (.iand, 1) := by decide +kernel
theorem dX4_isHeap_44 : decode cX4_isHeap 44 = .ok (.aload_n 0, 1) := by decide +kernel
theorem dX4_isHeap_45 : decode cX4_isHeap 45 = .ok (.iload_n 3, 1) := by decide +kernel
theorem dX4_isHeap_46 : decode cX4_isHeap 46 = .ok (.invokevirtual 179, 3) := by decide +kernel
theorem dX4_isHeap_49 : decode cX4_isHeap 49 = .ok (.iconst (-1), 1) := by decide +kernel
theorem dX4_isHeap_50 : decode cX4_isHeap 50 = .ok (.ixor, 1) := by decide +kernel
theorem dX4_isHeap_51 : decode cX4_isHeap 51 = .ok (.iand, 1) := by decide +kernel
theorem dX4_isHeap_52 : decode cX4_isHeap 52 = .ok (.ifCond .ne 7, 3) := by decide +kernel
theorem dX4_isHeap_55 : decode cX4_isHeap 55 = .ok (.iconst 1, 1) := by decide +kernel
theorem dX4_isHeap_56 : decode cX4_isHeap 56 = .ok (.goto 4, 3) := by decide +kernel
theorem dX4_isHeap_59 : decode cX4_isHeap 59 = .ok (.iconst 0, 1) := by decide +kernel
theorem dX4_isHeap_60 : decode cX4_isHeap 60 = .ok (.istore_n 2, 1) := by decide +kernel
theorem dX4_isHeap_61 : decode cX4_isHeap 61 = .ok (.iinc 3 1, 3) := by decide +kernel
theorem dX4_isHeap_64 : decode cX4_isHeap 64 = .ok (.goto (-45), 3) := by decide +kernel
theorem dX4_isHeap_67 : decode cX4_isHeap 67 = .ok (.iload_n 2, 1) := by decide +kernel
theorem dX4_isHeap_68 : decode cX4_isHeap 68 = .ok (.ireturn, 1) := by decide +kernel
theorem dX4_deepest_0 : decode cX4_deepest 0 = .ok (.iconst 0, 1) := by decide +kernel
theorem dX4_deepest_1 : decode cX4_deepest 1 = .ok (.istore_n 1, 1) := by decide +kernel
theorem dX4_deepest_2 : decode cX4_deepest 2 = .ok (.iconst 1, 1) := by decide +kernel
theorem dX4_deepest_3 : decode cX4_deepest 3 = .ok (.istore_n 2, 1) := by decide +kernel
theorem dX4_deepest_4 : decode cX4_deepest 4 = .ok (.iload_n 2, 1) := by decide +kernel
theorem dX4_deepest_5 : decode cX4_deepest 5 = .ok (.sipush 4096, 3) := by decide +kernel
theorem dX4_deepest_8 : decode cX4_deepest 8 = .ok (.if_icmp .ge 34, 3) := by decide +kernel
theorem dX4_deepest_11 : decode cX4_deepest 11 = .ok (.iload_n 2, 1) := by decide +kernel
theorem dX4_deepest_12 : decode cX4_deepest 12 = .ok (.invokestatic 183, 3) := by decide +kernel
theorem dX4_deepest_15 : decode cX4_deepest 15 = .ok (.iload_n 1, 1) := by decide +kernel
theorem dX4_deepest_16 : decode cX4_deepest 16 = .ok (.invokestatic 183, 3) := by decide +kernel
theorem dX4_deepest_19 : decode cX4_deepest 19 = .ok (.if_icmp .le 15, 3) := by decide +kernel
theorem dX4_deepest_22 : decode cX4_deepest 22 = .ok (.aload_n 0, 1) := by decide +kernel
theorem dX4_deepest_23 : decode cX4_deepest 23 = .ok (.iload_n 2, 1) := by decide +kernel
theorem dX4_deepest_24 : decode cX4_deepest 24 = .ok (.invokevirtual 215, 3) := by decide +kernel
theorem dX4_deepest_27 : decode cX4_deepest 27 = .ok (.ifCond .eq 7, 3) := by decide +kernel
theorem dX4_deepest_30 : decode cX4_deepest 30 = .ok (.iload_n 2, 1) := by decide +kernel
theorem dX4_deepest_31 : decode cX4_deepest 31 = .ok (.goto 4, 3) := by decide +kernel
theorem dX4_deepest_34 : decode cX4_deepest 34 = .ok (.iload_n 1, 1) := by decide +kernel
theorem dX4_deepest_35 : decode cX4_deepest 35 = .ok (.istore_n 1, 1) := by decide +kernel
theorem dX4_deepest_36 : decode cX4_deepest 36 = .ok (.iinc 2 1, 3) := by decide +kernel
theorem dX4_deepest_39 : decode cX4_deepest 39 = .ok (.goto (-35), 3) := by decide +kernel
theorem dX4_deepest_42 : decode cX4_deepest 42 = .ok (.iload_n 1, 1) := by decide +kernel
theorem dX4_deepest_43 : decode cX4_deepest 43 = .ok (.ireturn, 1) := by decide +kernel
theorem dX4_groups_0 : decode cX4_groups 0 = .ok (.iconst 0, 1) := by decide +kernel
theorem dX4_groups_1 : decode cX4_groups 1 = .ok (.istore_n 1, 1) := by decide +kernel
theorem dX4_groups_2 : decode cX4_groups 2 = .ok (.iconst 0, 1) := by decide +kernel
theorem dX4_groups_3 : decode cX4_groups 3 = .ok (.istore_n 2, 1) := by decide +kernel
theorem dX4_groups_4 : decode cX4_groups 4 = .ok (.iload_n 2, 1) := by decide +kernel
theorem dX4_groups_5 : decode cX4_groups 5 = .ok (.bipush 12, 2) := by decide +kernel
theorem dX4_groups_7 : decode cX4_groups 7 = .ok (.if_icmp .ge 40, 3) := by decide +kernel
theorem dX4_groups_10 : decode cX4_groups 10 = .ok (.iload_n 1, 1) := by decide +kernel
theorem dX4_groups_11 : decode cX4_groups 11 = .ok (.aload_n 0, 1) := by decide +kernel
theorem dX4_groups_12 : decode cX4_groups 12 = .ok (.getfield 73, 3) := by decide +kernel
theorem dX4_groups_15 : decode cX4_groups 15 = .ok (.iload_n 2, 1) := by decide +kernel
theorem dX4_groups_16 : decode cX4_groups 16 = .ok (.invokestatic 86, 3) := by decide +kernel
theorem dX4_groups_19 : decode cX4_groups 19 = .ok (.ifCond .eq 19, 3) := by decide +kernel
theorem dX4_groups_22 : decode cX4_groups 22 = .ok (.aload_n 0, 1) := by decide +kernel
theorem dX4_groups_23 : decode cX4_groups 23 = .ok (.iload_n 2, 1) := by decide +kernel
theorem dX4_groups_24 : decode cX4_groups 24 = .ok (.invokevirtual 186, 3) := by decide +kernel
theorem dX4_groups_27 : decode cX4_groups 27 = .ok (.invokestatic 189, 3) := by decide +kernel
theorem dX4_groups_30 : decode cX4_groups 30 = .ok (.iload_n 2, 1) := by decide +kernel
theorem dX4_groups_31 : decode cX4_groups 31 = .ok (.if_icmp .ne 7, 3) := by decide +kernel
theorem dX4_groups_34 : decode cX4_groups 34 = .ok (.iconst 1, 1) := by decide +kernel
theorem dX4_groups_35 : decode cX4_groups 35 = .ok (.goto 4, 3) := by decide +kernel
theorem dX4_groups_38 : decode cX4_groups 38 = .ok (.iconst 0, 1) := by decide +kernel
theorem dX4_groups_39 : decode cX4_groups 39 = .ok (.iadd, 1) := by decide +kernel
theorem dX4_groups_40 : decode cX4_groups 40 = .ok (.istore_n 1, 1) := by decide +kernel
theorem dX4_groups_41 : decode cX4_groups 41 = .ok (.iinc 2 1, 3) := by decide +kernel
theorem dX4_groups_44 : decode cX4_groups 44 = .ok (.goto (-40), 3) := by decide +kernel
theorem dX4_groups_47 : decode cX4_groups 47 = .ok (.iload_n 1, 1) := by decide +kernel
theorem dX4_groups_48 : decode cX4_groups 48 = .ok (.ireturn, 1) := by decide +kernel
theorem dX4_greatest_0 : decode cX4_greatest 0 = .ok (.iconst 0, 1) := by decide +kernel
theorem dX4_greatest_1 : decode cX4_greatest 1 = .ok (.istore_n 1, 1) := by decide +kernel
theorem dX4_greatest_2 : decode cX4_greatest 2 = .ok (.iconst 0, 1) := by decide +kernel
theorem dX4_greatest_3 : decode cX4_greatest 3 = .ok (.istore_n 2, 1) := by decide +kernel
theorem dX4_greatest_4 : decode cX4_greatest 4 = .ok (.iload_n 2, 1) := by decide +kernel
theorem dX4_greatest_5 : decode cX4_greatest 5 = .ok (.bipush 12, 2) := by decide +kernel
theorem dX4_greatest_7 : decode cX4_greatest 7 = .ok (.if_icmp .ge 44, 3) := by decide +kernel
theorem dX4_greatest_10 : decode cX4_greatest 10 = .ok (.aload_n 0, 1) := by decide +kernel
theorem dX4_greatest_11 : decode cX4_greatest 11 = .ok (.getfield 73, 3) := by decide +kernel
theorem dX4_greatest_14 : decode cX4_greatest 14 = .ok (.iload_n 2, 1) := by decide +kernel
theorem dX4_greatest_15 : decode cX4_greatest 15 = .ok (.invokestatic 86, 3) := by decide +kernel
theorem dX4_greatest_18 : decode cX4_greatest 18 = .ok (.ifCond .eq 14, 3) := by decide +kernel
theorem dX4_greatest_21 : decode cX4_greatest 21 = .ok (.aload_n 0, 1) := by decide +kernel
theorem dX4_greatest_22 : decode cX4_greatest 22 = .ok (.iload_n 2, 1) := by decide +kernel
theorem dX4_greatest_23 : decode cX4_greatest 23 = .ok (.invokevirtual 186, 3) := by decide +kernel
theorem dX4_greatest_26 : decode cX4_greatest 26 = .ok (.invokestatic 183, 3) := by decide +kernel
theorem dX4_greatest_29 : decode cX4_greatest 29 = .ok (.goto 4, 3) := by decide +kernel
theorem dX4_greatest_32 : decode cX4_greatest 32 = .ok (.iconst 0, 1) := by decide +kernel
theorem dX4_greatest_33 : decode cX4_greatest 33 = .ok (.istore_n 3, 1) := by decide +kernel
theorem dX4_greatest_34 : decode cX4_greatest 34 = .ok (.iload_n 3, 1) := by decide +kernel
theorem dX4_greatest_35 : decode cX4_greatest 35 = .ok (.iload_n 1, 1) := by decide +kernel
theorem dX4_greatest_36 : decode cX4_greatest 36 = .ok (.if_icmp .le 7, 3) := by decide +kernel
theorem dX4_greatest_39 : decode cX4_greatest 39 = .ok (.iload_n 3, 1) := by decide +kernel
theorem dX4_greatest_40 : decode cX4_greatest 40 = .ok (.goto 4, 3) := by decide +kernel
theorem dX4_greatest_43 : decode cX4_greatest 43 = .ok (.iload_n 1, 1) := by decide +kernel
theorem dX4_greatest_44 : decode cX4_greatest 44 = .ok (.istore_n 1, 1) := by decide +kernel
theorem dX4_greatest_45 : decode cX4_greatest 45 = .ok (.iinc 2 1, 3) := by decide +kernel
theorem dX4_greatest_48 : decode cX4_greatest 48 = .ok (.goto (-44), 3) := by decide +kernel
theorem dX4_greatest_51 : decode cX4_greatest 51 = .ok (.iload_n 1, 1) := by decide +kernel
theorem dX4_greatest_52 : decode cX4_greatest 52 = .ok (.ireturn, 1) := by decide +kernel
theorem dX4_heapNow_0 : decode cX4_heapNow 0 = .ok (.iload_n 1, 1) := by decide +kernel
theorem dX4_heapNow_1 : decode cX4_heapNow 1 = .ok (.tableswitch 42 0 2 #[27, 32, 37], 27) := by decide +kernel
theorem dX4_heapNow_28 : decode cX4_heapNow 28 = .ok (.aload_n 0, 1) := by decide +kernel
theorem dX4_heapNow_29 : decode cX4_heapNow 29 = .ok (.invokevirtual 218, 3) := by decide +kernel
theorem dX4_heapNow_32 : decode cX4_heapNow 32 = .ok (.ireturn, 1) := by decide +kernel
theorem dX4_heapNow_33 : decode cX4_heapNow 33 = .ok (.aload_n 0, 1) := by decide +kernel
theorem dX4_heapNow_34 : decode cX4_heapNow 34 = .ok (.invokevirtual 221, 3) := by decide +kernel
theorem dX4_heapNow_37 : decode cX4_heapNow 37 = .ok (.ireturn, 1) := by decide +kernel
theorem dX4_heapNow_38 : decode cX4_heapNow 38 = .ok (.aload_n 0, 1) := by decide +kernel
theorem dX4_heapNow_39 : decode cX4_heapNow 39 = .ok (.invokevirtual 224, 3) := by decide +kernel
theorem dX4_heapNow_42 : decode cX4_heapNow 42 = .ok (.ireturn, 1) := by decide +kernel
theorem dX4_heapNow_43 : decode cX4_heapNow 43 = .ok (.aload_n 0, 1) := by decide +kernel
theorem dX4_heapNow_44 : decode cX4_heapNow 44 = .ok (.invokevirtual 224, 3) := by decide +kernel
theorem dX4_heapNow_47 : decode cX4_heapNow 47 = .ok (.invokestatic 183, 3) := by decide +kernel
theorem dX4_heapNow_50 : decode cX4_heapNow 50 = .ok (.ireturn, 1) := by decide +kernel
theorem dX4_heap_0 : decode cX4_heap 0 = .ok (.iload_n 1, 1) := by decide +kernel
theorem dX4_heap_1 : decode cX4_heap 1 = .ok (.iconst 0, 1) := by decide +kernel
theorem dX4_heap_2 : decode cX4_heap 2 = .ok (.iconst 3, 1) := by decide +kernel
theorem dX4_heap_3 : decode cX4_heap 3 = .ok (.invokestatic 41, 3) := by decide +kernel
theorem dX4_heap_6 : decode cX4_heap 6 = .ok (.ifCond .eq 11, 3) := by decide +kernel
theorem dX4_heap_9 : decode cX4_heap 9 = .ok (.aload_n 0, 1) := by decide +kernel
theorem dX4_heap_10 : decode cX4_heap 10 = .ok (.iload_n 1, 1) := by decide +kernel
theorem dX4_heap_11 : decode cX4_heap 11 = .ok (.invokevirtual 227, 3) := by decide +kernel
theorem dX4_heap_14 : decode cX4_heap 14 = .ok (.goto 6, 3) := by decide +kernel
theorem dX4_heap_17 : decode cX4_heap 17 = .ok (.sipush (-10003), 3) := by decide +kernel
theorem dX4_heap_20 : decode cX4_heap 20 = .ok (.ireturn, 1) := by decide +kernel
theorem dX4_probed_0 : decode cX4_probed 0 = .ok (.aload_n 0, 1) := by decide +kernel
theorem dX4_probed_1 : decode cX4_probed 1 = .ok (.getfield 101, 3) := by decide +kernel
theorem dX4_probed_4 : decode cX4_probed 4 = .ok (.ifCond .eq 7, 3) := by decide +kernel
theorem dX4_probed_7 : decode cX4_probed 7 = .ok (.iconst 1, 1) := by decide +kernel
theorem dX4_probed_8 : decode cX4_probed 8 = .ok (.goto 4, 3) := by decide +kernel
theorem dX4_probed_11 : decode cX4_probed 11 = .ok (.iconst 0, 1) := by decide +kernel
theorem dX4_probed_12 : decode cX4_probed 12 = .ok (.istore 5, 2) := by decide +kernel
theorem dX4_probed_14 : decode cX4_probed 14 = .ok (.iload_n 3, 1) := by decide +kernel
theorem dX4_probed_15 : decode cX4_probed 15 = .ok (.aload_n 0, 1) := by decide +kernel
theorem dX4_probed_16 : decode cX4_probed 16 = .ok (.iload_n 1, 1) := by decide +kernel
theorem dX4_probed_17 : decode cX4_probed 17 = .ok (.iload_n 2, 1) := by decide +kernel
theorem dX4_probed_18 : decode cX4_probed 18 = .ok (.invokevirtual 107, 3) := by decide +kernel
theorem dX4_probed_21 : decode cX4_probed 21 = .ok (.iload 5, 2) := by decide +kernel
theorem dX4_probed_23 : decode cX4_probed 23 = .ok (.iadd, 1) := by decide +kernel
theorem dX4_probed_24 : decode cX4_probed 24 = .ok (.if_icmp .ge 21, 3) := by decide +kernel
theorem dX4_probed_27 : decode cX4_probed 27 = .ok (.aload_n 0, 1) := by decide +kernel
theorem dX4_probed_28 : decode cX4_probed 28 = .ok (.iload_n 1, 1) := by decide +kernel
theorem dX4_probed_29 : decode cX4_probed 29 = .ok (.iload_n 2, 1) := by decide +kernel
theorem dX4_probed_30 : decode cX4_probed 30 = .ok (.invokevirtual 104, 3) := by decide +kernel
theorem dX4_probed_33 : decode cX4_probed 33 = .ok (.iload 4, 2) := by decide +kernel
theorem dX4_probed_35 : decode cX4_probed 35 = .ok (.iload 5, 2) := by decide +kernel
theorem dX4_probed_37 : decode cX4_probed 37 = .ok (.iadd, 1) := by decide +kernel
theorem dX4_probed_38 : decode cX4_probed 38 = .ok (.if_icmp .ge 7, 3) := by decide +kernel
theorem dX4_probed_41 : decode cX4_probed 41 = .ok (.iconst 1, 1) := by decide +kernel
theorem dX4_probed_42 : decode cX4_probed 42 = .ok (.goto 4, 3) := by decide +kernel
theorem dX4_probed_45 : decode cX4_probed 45 = .ok (.iconst 0, 1) := by decide +kernel
theorem dX4_probed_46 : decode cX4_probed 46 = .ok (.ireturn, 1) := by decide +kernel
theorem dX4_probe_0 : decode cX4_probe 0 = .ok (.iload_n 1, 1) := by decide +kernel
theorem dX4_probe_1 : decode cX4_probe 1 = .ok (.iload_n 2, 1) := by decide +kernel
theorem dX4_probe_2 : decode cX4_probe 2 = .ok (.invokestatic 176, 3) := by decide +kernel
theorem dX4_probe_5 : decode cX4_probe 5 = .ok (.ifCond .eq 22, 3) := by decide +kernel
theorem dX4_probe_8 : decode cX4_probe 8 = .ok (.iload_n 3, 1) := by decide +kernel
theorem dX4_probe_9 : decode cX4_probe 9 = .ok (.iload 4, 2) := by decide +kernel
theorem dX4_probe_11 : decode cX4_probe 11 = .ok (.invokestatic 176, 3) := by decide +kernel
theorem dX4_probe_14 : decode cX4_probe 14 = .ok (.ifCond .eq 13, 3) := by decide +kernel
theorem dX4_probe_17 : decode cX4_probe 17 = .ok (.iload 5, 2) := by decide +kernel
theorem dX4_probe_19 : decode cX4_probe 19 = .ok (.iload 6, 2) := by decide +kernel
theorem dX4_probe_21 : decode cX4_probe 21 = .ok (.invokestatic 176, 3) := by decide +kernel
theorem dX4_probe_24 : decode cX4_probe 24 = .ok (.ifCond .ne 7, 3) := by decide +kernel
theorem dX4_probe_27 : decode cX4_probe 27 = .ok (.sipush (-10003), 3) := by decide +kernel
theorem dX4_probe_30 : decode cX4_probe 30 = .ok (.ireturn, 1) := by decide +kernel
theorem dX4_probe_31 : decode cX4_probe 31 = .ok (.iconst 0, 1) := by decide +kernel
theorem dX4_probe_32 : decode cX4_probe 32 = .ok (.istore 7, 2) := by decide +kernel
theorem dX4_probe_34 : decode cX4_probe 34 = .ok (.iconst 0, 1) := by decide +kernel
theorem dX4_probe_35 : decode cX4_probe 35 = .ok (.istore 8, 2) := by decide +kernel
theorem dX4_probe_37 : decode cX4_probe 37 = .ok (.iload 8, 2) := by decide +kernel
theorem dX4_probe_39 : decode cX4_probe 39 = .ok (.bipush 12, 2) := by decide +kernel
theorem dX4_probe_41 : decode cX4_probe 41 = .ok (.if_icmp .ge 82, 3) := by decide +kernel
theorem dX4_probe_44 : decode cX4_probe 44 = .ok (.aload_n 0, 1) := by decide +kernel
theorem dX4_probe_45 : decode cX4_probe 45 = .ok (.getfield 73, 3) := by decide +kernel
theorem dX4_probe_48 : decode cX4_probe 48 = .ok (.iload 8, 2) := by decide +kernel
theorem dX4_probe_50 : decode cX4_probe 50 = .ok (.invokestatic 86, 3) := by decide +kernel
theorem dX4_probe_53 : decode cX4_probe 53 = .ok (.ifCond .eq 43, 3) := by decide +kernel
theorem dX4_probe_56 : decode cX4_probe 56 = .ok (.aload_n 0, 1) := by decide +kernel
theorem dX4_probe_57 : decode cX4_probe 57 = .ok (.iload 8, 2) := by decide +kernel
theorem dX4_probe_59 : decode cX4_probe 59 = .ok (.iconst 0, 1) := by decide +kernel
theorem dX4_probe_60 : decode cX4_probe 60 = .ok (.iload_n 1, 1) := by decide +kernel
theorem dX4_probe_61 : decode cX4_probe 61 = .ok (.iload_n 2, 1) := by decide +kernel
theorem dX4_probe_62 : decode cX4_probe 62 = .ok (.invokevirtual 230, 3) := by decide +kernel
theorem dX4_probe_65 : decode cX4_probe 65 = .ok (.aload_n 0, 1) := by decide +kernel
theorem dX4_probe_66 : decode cX4_probe 66 = .ok (.iload 8, 2) := by decide +kernel
theorem dX4_probe_68 : decode cX4_probe 68 = .ok (.iconst 1, 1) := by decide +kernel
theorem dX4_probe_69 : decode cX4_probe 69 = .ok (.iload_n 3, 1) := by decide +kernel
theorem dX4_probe_70 : decode cX4_probe 70 = .ok (.iload 4, 2) := by decide +kernel
theorem dX4_probe_72 : decode cX4_probe 72 = .ok (.invokevirtual 230, 3) := by decide +kernel
theorem dX4_probe_75 : decode cX4_probe 75 = .ok (.iadd, 1) := by decide +kernel
theorem dX4_probe_76 : decode cX4_probe 76 = .ok (.aload_n 0, 1) := by decide +kernel
theorem dX4_probe_77 : decode cX4_probe 77 = .ok (.iload 8, 2) := by decide +kernel
theorem dX4_probe_79 : decode cX4_probe 79 = .ok (.iconst 2, 1) := by decide +kernel
theorem dX4_probe_80 : decode cX4_probe 80 = .ok (.iload 5, 2) := by decide +kernel
theorem dX4_probe_82 : decode cX4_probe 82 = .ok (.iload 6, 2) := by decide +kernel
theorem dX4_probe_84 : decode cX4_probe 84 = .ok (.invokevirtual 230, 3) := by decide +kernel
theorem dX4_probe_87 : decode cX4_probe 87 = .ok (.iadd, 1) := by decide +kernel
theorem dX4_probe_88 : decode cX4_probe 88 = .ok (.iconst 3, 1) := by decide +kernel
theorem dX4_probe_89 : decode cX4_probe 89 = .ok (.if_icmp .ne 7, 3) := by decide +kernel
theorem dX4_probe_92 : decode cX4_probe 92 = .ok (.iconst 1, 1) := by decide +kernel
theorem dX4_probe_93 : decode cX4_probe 93 = .ok (.goto 4, 3) := by decide +kernel
theorem dX4_probe_96 : decode cX4_probe 96 = .ok (.iconst 0, 1) := by decide +kernel
theorem dX4_probe_97 : decode cX4_probe 97 = .ok (.istore 9, 2) := by decide +kernel
theorem dX4_probe_99 : decode cX4_probe 99 = .ok (.iload 7, 2) := by decide +kernel
theorem dX4_probe_101 : decode cX4_probe 101 = .ok (.iload 9, 2) := by decide +kernel
theorem dX4_probe_103 : decode cX4_probe 103 = .ok (.ifCond .eq 10, 3) := by decide +kernel
theorem dX4_probe_106 : decode cX4_probe 106 = .ok (.iconst 1, 1) := by decide +kernel
theorem dX4_probe_107 : decode cX4_probe 107 = .ok (.iload 8, 2) := by decide +kernel
theorem dX4_probe_109 : decode cX4_probe 109 = .ok (.ishl, 1) := by decide +kernel
theorem dX4_probe_110 : decode cX4_probe 110 = .ok (.goto 4, 3) := by decide +kernel
theorem dX4_probe_113 : decode cX4_probe 113 = .ok (.iconst 0, 1) := by decide +kernel
theorem dX4_probe_114 : decode cX4_probe 114 = .ok (.ior, 1) := by decide +kernel
theorem dX4_probe_115 : decode cX4_probe 115 = .ok (.istore 7, 2) := by decide +kernel
theorem dX4_probe_117 : decode cX4_probe 117 = .ok (.iinc 8 1, 3) := by decide +kernel
theorem dX4_probe_120 : decode cX4_probe 120 = .ok (.goto (-83), 3) := by decide +kernel
theorem dX4_probe_123 : decode cX4_probe 123 = .ok (.iload 7, 2) := by decide +kernel
theorem dX4_probe_125 : decode cX4_probe 125 = .ok (.ireturn, 1) := by decide +kernel
theorem dX4_pairMany_0 : decode cX4_pairMany 0 = .ok (.aload_n 0, 1) := by decide +kernel
theorem dX4_pairMany_1 : decode cX4_pairMany 1 = .ok (.invokevirtual 202, 3) := by decide +kernel
theorem dX4_pairMany_4 : decode cX4_pairMany 4 = .ok (.aload_n 0, 1) := by decide +kernel
theorem dX4_pairMany_5 : decode cX4_pairMany 5 = .ok (.getfield 199, 3) := by decide +kernel
theorem dX4_pairMany_8 : decode cX4_pairMany 8 = .ok (.ireturn, 1) := by decide +kernel
theorem dX4_howMany_0 : decode cX4_howMany 0 = .ok (.iload_n 1, 1) := by decide +kernel
theorem dX4_howMany_1 : decode cX4_howMany 1 = .ok (.tableswitch 113 0 9 #[55, 60, 65, 70, 75, 80, 85, 90, 95, 108], 55) := by decide +kernel
theorem dX4_howMany_56 : decode cX4_howMany 56 = .ok (.aload_n 0, 1) := by decide +kernel
theorem dX4_howMany_57 : decode cX4_howMany 57 = .ok (.getfield 45, 3) := by decide +kernel
theorem dX4_howMany_60 : decode cX4_howMany 60 = .ok (.ireturn, 1) := by decide +kernel
theorem dX4_howMany_61 : decode cX4_howMany 61 = .ok (.aload_n 0, 1) := by decide +kernel
theorem dX4_howMany_62 : decode cX4_howMany 62 = .ok (.invokevirtual 80, 3) := by decide +kernel
theorem dX4_howMany_65 : decode cX4_howMany 65 = .ok (.ireturn, 1) := by decide +kernel
theorem dX4_howMany_66 : decode cX4_howMany 66 = .ok (.aload_n 0, 1) := by decide +kernel
theorem dX4_howMany_67 : decode cX4_howMany 67 = .ok (.invokevirtual 233, 3) := by decide +kernel
theorem dX4_howMany_70 : decode cX4_howMany 70 = .ok (.ireturn, 1) := by decide +kernel
theorem dX4_howMany_71 : decode cX4_howMany 71 = .ok (.aload_n 0, 1) := by decide +kernel
theorem dX4_howMany_72 : decode cX4_howMany 72 = .ok (.getfield 138, 3) := by decide +kernel
theorem dX4_howMany_75 : decode cX4_howMany 75 = .ok (.ireturn, 1) := by decide +kernel
theorem dX4_howMany_76 : decode cX4_howMany 76 = .ok (.aload_n 0, 1) := by decide +kernel
theorem dX4_howMany_77 : decode cX4_howMany 77 = .ok (.getfield 141, 3) := by decide +kernel
theorem dX4_howMany_80 : decode cX4_howMany 80 = .ok (.ireturn, 1) := by decide +kernel
theorem dX4_howMany_81 : decode cX4_howMany 81 = .ok (.aload_n 0, 1) := by decide +kernel
theorem dX4_howMany_82 : decode cX4_howMany 82 = .ok (.getfield 144, 3) := by decide +kernel
theorem dX4_howMany_85 : decode cX4_howMany 85 = .ok (.ireturn, 1) := by decide +kernel
theorem dX4_howMany_86 : decode cX4_howMany 86 = .ok (.aload_n 0, 1) := by decide +kernel
theorem dX4_howMany_87 : decode cX4_howMany 87 = .ok (.getfield 147, 3) := by decide +kernel
theorem dX4_howMany_90 : decode cX4_howMany 90 = .ok (.ireturn, 1) := by decide +kernel
theorem dX4_howMany_91 : decode cX4_howMany 91 = .ok (.aload_n 0, 1) := by decide +kernel
theorem dX4_howMany_92 : decode cX4_howMany 92 = .ok (.getfield 150, 3) := by decide +kernel
theorem dX4_howMany_95 : decode cX4_howMany 95 = .ok (.ireturn, 1) := by decide +kernel
theorem dX4_howMany_96 : decode cX4_howMany 96 = .ok (.aload_n 0, 1) := by decide +kernel
theorem dX4_howMany_97 : decode cX4_howMany 97 = .ok (.getfield 101, 3) := by decide +kernel
theorem dX4_howMany_100 : decode cX4_howMany 100 = .ok (.ifCond .eq 7, 3) := by decide +kernel
theorem dX4_howMany_103 : decode cX4_howMany 103 = .ok (.iconst 1, 1) := by decide +kernel
theorem dX4_howMany_104 : decode cX4_howMany 104 = .ok (.goto 4, 3) := by decide +kernel
theorem dX4_howMany_107 : decode cX4_howMany 107 = .ok (.iconst 0, 1) := by decide +kernel
theorem dX4_howMany_108 : decode cX4_howMany 108 = .ok (.ireturn, 1) := by decide +kernel
theorem dX4_howMany_109 : decode cX4_howMany 109 = .ok (.aload_n 0, 1) := by decide +kernel
theorem dX4_howMany_110 : decode cX4_howMany 110 = .ok (.getfield 73, 3) := by decide +kernel
theorem dX4_howMany_113 : decode cX4_howMany 113 = .ok (.ireturn, 1) := by decide +kernel
theorem dX4_howMany_114 : decode cX4_howMany 114 = .ok (.sipush (-10003), 3) := by decide +kernel
theorem dX4_howMany_117 : decode cX4_howMany 117 = .ok (.ireturn, 1) := by decide +kernel
theorem dX4_count_0 : decode cX4_count 0 = .ok (.aload_n 0, 1) := by decide +kernel
theorem dX4_count_1 : decode cX4_count 1 = .ok (.iload_n 1, 1) := by decide +kernel
theorem dX4_count_2 : decode cX4_count 2 = .ok (.invokevirtual 236, 3) := by decide +kernel
theorem dX4_count_5 : decode cX4_count 5 = .ok (.ireturn, 1) := by decide +kernel
theorem dX4_mix_0 : decode cX4_mix 0 = .ok (.aload_n 0, 1) := by decide +kernel
theorem dX4_mix_1 : decode cX4_mix 1 = .ok (.ldc2_w 239, 3) := by decide +kernel
theorem dX4_mix_4 : decode cX4_mix 4 = .ok (.aload_n 0, 1) := by decide +kernel
theorem dX4_mix_5 : decode cX4_mix 5 = .ok (.getfield 241, 3) := by decide +kernel
theorem dX4_mix_8 : decode cX4_mix 8 = .ok (.lmul, 1) := by decide +kernel
theorem dX4_mix_9 : decode cX4_mix 9 = .ok (.lload_n 1, 1) := by decide +kernel
theorem dX4_mix_10 : decode cX4_mix 10 = .ok (.ladd, 1) := by decide +kernel
theorem dX4_mix_11 : decode cX4_mix 11 = .ok (.putfield 241, 3) := by decide +kernel
theorem dX4_mix_14 : decode cX4_mix 14 = .ok (.return_, 1) := by decide +kernel
theorem dX4_mixBox_0 : decode cX4_mixBox 0 = .ok (.aload_n 0, 1) := by decide +kernel
theorem dX4_mixBox_1 : decode cX4_mixBox 1 = .ok (.iload_n 1, 1) := by decide +kernel
theorem dX4_mixBox_2 : decode cX4_mixBox 2 = .ok (.i2l, 1) := by decide +kernel
theorem dX4_mixBox_3 : decode cX4_mixBox 3 = .ok (.invokevirtual 245, 3) := by decide +kernel
theorem dX4_mixBox_6 : decode cX4_mixBox 6 = .ok (.iconst 0, 1) := by decide +kernel
theorem dX4_mixBox_7 : decode cX4_mixBox 7 = .ok (.istore_n 2, 1) := by decide +kernel
theorem dX4_mixBox_8 : decode cX4_mixBox 8 = .ok (.iload_n 2, 1) := by decide +kernel
theorem dX4_mixBox_9 : decode cX4_mixBox 9 = .ok (.bipush 9, 2) := by decide +kernel
theorem dX4_mixBox_11 : decode cX4_mixBox 11 = .ok (.if_icmp .ge 20, 3) := by decide +kernel
theorem dX4_mixBox_14 : decode cX4_mixBox 14 = .ok (.aload_n 0, 1) := by decide +kernel
theorem dX4_mixBox_15 : decode cX4_mixBox 15 = .ok (.aload_n 0, 1) := by decide +kernel
theorem dX4_mixBox_16 : decode cX4_mixBox 16 = .ok (.iload_n 1, 1) := by decide +kernel
theorem dX4_mixBox_17 : decode cX4_mixBox 17 = .ok (.iload_n 2, 1) := by decide +kernel
theorem dX4_mixBox_18 : decode cX4_mixBox 18 = .ok (.invokevirtual 192, 3) := by decide +kernel
theorem dX4_mixBox_21 : decode cX4_mixBox 21 = .ok (.i2l, 1) := by decide +kernel
theorem dX4_mixBox_22 : decode cX4_mixBox 22 = .ok (.invokevirtual 245, 3) := by decide +kernel
theorem dX4_mixBox_25 : decode cX4_mixBox 25 = .ok (.iinc 2 1, 3) := by decide +kernel
theorem dX4_mixBox_28 : decode cX4_mixBox 28 = .ok (.goto (-20), 3) := by decide +kernel
theorem dX4_mixBox_31 : decode cX4_mixBox 31 = .ok (.iconst 0, 1) := by decide +kernel
theorem dX4_mixBox_32 : decode cX4_mixBox 32 = .ok (.istore_n 2, 1) := by decide +kernel
theorem dX4_mixBox_33 : decode cX4_mixBox 33 = .ok (.iload_n 2, 1) := by decide +kernel
theorem dX4_mixBox_34 : decode cX4_mixBox 34 = .ok (.iconst 3, 1) := by decide +kernel
theorem dX4_mixBox_35 : decode cX4_mixBox 35 = .ok (.if_icmp .ge 33, 3) := by decide +kernel
theorem dX4_mixBox_38 : decode cX4_mixBox 38 = .ok (.aload_n 0, 1) := by decide +kernel
theorem dX4_mixBox_39 : decode cX4_mixBox 39 = .ok (.aload_n 0, 1) := by decide +kernel
theorem dX4_mixBox_40 : decode cX4_mixBox 40 = .ok (.iload_n 1, 1) := by decide +kernel
theorem dX4_mixBox_41 : decode cX4_mixBox 41 = .ok (.iload_n 2, 1) := by decide +kernel
theorem dX4_mixBox_42 : decode cX4_mixBox 42 = .ok (.iconst (-1), 1) := by decide +kernel
theorem dX4_mixBox_43 : decode cX4_mixBox 43 = .ok (.invokevirtual 212, 3) := by decide +kernel
theorem dX4_mixBox_46 : decode cX4_mixBox 46 = .ok (.i2l, 1) := by decide +kernel
theorem dX4_mixBox_47 : decode cX4_mixBox 47 = .ok (.invokevirtual 245, 3) := by decide +kernel
theorem dX4_mixBox_50 : decode cX4_mixBox 50 = .ok (.aload_n 0, 1) := by decide +kernel
theorem dX4_mixBox_51 : decode cX4_mixBox 51 = .ok (.aload_n 0, 1) := by decide +kernel
theorem dX4_mixBox_52 : decode cX4_mixBox 52 = .ok (.iload_n 1, 1) := by decide +kernel
theorem dX4_mixBox_53 : decode cX4_mixBox 53 = .ok (.iload_n 2, 1) := by decide +kernel
theorem dX4_mixBox_54 : decode cX4_mixBox 54 = .ok (.iconst 1, 1) := by decide +kernel
theorem dX4_mixBox_55 : decode cX4_mixBox 55 = .ok (.invokevirtual 212, 3) := by decide +kernel
theorem dX4_mixBox_58 : decode cX4_mixBox 58 = .ok (.i2l, 1) := by decide +kernel
theorem dX4_mixBox_59 : decode cX4_mixBox 59 = .ok (.invokevirtual 245, 3) := by decide +kernel
theorem dX4_mixBox_62 : decode cX4_mixBox 62 = .ok (.iinc 2 1, 3) := by decide +kernel
theorem dX4_mixBox_65 : decode cX4_mixBox 65 = .ok (.goto (-32), 3) := by decide +kernel
theorem dX4_mixBox_68 : decode cX4_mixBox 68 = .ok (.return_, 1) := by decide +kernel
theorem dX4_digest_0 : decode cX4_digest 0 = .ok (.aload_n 0, 1) := by decide +kernel
theorem dX4_digest_1 : decode cX4_digest 1 = .ok (.ldc2_w 249, 3) := by decide +kernel
theorem dX4_digest_4 : decode cX4_digest 4 = .ok (.putfield 241, 3) := by decide +kernel
theorem dX4_digest_7 : decode cX4_digest 7 = .ok (.iconst 0, 1) := by decide +kernel
theorem dX4_digest_8 : decode cX4_digest 8 = .ok (.istore_n 1, 1) := by decide +kernel
theorem dX4_digest_9 : decode cX4_digest 9 = .ok (.iload_n 1, 1) := by decide +kernel
theorem dX4_digest_10 : decode cX4_digest 10 = .ok (.bipush 12, 2) := by decide +kernel
theorem dX4_digest_12 : decode cX4_digest 12 = .ok (.if_icmp .ge 25, 3) := by decide +kernel
theorem dX4_digest_15 : decode cX4_digest 15 = .ok (.aload_n 0, 1) := by decide +kernel
theorem dX4_digest_16 : decode cX4_digest 16 = .ok (.getfield 73, 3) := by decide +kernel
theorem dX4_digest_19 : decode cX4_digest 19 = .ok (.iload_n 1, 1) := by decide +kernel
theorem dX4_digest_20 : decode cX4_digest 20 = .ok (.invokestatic 86, 3) := by decide +kernel
theorem dX4_digest_23 : decode cX4_digest 23 = .ok (.ifCond .eq 8, 3) := by decide +kernel
theorem dX4_digest_26 : decode cX4_digest 26 = .ok (.aload_n 0, 1) := by decide +kernel
theorem dX4_digest_27 : decode cX4_digest 27 = .ok (.iload_n 1, 1) := by decide +kernel
theorem dX4_digest_28 : decode cX4_digest 28 = .ok (.invokevirtual 251, 3) := by decide +kernel
theorem dX4_digest_31 : decode cX4_digest 31 = .ok (.iinc 1 1, 3) := by decide +kernel
theorem dX4_digest_34 : decode cX4_digest 34 = .ok (.goto (-25), 3) := by decide +kernel
theorem dX4_digest_37 : decode cX4_digest 37 = .ok (.iconst 0, 1) := by decide +kernel
theorem dX4_digest_38 : decode cX4_digest 38 = .ok (.istore_n 1, 1) := by decide +kernel
theorem dX4_digest_39 : decode cX4_digest 39 = .ok (.iload_n 1, 1) := by decide +kernel
theorem dX4_digest_40 : decode cX4_digest 40 = .ok (.iconst 3, 1) := by decide +kernel
theorem dX4_digest_41 : decode cX4_digest 41 = .ok (.if_icmp .ge 43, 3) := by decide +kernel
theorem dX4_digest_44 : decode cX4_digest 44 = .ok (.iconst 0, 1) := by decide +kernel
theorem dX4_digest_45 : decode cX4_digest 45 = .ok (.istore_n 2, 1) := by decide +kernel
theorem dX4_digest_46 : decode cX4_digest 46 = .ok (.iload_n 2, 1) := by decide +kernel
theorem dX4_digest_47 : decode cX4_digest 47 = .ok (.iconst 3, 1) := by decide +kernel
theorem dX4_digest_48 : decode cX4_digest 48 = .ok (.aload_n 0, 1) := by decide +kernel
theorem dX4_digest_49 : decode cX4_digest 49 = .ok (.getfield 110, 3) := by decide +kernel
theorem dX4_digest_52 : decode cX4_digest 52 = .ok (.imul, 1) := by decide +kernel
theorem dX4_digest_53 : decode cX4_digest 53 = .ok (.if_icmp .ge 25, 3) := by decide +kernel
theorem dX4_digest_56 : decode cX4_digest 56 = .ok (.aload_n 0, 1) := by decide +kernel
theorem dX4_digest_57 : decode cX4_digest 57 = .ok (.aload_n 0, 1) := by decide +kernel
theorem dX4_digest_58 : decode cX4_digest 58 = .ok (.iload_n 1, 1) := by decide +kernel
theorem dX4_digest_59 : decode cX4_digest 59 = .ok (.iload_n 2, 1) := by decide +kernel
theorem dX4_digest_60 : decode cX4_digest 60 = .ok (.iconst 3, 1) := by decide +kernel
theorem dX4_digest_61 : decode cX4_digest 61 = .ok (.idiv, 1) := by decide +kernel
theorem dX4_digest_62 : decode cX4_digest 62 = .ok (.iload_n 2, 1) := by decide +kernel
theorem dX4_digest_63 : decode cX4_digest 63 = .ok (.iconst 3, 1) := by decide +kernel
theorem dX4_digest_64 : decode cX4_digest 64 = .ok (.irem, 1) := by decide +kernel
theorem dX4_digest_65 : decode cX4_digest 65 = .ok (.invokevirtual 195, 3) := by decide +kernel
theorem dX4_digest_68 : decode cX4_digest 68 = .ok (.i2l, 1) := by decide +kernel
theorem dX4_digest_69 : decode cX4_digest 69 = .ok (.invokevirtual 245, 3) := by decide +kernel
theorem dX4_digest_72 : decode cX4_digest 72 = .ok (.iinc 2 1, 3) := by decide +kernel
theorem dX4_digest_75 : decode cX4_digest 75 = .ok (.goto (-29), 3) := by decide +kernel
theorem dX4_digest_78 : decode cX4_digest 78 = .ok (.iinc 1 1, 3) := by decide +kernel
theorem dX4_digest_81 : decode cX4_digest 81 = .ok (.goto (-42), 3) := by decide +kernel
theorem dX4_digest_84 : decode cX4_digest 84 = .ok (.aload_n 0, 1) := by decide +kernel
theorem dX4_digest_85 : decode cX4_digest 85 = .ok (.invokevirtual 202, 3) := by decide +kernel
theorem dX4_digest_88 : decode cX4_digest 88 = .ok (.iconst 0, 1) := by decide +kernel
theorem dX4_digest_89 : decode cX4_digest 89 = .ok (.istore_n 1, 1) := by decide +kernel
theorem dX4_digest_90 : decode cX4_digest 90 = .ok (.iload_n 1, 1) := by decide +kernel
theorem dX4_digest_91 : decode cX4_digest 91 = .ok (.aload_n 0, 1) := by decide +kernel
theorem dX4_digest_92 : decode cX4_digest 92 = .ok (.getfield 199, 3) := by decide +kernel
theorem dX4_digest_95 : decode cX4_digest 95 = .ok (.if_icmp .ge 20, 3) := by decide +kernel
theorem dX4_digest_98 : decode cX4_digest 98 = .ok (.aload_n 0, 1) := by decide +kernel
theorem dX4_digest_99 : decode cX4_digest 99 = .ok (.aload_n 0, 1) := by decide +kernel
theorem dX4_digest_100 : decode cX4_digest 100 = .ok (.getfield 38, 3) := by decide +kernel
theorem dX4_digest_103 : decode cX4_digest 103 = .ok (.iload_n 1, 1) := by decide +kernel
theorem dX4_digest_104 : decode cX4_digest 104 = .ok (.iaload, 1) := by decide +kernel
theorem dX4_digest_105 : decode cX4_digest 105 = .ok (.i2l, 1) := by decide +kernel
theorem dX4_digest_106 : decode cX4_digest 106 = .ok (.invokevirtual 245, 3) := by decide +kernel
theorem dX4_digest_109 : decode cX4_digest 109 = .ok (.iinc 1 1, 3) := by decide +kernel
theorem dX4_digest_112 : decode cX4_digest 112 = .ok (.goto (-22), 3) := by decide +kernel
theorem dX4_digest_115 : decode cX4_digest 115 = .ok (.iconst 0, 1) := by decide +kernel
theorem dX4_digest_116 : decode cX4_digest 116 = .ok (.istore_n 1, 1) := by decide +kernel
theorem dX4_digest_117 : decode cX4_digest 117 = .ok (.iload_n 1, 1) := by decide +kernel
theorem dX4_digest_118 : decode cX4_digest 118 = .ok (.aload_n 0, 1) := by decide +kernel
theorem dX4_digest_119 : decode cX4_digest 119 = .ok (.getfield 126, 3) := by decide +kernel
theorem dX4_digest_122 : decode cX4_digest 122 = .ok (.if_icmp .ge 31, 3) := by decide +kernel
theorem dX4_digest_125 : decode cX4_digest 125 = .ok (.aload_n 0, 1) := by decide +kernel
theorem dX4_digest_126 : decode cX4_digest 126 = .ok (.aload_n 0, 1) := by decide +kernel
theorem dX4_digest_127 : decode cX4_digest 127 = .ok (.getfield 22, 3) := by decide +kernel
theorem dX4_digest_130 : decode cX4_digest 130 = .ok (.iload_n 1, 1) := by decide +kernel
theorem dX4_digest_131 : decode cX4_digest 131 = .ok (.iaload, 1) := by decide +kernel
theorem dX4_digest_132 : decode cX4_digest 132 = .ok (.i2l, 1) := by decide +kernel
theorem dX4_digest_133 : decode cX4_digest 133 = .ok (.invokevirtual 245, 3) := by decide +kernel
theorem dX4_digest_136 : decode cX4_digest 136 = .ok (.aload_n 0, 1) := by decide +kernel
theorem dX4_digest_137 : decode cX4_digest 137 = .ok (.aload_n 0, 1) := by decide +kernel
theorem dX4_digest_138 : decode cX4_digest 138 = .ok (.getfield 25, 3) := by decide +kernel
theorem dX4_digest_141 : decode cX4_digest 141 = .ok (.iload_n 1, 1) := by decide +kernel
theorem dX4_digest_142 : decode cX4_digest 142 = .ok (.iaload, 1) := by decide +kernel
theorem dX4_digest_143 : decode cX4_digest 143 = .ok (.i2l, 1) := by decide +kernel
theorem dX4_digest_144 : decode cX4_digest 144 = .ok (.invokevirtual 245, 3) := by decide +kernel
theorem dX4_digest_147 : decode cX4_digest 147 = .ok (.iinc 1 1, 3) := by decide +kernel
theorem dX4_digest_150 : decode cX4_digest 150 = .ok (.goto (-33), 3) := by decide +kernel
theorem dX4_digest_153 : decode cX4_digest 153 = .ok (.iconst 0, 1) := by decide +kernel
theorem dX4_digest_154 : decode cX4_digest 154 = .ok (.istore_n 1, 1) := by decide +kernel
theorem dX4_digest_155 : decode cX4_digest 155 = .ok (.iload_n 1, 1) := by decide +kernel
theorem dX4_digest_156 : decode cX4_digest 156 = .ok (.bipush 7, 2) := by decide +kernel
theorem dX4_digest_158 : decode cX4_digest 158 = .ok (.if_icmp .ge 19, 3) := by decide +kernel
theorem dX4_digest_161 : decode cX4_digest 161 = .ok (.aload_n 0, 1) := by decide +kernel
theorem dX4_digest_162 : decode cX4_digest 162 = .ok (.aload_n 0, 1) := by decide +kernel
theorem dX4_digest_163 : decode cX4_digest 163 = .ok (.iload_n 1, 1) := by decide +kernel
theorem dX4_digest_164 : decode cX4_digest 164 = .ok (.invokevirtual 205, 3) := by decide +kernel
theorem dX4_digest_167 : decode cX4_digest 167 = .ok (.i2l, 1) := by decide +kernel
theorem dX4_digest_168 : decode cX4_digest 168 = .ok (.invokevirtual 245, 3) := by decide +kernel
theorem dX4_digest_171 : decode cX4_digest 171 = .ok (.iinc 1 1, 3) := by decide +kernel
theorem dX4_digest_174 : decode cX4_digest 174 = .ok (.goto (-19), 3) := by decide +kernel
theorem dX4_digest_177 : decode cX4_digest 177 = .ok (.iconst 0, 1) := by decide +kernel
theorem dX4_digest_178 : decode cX4_digest 178 = .ok (.istore_n 1, 1) := by decide +kernel
theorem dX4_digest_179 : decode cX4_digest 179 = .ok (.iload_n 1, 1) := by decide +kernel
theorem dX4_digest_180 : decode cX4_digest 180 = .ok (.iconst 4, 1) := by decide +kernel
theorem dX4_digest_181 : decode cX4_digest 181 = .ok (.if_icmp .ge 19, 3) := by decide +kernel
theorem dX4_digest_184 : decode cX4_digest 184 = .ok (.aload_n 0, 1) := by decide +kernel
theorem dX4_digest_185 : decode cX4_digest 185 = .ok (.aload_n 0, 1) := by decide +kernel
theorem dX4_digest_186 : decode cX4_digest 186 = .ok (.iload_n 1, 1) := by decide +kernel
theorem dX4_digest_187 : decode cX4_digest 187 = .ok (.invokevirtual 227, 3) := by decide +kernel
theorem dX4_digest_190 : decode cX4_digest 190 = .ok (.i2l, 1) := by decide +kernel
theorem dX4_digest_191 : decode cX4_digest 191 = .ok (.invokevirtual 245, 3) := by decide +kernel
theorem dX4_digest_194 : decode cX4_digest 194 = .ok (.iinc 1 1, 3) := by decide +kernel
theorem dX4_digest_197 : decode cX4_digest 197 = .ok (.goto (-18), 3) := by decide +kernel
theorem dX4_digest_200 : decode cX4_digest 200 = .ok (.iconst 0, 1) := by decide +kernel
theorem dX4_digest_201 : decode cX4_digest 201 = .ok (.istore_n 1, 1) := by decide +kernel
theorem dX4_digest_202 : decode cX4_digest 202 = .ok (.iload_n 1, 1) := by decide +kernel
theorem dX4_digest_203 : decode cX4_digest 203 = .ok (.aload_n 0, 1) := by decide +kernel
theorem dX4_digest_204 : decode cX4_digest 204 = .ok (.getfield 45, 3) := by decide +kernel
theorem dX4_digest_207 : decode cX4_digest 207 = .ok (.if_icmp .ge 20, 3) := by decide +kernel
theorem dX4_digest_210 : decode cX4_digest 210 = .ok (.aload_n 0, 1) := by decide +kernel
theorem dX4_digest_211 : decode cX4_digest 211 = .ok (.aload_n 0, 1) := by decide +kernel
theorem dX4_digest_212 : decode cX4_digest 212 = .ok (.getfield 7, 3) := by decide +kernel
theorem dX4_digest_215 : decode cX4_digest 215 = .ok (.iload_n 1, 1) := by decide +kernel
theorem dX4_digest_216 : decode cX4_digest 216 = .ok (.iaload, 1) := by decide +kernel
theorem dX4_digest_217 : decode cX4_digest 217 = .ok (.i2l, 1) := by decide +kernel
theorem dX4_digest_218 : decode cX4_digest 218 = .ok (.invokevirtual 245, 3) := by decide +kernel
theorem dX4_digest_221 : decode cX4_digest 221 = .ok (.iinc 1 1, 3) := by decide +kernel
theorem dX4_digest_224 : decode cX4_digest 224 = .ok (.goto (-22), 3) := by decide +kernel
theorem dX4_digest_227 : decode cX4_digest 227 = .ok (.iconst 0, 1) := by decide +kernel
theorem dX4_digest_228 : decode cX4_digest 228 = .ok (.istore_n 1, 1) := by decide +kernel
theorem dX4_digest_229 : decode cX4_digest 229 = .ok (.iload_n 1, 1) := by decide +kernel
theorem dX4_digest_230 : decode cX4_digest 230 = .ok (.bipush 10, 2) := by decide +kernel
theorem dX4_digest_232 : decode cX4_digest 232 = .ok (.if_icmp .ge 19, 3) := by decide +kernel
theorem dX4_digest_235 : decode cX4_digest 235 = .ok (.aload_n 0, 1) := by decide +kernel
theorem dX4_digest_236 : decode cX4_digest 236 = .ok (.aload_n 0, 1) := by decide +kernel
theorem dX4_digest_237 : decode cX4_digest 237 = .ok (.iload_n 1, 1) := by decide +kernel
theorem dX4_digest_238 : decode cX4_digest 238 = .ok (.invokevirtual 236, 3) := by decide +kernel
theorem dX4_digest_241 : decode cX4_digest 241 = .ok (.i2l, 1) := by decide +kernel
theorem dX4_digest_242 : decode cX4_digest 242 = .ok (.invokevirtual 245, 3) := by decide +kernel
theorem dX4_digest_245 : decode cX4_digest 245 = .ok (.iinc 1 1, 3) := by decide +kernel
theorem dX4_digest_248 : decode cX4_digest 248 = .ok (.goto (-19), 3) := by decide +kernel
theorem dX4_digest_251 : decode cX4_digest 251 = .ok (.aload_n 0, 1) := by decide +kernel
theorem dX4_digest_252 : decode cX4_digest 252 = .ok (.getfield 241, 3) := by decide +kernel
theorem dX4_digest_255 : decode cX4_digest 255 = .ok (.lreturn, 1) := by decide +kernel
