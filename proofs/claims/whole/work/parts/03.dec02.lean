theorem dX3_pair_0 : decode cX3_pair 0 = .ok (.iload_n 1, 1) := by decide +kernel
theorem dX3_pair_1 : decode cX3_pair 1 = .ok (.ifCond .ge 7, 3) := by decide +kernel
theorem dX3_pair_4 : decode cX3_pair 4 = .ok (.sipush (-10002), 3) := by decide +kernel
theorem dX3_pair_7 : decode cX3_pair 7 = .ok (.ireturn, 1) := by decide +kernel
theorem dX3_pair_8 : decode cX3_pair 8 = .ok (.iconst 0, 1) := by decide +kernel
theorem dX3_pair_9 : decode cX3_pair 9 = .ok (.istore_n 2, 1) := by decide +kernel
theorem dX3_pair_10 : decode cX3_pair 10 = .ok (.iconst 0, 1) := by decide +kernel
theorem dX3_pair_11 : decode cX3_pair 11 = .ok (.istore_n 3, 1) := by decide +kernel
theorem dX3_pair_12 : decode cX3_pair 12 = .ok (.iload_n 3, 1) := by decide +kernel
theorem dX3_pair_13 : decode cX3_pair 13 = .ok (.bipush 12, 2) := by decide +kernel
theorem dX3_pair_15 : decode cX3_pair 15 = .ok (.if_icmp .ge 56, 3) := by decide +kernel
theorem dX3_pair_18 : decode cX3_pair 18 = .ok (.iload_n 3, 1) := by decide +kernel
theorem dX3_pair_19 : decode cX3_pair 19 = .ok (.iconst 1, 1) := by decide +kernel
theorem dX3_pair_20 : decode cX3_pair 20 = .ok (.iadd, 1) := by decide +kernel
theorem dX3_pair_21 : decode cX3_pair 21 = .ok (.istore 4, 2) := by decide +kernel
theorem dX3_pair_23 : decode cX3_pair 23 = .ok (.iload 4, 2) := by decide +kernel
theorem dX3_pair_25 : decode cX3_pair 25 = .ok (.bipush 12, 2) := by decide +kernel
theorem dX3_pair_27 : decode cX3_pair 27 = .ok (.if_icmp .ge 38, 3) := by decide +kernel
theorem dX3_pair_30 : decode cX3_pair 30 = .ok (.aload_n 0, 1) := by decide +kernel
theorem dX3_pair_31 : decode cX3_pair 31 = .ok (.getfield 36, 3) := by decide +kernel
theorem dX3_pair_34 : decode cX3_pair 34 = .ok (.iload_n 3, 1) := by decide +kernel
theorem dX3_pair_35 : decode cX3_pair 35 = .ok (.iaload, 1) := by decide +kernel
theorem dX3_pair_36 : decode cX3_pair 36 = .ok (.iload 4, 2) := by decide +kernel
theorem dX3_pair_38 : decode cX3_pair 38 = .ok (.invokestatic 142, 3) := by decide +kernel
theorem dX3_pair_41 : decode cX3_pair 41 = .ok (.ifCond .eq 18, 3) := by decide +kernel
theorem dX3_pair_44 : decode cX3_pair 44 = .ok (.iload_n 2, 1) := by decide +kernel
theorem dX3_pair_45 : decode cX3_pair 45 = .ok (.iload_n 1, 1) := by decide +kernel
theorem dX3_pair_46 : decode cX3_pair 46 = .ok (.if_icmp .ne 10, 3) := by decide +kernel
theorem dX3_pair_49 : decode cX3_pair 49 = .ok (.iload_n 3, 1) := by decide +kernel
theorem dX3_pair_50 : decode cX3_pair 50 = .ok (.iload 4, 2) := by decide +kernel
theorem dX3_pair_52 : decode cX3_pair 52 = .ok (.invokestatic 145, 3) := by decide +kernel
theorem dX3_pair_55 : decode cX3_pair 55 = .ok (.ireturn, 1) := by decide +kernel
theorem dX3_pair_56 : decode cX3_pair 56 = .ok (.iinc 2 1, 3) := by decide +kernel
theorem dX3_pair_59 : decode cX3_pair 59 = .ok (.iinc 4 1, 3) := by decide +kernel
theorem dX3_pair_62 : decode cX3_pair 62 = .ok (.goto (-39), 3) := by decide +kernel
theorem dX3_pair_65 : decode cX3_pair 65 = .ok (.iinc 3 1, 3) := by decide +kernel
theorem dX3_pair_68 : decode cX3_pair 68 = .ok (.goto (-56), 3) := by decide +kernel
theorem dX3_pair_71 : decode cX3_pair 71 = .ok (.sipush (-10002), 3) := by decide +kernel
theorem dX3_pair_74 : decode cX3_pair 74 = .ok (.ireturn, 1) := by decide +kernel
theorem dX3_event_0 : decode cX3_event 0 = .ok (.iload_n 1, 1) := by decide +kernel
theorem dX3_event_1 : decode cX3_event 1 = .ok (.ifCond .lt 14, 3) := by decide +kernel
theorem dX3_event_4 : decode cX3_event 4 = .ok (.iload_n 1, 1) := by decide +kernel
theorem dX3_event_5 : decode cX3_event 5 = .ok (.aload_n 0, 1) := by decide +kernel
theorem dX3_event_6 : decode cX3_event 6 = .ok (.getfield 32, 3) := by decide +kernel
theorem dX3_event_9 : decode cX3_event 9 = .ok (.invokevirtual 149, 3) := by decide +kernel
theorem dX3_event_12 : decode cX3_event 12 = .ok (.if_icmp .lt 7, 3) := by decide +kernel
theorem dX3_event_15 : decode cX3_event 15 = .ok (.sipush (-10002), 3) := by decide +kernel
theorem dX3_event_18 : decode cX3_event 18 = .ok (.ireturn, 1) := by decide +kernel
theorem dX3_event_19 : decode cX3_event 19 = .ok (.iload_n 2, 1) := by decide +kernel
theorem dX3_event_20 : decode cX3_event 20 = .ok (.lookupswitch 54 #[(0, 28), (1, 37)], 28) := by decide +kernel
theorem dX3_event_48 : decode cX3_event 48 = .ok (.aload_n 0, 1) := by decide +kernel
theorem dX3_event_49 : decode cX3_event 49 = .ok (.getfield 32, 3) := by decide +kernel
theorem dX3_event_52 : decode cX3_event 52 = .ok (.iload_n 1, 1) := by decide +kernel
theorem dX3_event_53 : decode cX3_event 53 = .ok (.invokevirtual 152, 3) := by decide +kernel
theorem dX3_event_56 : decode cX3_event 56 = .ok (.ireturn, 1) := by decide +kernel
theorem dX3_event_57 : decode cX3_event 57 = .ok (.aload_n 0, 1) := by decide +kernel
theorem dX3_event_58 : decode cX3_event 58 = .ok (.getfield 32, 3) := by decide +kernel
theorem dX3_event_61 : decode cX3_event 61 = .ok (.iload_n 1, 1) := by decide +kernel
theorem dX3_event_62 : decode cX3_event 62 = .ok (.invokevirtual 155, 3) := by decide +kernel
theorem dX3_event_65 : decode cX3_event 65 = .ok (.ifCond .eq 7, 3) := by decide +kernel
theorem dX3_event_68 : decode cX3_event 68 = .ok (.iconst 1, 1) := by decide +kernel
theorem dX3_event_69 : decode cX3_event 69 = .ok (.goto 4, 3) := by decide +kernel
theorem dX3_event_72 : decode cX3_event 72 = .ok (.iconst 0, 1) := by decide +kernel
theorem dX3_event_73 : decode cX3_event 73 = .ok (.ireturn, 1) := by decide +kernel
theorem dX3_event_74 : decode cX3_event 74 = .ok (.sipush (-10003), 3) := by decide +kernel
theorem dX3_event_77 : decode cX3_event 77 = .ok (.ireturn, 1) := by decide +kernel
theorem dX3_latest_0 : decode cX3_latest 0 = .ok (.iload_n 1, 1) := by decide +kernel
theorem dX3_latest_1 : decode cX3_latest 1 = .ok (.tableswitch 105 0 6 #[43, 51, 59, 67, 75, 85, 95], 43) := by decide +kernel
theorem dX3_latest_44 : decode cX3_latest 44 = .ok (.aload_n 0, 1) := by decide +kernel
theorem dX3_latest_45 : decode cX3_latest 45 = .ok (.getfield 32, 3) := by decide +kernel
theorem dX3_latest_48 : decode cX3_latest 48 = .ok (.invokevirtual 149, 3) := by decide +kernel
theorem dX3_latest_51 : decode cX3_latest 51 = .ok (.ireturn, 1) := by decide +kernel
theorem dX3_latest_52 : decode cX3_latest 52 = .ok (.aload_n 0, 1) := by decide +kernel
theorem dX3_latest_53 : decode cX3_latest 53 = .ok (.getfield 32, 3) := by decide +kernel
theorem dX3_latest_56 : decode cX3_latest 56 = .ok (.getfield 158, 3) := by decide +kernel
theorem dX3_latest_59 : decode cX3_latest 59 = .ok (.ireturn, 1) := by decide +kernel
theorem dX3_latest_60 : decode cX3_latest 60 = .ok (.aload_n 0, 1) := by decide +kernel
theorem dX3_latest_61 : decode cX3_latest 61 = .ok (.getfield 32, 3) := by decide +kernel
theorem dX3_latest_64 : decode cX3_latest 64 = .ok (.getfield 161, 3) := by decide +kernel
theorem dX3_latest_67 : decode cX3_latest 67 = .ok (.ireturn, 1) := by decide +kernel
theorem dX3_latest_68 : decode cX3_latest 68 = .ok (.aload_n 0, 1) := by decide +kernel
theorem dX3_latest_69 : decode cX3_latest 69 = .ok (.getfield 32, 3) := by decide +kernel
theorem dX3_latest_72 : decode cX3_latest 72 = .ok (.getfield 164, 3) := by decide +kernel
theorem dX3_latest_75 : decode cX3_latest 75 = .ok (.ireturn, 1) := by decide +kernel
theorem dX3_latest_76 : decode cX3_latest 76 = .ok (.aload_n 0, 1) := by decide +kernel
theorem dX3_latest_77 : decode cX3_latest 77 = .ok (.getfield 32, 3) := by decide +kernel
theorem dX3_latest_80 : decode cX3_latest 80 = .ok (.getfield 167, 3) := by decide +kernel
theorem dX3_latest_83 : decode cX3_latest 83 = .ok (.iconst 0, 1) := by decide +kernel
theorem dX3_latest_84 : decode cX3_latest 84 = .ok (.iaload, 1) := by decide +kernel
theorem dX3_latest_85 : decode cX3_latest 85 = .ok (.ireturn, 1) := by decide +kernel
theorem dX3_latest_86 : decode cX3_latest 86 = .ok (.aload_n 0, 1) := by decide +kernel
theorem dX3_latest_87 : decode cX3_latest 87 = .ok (.getfield 32, 3) := by decide +kernel
theorem dX3_latest_90 : decode cX3_latest 90 = .ok (.getfield 167, 3) := by decide +kernel
theorem dX3_latest_93 : decode cX3_latest 93 = .ok (.iconst 1, 1) := by decide +kernel
theorem dX3_latest_94 : decode cX3_latest 94 = .ok (.iaload, 1) := by decide +kernel
theorem dX3_latest_95 : decode cX3_latest 95 = .ok (.ireturn, 1) := by decide +kernel
theorem dX3_latest_96 : decode cX3_latest 96 = .ok (.aload_n 0, 1) := by decide +kernel
theorem dX3_latest_97 : decode cX3_latest 97 = .ok (.getfield 32, 3) := by decide +kernel
theorem dX3_latest_100 : decode cX3_latest 100 = .ok (.getfield 167, 3) := by decide +kernel
theorem dX3_latest_103 : decode cX3_latest 103 = .ok (.iconst 2, 1) := by decide +kernel
theorem dX3_latest_104 : decode cX3_latest 104 = .ok (.iaload, 1) := by decide +kernel
theorem dX3_latest_105 : decode cX3_latest 105 = .ok (.ireturn, 1) := by decide +kernel
theorem dX3_latest_106 : decode cX3_latest 106 = .ok (.sipush (-10003), 3) := by decide +kernel
theorem dX3_latest_109 : decode cX3_latest 109 = .ok (.ireturn, 1) := by decide +kernel
theorem dX3_let_0 : decode cX3_let 0 = .ok (.aload_n 0, 1) := by decide +kernel
theorem dX3_let_1 : decode cX3_let 1 = .ok (.iload_n 1, 1) := by decide +kernel
theorem dX3_let_2 : decode cX3_let 2 = .ok (.invokevirtual 78, 3) := by decide +kernel
theorem dX3_let_5 : decode cX3_let 5 = .ok (.ifCond .eq 10, 3) := by decide +kernel
theorem dX3_let_8 : decode cX3_let 8 = .ok (.iload_n 2, 1) := by decide +kernel
theorem dX3_let_9 : decode cX3_let 9 = .ok (.invokestatic 108, 3) := by decide +kernel
theorem dX3_let_12 : decode cX3_let 12 = .ok (.ifCond .ne 7, 3) := by decide +kernel
theorem dX3_let_15 : decode cX3_let 15 = .ok (.sipush (-10002), 3) := by decide +kernel
theorem dX3_let_18 : decode cX3_let 18 = .ok (.ireturn, 1) := by decide +kernel
theorem dX3_let_19 : decode cX3_let 19 = .ok (.iload_n 3, 1) := by decide +kernel
theorem dX3_let_20 : decode cX3_let 20 = .ok (.iconst 1, 1) := by decide +kernel
theorem dX3_let_21 : decode cX3_let 21 = .ok (.if_icmp .eq 12, 3) := by decide +kernel
theorem dX3_let_24 : decode cX3_let 24 = .ok (.iload_n 3, 1) := by decide +kernel
theorem dX3_let_25 : decode cX3_let 25 = .ok (.iconst (-1), 1) := by decide +kernel
theorem dX3_let_26 : decode cX3_let 26 = .ok (.if_icmp .eq 7, 3) := by decide +kernel
theorem dX3_let_29 : decode cX3_let 29 = .ok (.sipush (-10003), 3) := by decide +kernel
theorem dX3_let_32 : decode cX3_let 32 = .ok (.ireturn, 1) := by decide +kernel
theorem dX3_let_33 : decode cX3_let 33 = .ok (.aload_n 0, 1) := by decide +kernel
theorem dX3_let_34 : decode cX3_let 34 = .ok (.iload_n 2, 1) := by decide +kernel
theorem dX3_let_35 : decode cX3_let 35 = .ok (.invokevirtual 120, 3) := by decide +kernel
theorem dX3_let_38 : decode cX3_let 38 = .ok (.astore 4, 2) := by decide +kernel
theorem dX3_let_40 : decode cX3_let 40 = .ok (.aload_n 0, 1) := by decide +kernel
theorem dX3_let_41 : decode cX3_let 41 = .ok (.iload_n 2, 1) := by decide +kernel
theorem dX3_let_42 : decode cX3_let 42 = .ok (.iload_n 1, 1) := by decide +kernel
theorem dX3_let_43 : decode cX3_let 43 = .ok (.invokevirtual 170, 3) := by decide +kernel
theorem dX3_let_46 : decode cX3_let 46 = .ok (.istore 5, 2) := by decide +kernel
theorem dX3_let_48 : decode cX3_let 48 = .ok (.aload 4, 2) := by decide +kernel
theorem dX3_let_50 : decode cX3_let 50 = .ok (.iload_n 1, 1) := by decide +kernel
theorem dX3_let_51 : decode cX3_let 51 = .ok (.iload_n 3, 1) := by decide +kernel
theorem dX3_let_52 : decode cX3_let 52 = .ok (.invokevirtual 173, 3) := by decide +kernel
theorem dX3_let_55 : decode cX3_let 55 = .ok (.iconst 1, 1) := by decide +kernel
theorem dX3_let_56 : decode cX3_let 56 = .ok (.iadd, 1) := by decide +kernel
theorem dX3_let_57 : decode cX3_let 57 = .ok (.istore 6, 2) := by decide +kernel
theorem dX3_let_59 : decode cX3_let 59 = .ok (.iconst 0, 1) := by decide +kernel
theorem dX3_let_60 : decode cX3_let 60 = .ok (.istore 7, 2) := by decide +kernel
theorem dX3_let_62 : decode cX3_let 62 = .ok (.iconst 0, 1) := by decide +kernel
theorem dX3_let_63 : decode cX3_let 63 = .ok (.istore 8, 2) := by decide +kernel
theorem dX3_let_65 : decode cX3_let 65 = .ok (.iload 8, 2) := by decide +kernel
theorem dX3_let_67 : decode cX3_let 67 = .ok (.bipush 12, 2) := by decide +kernel
theorem dX3_let_69 : decode cX3_let 69 = .ok (.if_icmp .ge 49, 3) := by decide +kernel
theorem dX3_let_72 : decode cX3_let 72 = .ok (.iload 5, 2) := by decide +kernel
theorem dX3_let_74 : decode cX3_let 74 = .ok (.iload 8, 2) := by decide +kernel
theorem dX3_let_76 : decode cX3_let 76 = .ok (.invokestatic 142, 3) := by decide +kernel
theorem dX3_let_79 : decode cX3_let 79 = .ok (.ifCond .eq 33, 3) := by decide +kernel
theorem dX3_let_82 : decode cX3_let 82 = .ok (.aload 4, 2) := by decide +kernel
theorem dX3_let_84 : decode cX3_let 84 = .ok (.iload_n 1, 1) := by decide +kernel
theorem dX3_let_85 : decode cX3_let 85 = .ok (.iload 8, 2) := by decide +kernel
theorem dX3_let_87 : decode cX3_let 87 = .ok (.iload_n 3, 1) := by decide +kernel
theorem dX3_let_88 : decode cX3_let 88 = .ok (.invokevirtual 176, 3) := by decide +kernel
theorem dX3_let_91 : decode cX3_let 91 = .ok (.istore 9, 2) := by decide +kernel
theorem dX3_let_93 : decode cX3_let 93 = .ok (.iload 9, 2) := by decide +kernel
theorem dX3_let_95 : decode cX3_let 95 = .ok (.ifCond .le 17, 3) := by decide +kernel
theorem dX3_let_98 : decode cX3_let 98 = .ok (.iload 9, 2) := by decide +kernel
theorem dX3_let_100 : decode cX3_let 100 = .ok (.iload 6, 2) := by decide +kernel
theorem dX3_let_102 : decode cX3_let 102 = .ok (.if_icmp .ge 10, 3) := by decide +kernel
theorem dX3_let_105 : decode cX3_let 105 = .ok (.iload 9, 2) := by decide +kernel
theorem dX3_let_107 : decode cX3_let 107 = .ok (.istore 6, 2) := by decide +kernel
theorem dX3_let_109 : decode cX3_let 109 = .ok (.iconst 1, 1) := by decide +kernel
theorem dX3_let_110 : decode cX3_let 110 = .ok (.istore 7, 2) := by decide +kernel
theorem dX3_let_112 : decode cX3_let 112 = .ok (.iinc 8 1, 3) := by decide +kernel
theorem dX3_let_115 : decode cX3_let 115 = .ok (.goto (-50), 3) := by decide +kernel
theorem dX3_let_118 : decode cX3_let 118 = .ok (.iload 7, 2) := by decide +kernel
theorem dX3_let_120 : decode cX3_let 120 = .ok (.ifCond .eq 8, 3) := by decide +kernel
theorem dX3_let_123 : decode cX3_let 123 = .ok (.iload 6, 2) := by decide +kernel
theorem dX3_let_125 : decode cX3_let 125 = .ok (.goto 6, 3) := by decide +kernel
theorem dX3_let_128 : decode cX3_let 128 = .ok (.sipush (-10001), 3) := by decide +kernel
theorem dX3_let_131 : decode cX3_let 131 = .ok (.ireturn, 1) := by decide +kernel
theorem dX3_heap_0 : decode cX3_heap 0 = .ok (.iload_n 1, 1) := by decide +kernel
theorem dX3_heap_1 : decode cX3_heap 1 = .ok (.tableswitch 54 0 3 #[31, 36, 41, 46], 31) := by decide +kernel
theorem dX3_heap_32 : decode cX3_heap 32 = .ok (.aload_n 0, 1) := by decide +kernel
theorem dX3_heap_33 : decode cX3_heap 33 = .ok (.invokevirtual 180, 3) := by decide +kernel
theorem dX3_heap_36 : decode cX3_heap 36 = .ok (.ireturn, 1) := by decide +kernel
theorem dX3_heap_37 : decode cX3_heap 37 = .ok (.aload_n 0, 1) := by decide +kernel
theorem dX3_heap_38 : decode cX3_heap 38 = .ok (.invokevirtual 183, 3) := by decide +kernel
theorem dX3_heap_41 : decode cX3_heap 41 = .ok (.ireturn, 1) := by decide +kernel
theorem dX3_heap_42 : decode cX3_heap 42 = .ok (.aload_n 0, 1) := by decide +kernel
theorem dX3_heap_43 : decode cX3_heap 43 = .ok (.invokevirtual 186, 3) := by decide +kernel
theorem dX3_heap_46 : decode cX3_heap 46 = .ok (.ireturn, 1) := by decide +kernel
theorem dX3_heap_47 : decode cX3_heap 47 = .ok (.aload_n 0, 1) := by decide +kernel
theorem dX3_heap_48 : decode cX3_heap 48 = .ok (.invokevirtual 186, 3) := by decide +kernel
theorem dX3_heap_51 : decode cX3_heap 51 = .ok (.invokestatic 69, 3) := by decide +kernel
theorem dX3_heap_54 : decode cX3_heap 54 = .ok (.ireturn, 1) := by decide +kernel
theorem dX3_heap_55 : decode cX3_heap 55 = .ok (.sipush (-10003), 3) := by decide +kernel
theorem dX3_heap_58 : decode cX3_heap 58 = .ok (.ireturn, 1) := by decide +kernel
theorem dX3_probe_0 : decode cX3_probe 0 = .ok (.iload_n 1, 1) := by decide +kernel
theorem dX3_probe_1 : decode cX3_probe 1 = .ok (.iload_n 2, 1) := by decide +kernel
theorem dX3_probe_2 : decode cX3_probe 2 = .ok (.invokestatic 111, 3) := by decide +kernel
theorem dX3_probe_5 : decode cX3_probe 5 = .ok (.ifCond .eq 22, 3) := by decide +kernel
theorem dX3_probe_8 : decode cX3_probe 8 = .ok (.iload_n 3, 1) := by decide +kernel
theorem dX3_probe_9 : decode cX3_probe 9 = .ok (.iload 4, 2) := by decide +kernel
theorem dX3_probe_11 : decode cX3_probe 11 = .ok (.invokestatic 111, 3) := by decide +kernel
theorem dX3_probe_14 : decode cX3_probe 14 = .ok (.ifCond .eq 13, 3) := by decide +kernel
theorem dX3_probe_17 : decode cX3_probe 17 = .ok (.iload 5, 2) := by decide +kernel
theorem dX3_probe_19 : decode cX3_probe 19 = .ok (.iload 6, 2) := by decide +kernel
theorem dX3_probe_21 : decode cX3_probe 21 = .ok (.invokestatic 111, 3) := by decide +kernel
theorem dX3_probe_24 : decode cX3_probe 24 = .ok (.ifCond .ne 7, 3) := by decide +kernel
theorem dX3_probe_27 : decode cX3_probe 27 = .ok (.sipush (-10003), 3) := by decide +kernel
theorem dX3_probe_30 : decode cX3_probe 30 = .ok (.ireturn, 1) := by decide +kernel
theorem dX3_probe_31 : decode cX3_probe 31 = .ok (.iconst 0, 1) := by decide +kernel
theorem dX3_probe_32 : decode cX3_probe 32 = .ok (.istore 7, 2) := by decide +kernel
theorem dX3_probe_34 : decode cX3_probe 34 = .ok (.iconst 0, 1) := by decide +kernel
theorem dX3_probe_35 : decode cX3_probe 35 = .ok (.istore 8, 2) := by decide +kernel
theorem dX3_probe_37 : decode cX3_probe 37 = .ok (.iload 8, 2) := by decide +kernel
theorem dX3_probe_39 : decode cX3_probe 39 = .ok (.bipush 12, 2) := by decide +kernel
theorem dX3_probe_41 : decode cX3_probe 41 = .ok (.if_icmp .ge 73, 3) := by decide +kernel
theorem dX3_probe_44 : decode cX3_probe 44 = .ok (.aload_n 0, 1) := by decide +kernel
theorem dX3_probe_45 : decode cX3_probe 45 = .ok (.iload 8, 2) := by decide +kernel
theorem dX3_probe_47 : decode cX3_probe 47 = .ok (.invokevirtual 78, 3) := by decide +kernel
theorem dX3_probe_50 : decode cX3_probe 50 = .ok (.ifCond .eq 58, 3) := by decide +kernel
theorem dX3_probe_53 : decode cX3_probe 53 = .ok (.aload_n 0, 1) := by decide +kernel
theorem dX3_probe_54 : decode cX3_probe 54 = .ok (.getfield 19, 3) := by decide +kernel
theorem dX3_probe_57 : decode cX3_probe 57 = .ok (.iload 8, 2) := by decide +kernel
theorem dX3_probe_59 : decode cX3_probe 59 = .ok (.iload_n 1, 1) := by decide +kernel
theorem dX3_probe_60 : decode cX3_probe 60 = .ok (.iload_n 2, 1) := by decide +kernel
theorem dX3_probe_61 : decode cX3_probe 61 = .ok (.invokevirtual 189, 3) := by decide +kernel
theorem dX3_probe_64 : decode cX3_probe 64 = .ok (.ifCond .eq 44, 3) := by decide +kernel
theorem dX3_probe_67 : decode cX3_probe 67 = .ok (.aload_n 0, 1) := by decide +kernel
theorem dX3_probe_68 : decode cX3_probe 68 = .ok (.getfield 23, 3) := by decide +kernel
theorem dX3_probe_71 : decode cX3_probe 71 = .ok (.iload 8, 2) := by decide +kernel
theorem dX3_probe_73 : decode cX3_probe 73 = .ok (.iload_n 3, 1) := by decide +kernel
theorem dX3_probe_74 : decode cX3_probe 74 = .ok (.iload 4, 2) := by decide +kernel
theorem dX3_probe_76 : decode cX3_probe 76 = .ok (.invokevirtual 189, 3) := by decide +kernel
theorem dX3_probe_79 : decode cX3_probe 79 = .ok (.ifCond .eq 29, 3) := by decide +kernel
theorem dX3_probe_82 : decode cX3_probe 82 = .ok (.aload_n 0, 1) := by decide +kernel
theorem dX3_probe_83 : decode cX3_probe 83 = .ok (.getfield 26, 3) := by decide +kernel
theorem dX3_probe_86 : decode cX3_probe 86 = .ok (.iload 8, 2) := by decide +kernel
theorem dX3_probe_88 : decode cX3_probe 88 = .ok (.iload 5, 2) := by decide +kernel
theorem dX3_probe_90 : decode cX3_probe 90 = .ok (.iload 6, 2) := by decide +kernel
theorem dX3_probe_92 : decode cX3_probe 92 = .ok (.invokevirtual 189, 3) := by decide +kernel
theorem dX3_probe_95 : decode cX3_probe 95 = .ok (.ifCond .eq 13, 3) := by decide +kernel
theorem dX3_probe_98 : decode cX3_probe 98 = .ok (.iload 7, 2) := by decide +kernel
theorem dX3_probe_100 : decode cX3_probe 100 = .ok (.iload 8, 2) := by decide +kernel
theorem dX3_probe_102 : decode cX3_probe 102 = .ok (.invokestatic 193, 3) := by decide +kernel
theorem dX3_probe_105 : decode cX3_probe 105 = .ok (.ior, 1) := by decide +kernel
theorem dX3_probe_106 : decode cX3_probe 106 = .ok (.istore 7, 2) := by decide +kernel
theorem dX3_probe_108 : decode cX3_probe 108 = .ok (.iinc 8 1, 3) := by decide +kernel
theorem dX3_probe_111 : decode cX3_probe 111 = .ok (.goto (-74), 3) := by decide +kernel
theorem dX3_probe_114 : decode cX3_probe 114 = .ok (.iload 7, 2) := by decide +kernel
theorem dX3_probe_116 : decode cX3_probe 116 = .ok (.ireturn, 1) := by decide +kernel
theorem dX3_count_0 : decode cX3_count 0 = .ok (.iload_n 1, 1) := by decide +kernel
theorem dX3_count_1 : decode cX3_count 1 = .ok (.tableswitch 134 0 9 #[55, 63, 71, 76, 84, 92, 100, 108, 116, 129], 55) := by decide +kernel
theorem dX3_count_56 : decode cX3_count 56 = .ok (.aload_n 0, 1) := by decide +kernel
theorem dX3_count_57 : decode cX3_count 57 = .ok (.getfield 10, 3) := by decide +kernel
theorem dX3_count_60 : decode cX3_count 60 = .ok (.getfield 52, 3) := by decide +kernel
theorem dX3_count_63 : decode cX3_count 63 = .ok (.ireturn, 1) := by decide +kernel
theorem dX3_count_64 : decode cX3_count 64 = .ok (.aload_n 0, 1) := by decide +kernel
theorem dX3_count_65 : decode cX3_count 65 = .ok (.getfield 40, 3) := by decide +kernel
theorem dX3_count_68 : decode cX3_count 68 = .ok (.invokestatic 69, 3) := by decide +kernel
theorem dX3_count_71 : decode cX3_count 71 = .ok (.ireturn, 1) := by decide +kernel
theorem dX3_count_72 : decode cX3_count 72 = .ok (.aload_n 0, 1) := by decide +kernel
theorem dX3_count_73 : decode cX3_count 73 = .ok (.invokevirtual 196, 3) := by decide +kernel
theorem dX3_count_76 : decode cX3_count 76 = .ok (.ireturn, 1) := by decide +kernel
theorem dX3_count_77 : decode cX3_count 77 = .ok (.aload_n 0, 1) := by decide +kernel
theorem dX3_count_78 : decode cX3_count 78 = .ok (.getfield 32, 3) := by decide +kernel
theorem dX3_count_81 : decode cX3_count 81 = .ok (.getfield 199, 3) := by decide +kernel
theorem dX3_count_84 : decode cX3_count 84 = .ok (.ireturn, 1) := by decide +kernel
theorem dX3_count_85 : decode cX3_count 85 = .ok (.aload_n 0, 1) := by decide +kernel
theorem dX3_count_86 : decode cX3_count 86 = .ok (.getfield 32, 3) := by decide +kernel
theorem dX3_count_89 : decode cX3_count 89 = .ok (.getfield 202, 3) := by decide +kernel
theorem dX3_count_92 : decode cX3_count 92 = .ok (.ireturn, 1) := by decide +kernel
theorem dX3_count_93 : decode cX3_count 93 = .ok (.aload_n 0, 1) := by decide +kernel
theorem dX3_count_94 : decode cX3_count 94 = .ok (.getfield 32, 3) := by decide +kernel
theorem dX3_count_97 : decode cX3_count 97 = .ok (.getfield 205, 3) := by decide +kernel
theorem dX3_count_100 : decode cX3_count 100 = .ok (.ireturn, 1) := by decide +kernel
theorem dX3_count_101 : decode cX3_count 101 = .ok (.aload_n 0, 1) := by decide +kernel
theorem dX3_count_102 : decode cX3_count 102 = .ok (.getfield 32, 3) := by decide +kernel
theorem dX3_count_105 : decode cX3_count 105 = .ok (.getfield 208, 3) := by decide +kernel
theorem dX3_count_108 : decode cX3_count 108 = .ok (.ireturn, 1) := by decide +kernel
theorem dX3_count_109 : decode cX3_count 109 = .ok (.aload_n 0, 1) := by decide +kernel
theorem dX3_count_110 : decode cX3_count 110 = .ok (.getfield 32, 3) := by decide +kernel
theorem dX3_count_113 : decode cX3_count 113 = .ok (.getfield 211, 3) := by decide +kernel
theorem dX3_count_116 : decode cX3_count 116 = .ok (.ireturn, 1) := by decide +kernel
theorem dX3_count_117 : decode cX3_count 117 = .ok (.aload_n 0, 1) := by decide +kernel
theorem dX3_count_118 : decode cX3_count 118 = .ok (.getfield 44, 3) := by decide +kernel
theorem dX3_count_121 : decode cX3_count 121 = .ok (.ifCond .eq 7, 3) := by decide +kernel
theorem dX3_count_124 : decode cX3_count 124 = .ok (.iconst 1, 1) := by decide +kernel
theorem dX3_count_125 : decode cX3_count 125 = .ok (.goto 4, 3) := by decide +kernel
theorem dX3_count_128 : decode cX3_count 128 = .ok (.iconst 0, 1) := by decide +kernel
theorem dX3_count_129 : decode cX3_count 129 = .ok (.ireturn, 1) := by decide +kernel
theorem dX3_count_130 : decode cX3_count 130 = .ok (.aload_n 0, 1) := by decide +kernel
theorem dX3_count_131 : decode cX3_count 131 = .ok (.getfield 40, 3) := by decide +kernel
theorem dX3_count_134 : decode cX3_count 134 = .ok (.ireturn, 1) := by decide +kernel
theorem dX3_count_135 : decode cX3_count 135 = .ok (.sipush (-10003), 3) := by decide +kernel
theorem dX3_count_138 : decode cX3_count 138 = .ok (.ireturn, 1) := by decide +kernel
theorem dX3_digest_0 : decode cX3_digest 0 = .ok (.ldc2_w 214, 3) := by decide +kernel
theorem dX3_digest_3 : decode cX3_digest 3 = .ok (.lstore_n 1, 1) := by decide +kernel
theorem dX3_digest_4 : decode cX3_digest 4 = .ok (.iconst 0, 1) := by decide +kernel
theorem dX3_digest_5 : decode cX3_digest 5 = .ok (.istore_n 3, 1) := by decide +kernel
theorem dX3_digest_6 : decode cX3_digest 6 = .ok (.iload_n 3, 1) := by decide +kernel
theorem dX3_digest_7 : decode cX3_digest 7 = .ok (.bipush 12, 2) := by decide +kernel
theorem dX3_digest_9 : decode cX3_digest 9 = .ok (.if_icmp .ge 24, 3) := by decide +kernel
theorem dX3_digest_12 : decode cX3_digest 12 = .ok (.aload_n 0, 1) := by decide +kernel
theorem dX3_digest_13 : decode cX3_digest 13 = .ok (.iload_n 3, 1) := by decide +kernel
theorem dX3_digest_14 : decode cX3_digest 14 = .ok (.invokevirtual 78, 3) := by decide +kernel
theorem dX3_digest_17 : decode cX3_digest 17 = .ok (.ifCond .eq 10, 3) := by decide +kernel
theorem dX3_digest_20 : decode cX3_digest 20 = .ok (.aload_n 0, 1) := by decide +kernel
theorem dX3_digest_21 : decode cX3_digest 21 = .ok (.lload_n 1, 1) := by decide +kernel
theorem dX3_digest_22 : decode cX3_digest 22 = .ok (.iload_n 3, 1) := by decide +kernel
theorem dX3_digest_23 : decode cX3_digest 23 = .ok (.invokevirtual 216, 3) := by decide +kernel
theorem dX3_digest_26 : decode cX3_digest 26 = .ok (.lstore_n 1, 1) := by decide +kernel
theorem dX3_digest_27 : decode cX3_digest 27 = .ok (.iinc 3 1, 3) := by decide +kernel
theorem dX3_digest_30 : decode cX3_digest 30 = .ok (.goto (-24), 3) := by decide +kernel
theorem dX3_digest_33 : decode cX3_digest 33 = .ok (.iconst 0, 1) := by decide +kernel
theorem dX3_digest_34 : decode cX3_digest 34 = .ok (.istore_n 3, 1) := by decide +kernel
theorem dX3_digest_35 : decode cX3_digest 35 = .ok (.iload_n 3, 1) := by decide +kernel
theorem dX3_digest_36 : decode cX3_digest 36 = .ok (.iconst 3, 1) := by decide +kernel
theorem dX3_digest_37 : decode cX3_digest 37 = .ok (.if_icmp .ge 16, 3) := by decide +kernel
theorem dX3_digest_40 : decode cX3_digest 40 = .ok (.aload_n 0, 1) := by decide +kernel
theorem dX3_digest_41 : decode cX3_digest 41 = .ok (.lload_n 1, 1) := by decide +kernel
theorem dX3_digest_42 : decode cX3_digest 42 = .ok (.iload_n 3, 1) := by decide +kernel
theorem dX3_digest_43 : decode cX3_digest 43 = .ok (.invokevirtual 220, 3) := by decide +kernel
theorem dX3_digest_46 : decode cX3_digest 46 = .ok (.lstore_n 1, 1) := by decide +kernel
theorem dX3_digest_47 : decode cX3_digest 47 = .ok (.iinc 3 1, 3) := by decide +kernel
theorem dX3_digest_50 : decode cX3_digest 50 = .ok (.goto (-15), 3) := by decide +kernel
theorem dX3_digest_53 : decode cX3_digest 53 = .ok (.aload_n 0, 1) := by decide +kernel
theorem dX3_digest_54 : decode cX3_digest 54 = .ok (.lload_n 1, 1) := by decide +kernel
theorem dX3_digest_55 : decode cX3_digest 55 = .ok (.invokevirtual 223, 3) := by decide +kernel
theorem dX3_digest_58 : decode cX3_digest 58 = .ok (.lstore_n 1, 1) := by decide +kernel
theorem dX3_digest_59 : decode cX3_digest 59 = .ok (.aload_n 0, 1) := by decide +kernel
theorem dX3_digest_60 : decode cX3_digest 60 = .ok (.lload_n 1, 1) := by decide +kernel
theorem dX3_digest_61 : decode cX3_digest 61 = .ok (.invokevirtual 227, 3) := by decide +kernel
theorem dX3_digest_64 : decode cX3_digest 64 = .ok (.lstore_n 1, 1) := by decide +kernel
theorem dX3_digest_65 : decode cX3_digest 65 = .ok (.iconst 0, 1) := by decide +kernel
theorem dX3_digest_66 : decode cX3_digest 66 = .ok (.istore_n 3, 1) := by decide +kernel
theorem dX3_digest_67 : decode cX3_digest 67 = .ok (.iload_n 3, 1) := by decide +kernel
theorem dX3_digest_68 : decode cX3_digest 68 = .ok (.iconst 3, 1) := by decide +kernel
theorem dX3_digest_69 : decode cX3_digest 69 = .ok (.if_icmp .gt 20, 3) := by decide +kernel
theorem dX3_digest_72 : decode cX3_digest 72 = .ok (.lload_n 1, 1) := by decide +kernel
theorem dX3_digest_73 : decode cX3_digest 73 = .ok (.aload_n 0, 1) := by decide +kernel
theorem dX3_digest_74 : decode cX3_digest 74 = .ok (.iload_n 3, 1) := by decide +kernel
theorem dX3_digest_75 : decode cX3_digest 75 = .ok (.invokevirtual 230, 3) := by decide +kernel
theorem dX3_digest_78 : decode cX3_digest 78 = .ok (.i2l, 1) := by decide +kernel
theorem dX3_digest_79 : decode cX3_digest 79 = .ok (.invokestatic 233, 3) := by decide +kernel
theorem dX3_digest_82 : decode cX3_digest 82 = .ok (.lstore_n 1, 1) := by decide +kernel
theorem dX3_digest_83 : decode cX3_digest 83 = .ok (.iinc 3 1, 3) := by decide +kernel
theorem dX3_digest_86 : decode cX3_digest 86 = .ok (.goto (-19), 3) := by decide +kernel
theorem dX3_digest_89 : decode cX3_digest 89 = .ok (.iconst 0, 1) := by decide +kernel
theorem dX3_digest_90 : decode cX3_digest 90 = .ok (.istore_n 3, 1) := by decide +kernel
theorem dX3_digest_91 : decode cX3_digest 91 = .ok (.iload_n 3, 1) := by decide +kernel
theorem dX3_digest_92 : decode cX3_digest 92 = .ok (.aload_n 0, 1) := by decide +kernel
theorem dX3_digest_93 : decode cX3_digest 93 = .ok (.getfield 10, 3) := by decide +kernel
theorem dX3_digest_96 : decode cX3_digest 96 = .ok (.getfield 52, 3) := by decide +kernel
theorem dX3_digest_99 : decode cX3_digest 99 = .ok (.if_icmp .ge 24, 3) := by decide +kernel
theorem dX3_digest_102 : decode cX3_digest 102 = .ok (.lload_n 1, 1) := by decide +kernel
theorem dX3_digest_103 : decode cX3_digest 103 = .ok (.aload_n 0, 1) := by decide +kernel
theorem dX3_digest_104 : decode cX3_digest 104 = .ok (.getfield 10, 3) := by decide +kernel
theorem dX3_digest_107 : decode cX3_digest 107 = .ok (.getfield 237, 3) := by decide +kernel
theorem dX3_digest_110 : decode cX3_digest 110 = .ok (.iload_n 3, 1) := by decide +kernel
theorem dX3_digest_111 : decode cX3_digest 111 = .ok (.iaload, 1) := by decide +kernel
theorem dX3_digest_112 : decode cX3_digest 112 = .ok (.i2l, 1) := by decide +kernel
theorem dX3_digest_113 : decode cX3_digest 113 = .ok (.invokestatic 233, 3) := by decide +kernel
theorem dX3_digest_116 : decode cX3_digest 116 = .ok (.lstore_n 1, 1) := by decide +kernel
theorem dX3_digest_117 : decode cX3_digest 117 = .ok (.iinc 3 1, 3) := by decide +kernel
theorem dX3_digest_120 : decode cX3_digest 120 = .ok (.goto (-29), 3) := by decide +kernel
theorem dX3_digest_123 : decode cX3_digest 123 = .ok (.iconst 0, 1) := by decide +kernel
theorem dX3_digest_124 : decode cX3_digest 124 = .ok (.istore_n 3, 1) := by decide +kernel
theorem dX3_digest_125 : decode cX3_digest 125 = .ok (.iload_n 3, 1) := by decide +kernel
theorem dX3_digest_126 : decode cX3_digest 126 = .ok (.bipush 9, 2) := by decide +kernel
theorem dX3_digest_128 : decode cX3_digest 128 = .ok (.if_icmp .gt 20, 3) := by decide +kernel
theorem dX3_digest_131 : decode cX3_digest 131 = .ok (.lload_n 1, 1) := by decide +kernel
theorem dX3_digest_132 : decode cX3_digest 132 = .ok (.aload_n 0, 1) := by decide +kernel
theorem dX3_digest_133 : decode cX3_digest 133 = .ok (.iload_n 3, 1) := by decide +kernel
theorem dX3_digest_134 : decode cX3_digest 134 = .ok (.invokevirtual 240, 3) := by decide +kernel
theorem dX3_digest_137 : decode cX3_digest 137 = .ok (.i2l, 1) := by decide +kernel
theorem dX3_digest_138 : decode cX3_digest 138 = .ok (.invokestatic 233, 3) := by decide +kernel
theorem dX3_digest_141 : decode cX3_digest 141 = .ok (.lstore_n 1, 1) := by decide +kernel
theorem dX3_digest_142 : decode cX3_digest 142 = .ok (.iinc 3 1, 3) := by decide +kernel
theorem dX3_digest_145 : decode cX3_digest 145 = .ok (.goto (-20), 3) := by decide +kernel
theorem dX3_digest_148 : decode cX3_digest 148 = .ok (.lload_n 1, 1) := by decide +kernel
theorem dX3_digest_149 : decode cX3_digest 149 = .ok (.lreturn, 1) := by decide +kernel
theorem dX3_with_0 : decode cX3_with 0 = .ok (.ldc2_w 243, 3) := by decide +kernel
theorem dX3_with_3 : decode cX3_with 3 = .ok (.lload_n 0, 1) := by decide +kernel
theorem dX3_with_4 : decode cX3_with 4 = .ok (.lmul, 1) := by decide +kernel
theorem dX3_with_5 : decode cX3_with 5 = .ok (.lload_n 2, 1) := by decide +kernel
theorem dX3_with_6 : decode cX3_with 6 = .ok (.ladd, 1) := by decide +kernel
theorem dX3_with_7 : decode cX3_with 7 = .ok (.lreturn, 1) := by decide +kernel
theorem dX3_withBox_0 : decode cX3_withBox 0 = .ok (.lload_n 1, 1) := by decide +kernel
theorem dX3_withBox_1 : decode cX3_withBox 1 = .ok (.iload_n 3, 1) := by decide +kernel
theorem dX3_withBox_2 : decode cX3_withBox 2 = .ok (.i2l, 1) := by decide +kernel
theorem dX3_withBox_3 : decode cX3_withBox 3 = .ok (.invokestatic 233, 3) := by decide +kernel
theorem dX3_withBox_6 : decode cX3_withBox 6 = .ok (.lstore 4, 2) := by decide +kernel
theorem dX3_withBox_8 : decode cX3_withBox 8 = .ok (.iconst 0, 1) := by decide +kernel
theorem dX3_withBox_9 : decode cX3_withBox 9 = .ok (.istore 6, 2) := by decide +kernel
theorem dX3_withBox_11 : decode cX3_withBox 11 = .ok (.iload 6, 2) := by decide +kernel
theorem dX3_withBox_13 : decode cX3_withBox 13 = .ok (.bipush 8, 2) := by decide +kernel
theorem dX3_withBox_15 : decode cX3_withBox 15 = .ok (.if_icmp .gt 24, 3) := by decide +kernel
theorem dX3_withBox_18 : decode cX3_withBox 18 = .ok (.lload 4, 2) := by decide +kernel
theorem dX3_withBox_20 : decode cX3_withBox 20 = .ok (.aload_n 0, 1) := by decide +kernel
theorem dX3_withBox_21 : decode cX3_withBox 21 = .ok (.iload_n 3, 1) := by decide +kernel
theorem dX3_withBox_22 : decode cX3_withBox 22 = .ok (.iload 6, 2) := by decide +kernel
theorem dX3_withBox_24 : decode cX3_withBox 24 = .ok (.invokevirtual 245, 3) := by decide +kernel
theorem dX3_withBox_27 : decode cX3_withBox 27 = .ok (.i2l, 1) := by decide +kernel
theorem dX3_withBox_28 : decode cX3_withBox 28 = .ok (.invokestatic 233, 3) := by decide +kernel
theorem dX3_withBox_31 : decode cX3_withBox 31 = .ok (.lstore 4, 2) := by decide +kernel
theorem dX3_withBox_33 : decode cX3_withBox 33 = .ok (.iinc 6 1, 3) := by decide +kernel
theorem dX3_withBox_36 : decode cX3_withBox 36 = .ok (.goto (-25), 3) := by decide +kernel
theorem dX3_withBox_39 : decode cX3_withBox 39 = .ok (.iconst 0, 1) := by decide +kernel
theorem dX3_withBox_40 : decode cX3_withBox 40 = .ok (.istore 6, 2) := by decide +kernel
theorem dX3_withBox_42 : decode cX3_withBox 42 = .ok (.iload 6, 2) := by decide +kernel
theorem dX3_withBox_44 : decode cX3_withBox 44 = .ok (.iconst 3, 1) := by decide +kernel
theorem dX3_withBox_45 : decode cX3_withBox 45 = .ok (.if_icmp .ge 41, 3) := by decide +kernel
theorem dX3_withBox_48 : decode cX3_withBox 48 = .ok (.lload 4, 2) := by decide +kernel
theorem dX3_withBox_50 : decode cX3_withBox 50 = .ok (.aload_n 0, 1) := by decide +kernel
theorem dX3_withBox_51 : decode cX3_withBox 51 = .ok (.iload_n 3, 1) := by decide +kernel
theorem dX3_withBox_52 : decode cX3_withBox 52 = .ok (.iload 6, 2) := by decide +kernel
theorem dX3_withBox_54 : decode cX3_withBox 54 = .ok (.iconst (-1), 1) := by decide +kernel
theorem dX3_withBox_55 : decode cX3_withBox 55 = .ok (.invokevirtual 248, 3) := by decide +kernel
theorem dX3_withBox_58 : decode cX3_withBox 58 = .ok (.i2l, 1) := by decide +kernel
theorem dX3_withBox_59 : decode cX3_withBox 59 = .ok (.invokestatic 233, 3) := by decide +kernel
theorem dX3_withBox_62 : decode cX3_withBox 62 = .ok (.lstore 4, 2) := by decide +kernel
theorem dX3_withBox_64 : decode cX3_withBox 64 = .ok (.lload 4, 2) := by decide +kernel
theorem dX3_withBox_66 : decode cX3_withBox 66 = .ok (.aload_n 0, 1) := by decide +kernel
theorem dX3_withBox_67 : decode cX3_withBox 67 = .ok (.iload_n 3, 1) := by decide +kernel
theorem dX3_withBox_68 : decode cX3_withBox 68 = .ok (.iload 6, 2) := by decide +kernel
theorem dX3_withBox_70 : decode cX3_withBox 70 = .ok (.iconst 1, 1) := by decide +kernel
theorem dX3_withBox_71 : decode cX3_withBox 71 = .ok (.invokevirtual 248, 3) := by decide +kernel
theorem dX3_withBox_74 : decode cX3_withBox 74 = .ok (.i2l, 1) := by decide +kernel
theorem dX3_withBox_75 : decode cX3_withBox 75 = .ok (.invokestatic 233, 3) := by decide +kernel
theorem dX3_withBox_78 : decode cX3_withBox 78 = .ok (.lstore 4, 2) := by decide +kernel
theorem dX3_withBox_80 : decode cX3_withBox 80 = .ok (.iinc 6 1, 3) := by decide +kernel
theorem dX3_withBox_83 : decode cX3_withBox 83 = .ok (.goto (-41), 3) := by decide +kernel
theorem dX3_withBox_86 : decode cX3_withBox 86 = .ok (.lload 4, 2) := by decide +kernel
theorem dX3_withBox_88 : decode cX3_withBox 88 = .ok (.lreturn, 1) := by decide +kernel
theorem dX3_withEnds_0 : decode cX3_withEnds 0 = .ok (.lload_n 1, 1) := by decide +kernel
theorem dX3_withEnds_1 : decode cX3_withEnds 1 = .ok (.lstore 4, 2) := by decide +kernel
theorem dX3_withEnds_3 : decode cX3_withEnds 3 = .ok (.aload_n 0, 1) := by decide +kernel
theorem dX3_withEnds_4 : decode cX3_withEnds 4 = .ok (.iload_n 3, 1) := by decide +kernel
theorem dX3_withEnds_5 : decode cX3_withEnds 5 = .ok (.invokevirtual 120, 3) := by decide +kernel
theorem dX3_withEnds_8 : decode cX3_withEnds 8 = .ok (.getfield 124, 3) := by decide +kernel
theorem dX3_withEnds_11 : decode cX3_withEnds 11 = .ok (.istore 6, 2) := by decide +kernel
theorem dX3_withEnds_13 : decode cX3_withEnds 13 = .ok (.iconst 0, 1) := by decide +kernel
theorem dX3_withEnds_14 : decode cX3_withEnds 14 = .ok (.istore 7, 2) := by decide +kernel
theorem dX3_withEnds_16 : decode cX3_withEnds 16 = .ok (.iload 7, 2) := by decide +kernel
theorem dX3_withEnds_18 : decode cX3_withEnds 18 = .ok (.iload 6, 2) := by decide +kernel
theorem dX3_withEnds_20 : decode cX3_withEnds 20 = .ok (.if_icmp .ge 41, 3) := by decide +kernel
theorem dX3_withEnds_23 : decode cX3_withEnds 23 = .ok (.iconst 0, 1) := by decide +kernel
theorem dX3_withEnds_24 : decode cX3_withEnds 24 = .ok (.istore 8, 2) := by decide +kernel
theorem dX3_withEnds_26 : decode cX3_withEnds 26 = .ok (.iload 8, 2) := by decide +kernel
theorem dX3_withEnds_28 : decode cX3_withEnds 28 = .ok (.iconst 2, 1) := by decide +kernel
theorem dX3_withEnds_29 : decode cX3_withEnds 29 = .ok (.if_icmp .gt 26, 3) := by decide +kernel
theorem dX3_withEnds_32 : decode cX3_withEnds 32 = .ok (.lload 4, 2) := by decide +kernel
theorem dX3_withEnds_34 : decode cX3_withEnds 34 = .ok (.aload_n 0, 1) := by decide +kernel
theorem dX3_withEnds_35 : decode cX3_withEnds 35 = .ok (.iload_n 3, 1) := by decide +kernel
theorem dX3_withEnds_36 : decode cX3_withEnds 36 = .ok (.iload 7, 2) := by decide +kernel
theorem dX3_withEnds_38 : decode cX3_withEnds 38 = .ok (.iload 8, 2) := by decide +kernel
theorem dX3_withEnds_40 : decode cX3_withEnds 40 = .ok (.invokevirtual 251, 3) := by decide +kernel
theorem dX3_withEnds_43 : decode cX3_withEnds 43 = .ok (.i2l, 1) := by decide +kernel
theorem dX3_withEnds_44 : decode cX3_withEnds 44 = .ok (.invokestatic 233, 3) := by decide +kernel
theorem dX3_withEnds_47 : decode cX3_withEnds 47 = .ok (.lstore 4, 2) := by decide +kernel
theorem dX3_withEnds_49 : decode cX3_withEnds 49 = .ok (.iinc 8 1, 3) := by decide +kernel
theorem dX3_withEnds_52 : decode cX3_withEnds 52 = .ok (.goto (-26), 3) := by decide +kernel
theorem dX3_withEnds_55 : decode cX3_withEnds 55 = .ok (.iinc 7 1, 3) := by decide +kernel
theorem dX3_withEnds_58 : decode cX3_withEnds 58 = .ok (.goto (-42), 3) := by decide +kernel
theorem dX3_withEnds_61 : decode cX3_withEnds 61 = .ok (.lload 4, 2) := by decide +kernel
theorem dX3_withEnds_63 : decode cX3_withEnds 63 = .ok (.lreturn, 1) := by decide +kernel
theorem dX3_withPairs_0 : decode cX3_withPairs 0 = .ok (.lload_n 1, 1) := by decide +kernel
theorem dX3_withPairs_1 : decode cX3_withPairs 1 = .ok (.lstore_n 3, 1) := by decide +kernel
theorem dX3_withPairs_2 : decode cX3_withPairs 2 = .ok (.iconst 0, 1) := by decide +kernel
theorem dX3_withPairs_3 : decode cX3_withPairs 3 = .ok (.istore 5, 2) := by decide +kernel
theorem dX3_withPairs_5 : decode cX3_withPairs 5 = .ok (.iload 5, 2) := by decide +kernel
theorem dX3_withPairs_7 : decode cX3_withPairs 7 = .ok (.bipush 12, 2) := by decide +kernel
theorem dX3_withPairs_9 : decode cX3_withPairs 9 = .ok (.if_icmp .ge 56, 3) := by decide +kernel
theorem dX3_withPairs_12 : decode cX3_withPairs 12 = .ok (.iload 5, 2) := by decide +kernel
theorem dX3_withPairs_14 : decode cX3_withPairs 14 = .ok (.iconst 1, 1) := by decide +kernel
theorem dX3_withPairs_15 : decode cX3_withPairs 15 = .ok (.iadd, 1) := by decide +kernel
theorem dX3_withPairs_16 : decode cX3_withPairs 16 = .ok (.istore 6, 2) := by decide +kernel
theorem dX3_withPairs_18 : decode cX3_withPairs 18 = .ok (.iload 6, 2) := by decide +kernel
theorem dX3_withPairs_20 : decode cX3_withPairs 20 = .ok (.bipush 12, 2) := by decide +kernel
theorem dX3_withPairs_22 : decode cX3_withPairs 22 = .ok (.if_icmp .ge 37, 3) := by decide +kernel
theorem dX3_withPairs_25 : decode cX3_withPairs 25 = .ok (.aload_n 0, 1) := by decide +kernel
theorem dX3_withPairs_26 : decode cX3_withPairs 26 = .ok (.getfield 36, 3) := by decide +kernel
theorem dX3_withPairs_29 : decode cX3_withPairs 29 = .ok (.iload 5, 2) := by decide +kernel
theorem dX3_withPairs_31 : decode cX3_withPairs 31 = .ok (.iaload, 1) := by decide +kernel
theorem dX3_withPairs_32 : decode cX3_withPairs 32 = .ok (.iload 6, 2) := by decide +kernel
theorem dX3_withPairs_34 : decode cX3_withPairs 34 = .ok (.invokestatic 142, 3) := by decide +kernel
theorem dX3_withPairs_37 : decode cX3_withPairs 37 = .ok (.ifCond .eq 16, 3) := by decide +kernel
theorem dX3_withPairs_40 : decode cX3_withPairs 40 = .ok (.lload_n 3, 1) := by decide +kernel
theorem dX3_withPairs_41 : decode cX3_withPairs 41 = .ok (.iload 5, 2) := by decide +kernel
theorem dX3_withPairs_43 : decode cX3_withPairs 43 = .ok (.iload 6, 2) := by decide +kernel
theorem dX3_withPairs_45 : decode cX3_withPairs 45 = .ok (.invokestatic 145, 3) := by decide +kernel
theorem dX3_withPairs_48 : decode cX3_withPairs 48 = .ok (.i2l, 1) := by decide +kernel
theorem dX3_withPairs_49 : decode cX3_withPairs 49 = .ok (.invokestatic 233, 3) := by decide +kernel
theorem dX3_withPairs_52 : decode cX3_withPairs 52 = .ok (.lstore_n 3, 1) := by decide +kernel
theorem dX3_withPairs_53 : decode cX3_withPairs 53 = .ok (.iinc 6 1, 3) := by decide +kernel
theorem dX3_withPairs_56 : decode cX3_withPairs 56 = .ok (.goto (-38), 3) := by decide +kernel
theorem dX3_withPairs_59 : decode cX3_withPairs 59 = .ok (.iinc 5 1, 3) := by decide +kernel
theorem dX3_withPairs_62 : decode cX3_withPairs 62 = .ok (.goto (-57), 3) := by decide +kernel
theorem dX3_withPairs_65 : decode cX3_withPairs 65 = .ok (.lload_n 3, 1) := by decide +kernel
theorem dX3_withPairs_66 : decode cX3_withPairs 66 = .ok (.lreturn, 1) := by decide +kernel
theorem dX3_withLatest_0 : decode cX3_withLatest 0 = .ok (.lload_n 1, 1) := by decide +kernel
theorem dX3_withLatest_1 : decode cX3_withLatest 1 = .ok (.lstore_n 3, 1) := by decide +kernel
theorem dX3_withLatest_2 : decode cX3_withLatest 2 = .ok (.aload_n 0, 1) := by decide +kernel
theorem dX3_withLatest_3 : decode cX3_withLatest 3 = .ok (.getfield 32, 3) := by decide +kernel
theorem dX3_withLatest_6 : decode cX3_withLatest 6 = .ok (.invokevirtual 149, 3) := by decide +kernel
theorem dX3_withLatest_9 : decode cX3_withLatest 9 = .ok (.istore 5, 2) := by decide +kernel
theorem dX3_withLatest_11 : decode cX3_withLatest 11 = .ok (.iconst 0, 1) := by decide +kernel
theorem dX3_withLatest_12 : decode cX3_withLatest 12 = .ok (.istore 6, 2) := by decide +kernel
theorem dX3_withLatest_14 : decode cX3_withLatest 14 = .ok (.iload 6, 2) := by decide +kernel
theorem dX3_withLatest_16 : decode cX3_withLatest 16 = .ok (.iload 5, 2) := by decide +kernel
theorem dX3_withLatest_18 : decode cX3_withLatest 18 = .ok (.if_icmp .ge 35, 3) := by decide +kernel
theorem dX3_withLatest_21 : decode cX3_withLatest 21 = .ok (.lload_n 3, 1) := by decide +kernel
theorem dX3_withLatest_22 : decode cX3_withLatest 22 = .ok (.aload_n 0, 1) := by decide +kernel
theorem dX3_withLatest_23 : decode cX3_withLatest 23 = .ok (.iload 6, 2) := by decide +kernel
theorem dX3_withLatest_25 : decode cX3_withLatest 25 = .ok (.iconst 0, 1) := by decide +kernel
theorem dX3_withLatest_26 : decode cX3_withLatest 26 = .ok (.invokevirtual 254, 3) := by decide +kernel
theorem dX3_withLatest_29 : decode cX3_withLatest 29 = .ok (.i2l, 1) := by decide +kernel
theorem dX3_withLatest_30 : decode cX3_withLatest 30 = .ok (.invokestatic 233, 3) := by decide +kernel
theorem dX3_withLatest_33 : decode cX3_withLatest 33 = .ok (.lstore_n 3, 1) := by decide +kernel
theorem dX3_withLatest_34 : decode cX3_withLatest 34 = .ok (.lload_n 3, 1) := by decide +kernel
theorem dX3_withLatest_35 : decode cX3_withLatest 35 = .ok (.aload_n 0, 1) := by decide +kernel
theorem dX3_withLatest_36 : decode cX3_withLatest 36 = .ok (.iload 6, 2) := by decide +kernel
theorem dX3_withLatest_38 : decode cX3_withLatest 38 = .ok (.iconst 1, 1) := by decide +kernel
theorem dX3_withLatest_39 : decode cX3_withLatest 39 = .ok (.invokevirtual 254, 3) := by decide +kernel
theorem dX3_withLatest_42 : decode cX3_withLatest 42 = .ok (.i2l, 1) := by decide +kernel
theorem dX3_withLatest_43 : decode cX3_withLatest 43 = .ok (.invokestatic 233, 3) := by decide +kernel
theorem dX3_withLatest_46 : decode cX3_withLatest 46 = .ok (.lstore_n 3, 1) := by decide +kernel
theorem dX3_withLatest_47 : decode cX3_withLatest 47 = .ok (.iinc 6 1, 3) := by decide +kernel
theorem dX3_withLatest_50 : decode cX3_withLatest 50 = .ok (.goto (-36), 3) := by decide +kernel
theorem dX3_withLatest_53 : decode cX3_withLatest 53 = .ok (.iconst 0, 1) := by decide +kernel
theorem dX3_withLatest_54 : decode cX3_withLatest 54 = .ok (.istore 6, 2) := by decide +kernel
theorem dX3_withLatest_56 : decode cX3_withLatest 56 = .ok (.iload 6, 2) := by decide +kernel
theorem dX3_withLatest_58 : decode cX3_withLatest 58 = .ok (.bipush 6, 2) := by decide +kernel
theorem dX3_withLatest_60 : decode cX3_withLatest 60 = .ok (.if_icmp .gt 21, 3) := by decide +kernel
theorem dX3_withLatest_63 : decode cX3_withLatest 63 = .ok (.lload_n 3, 1) := by decide +kernel
theorem dX3_withLatest_64 : decode cX3_withLatest 64 = .ok (.aload_n 0, 1) := by decide +kernel
theorem dX3_withLatest_65 : decode cX3_withLatest 65 = .ok (.iload 6, 2) := by decide +kernel
theorem dX3_withLatest_67 : decode cX3_withLatest 67 = .ok (.invokevirtual 257, 3) := by decide +kernel
theorem dX3_withLatest_70 : decode cX3_withLatest 70 = .ok (.i2l, 1) := by decide +kernel
theorem dX3_withLatest_71 : decode cX3_withLatest 71 = .ok (.invokestatic 233, 3) := by decide +kernel
theorem dX3_withLatest_74 : decode cX3_withLatest 74 = .ok (.lstore_n 3, 1) := by decide +kernel
theorem dX3_withLatest_75 : decode cX3_withLatest 75 = .ok (.iinc 6 1, 3) := by decide +kernel
theorem dX3_withLatest_78 : decode cX3_withLatest 78 = .ok (.goto (-22), 3) := by decide +kernel
theorem dX3_withLatest_81 : decode cX3_withLatest 81 = .ok (.lload_n 3, 1) := by decide +kernel
theorem dX3_withLatest_82 : decode cX3_withLatest 82 = .ok (.lreturn, 1) := by decide +kernel
theorem dX3_bit_0 : decode cX3_bit 0 = .ok (.iconst 1, 1) := by decide +kernel
theorem dX3_bit_1 : decode cX3_bit 1 = .ok (.iload_n 0, 1) := by decide +kernel
theorem dX3_bit_2 : decode cX3_bit 2 = .ok (.ishl, 1) := by decide +kernel
theorem dX3_bit_3 : decode cX3_bit 3 = .ok (.ireturn, 1) := by decide +kernel
theorem dX3_holds_0 : decode cX3_holds 0 = .ok (.iload_n 0, 1) := by decide +kernel
theorem dX3_holds_1 : decode cX3_holds 1 = .ok (.iload_n 1, 1) := by decide +kernel
theorem dX3_holds_2 : decode cX3_holds 2 = .ok (.invokestatic 193, 3) := by decide +kernel
theorem dX3_holds_5 : decode cX3_holds 5 = .ok (.iand, 1) := by decide +kernel
theorem dX3_holds_6 : decode cX3_holds 6 = .ok (.ifCond .eq 7, 3) := by decide +kernel
theorem dX3_holds_9 : decode cX3_holds 9 = .ok (.iconst 1, 1) := by decide +kernel
theorem dX3_holds_10 : decode cX3_holds 10 = .ok (.goto 4, 3) := by decide +kernel
theorem dX3_holds_13 : decode cX3_holds 13 = .ok (.iconst 0, 1) := by decide +kernel
theorem dX3_holds_14 : decode cX3_holds 14 = .ok (.ireturn, 1) := by decide +kernel
theorem dX3_isAxis_0 : decode cX3_isAxis 0 = .ok (.iload_n 0, 1) := by decide +kernel
theorem dX3_isAxis_1 : decode cX3_isAxis 1 = .ok (.ifCond .lt 12, 3) := by decide +kernel
theorem dX3_isAxis_4 : decode cX3_isAxis 4 = .ok (.iload_n 0, 1) := by decide +kernel
theorem dX3_isAxis_5 : decode cX3_isAxis 5 = .ok (.iconst 3, 1) := by decide +kernel
theorem dX3_isAxis_6 : decode cX3_isAxis 6 = .ok (.if_icmp .ge 7, 3) := by decide +kernel
theorem dX3_isAxis_9 : decode cX3_isAxis 9 = .ok (.iconst 1, 1) := by decide +kernel
theorem dX3_isAxis_10 : decode cX3_isAxis 10 = .ok (.goto 4, 3) := by decide +kernel
theorem dX3_isAxis_13 : decode cX3_isAxis 13 = .ok (.iconst 0, 1) := by decide +kernel
theorem dX3_isAxis_14 : decode cX3_isAxis 14 = .ok (.ireturn, 1) := by decide +kernel
theorem dX3_isSpan_0 : decode cX3_isSpan 0 = .ok (.iload_n 0, 1) := by decide +kernel
theorem dX3_isSpan_1 : decode cX3_isSpan 1 = .ok (.sipush (-999), 3) := by decide +kernel
theorem dX3_isSpan_4 : decode cX3_isSpan 4 = .ok (.if_icmp .lt 19, 3) := by decide +kernel
theorem dX3_isSpan_7 : decode cX3_isSpan 7 = .ok (.iload_n 0, 1) := by decide +kernel
theorem dX3_isSpan_8 : decode cX3_isSpan 8 = .ok (.iload_n 1, 1) := by decide +kernel
theorem dX3_isSpan_9 : decode cX3_isSpan 9 = .ok (.if_icmp .ge 14, 3) := by decide +kernel
theorem dX3_isSpan_12 : decode cX3_isSpan 12 = .ok (.iload_n 1, 1) := by decide +kernel
theorem dX3_isSpan_13 : decode cX3_isSpan 13 = .ok (.sipush 999, 3) := by decide +kernel
theorem dX3_isSpan_16 : decode cX3_isSpan 16 = .ok (.if_icmp .gt 7, 3) := by decide +kernel
theorem dX3_isSpan_19 : decode cX3_isSpan 19 = .ok (.iconst 1, 1) := by decide +kernel
theorem dX3_isSpan_20 : decode cX3_isSpan 20 = .ok (.goto 4, 3) := by decide +kernel
theorem dX3_isSpan_23 : decode cX3_isSpan 23 = .ok (.iconst 0, 1) := by decide +kernel
theorem dX3_isSpan_24 : decode cX3_isSpan 24 = .ok (.ireturn, 1) := by decide +kernel
theorem dX3_pairCode_0 : decode cX3_pairCode 0 = .ok (.bipush 12, 2) := by decide +kernel
theorem dX3_pairCode_2 : decode cX3_pairCode 2 = .ok (.iload_n 0, 1) := by decide +kernel
theorem dX3_pairCode_3 : decode cX3_pairCode 3 = .ok (.imul, 1) := by decide +kernel
theorem dX3_pairCode_4 : decode cX3_pairCode 4 = .ok (.iload_n 1, 1) := by decide +kernel
theorem dX3_pairCode_5 : decode cX3_pairCode 5 = .ok (.iadd, 1) := by decide +kernel
theorem dX3_pairCode_6 : decode cX3_pairCode 6 = .ok (.ireturn, 1) := by decide +kernel
theorem dX3_isThere_0 : decode cX3_isThere 0 = .ok (.iload_n 1, 1) := by decide +kernel
theorem dX3_isThere_1 : decode cX3_isThere 1 = .ok (.ifCond .lt 24, 3) := by decide +kernel
theorem dX3_isThere_4 : decode cX3_isThere 4 = .ok (.iload_n 1, 1) := by decide +kernel
theorem dX3_isThere_5 : decode cX3_isThere 5 = .ok (.bipush 12, 2) := by decide +kernel
theorem dX3_isThere_7 : decode cX3_isThere 7 = .ok (.if_icmp .ge 18, 3) := by decide +kernel
theorem dX3_isThere_10 : decode cX3_isThere 10 = .ok (.aload_n 0, 1) := by decide +kernel
theorem dX3_isThere_11 : decode cX3_isThere 11 = .ok (.getfield 40, 3) := by decide +kernel
theorem dX3_isThere_14 : decode cX3_isThere 14 = .ok (.iload_n 1, 1) := by decide +kernel
theorem dX3_isThere_15 : decode cX3_isThere 15 = .ok (.invokestatic 142, 3) := by decide +kernel
theorem dX3_isThere_18 : decode cX3_isThere 18 = .ok (.ifCond .eq 7, 3) := by decide +kernel
theorem dX3_isThere_21 : decode cX3_isThere 21 = .ok (.iconst 1, 1) := by decide +kernel
theorem dX3_isThere_22 : decode cX3_isThere 22 = .ok (.goto 4, 3) := by decide +kernel
theorem dX3_isThere_25 : decode cX3_isThere 25 = .ok (.iconst 0, 1) := by decide +kernel
theorem dX3_isThere_26 : decode cX3_isThere 26 = .ok (.ireturn, 1) := by decide +kernel
theorem dX3_lineOf_0 : decode cX3_lineOf 0 = .ok (.iload_n 1, 1) := by decide +kernel
theorem dX3_lineOf_1 : decode cX3_lineOf 1 = .ok (.ifCond .ne 10, 3) := by decide +kernel
theorem dX3_lineOf_4 : decode cX3_lineOf 4 = .ok (.aload_n 0, 1) := by decide +kernel
theorem dX3_lineOf_5 : decode cX3_lineOf 5 = .ok (.getfield 19, 3) := by decide +kernel
theorem dX3_lineOf_8 : decode cX3_lineOf 8 = .ok (.goto 19, 3) := by decide +kernel
theorem dX3_lineOf_11 : decode cX3_lineOf 11 = .ok (.iload_n 1, 1) := by decide +kernel
theorem dX3_lineOf_12 : decode cX3_lineOf 12 = .ok (.iconst 1, 1) := by decide +kernel
theorem dX3_lineOf_13 : decode cX3_lineOf 13 = .ok (.if_icmp .ne 10, 3) := by decide +kernel
theorem dX3_lineOf_16 : decode cX3_lineOf 16 = .ok (.aload_n 0, 1) := by decide +kernel
theorem dX3_lineOf_17 : decode cX3_lineOf 17 = .ok (.getfield 23, 3) := by decide +kernel
theorem dX3_lineOf_20 : decode cX3_lineOf 20 = .ok (.goto 7, 3) := by decide +kernel
theorem dX3_lineOf_23 : decode cX3_lineOf 23 = .ok (.aload_n 0, 1) := by decide +kernel
theorem dX3_lineOf_24 : decode cX3_lineOf 24 = .ok (.getfield 26, 3) := by decide +kernel
theorem dX3_lineOf_27 : decode cX3_lineOf 27 = .ok (.areturn, 1) := by decide +kernel
theorem dX3_meetsOnAll_0 : decode cX3_meetsOnAll 0 = .ok (.aload_n 0, 1) := by decide +kernel
theorem dX3_meetsOnAll_1 : decode cX3_meetsOnAll 1 = .ok (.getfield 19, 3) := by decide +kernel
theorem dX3_meetsOnAll_4 : decode cX3_meetsOnAll 4 = .ok (.getfield 139, 3) := by decide +kernel
theorem dX3_meetsOnAll_7 : decode cX3_meetsOnAll 7 = .ok (.iload_n 1, 1) := by decide +kernel
theorem dX3_meetsOnAll_8 : decode cX3_meetsOnAll 8 = .ok (.iaload, 1) := by decide +kernel
theorem dX3_meetsOnAll_9 : decode cX3_meetsOnAll 9 = .ok (.aload_n 0, 1) := by decide +kernel
theorem dX3_meetsOnAll_10 : decode cX3_meetsOnAll 10 = .ok (.getfield 23, 3) := by decide +kernel
theorem dX3_meetsOnAll_13 : decode cX3_meetsOnAll 13 = .ok (.getfield 139, 3) := by decide +kernel
theorem dX3_meetsOnAll_16 : decode cX3_meetsOnAll 16 = .ok (.iload_n 1, 1) := by decide +kernel
theorem dX3_meetsOnAll_17 : decode cX3_meetsOnAll 17 = .ok (.iaload, 1) := by decide +kernel
theorem dX3_meetsOnAll_18 : decode cX3_meetsOnAll 18 = .ok (.iand, 1) := by decide +kernel
theorem dX3_meetsOnAll_19 : decode cX3_meetsOnAll 19 = .ok (.aload_n 0, 1) := by decide +kernel
theorem dX3_meetsOnAll_20 : decode cX3_meetsOnAll 20 = .ok (.getfield 26, 3) := by decide +kernel
theorem dX3_meetsOnAll_23 : decode cX3_meetsOnAll 23 = .ok (.getfield 139, 3) := by decide +kernel
theorem dX3_meetsOnAll_26 : decode cX3_meetsOnAll 26 = .ok (.iload_n 1, 1) := by decide +kernel
theorem dX3_meetsOnAll_27 : decode cX3_meetsOnAll 27 = .ok (.iaload, 1) := by decide +kernel
theorem dX3_meetsOnAll_28 : decode cX3_meetsOnAll 28 = .ok (.iand, 1) := by decide +kernel
theorem dX3_meetsOnAll_29 : decode cX3_meetsOnAll 29 = .ok (.ireturn, 1) := by decide +kernel
theorem dX3_meetsOnOthers_0 : decode cX3_meetsOnOthers 0 = .ok (.aload_n 0, 1) := by decide +kernel
theorem dX3_meetsOnOthers_1 : decode cX3_meetsOnOthers 1 = .ok (.getfield 40, 3) := by decide +kernel
theorem dX3_meetsOnOthers_4 : decode cX3_meetsOnOthers 4 = .ok (.istore_n 3, 1) := by decide +kernel
theorem dX3_meetsOnOthers_5 : decode cX3_meetsOnOthers 5 = .ok (.iconst 0, 1) := by decide +kernel
theorem dX3_meetsOnOthers_6 : decode cX3_meetsOnOthers 6 = .ok (.istore 4, 2) := by decide +kernel
theorem dX3_meetsOnOthers_8 : decode cX3_meetsOnOthers 8 = .ok (.iload 4, 2) := by decide +kernel
theorem dX3_meetsOnOthers_10 : decode cX3_meetsOnOthers 10 = .ok (.iconst 3, 1) := by decide +kernel
theorem dX3_meetsOnOthers_11 : decode cX3_meetsOnOthers 11 = .ok (.if_icmp .ge 29, 3) := by decide +kernel
theorem dX3_meetsOnOthers_14 : decode cX3_meetsOnOthers 14 = .ok (.iload 4, 2) := by decide +kernel
theorem dX3_meetsOnOthers_16 : decode cX3_meetsOnOthers 16 = .ok (.iload_n 1, 1) := by decide +kernel
theorem dX3_meetsOnOthers_17 : decode cX3_meetsOnOthers 17 = .ok (.if_icmp .eq 17, 3) := by decide +kernel
theorem dX3_meetsOnOthers_20 : decode cX3_meetsOnOthers 20 = .ok (.iload_n 3, 1) := by decide +kernel
theorem dX3_meetsOnOthers_21 : decode cX3_meetsOnOthers 21 = .ok (.aload_n 0, 1) := by decide +kernel
theorem dX3_meetsOnOthers_22 : decode cX3_meetsOnOthers 22 = .ok (.iload 4, 2) := by decide +kernel
theorem dX3_meetsOnOthers_24 : decode cX3_meetsOnOthers 24 = .ok (.invokevirtual 120, 3) := by decide +kernel
theorem dX3_meetsOnOthers_27 : decode cX3_meetsOnOthers 27 = .ok (.getfield 139, 3) := by decide +kernel
theorem dX3_meetsOnOthers_30 : decode cX3_meetsOnOthers 30 = .ok (.iload_n 2, 1) := by decide +kernel
theorem dX3_meetsOnOthers_31 : decode cX3_meetsOnOthers 31 = .ok (.iaload, 1) := by decide +kernel
theorem dX3_meetsOnOthers_32 : decode cX3_meetsOnOthers 32 = .ok (.iand, 1) := by decide +kernel
theorem dX3_meetsOnOthers_33 : decode cX3_meetsOnOthers 33 = .ok (.istore_n 3, 1) := by decide +kernel
theorem dX3_meetsOnOthers_34 : decode cX3_meetsOnOthers 34 = .ok (.iinc 4 1, 3) := by decide +kernel
theorem dX3_meetsOnOthers_37 : decode cX3_meetsOnOthers 37 = .ok (.goto (-29), 3) := by decide +kernel
theorem dX3_meetsOnOthers_40 : decode cX3_meetsOnOthers 40 = .ok (.iload_n 3, 1) := by decide +kernel
theorem dX3_meetsOnOthers_41 : decode cX3_meetsOnOthers 41 = .ok (.ireturn, 1) := by decide +kernel
theorem dX3_pairCount_0 : decode cX3_pairCount 0 = .ok (.iconst 0, 1) := by decide +kernel
theorem dX3_pairCount_1 : decode cX3_pairCount 1 = .ok (.istore_n 1, 1) := by decide +kernel
theorem dX3_pairCount_2 : decode cX3_pairCount 2 = .ok (.iconst 0, 1) := by decide +kernel
theorem dX3_pairCount_3 : decode cX3_pairCount 3 = .ok (.istore_n 2, 1) := by decide +kernel
theorem dX3_pairCount_4 : decode cX3_pairCount 4 = .ok (.iload_n 2, 1) := by decide +kernel
theorem dX3_pairCount_5 : decode cX3_pairCount 5 = .ok (.bipush 12, 2) := by decide +kernel
theorem dX3_pairCount_7 : decode cX3_pairCount 7 = .ok (.if_icmp .ge 21, 3) := by decide +kernel
theorem dX3_pairCount_10 : decode cX3_pairCount 10 = .ok (.iload_n 1, 1) := by decide +kernel
theorem dX3_pairCount_11 : decode cX3_pairCount 11 = .ok (.aload_n 0, 1) := by decide +kernel
theorem dX3_pairCount_12 : decode cX3_pairCount 12 = .ok (.getfield 36, 3) := by decide +kernel
theorem dX3_pairCount_15 : decode cX3_pairCount 15 = .ok (.iload_n 2, 1) := by decide +kernel
theorem dX3_pairCount_16 : decode cX3_pairCount 16 = .ok (.iaload, 1) := by decide +kernel
theorem dX3_pairCount_17 : decode cX3_pairCount 17 = .ok (.invokestatic 69, 3) := by decide +kernel
theorem dX3_pairCount_20 : decode cX3_pairCount 20 = .ok (.iadd, 1) := by decide +kernel
theorem dX3_pairCount_21 : decode cX3_pairCount 21 = .ok (.istore_n 1, 1) := by decide +kernel
theorem dX3_pairCount_22 : decode cX3_pairCount 22 = .ok (.iinc 2 1, 3) := by decide +kernel
theorem dX3_pairCount_25 : decode cX3_pairCount 25 = .ok (.goto (-21), 3) := by decide +kernel
theorem dX3_pairCount_28 : decode cX3_pairCount 28 = .ok (.iload_n 1, 1) := by decide +kernel
theorem dX3_pairCount_29 : decode cX3_pairCount 29 = .ok (.iconst 2, 1) := by decide +kernel
theorem dX3_pairCount_30 : decode cX3_pairCount 30 = .ok (.idiv, 1) := by decide +kernel
theorem dX3_pairCount_31 : decode cX3_pairCount 31 = .ok (.ireturn, 1) := by decide +kernel
