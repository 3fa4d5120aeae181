theorem dX0_init_0 : decode cX0_init 0 = .ok (.aload_n 0, 1) := by decide +kernel
theorem dX0_init_1 : decode cX0_init 1 = .ok (.invokespecial 3, 3) := by decide +kernel
theorem dX0_init_4 : decode cX0_init 4 = .ok (.aload_n 0, 1) := by decide +kernel
theorem dX0_init_5 : decode cX0_init 5 = .ok (.bipush 66, 2) := by decide +kernel
theorem dX0_init_7 : decode cX0_init 7 = .ok (.newarray .int, 2) := by decide +kernel
theorem dX0_init_9 : decode cX0_init 9 = .ok (.putfield 11, 3) := by decide +kernel
theorem dX0_init_12 : decode cX0_init 12 = .ok (.aload_n 0, 1) := by decide +kernel
theorem dX0_init_13 : decode cX0_init 13 = .ok (.iconst 3, 1) := by decide +kernel
theorem dX0_init_14 : decode cX0_init 14 = .ok (.newarray .int, 2) := by decide +kernel
theorem dX0_init_16 : decode cX0_init 16 = .ok (.putfield 15, 3) := by decide +kernel
theorem dX0_init_19 : decode cX0_init 19 = .ok (.return_, 1) := by decide +kernel
theorem dX0_open_0 : decode cX0_open 0 = .ok (.aload_n 0, 1) := by decide +kernel
theorem dX0_open_1 : decode cX0_open 1 = .ok (.iconst 0, 1) := by decide +kernel
theorem dX0_open_2 : decode cX0_open 2 = .ok (.putfield 18, 3) := by decide +kernel
theorem dX0_open_5 : decode cX0_open 5 = .ok (.aload_n 0, 1) := by decide +kernel
theorem dX0_open_6 : decode cX0_open 6 = .ok (.iconst 0, 1) := by decide +kernel
theorem dX0_open_7 : decode cX0_open 7 = .ok (.putfield 22, 3) := by decide +kernel
theorem dX0_open_10 : decode cX0_open 10 = .ok (.aload_n 0, 1) := by decide +kernel
theorem dX0_open_11 : decode cX0_open 11 = .ok (.iconst 0, 1) := by decide +kernel
theorem dX0_open_12 : decode cX0_open 12 = .ok (.putfield 25, 3) := by decide +kernel
theorem dX0_open_15 : decode cX0_open 15 = .ok (.iconst 0, 1) := by decide +kernel
theorem dX0_open_16 : decode cX0_open 16 = .ok (.istore_n 1, 1) := by decide +kernel
theorem dX0_open_17 : decode cX0_open 17 = .ok (.iload_n 1, 1) := by decide +kernel
theorem dX0_open_18 : decode cX0_open 18 = .ok (.iconst 3, 1) := by decide +kernel
theorem dX0_open_19 : decode cX0_open 19 = .ok (.if_icmp .ge 16, 3) := by decide +kernel
theorem dX0_open_22 : decode cX0_open 22 = .ok (.aload_n 0, 1) := by decide +kernel
theorem dX0_open_23 : decode cX0_open 23 = .ok (.getfield 15, 3) := by decide +kernel
theorem dX0_open_26 : decode cX0_open 26 = .ok (.iload_n 1, 1) := by decide +kernel
theorem dX0_open_27 : decode cX0_open 27 = .ok (.iconst 0, 1) := by decide +kernel
theorem dX0_open_28 : decode cX0_open 28 = .ok (.iastore, 1) := by decide +kernel
theorem dX0_open_29 : decode cX0_open 29 = .ok (.iinc 1 1, 3) := by decide +kernel
theorem dX0_open_32 : decode cX0_open 32 = .ok (.goto (-15), 3) := by decide +kernel
theorem dX0_open_35 : decode cX0_open 35 = .ok (.return_, 1) := by decide +kernel
theorem dX0_addSwap_0 : decode cX0_addSwap 0 = .ok (.aload_n 0, 1) := by decide +kernel
theorem dX0_addSwap_1 : decode cX0_addSwap 1 = .ok (.getfield 15, 3) := by decide +kernel
theorem dX0_addSwap_4 : decode cX0_addSwap 4 = .ok (.iload_n 1, 1) := by decide +kernel
theorem dX0_addSwap_5 : decode cX0_addSwap 5 = .ok (.dup2, 1) := by decide +kernel
theorem dX0_addSwap_6 : decode cX0_addSwap 6 = .ok (.iaload, 1) := by decide +kernel
theorem dX0_addSwap_7 : decode cX0_addSwap 7 = .ok (.iconst 1, 1) := by decide +kernel
theorem dX0_addSwap_8 : decode cX0_addSwap 8 = .ok (.iadd, 1) := by decide +kernel
theorem dX0_addSwap_9 : decode cX0_addSwap 9 = .ok (.iastore, 1) := by decide +kernel
theorem dX0_addSwap_10 : decode cX0_addSwap 10 = .ok (.return_, 1) := by decide +kernel
theorem dX0_addTurn_0 : decode cX0_addTurn 0 = .ok (.aload_n 0, 1) := by decide +kernel
theorem dX0_addTurn_1 : decode cX0_addTurn 1 = .ok (.dup, 1) := by decide +kernel
theorem dX0_addTurn_2 : decode cX0_addTurn 2 = .ok (.getfield 25, 3) := by decide +kernel
theorem dX0_addTurn_5 : decode cX0_addTurn 5 = .ok (.iconst 1, 1) := by decide +kernel
theorem dX0_addTurn_6 : decode cX0_addTurn 6 = .ok (.iadd, 1) := by decide +kernel
theorem dX0_addTurn_7 : decode cX0_addTurn 7 = .ok (.putfield 25, 3) := by decide +kernel
theorem dX0_addTurn_10 : decode cX0_addTurn 10 = .ok (.return_, 1) := by decide +kernel
theorem dX0_addEvent_0 : decode cX0_addEvent 0 = .ok (.aload_n 0, 1) := by decide +kernel
theorem dX0_addEvent_1 : decode cX0_addEvent 1 = .ok (.invokevirtual 28, 3) := by decide +kernel
theorem dX0_addEvent_4 : decode cX0_addEvent 4 = .ok (.istore_n 3, 1) := by decide +kernel
theorem dX0_addEvent_5 : decode cX0_addEvent 5 = .ok (.iload_n 3, 1) := by decide +kernel
theorem dX0_addEvent_6 : decode cX0_addEvent 6 = .ok (.bipush 66, 2) := by decide +kernel
theorem dX0_addEvent_8 : decode cX0_addEvent 8 = .ok (.if_icmp .lt 4, 3) := by decide +kernel
theorem dX0_addEvent_11 : decode cX0_addEvent 11 = .ok (.return_, 1) := by decide +kernel
theorem dX0_addEvent_12 : decode cX0_addEvent 12 = .ok (.aload_n 0, 1) := by decide +kernel
theorem dX0_addEvent_13 : decode cX0_addEvent 13 = .ok (.getfield 11, 3) := by decide +kernel
theorem dX0_addEvent_16 : decode cX0_addEvent 16 = .ok (.iload_n 3, 1) := by decide +kernel
theorem dX0_addEvent_17 : decode cX0_addEvent 17 = .ok (.iload_n 2, 1) := by decide +kernel
theorem dX0_addEvent_18 : decode cX0_addEvent 18 = .ok (.ifCond .eq 11, 3) := by decide +kernel
theorem dX0_addEvent_21 : decode cX0_addEvent 21 = .ok (.iconst 2, 1) := by decide +kernel
theorem dX0_addEvent_22 : decode cX0_addEvent 22 = .ok (.iload_n 1, 1) := by decide +kernel
theorem dX0_addEvent_23 : decode cX0_addEvent 23 = .ok (.imul, 1) := by decide +kernel
theorem dX0_addEvent_24 : decode cX0_addEvent 24 = .ok (.iconst 1, 1) := by decide +kernel
theorem dX0_addEvent_25 : decode cX0_addEvent 25 = .ok (.iadd, 1) := by decide +kernel
theorem dX0_addEvent_26 : decode cX0_addEvent 26 = .ok (.goto 6, 3) := by decide +kernel
theorem dX0_addEvent_29 : decode cX0_addEvent 29 = .ok (.iconst 2, 1) := by decide +kernel
theorem dX0_addEvent_30 : decode cX0_addEvent 30 = .ok (.iload_n 1, 1) := by decide +kernel
theorem dX0_addEvent_31 : decode cX0_addEvent 31 = .ok (.imul, 1) := by decide +kernel
theorem dX0_addEvent_32 : decode cX0_addEvent 32 = .ok (.iastore, 1) := by decide +kernel
theorem dX0_addEvent_33 : decode cX0_addEvent 33 = .ok (.iload_n 2, 1) := by decide +kernel
theorem dX0_addEvent_34 : decode cX0_addEvent 34 = .ok (.ifCond .eq 16, 3) := by decide +kernel
theorem dX0_addEvent_37 : decode cX0_addEvent 37 = .ok (.aload_n 0, 1) := by decide +kernel
theorem dX0_addEvent_38 : decode cX0_addEvent 38 = .ok (.dup, 1) := by decide +kernel
theorem dX0_addEvent_39 : decode cX0_addEvent 39 = .ok (.getfield 18, 3) := by decide +kernel
theorem dX0_addEvent_42 : decode cX0_addEvent 42 = .ok (.iconst 1, 1) := by decide +kernel
theorem dX0_addEvent_43 : decode cX0_addEvent 43 = .ok (.iadd, 1) := by decide +kernel
theorem dX0_addEvent_44 : decode cX0_addEvent 44 = .ok (.putfield 18, 3) := by decide +kernel
theorem dX0_addEvent_47 : decode cX0_addEvent 47 = .ok (.goto 13, 3) := by decide +kernel
theorem dX0_addEvent_50 : decode cX0_addEvent 50 = .ok (.aload_n 0, 1) := by decide +kernel
theorem dX0_addEvent_51 : decode cX0_addEvent 51 = .ok (.dup, 1) := by decide +kernel
theorem dX0_addEvent_52 : decode cX0_addEvent 52 = .ok (.getfield 22, 3) := by decide +kernel
theorem dX0_addEvent_55 : decode cX0_addEvent 55 = .ok (.iconst 1, 1) := by decide +kernel
theorem dX0_addEvent_56 : decode cX0_addEvent 56 = .ok (.iadd, 1) := by decide +kernel
theorem dX0_addEvent_57 : decode cX0_addEvent 57 = .ok (.putfield 22, 3) := by decide +kernel
theorem dX0_addEvent_60 : decode cX0_addEvent 60 = .ok (.return_, 1) := by decide +kernel
theorem dX0_close_0 : decode cX0_close 0 = .ok (.aload_n 0, 1) := by decide +kernel
theorem dX0_close_1 : decode cX0_close 1 = .ok (.iconst 0, 1) := by decide +kernel
theorem dX0_close_2 : decode cX0_close 2 = .ok (.aload_n 0, 1) := by decide +kernel
theorem dX0_close_3 : decode cX0_close 3 = .ok (.getfield 25, 3) := by decide +kernel
theorem dX0_close_6 : decode cX0_close 6 = .ok (.aload_n 0, 1) := by decide +kernel
theorem dX0_close_7 : decode cX0_close 7 = .ok (.invokevirtual 28, 3) := by decide +kernel
theorem dX0_close_10 : decode cX0_close 10 = .ok (.isub, 1) := by decide +kernel
theorem dX0_close_11 : decode cX0_close 11 = .ok (.invokestatic 32, 3) := by decide +kernel
theorem dX0_close_14 : decode cX0_close 14 = .ok (.putfield 38, 3) := by decide +kernel
theorem dX0_close_17 : decode cX0_close 17 = .ok (.aload_n 0, 1) := by decide +kernel
theorem dX0_close_18 : decode cX0_close 18 = .ok (.dup, 1) := by decide +kernel
theorem dX0_close_19 : decode cX0_close 19 = .ok (.getfield 41, 3) := by decide +kernel
theorem dX0_close_22 : decode cX0_close 22 = .ok (.aload_n 0, 1) := by decide +kernel
theorem dX0_close_23 : decode cX0_close 23 = .ok (.getfield 18, 3) := by decide +kernel
theorem dX0_close_26 : decode cX0_close 26 = .ok (.iadd, 1) := by decide +kernel
theorem dX0_close_27 : decode cX0_close 27 = .ok (.putfield 41, 3) := by decide +kernel
theorem dX0_close_30 : decode cX0_close 30 = .ok (.aload_n 0, 1) := by decide +kernel
theorem dX0_close_31 : decode cX0_close 31 = .ok (.dup, 1) := by decide +kernel
theorem dX0_close_32 : decode cX0_close 32 = .ok (.getfield 44, 3) := by decide +kernel
theorem dX0_close_35 : decode cX0_close 35 = .ok (.aload_n 0, 1) := by decide +kernel
theorem dX0_close_36 : decode cX0_close 36 = .ok (.getfield 22, 3) := by decide +kernel
theorem dX0_close_39 : decode cX0_close 39 = .ok (.iadd, 1) := by decide +kernel
theorem dX0_close_40 : decode cX0_close 40 = .ok (.putfield 44, 3) := by decide +kernel
theorem dX0_close_43 : decode cX0_close 43 = .ok (.aload_n 0, 1) := by decide +kernel
theorem dX0_close_44 : decode cX0_close 44 = .ok (.dup, 1) := by decide +kernel
theorem dX0_close_45 : decode cX0_close 45 = .ok (.getfield 47, 3) := by decide +kernel
theorem dX0_close_48 : decode cX0_close 48 = .ok (.aload_n 0, 1) := by decide +kernel
theorem dX0_close_49 : decode cX0_close 49 = .ok (.invokevirtual 50, 3) := by decide +kernel
theorem dX0_close_52 : decode cX0_close 52 = .ok (.iadd, 1) := by decide +kernel
theorem dX0_close_53 : decode cX0_close 53 = .ok (.putfield 47, 3) := by decide +kernel
theorem dX0_close_56 : decode cX0_close 56 = .ok (.aload_n 0, 1) := by decide +kernel
theorem dX0_close_57 : decode cX0_close 57 = .ok (.dup, 1) := by decide +kernel
theorem dX0_close_58 : decode cX0_close 58 = .ok (.getfield 53, 3) := by decide +kernel
theorem dX0_close_61 : decode cX0_close 61 = .ok (.aload_n 0, 1) := by decide +kernel
theorem dX0_close_62 : decode cX0_close 62 = .ok (.getfield 38, 3) := by decide +kernel
theorem dX0_close_65 : decode cX0_close 65 = .ok (.iadd, 1) := by decide +kernel
theorem dX0_close_66 : decode cX0_close 66 = .ok (.putfield 53, 3) := by decide +kernel
theorem dX0_close_69 : decode cX0_close 69 = .ok (.aload_n 0, 1) := by decide +kernel
theorem dX0_close_70 : decode cX0_close 70 = .ok (.dup, 1) := by decide +kernel
theorem dX0_close_71 : decode cX0_close 71 = .ok (.getfield 56, 3) := by decide +kernel
theorem dX0_close_74 : decode cX0_close 74 = .ok (.iconst 1, 1) := by decide +kernel
theorem dX0_close_75 : decode cX0_close 75 = .ok (.iadd, 1) := by decide +kernel
theorem dX0_close_76 : decode cX0_close 76 = .ok (.putfield 56, 3) := by decide +kernel
theorem dX0_close_79 : decode cX0_close 79 = .ok (.return_, 1) := by decide +kernel
theorem dX0_eventCount_0 : decode cX0_eventCount 0 = .ok (.aload_n 0, 1) := by decide +kernel
theorem dX0_eventCount_1 : decode cX0_eventCount 1 = .ok (.getfield 18, 3) := by decide +kernel
theorem dX0_eventCount_4 : decode cX0_eventCount 4 = .ok (.aload_n 0, 1) := by decide +kernel
theorem dX0_eventCount_5 : decode cX0_eventCount 5 = .ok (.getfield 22, 3) := by decide +kernel
theorem dX0_eventCount_8 : decode cX0_eventCount 8 = .ok (.iadd, 1) := by decide +kernel
theorem dX0_eventCount_9 : decode cX0_eventCount 9 = .ok (.ireturn, 1) := by decide +kernel
theorem dX0_eventPair_0 : decode cX0_eventPair 0 = .ok (.aload_n 0, 1) := by decide +kernel
theorem dX0_eventPair_1 : decode cX0_eventPair 1 = .ok (.getfield 11, 3) := by decide +kernel
theorem dX0_eventPair_4 : decode cX0_eventPair 4 = .ok (.iload_n 1, 1) := by decide +kernel
theorem dX0_eventPair_5 : decode cX0_eventPair 5 = .ok (.iaload, 1) := by decide +kernel
theorem dX0_eventPair_6 : decode cX0_eventPair 6 = .ok (.iconst 1, 1) := by decide +kernel
theorem dX0_eventPair_7 : decode cX0_eventPair 7 = .ok (.ishr, 1) := by decide +kernel
theorem dX0_eventPair_8 : decode cX0_eventPair 8 = .ok (.ireturn, 1) := by decide +kernel
theorem dX0_eventBegan_0 : decode cX0_eventBegan 0 = .ok (.aload_n 0, 1) := by decide +kernel
theorem dX0_eventBegan_1 : decode cX0_eventBegan 1 = .ok (.getfield 11, 3) := by decide +kernel
theorem dX0_eventBegan_4 : decode cX0_eventBegan 4 = .ok (.iload_n 1, 1) := by decide +kernel
theorem dX0_eventBegan_5 : decode cX0_eventBegan 5 = .ok (.iaload, 1) := by decide +kernel
theorem dX0_eventBegan_6 : decode cX0_eventBegan 6 = .ok (.iconst 1, 1) := by decide +kernel
theorem dX0_eventBegan_7 : decode cX0_eventBegan 7 = .ok (.iand, 1) := by decide +kernel
theorem dX0_eventBegan_8 : decode cX0_eventBegan 8 = .ok (.iconst 1, 1) := by decide +kernel
theorem dX0_eventBegan_9 : decode cX0_eventBegan 9 = .ok (.if_icmp .ne 7, 3) := by decide +kernel
theorem dX0_eventBegan_12 : decode cX0_eventBegan 12 = .ok (.iconst 1, 1) := by decide +kernel
theorem dX0_eventBegan_13 : decode cX0_eventBegan 13 = .ok (.goto 4, 3) := by decide +kernel
theorem dX0_eventBegan_16 : decode cX0_eventBegan 16 = .ok (.iconst 0, 1) := by decide +kernel
theorem dX0_eventBegan_17 : decode cX0_eventBegan 17 = .ok (.ireturn, 1) := by decide +kernel
theorem dX0_allSwaps_0 : decode cX0_allSwaps 0 = .ok (.aload_n 0, 1) := by decide +kernel
theorem dX0_allSwaps_1 : decode cX0_allSwaps 1 = .ok (.getfield 15, 3) := by decide +kernel
theorem dX0_allSwaps_4 : decode cX0_allSwaps 4 = .ok (.iconst 0, 1) := by decide +kernel
theorem dX0_allSwaps_5 : decode cX0_allSwaps 5 = .ok (.iaload, 1) := by decide +kernel
theorem dX0_allSwaps_6 : decode cX0_allSwaps 6 = .ok (.aload_n 0, 1) := by decide +kernel
theorem dX0_allSwaps_7 : decode cX0_allSwaps 7 = .ok (.getfield 15, 3) := by decide +kernel
theorem dX0_allSwaps_10 : decode cX0_allSwaps 10 = .ok (.iconst 1, 1) := by decide +kernel
theorem dX0_allSwaps_11 : decode cX0_allSwaps 11 = .ok (.iaload, 1) := by decide +kernel
theorem dX0_allSwaps_12 : decode cX0_allSwaps 12 = .ok (.iadd, 1) := by decide +kernel
theorem dX0_allSwaps_13 : decode cX0_allSwaps 13 = .ok (.aload_n 0, 1) := by decide +kernel
theorem dX0_allSwaps_14 : decode cX0_allSwaps 14 = .ok (.getfield 15, 3) := by decide +kernel
theorem dX0_allSwaps_17 : decode cX0_allSwaps 17 = .ok (.iconst 2, 1) := by decide +kernel
theorem dX0_allSwaps_18 : decode cX0_allSwaps 18 = .ok (.iaload, 1) := by decide +kernel
theorem dX0_allSwaps_19 : decode cX0_allSwaps 19 = .ok (.iadd, 1) := by decide +kernel
theorem dX0_allSwaps_20 : decode cX0_allSwaps 20 = .ok (.ireturn, 1) := by decide +kernel
theorem dX1_init_0 : decode cX1_init 0 = .ok (.aload_n 0, 1) := by decide +kernel
theorem dX1_init_1 : decode cX1_init 1 = .ok (.invokespecial 3, 3) := by decide +kernel
theorem dX1_init_4 : decode cX1_init 4 = .ok (.aload_n 0, 1) := by decide +kernel
theorem dX1_init_5 : decode cX1_init 5 = .ok (.bipush 12, 2) := by decide +kernel
theorem dX1_init_7 : decode cX1_init 7 = .ok (.newarray .int, 2) := by decide +kernel
theorem dX1_init_9 : decode cX1_init 9 = .ok (.putfield 9, 3) := by decide +kernel
theorem dX1_init_12 : decode cX1_init 12 = .ok (.aload_n 0, 1) := by decide +kernel
theorem dX1_init_13 : decode cX1_init 13 = .ok (.bipush 12, 2) := by decide +kernel
theorem dX1_init_15 : decode cX1_init 15 = .ok (.newarray .int, 2) := by decide +kernel
theorem dX1_init_17 : decode cX1_init 17 = .ok (.putfield 15, 3) := by decide +kernel
theorem dX1_init_20 : decode cX1_init 20 = .ok (.aload_n 0, 1) := by decide +kernel
theorem dX1_init_21 : decode cX1_init 21 = .ok (.bipush 24, 2) := by decide +kernel
theorem dX1_init_23 : decode cX1_init 23 = .ok (.newarray .int, 2) := by decide +kernel
theorem dX1_init_25 : decode cX1_init 25 = .ok (.putfield 18, 3) := by decide +kernel
theorem dX1_init_28 : decode cX1_init 28 = .ok (.aload_n 0, 1) := by decide +kernel
theorem dX1_init_29 : decode cX1_init 29 = .ok (.bipush 12, 2) := by decide +kernel
theorem dX1_init_31 : decode cX1_init 31 = .ok (.newarray .int, 2) := by decide +kernel
theorem dX1_init_33 : decode cX1_init 33 = .ok (.putfield 21, 3) := by decide +kernel
theorem dX1_init_36 : decode cX1_init 36 = .ok (.aload_n 0, 1) := by decide +kernel
theorem dX1_init_37 : decode cX1_init 37 = .ok (.iconst 0, 1) := by decide +kernel
theorem dX1_init_38 : decode cX1_init 38 = .ok (.putfield 24, 3) := by decide +kernel
theorem dX1_init_41 : decode cX1_init 41 = .ok (.aload_n 0, 1) := by decide +kernel
theorem dX1_init_42 : decode cX1_init 42 = .ok (.iconst 0, 1) := by decide +kernel
theorem dX1_init_43 : decode cX1_init 43 = .ok (.putfield 28, 3) := by decide +kernel
theorem dX1_init_46 : decode cX1_init 46 = .ok (.return_, 1) := by decide +kernel
theorem dX1_lowEnd_0 : decode cX1_lowEnd 0 = .ok (.iconst 2, 1) := by decide +kernel
theorem dX1_lowEnd_1 : decode cX1_lowEnd 1 = .ok (.iload_n 0, 1) := by decide +kernel
theorem dX1_lowEnd_2 : decode cX1_lowEnd 2 = .ok (.imul, 1) := by decide +kernel
theorem dX1_lowEnd_3 : decode cX1_lowEnd 3 = .ok (.ireturn, 1) := by decide +kernel
theorem dX1_highEnd_0 : decode cX1_highEnd 0 = .ok (.iconst 2, 1) := by decide +kernel
theorem dX1_highEnd_1 : decode cX1_highEnd 1 = .ok (.iload_n 0, 1) := by decide +kernel
theorem dX1_highEnd_2 : decode cX1_highEnd 2 = .ok (.imul, 1) := by decide +kernel
theorem dX1_highEnd_3 : decode cX1_highEnd 3 = .ok (.iconst 1, 1) := by decide +kernel
theorem dX1_highEnd_4 : decode cX1_highEnd 4 = .ok (.iadd, 1) := by decide +kernel
theorem dX1_highEnd_5 : decode cX1_highEnd 5 = .ok (.ireturn, 1) := by decide +kernel
theorem dX1_boxOf_0 : decode cX1_boxOf 0 = .ok (.iload_n 0, 1) := by decide +kernel
theorem dX1_boxOf_1 : decode cX1_boxOf 1 = .ok (.iconst 1, 1) := by decide +kernel
theorem dX1_boxOf_2 : decode cX1_boxOf 2 = .ok (.ishr, 1) := by decide +kernel
theorem dX1_boxOf_3 : decode cX1_boxOf 3 = .ok (.ireturn, 1) := by decide +kernel
theorem dX1_isHigh_0 : decode cX1_isHigh 0 = .ok (.iload_n 0, 1) := by decide +kernel
theorem dX1_isHigh_1 : decode cX1_isHigh 1 = .ok (.iconst 1, 1) := by decide +kernel
theorem dX1_isHigh_2 : decode cX1_isHigh 2 = .ok (.iand, 1) := by decide +kernel
theorem dX1_isHigh_3 : decode cX1_isHigh 3 = .ok (.iconst 1, 1) := by decide +kernel
theorem dX1_isHigh_4 : decode cX1_isHigh 4 = .ok (.if_icmp .ne 7, 3) := by decide +kernel
theorem dX1_isHigh_7 : decode cX1_isHigh 7 = .ok (.iconst 1, 1) := by decide +kernel
theorem dX1_isHigh_8 : decode cX1_isHigh 8 = .ok (.goto 4, 3) := by decide +kernel
theorem dX1_isHigh_11 : decode cX1_isHigh 11 = .ok (.iconst 0, 1) := by decide +kernel
theorem dX1_isHigh_12 : decode cX1_isHigh 12 = .ok (.ireturn, 1) := by decide +kernel
theorem dX1_valueOf_0 : decode cX1_valueOf 0 = .ok (.iload_n 1, 1) := by decide +kernel
theorem dX1_valueOf_1 : decode cX1_valueOf 1 = .ok (.invokestatic 32, 3) := by decide +kernel
theorem dX1_valueOf_4 : decode cX1_valueOf 4 = .ok (.ifCond .eq 15, 3) := by decide +kernel
theorem dX1_valueOf_7 : decode cX1_valueOf 7 = .ok (.aload_n 0, 1) := by decide +kernel
theorem dX1_valueOf_8 : decode cX1_valueOf 8 = .ok (.getfield 15, 3) := by decide +kernel
theorem dX1_valueOf_11 : decode cX1_valueOf 11 = .ok (.iload_n 1, 1) := by decide +kernel
theorem dX1_valueOf_12 : decode cX1_valueOf 12 = .ok (.invokestatic 36, 3) := by decide +kernel
theorem dX1_valueOf_15 : decode cX1_valueOf 15 = .ok (.iaload, 1) := by decide +kernel
theorem dX1_valueOf_16 : decode cX1_valueOf 16 = .ok (.goto 12, 3) := by decide +kernel
theorem dX1_valueOf_19 : decode cX1_valueOf 19 = .ok (.aload_n 0, 1) := by decide +kernel
theorem dX1_valueOf_20 : decode cX1_valueOf 20 = .ok (.getfield 9, 3) := by decide +kernel
theorem dX1_valueOf_23 : decode cX1_valueOf 23 = .ok (.iload_n 1, 1) := by decide +kernel
theorem dX1_valueOf_24 : decode cX1_valueOf 24 = .ok (.invokestatic 36, 3) := by decide +kernel
theorem dX1_valueOf_27 : decode cX1_valueOf 27 = .ok (.iaload, 1) := by decide +kernel
theorem dX1_valueOf_28 : decode cX1_valueOf 28 = .ok (.ireturn, 1) := by decide +kernel
theorem dX1_isAhead_0 : decode cX1_isAhead 0 = .ok (.aload_n 0, 1) := by decide +kernel
theorem dX1_isAhead_1 : decode cX1_isAhead 1 = .ok (.iload_n 1, 1) := by decide +kernel
theorem dX1_isAhead_2 : decode cX1_isAhead 2 = .ok (.invokevirtual 40, 3) := by decide +kernel
theorem dX1_isAhead_5 : decode cX1_isAhead 5 = .ok (.istore_n 3, 1) := by decide +kernel
theorem dX1_isAhead_6 : decode cX1_isAhead 6 = .ok (.aload_n 0, 1) := by decide +kernel
theorem dX1_isAhead_7 : decode cX1_isAhead 7 = .ok (.iload_n 2, 1) := by decide +kernel
theorem dX1_isAhead_8 : decode cX1_isAhead 8 = .ok (.invokevirtual 40, 3) := by decide +kernel
theorem dX1_isAhead_11 : decode cX1_isAhead 11 = .ok (.istore 4, 2) := by decide +kernel
theorem dX1_isAhead_13 : decode cX1_isAhead 13 = .ok (.iload_n 3, 1) := by decide +kernel
theorem dX1_isAhead_14 : decode cX1_isAhead 14 = .ok (.iload 4, 2) := by decide +kernel
theorem dX1_isAhead_16 : decode cX1_isAhead 16 = .ok (.if_icmp .eq 15, 3) := by decide +kernel
theorem dX1_isAhead_19 : decode cX1_isAhead 19 = .ok (.iload_n 3, 1) := by decide +kernel
theorem dX1_isAhead_20 : decode cX1_isAhead 20 = .ok (.iload 4, 2) := by decide +kernel
theorem dX1_isAhead_22 : decode cX1_isAhead 22 = .ok (.if_icmp .ge 7, 3) := by decide +kernel
theorem dX1_isAhead_25 : decode cX1_isAhead 25 = .ok (.iconst 1, 1) := by decide +kernel
theorem dX1_isAhead_26 : decode cX1_isAhead 26 = .ok (.goto 4, 3) := by decide +kernel
theorem dX1_isAhead_29 : decode cX1_isAhead 29 = .ok (.iconst 0, 1) := by decide +kernel
theorem dX1_isAhead_30 : decode cX1_isAhead 30 = .ok (.ireturn, 1) := by decide +kernel
theorem dX1_isAhead_31 : decode cX1_isAhead 31 = .ok (.iload_n 1, 1) := by decide +kernel
theorem dX1_isAhead_32 : decode cX1_isAhead 32 = .ok (.invokestatic 32, 3) := by decide +kernel
theorem dX1_isAhead_35 : decode cX1_isAhead 35 = .ok (.iload_n 2, 1) := by decide +kernel
theorem dX1_isAhead_36 : decode cX1_isAhead 36 = .ok (.invokestatic 32, 3) := by decide +kernel
theorem dX1_isAhead_39 : decode cX1_isAhead 39 = .ok (.if_icmp .eq 20, 3) := by decide +kernel
theorem dX1_isAhead_42 : decode cX1_isAhead 42 = .ok (.iload_n 1, 1) := by decide +kernel
theorem dX1_isAhead_43 : decode cX1_isAhead 43 = .ok (.invokestatic 32, 3) := by decide +kernel
theorem dX1_isAhead_46 : decode cX1_isAhead 46 = .ok (.aload_n 0, 1) := by decide +kernel
theorem dX1_isAhead_47 : decode cX1_isAhead 47 = .ok (.getfield 28, 3) := by decide +kernel
theorem dX1_isAhead_50 : decode cX1_isAhead 50 = .ok (.if_icmp .eq 7, 3) := by decide +kernel
theorem dX1_isAhead_53 : decode cX1_isAhead 53 = .ok (.iconst 1, 1) := by decide +kernel
theorem dX1_isAhead_54 : decode cX1_isAhead 54 = .ok (.goto 4, 3) := by decide +kernel
theorem dX1_isAhead_57 : decode cX1_isAhead 57 = .ok (.iconst 0, 1) := by decide +kernel
theorem dX1_isAhead_58 : decode cX1_isAhead 58 = .ok (.ireturn, 1) := by decide +kernel
theorem dX1_isAhead_59 : decode cX1_isAhead 59 = .ok (.iload_n 1, 1) := by decide +kernel
theorem dX1_isAhead_60 : decode cX1_isAhead 60 = .ok (.invokestatic 36, 3) := by decide +kernel
theorem dX1_isAhead_63 : decode cX1_isAhead 63 = .ok (.iload_n 2, 1) := by decide +kernel
theorem dX1_isAhead_64 : decode cX1_isAhead 64 = .ok (.invokestatic 36, 3) := by decide +kernel
theorem dX1_isAhead_67 : decode cX1_isAhead 67 = .ok (.if_icmp .ge 7, 3) := by decide +kernel
theorem dX1_isAhead_70 : decode cX1_isAhead 70 = .ok (.iconst 1, 1) := by decide +kernel
theorem dX1_isAhead_71 : decode cX1_isAhead 71 = .ok (.goto 4, 3) := by decide +kernel
theorem dX1_isAhead_74 : decode cX1_isAhead 74 = .ok (.iconst 0, 1) := by decide +kernel
theorem dX1_isAhead_75 : decode cX1_isAhead 75 = .ok (.ireturn, 1) := by decide +kernel
theorem dX1_canShift_0 : decode cX1_canShift 0 = .ok (.aload_n 0, 1) := by decide +kernel
theorem dX1_canShift_1 : decode cX1_canShift 1 = .ok (.getfield 9, 3) := by decide +kernel
theorem dX1_canShift_4 : decode cX1_canShift 4 = .ok (.iload_n 1, 1) := by decide +kernel
theorem dX1_canShift_5 : decode cX1_canShift 5 = .ok (.iaload, 1) := by decide +kernel
theorem dX1_canShift_6 : decode cX1_canShift 6 = .ok (.i2l, 1) := by decide +kernel
theorem dX1_canShift_7 : decode cX1_canShift 7 = .ok (.iload_n 2, 1) := by decide +kernel
theorem dX1_canShift_8 : decode cX1_canShift 8 = .ok (.i2l, 1) := by decide +kernel
theorem dX1_canShift_9 : decode cX1_canShift 9 = .ok (.ladd, 1) := by decide +kernel
theorem dX1_canShift_10 : decode cX1_canShift 10 = .ok (.ldc2_w 43, 3) := by decide +kernel
theorem dX1_canShift_13 : decode cX1_canShift 13 = .ok (.lcmp, 1) := by decide +kernel
theorem dX1_canShift_14 : decode cX1_canShift 14 = .ok (.ifCond .lt 24, 3) := by decide +kernel
theorem dX1_canShift_17 : decode cX1_canShift 17 = .ok (.aload_n 0, 1) := by decide +kernel
theorem dX1_canShift_18 : decode cX1_canShift 18 = .ok (.getfield 15, 3) := by decide +kernel
theorem dX1_canShift_21 : decode cX1_canShift 21 = .ok (.iload_n 1, 1) := by decide +kernel
theorem dX1_canShift_22 : decode cX1_canShift 22 = .ok (.iaload, 1) := by decide +kernel
theorem dX1_canShift_23 : decode cX1_canShift 23 = .ok (.i2l, 1) := by decide +kernel
theorem dX1_canShift_24 : decode cX1_canShift 24 = .ok (.iload_n 2, 1) := by decide +kernel
theorem dX1_canShift_25 : decode cX1_canShift 25 = .ok (.i2l, 1) := by decide +kernel
theorem dX1_canShift_26 : decode cX1_canShift 26 = .ok (.ladd, 1) := by decide +kernel
theorem dX1_canShift_27 : decode cX1_canShift 27 = .ok (.ldc2_w 45, 3) := by decide +kernel
theorem dX1_canShift_30 : decode cX1_canShift 30 = .ok (.lcmp, 1) := by decide +kernel
theorem dX1_canShift_31 : decode cX1_canShift 31 = .ok (.ifCond .gt 7, 3) := by decide +kernel
theorem dX1_canShift_34 : decode cX1_canShift 34 = .ok (.iconst 1, 1) := by decide +kernel
theorem dX1_canShift_35 : decode cX1_canShift 35 = .ok (.goto 4, 3) := by decide +kernel
theorem dX1_canShift_38 : decode cX1_canShift 38 = .ok (.iconst 0, 1) := by decide +kernel
theorem dX1_canShift_39 : decode cX1_canShift 39 = .ok (.ireturn, 1) := by decide +kernel
theorem dX1_spanMeets_0 : decode cX1_spanMeets 0 = .ok (.aload_n 0, 1) := by decide +kernel
theorem dX1_spanMeets_1 : decode cX1_spanMeets 1 = .ok (.getfield 28, 3) := by decide +kernel
theorem dX1_spanMeets_4 : decode cX1_spanMeets 4 = .ok (.ifCond .eq 29, 3) := by decide +kernel
theorem dX1_spanMeets_7 : decode cX1_spanMeets 7 = .ok (.aload_n 0, 1) := by decide +kernel
theorem dX1_spanMeets_8 : decode cX1_spanMeets 8 = .ok (.getfield 9, 3) := by decide +kernel
theorem dX1_spanMeets_11 : decode cX1_spanMeets 11 = .ok (.iload_n 1, 1) := by decide +kernel
theorem dX1_spanMeets_12 : decode cX1_spanMeets 12 = .ok (.iaload, 1) := by decide +kernel
theorem dX1_spanMeets_13 : decode cX1_spanMeets 13 = .ok (.iload_n 3, 1) := by decide +kernel
theorem dX1_spanMeets_14 : decode cX1_spanMeets 14 = .ok (.if_icmp .gt 17, 3) := by decide +kernel
theorem dX1_spanMeets_17 : decode cX1_spanMeets 17 = .ok (.iload_n 2, 1) := by decide +kernel
theorem dX1_spanMeets_18 : decode cX1_spanMeets 18 = .ok (.aload_n 0, 1) := by decide +kernel
theorem dX1_spanMeets_19 : decode cX1_spanMeets 19 = .ok (.getfield 15, 3) := by decide +kernel
theorem dX1_spanMeets_22 : decode cX1_spanMeets 22 = .ok (.iload_n 1, 1) := by decide +kernel
theorem dX1_spanMeets_23 : decode cX1_spanMeets 23 = .ok (.iaload, 1) := by decide +kernel
theorem dX1_spanMeets_24 : decode cX1_spanMeets 24 = .ok (.if_icmp .gt 7, 3) := by decide +kernel
theorem dX1_spanMeets_27 : decode cX1_spanMeets 27 = .ok (.iconst 1, 1) := by decide +kernel
theorem dX1_spanMeets_28 : decode cX1_spanMeets 28 = .ok (.goto 4, 3) := by decide +kernel
theorem dX1_spanMeets_31 : decode cX1_spanMeets 31 = .ok (.iconst 0, 1) := by decide +kernel
theorem dX1_spanMeets_32 : decode cX1_spanMeets 32 = .ok (.ireturn, 1) := by decide +kernel
theorem dX1_spanMeets_33 : decode cX1_spanMeets 33 = .ok (.aload_n 0, 1) := by decide +kernel
theorem dX1_spanMeets_34 : decode cX1_spanMeets 34 = .ok (.getfield 9, 3) := by decide +kernel
theorem dX1_spanMeets_37 : decode cX1_spanMeets 37 = .ok (.iload_n 1, 1) := by decide +kernel
theorem dX1_spanMeets_38 : decode cX1_spanMeets 38 = .ok (.iaload, 1) := by decide +kernel
theorem dX1_spanMeets_39 : decode cX1_spanMeets 39 = .ok (.iload_n 3, 1) := by decide +kernel
theorem dX1_spanMeets_40 : decode cX1_spanMeets 40 = .ok (.if_icmp .ge 17, 3) := by decide +kernel
theorem dX1_spanMeets_43 : decode cX1_spanMeets 43 = .ok (.iload_n 2, 1) := by decide +kernel
theorem dX1_spanMeets_44 : decode cX1_spanMeets 44 = .ok (.aload_n 0, 1) := by decide +kernel
theorem dX1_spanMeets_45 : decode cX1_spanMeets 45 = .ok (.getfield 15, 3) := by decide +kernel
theorem dX1_spanMeets_48 : decode cX1_spanMeets 48 = .ok (.iload_n 1, 1) := by decide +kernel
theorem dX1_spanMeets_49 : decode cX1_spanMeets 49 = .ok (.iaload, 1) := by decide +kernel
theorem dX1_spanMeets_50 : decode cX1_spanMeets 50 = .ok (.if_icmp .ge 7, 3) := by decide +kernel
theorem dX1_spanMeets_53 : decode cX1_spanMeets 53 = .ok (.iconst 1, 1) := by decide +kernel
theorem dX1_spanMeets_54 : decode cX1_spanMeets 54 = .ok (.goto 4, 3) := by decide +kernel
theorem dX1_spanMeets_57 : decode cX1_spanMeets 57 = .ok (.iconst 0, 1) := by decide +kernel
theorem dX1_spanMeets_58 : decode cX1_spanMeets 58 = .ok (.ireturn, 1) := by decide +kernel
theorem dX1_arrange_0 : decode cX1_arrange 0 = .ok (.aload_n 0, 1) := by decide +kernel
theorem dX1_arrange_1 : decode cX1_arrange 1 = .ok (.iload_n 2, 1) := by decide +kernel
theorem dX1_arrange_2 : decode cX1_arrange 2 = .ok (.putfield 28, 3) := by decide +kernel
theorem dX1_arrange_5 : decode cX1_arrange 5 = .ok (.aload_n 0, 1) := by decide +kernel
theorem dX1_arrange_6 : decode cX1_arrange 6 = .ok (.iconst 0, 1) := by decide +kernel
theorem dX1_arrange_7 : decode cX1_arrange 7 = .ok (.putfield 24, 3) := by decide +kernel
theorem dX1_arrange_10 : decode cX1_arrange 10 = .ok (.iconst 0, 1) := by decide +kernel
theorem dX1_arrange_11 : decode cX1_arrange 11 = .ok (.istore_n 3, 1) := by decide +kernel
theorem dX1_arrange_12 : decode cX1_arrange 12 = .ok (.iload_n 3, 1) := by decide +kernel
theorem dX1_arrange_13 : decode cX1_arrange 13 = .ok (.bipush 12, 2) := by decide +kernel
theorem dX1_arrange_15 : decode cX1_arrange 15 = .ok (.if_icmp .ge 46, 3) := by decide +kernel
theorem dX1_arrange_18 : decode cX1_arrange 18 = .ok (.aload_n 0, 1) := by decide +kernel
theorem dX1_arrange_19 : decode cX1_arrange 19 = .ok (.getfield 21, 3) := by decide +kernel
theorem dX1_arrange_22 : decode cX1_arrange 22 = .ok (.iload_n 3, 1) := by decide +kernel
theorem dX1_arrange_23 : decode cX1_arrange 23 = .ok (.iconst 0, 1) := by decide +kernel
theorem dX1_arrange_24 : decode cX1_arrange 24 = .ok (.iastore, 1) := by decide +kernel
theorem dX1_arrange_25 : decode cX1_arrange 25 = .ok (.iload_n 1, 1) := by decide +kernel
theorem dX1_arrange_26 : decode cX1_arrange 26 = .ok (.iload_n 3, 1) := by decide +kernel
theorem dX1_arrange_27 : decode cX1_arrange 27 = .ok (.invokestatic 47, 3) := by decide +kernel
theorem dX1_arrange_30 : decode cX1_arrange 30 = .ok (.ifCond .eq 25, 3) := by decide +kernel
theorem dX1_arrange_33 : decode cX1_arrange 33 = .ok (.aload_n 0, 1) := by decide +kernel
theorem dX1_arrange_34 : decode cX1_arrange 34 = .ok (.iload_n 3, 1) := by decide +kernel
theorem dX1_arrange_35 : decode cX1_arrange 35 = .ok (.invokestatic 51, 3) := by decide +kernel
theorem dX1_arrange_38 : decode cX1_arrange 38 = .ok (.invokevirtual 54, 3) := by decide +kernel
theorem dX1_arrange_41 : decode cX1_arrange 41 = .ok (.aload_n 0, 1) := by decide +kernel
theorem dX1_arrange_42 : decode cX1_arrange 42 = .ok (.iload_n 3, 1) := by decide +kernel
theorem dX1_arrange_43 : decode cX1_arrange 43 = .ok (.invokestatic 58, 3) := by decide +kernel
theorem dX1_arrange_46 : decode cX1_arrange 46 = .ok (.invokevirtual 54, 3) := by decide +kernel
theorem dX1_arrange_49 : decode cX1_arrange 49 = .ok (.aload_n 0, 1) := by decide +kernel
theorem dX1_arrange_50 : decode cX1_arrange 50 = .ok (.iload_n 1, 1) := by decide +kernel
theorem dX1_arrange_51 : decode cX1_arrange 51 = .ok (.iload_n 3, 1) := by decide +kernel
theorem dX1_arrange_52 : decode cX1_arrange 52 = .ok (.invokevirtual 61, 3) := by decide +kernel
theorem dX1_arrange_55 : decode cX1_arrange 55 = .ok (.iinc 3 1, 3) := by decide +kernel
theorem dX1_arrange_58 : decode cX1_arrange 58 = .ok (.goto (-46), 3) := by decide +kernel
theorem dX1_arrange_61 : decode cX1_arrange 61 = .ok (.return_, 1) := by decide +kernel
theorem dX1_insert_0 : decode cX1_insert 0 = .ok (.aload_n 0, 1) := by decide +kernel
theorem dX1_insert_1 : decode cX1_insert 1 = .ok (.getfield 24, 3) := by decide +kernel
theorem dX1_insert_4 : decode cX1_insert 4 = .ok (.istore_n 2, 1) := by decide +kernel
theorem dX1_insert_5 : decode cX1_insert 5 = .ok (.iload_n 2, 1) := by decide +kernel
theorem dX1_insert_6 : decode cX1_insert 6 = .ok (.ifCond .le 39, 3) := by decide +kernel
theorem dX1_insert_9 : decode cX1_insert 9 = .ok (.aload_n 0, 1) := by decide +kernel
theorem dX1_insert_10 : decode cX1_insert 10 = .ok (.iload_n 1, 1) := by decide +kernel
theorem dX1_insert_11 : decode cX1_insert 11 = .ok (.aload_n 0, 1) := by decide +kernel
theorem dX1_insert_12 : decode cX1_insert 12 = .ok (.getfield 18, 3) := by decide +kernel
theorem dX1_insert_15 : decode cX1_insert 15 = .ok (.iload_n 2, 1) := by decide +kernel
theorem dX1_insert_16 : decode cX1_insert 16 = .ok (.iconst 1, 1) := by decide +kernel
theorem dX1_insert_17 : decode cX1_insert 17 = .ok (.isub, 1) := by decide +kernel
theorem dX1_insert_18 : decode cX1_insert 18 = .ok (.iaload, 1) := by decide +kernel
theorem dX1_insert_19 : decode cX1_insert 19 = .ok (.invokevirtual 65, 3) := by decide +kernel
theorem dX1_insert_22 : decode cX1_insert 22 = .ok (.ifCond .eq 23, 3) := by decide +kernel
theorem dX1_insert_25 : decode cX1_insert 25 = .ok (.aload_n 0, 1) := by decide +kernel
theorem dX1_insert_26 : decode cX1_insert 26 = .ok (.getfield 18, 3) := by decide +kernel
theorem dX1_insert_29 : decode cX1_insert 29 = .ok (.iload_n 2, 1) := by decide +kernel
theorem dX1_insert_30 : decode cX1_insert 30 = .ok (.aload_n 0, 1) := by decide +kernel
theorem dX1_insert_31 : decode cX1_insert 31 = .ok (.getfield 18, 3) := by decide +kernel
theorem dX1_insert_34 : decode cX1_insert 34 = .ok (.iload_n 2, 1) := by decide +kernel
theorem dX1_insert_35 : decode cX1_insert 35 = .ok (.iconst 1, 1) := by decide +kernel
theorem dX1_insert_36 : decode cX1_insert 36 = .ok (.isub, 1) := by decide +kernel
theorem dX1_insert_37 : decode cX1_insert 37 = .ok (.iaload, 1) := by decide +kernel
theorem dX1_insert_38 : decode cX1_insert 38 = .ok (.iastore, 1) := by decide +kernel
theorem dX1_insert_39 : decode cX1_insert 39 = .ok (.iinc 2 (-1), 3) := by decide +kernel
theorem dX1_insert_42 : decode cX1_insert 42 = .ok (.goto (-37), 3) := by decide +kernel
theorem dX1_insert_45 : decode cX1_insert 45 = .ok (.aload_n 0, 1) := by decide +kernel
theorem dX1_insert_46 : decode cX1_insert 46 = .ok (.getfield 18, 3) := by decide +kernel
theorem dX1_insert_49 : decode cX1_insert 49 = .ok (.iload_n 2, 1) := by decide +kernel
theorem dX1_insert_50 : decode cX1_insert 50 = .ok (.iload_n 1, 1) := by decide +kernel
theorem dX1_insert_51 : decode cX1_insert 51 = .ok (.iastore, 1) := by decide +kernel
theorem dX1_insert_52 : decode cX1_insert 52 = .ok (.aload_n 0, 1) := by decide +kernel
theorem dX1_insert_53 : decode cX1_insert 53 = .ok (.dup, 1) := by decide +kernel
theorem dX1_insert_54 : decode cX1_insert 54 = .ok (.getfield 24, 3) := by decide +kernel
theorem dX1_insert_57 : decode cX1_insert 57 = .ok (.iconst 1, 1) := by decide +kernel
theorem dX1_insert_58 : decode cX1_insert 58 = .ok (.iadd, 1) := by decide +kernel
theorem dX1_insert_59 : decode cX1_insert 59 = .ok (.putfield 24, 3) := by decide +kernel
theorem dX1_insert_62 : decode cX1_insert 62 = .ok (.return_, 1) := by decide +kernel
theorem dX1_findMeets_0 : decode cX1_findMeets 0 = .ok (.iconst 0, 1) := by decide +kernel
theorem dX1_findMeets_1 : decode cX1_findMeets 1 = .ok (.istore_n 3, 1) := by decide +kernel
theorem dX1_findMeets_2 : decode cX1_findMeets 2 = .ok (.iload_n 3, 1) := by decide +kernel
theorem dX1_findMeets_3 : decode cX1_findMeets 3 = .ok (.bipush 12, 2) := by decide +kernel
theorem dX1_findMeets_5 : decode cX1_findMeets 5 = .ok (.if_icmp .ge 55, 3) := by decide +kernel
theorem dX1_findMeets_8 : decode cX1_findMeets 8 = .ok (.iload_n 3, 1) := by decide +kernel
theorem dX1_findMeets_9 : decode cX1_findMeets 9 = .ok (.iload_n 2, 1) := by decide +kernel
theorem dX1_findMeets_10 : decode cX1_findMeets 10 = .ok (.if_icmp .eq 44, 3) := by decide +kernel
theorem dX1_findMeets_13 : decode cX1_findMeets 13 = .ok (.iload_n 1, 1) := by decide +kernel
theorem dX1_findMeets_14 : decode cX1_findMeets 14 = .ok (.iload_n 3, 1) := by decide +kernel
theorem dX1_findMeets_15 : decode cX1_findMeets 15 = .ok (.invokestatic 47, 3) := by decide +kernel
theorem dX1_findMeets_18 : decode cX1_findMeets 18 = .ok (.ifCond .eq 36, 3) := by decide +kernel
theorem dX1_findMeets_21 : decode cX1_findMeets 21 = .ok (.aload_n 0, 1) := by decide +kernel
theorem dX1_findMeets_22 : decode cX1_findMeets 22 = .ok (.iload_n 2, 1) := by decide +kernel
theorem dX1_findMeets_23 : decode cX1_findMeets 23 = .ok (.aload_n 0, 1) := by decide +kernel
theorem dX1_findMeets_24 : decode cX1_findMeets 24 = .ok (.getfield 9, 3) := by decide +kernel
theorem dX1_findMeets_27 : decode cX1_findMeets 27 = .ok (.iload_n 3, 1) := by decide +kernel
theorem dX1_findMeets_28 : decode cX1_findMeets 28 = .ok (.iaload, 1) := by decide +kernel
theorem dX1_findMeets_29 : decode cX1_findMeets 29 = .ok (.aload_n 0, 1) := by decide +kernel
theorem dX1_findMeets_30 : decode cX1_findMeets 30 = .ok (.getfield 15, 3) := by decide +kernel
theorem dX1_findMeets_33 : decode cX1_findMeets 33 = .ok (.iload_n 3, 1) := by decide +kernel
theorem dX1_findMeets_34 : decode cX1_findMeets 34 = .ok (.iaload, 1) := by decide +kernel
theorem dX1_findMeets_35 : decode cX1_findMeets 35 = .ok (.invokevirtual 68, 3) := by decide +kernel
theorem dX1_findMeets_38 : decode cX1_findMeets 38 = .ok (.ifCond .eq 16, 3) := by decide +kernel
theorem dX1_findMeets_41 : decode cX1_findMeets 41 = .ok (.aload_n 0, 1) := by decide +kernel
theorem dX1_findMeets_42 : decode cX1_findMeets 42 = .ok (.getfield 21, 3) := by decide +kernel
theorem dX1_findMeets_45 : decode cX1_findMeets 45 = .ok (.iload_n 2, 1) := by decide +kernel
theorem dX1_findMeets_46 : decode cX1_findMeets 46 = .ok (.dup2, 1) := by decide +kernel
theorem dX1_findMeets_47 : decode cX1_findMeets 47 = .ok (.iaload, 1) := by decide +kernel
theorem dX1_findMeets_48 : decode cX1_findMeets 48 = .ok (.iload_n 3, 1) := by decide +kernel
theorem dX1_findMeets_49 : decode cX1_findMeets 49 = .ok (.invokestatic 72, 3) := by decide +kernel
theorem dX1_findMeets_52 : decode cX1_findMeets 52 = .ok (.ior, 1) := by decide +kernel
theorem dX1_findMeets_53 : decode cX1_findMeets 53 = .ok (.iastore, 1) := by decide +kernel
theorem dX1_findMeets_54 : decode cX1_findMeets 54 = .ok (.iinc 3 1, 3) := by decide +kernel
theorem dX1_findMeets_57 : decode cX1_findMeets 57 = .ok (.goto (-55), 3) := by decide +kernel
theorem dX1_findMeets_60 : decode cX1_findMeets 60 = .ok (.return_, 1) := by decide +kernel
theorem dX1_turnMeeting_0 : decode cX1_turnMeeting 0 = .ok (.aload_n 0, 1) := by decide +kernel
theorem dX1_turnMeeting_1 : decode cX1_turnMeeting 1 = .ok (.getfield 21, 3) := by decide +kernel
theorem dX1_turnMeeting_4 : decode cX1_turnMeeting 4 = .ok (.iload_n 1, 1) := by decide +kernel
theorem dX1_turnMeeting_5 : decode cX1_turnMeeting 5 = .ok (.dup2, 1) := by decide +kernel
theorem dX1_turnMeeting_6 : decode cX1_turnMeeting 6 = .ok (.iaload, 1) := by decide +kernel
theorem dX1_turnMeeting_7 : decode cX1_turnMeeting 7 = .ok (.iload_n 2, 1) := by decide +kernel
theorem dX1_turnMeeting_8 : decode cX1_turnMeeting 8 = .ok (.invokestatic 72, 3) := by decide +kernel
theorem dX1_turnMeeting_11 : decode cX1_turnMeeting 11 = .ok (.ixor, 1) := by decide +kernel
theorem dX1_turnMeeting_12 : decode cX1_turnMeeting 12 = .ok (.iastore, 1) := by decide +kernel
theorem dX1_turnMeeting_13 : decode cX1_turnMeeting 13 = .ok (.aload_n 0, 1) := by decide +kernel
theorem dX1_turnMeeting_14 : decode cX1_turnMeeting 14 = .ok (.getfield 21, 3) := by decide +kernel
theorem dX1_turnMeeting_17 : decode cX1_turnMeeting 17 = .ok (.iload_n 2, 1) := by decide +kernel
theorem dX1_turnMeeting_18 : decode cX1_turnMeeting 18 = .ok (.dup2, 1) := by decide +kernel
theorem dX1_turnMeeting_19 : decode cX1_turnMeeting 19 = .ok (.iaload, 1) := by decide +kernel
theorem dX1_turnMeeting_20 : decode cX1_turnMeeting 20 = .ok (.iload_n 1, 1) := by decide +kernel
theorem dX1_turnMeeting_21 : decode cX1_turnMeeting 21 = .ok (.invokestatic 72, 3) := by decide +kernel
theorem dX1_turnMeeting_24 : decode cX1_turnMeeting 24 = .ok (.ixor, 1) := by decide +kernel
theorem dX1_turnMeeting_25 : decode cX1_turnMeeting 25 = .ok (.iastore, 1) := by decide +kernel
theorem dX1_turnMeeting_26 : decode cX1_turnMeeting 26 = .ok (.return_, 1) := by decide +kernel
theorem dX1_placeOf_0 : decode cX1_placeOf 0 = .ok (.iconst 0, 1) := by decide +kernel
theorem dX1_placeOf_1 : decode cX1_placeOf 1 = .ok (.istore_n 2, 1) := by decide +kernel
theorem dX1_placeOf_2 : decode cX1_placeOf 2 = .ok (.iload_n 2, 1) := by decide +kernel
theorem dX1_placeOf_3 : decode cX1_placeOf 3 = .ok (.aload_n 0, 1) := by decide +kernel
theorem dX1_placeOf_4 : decode cX1_placeOf 4 = .ok (.getfield 24, 3) := by decide +kernel
theorem dX1_placeOf_7 : decode cX1_placeOf 7 = .ok (.iconst 1, 1) := by decide +kernel
theorem dX1_placeOf_8 : decode cX1_placeOf 8 = .ok (.isub, 1) := by decide +kernel
theorem dX1_placeOf_9 : decode cX1_placeOf 9 = .ok (.if_icmp .ge 19, 3) := by decide +kernel
theorem dX1_placeOf_12 : decode cX1_placeOf 12 = .ok (.aload_n 0, 1) := by decide +kernel
theorem dX1_placeOf_13 : decode cX1_placeOf 13 = .ok (.getfield 18, 3) := by decide +kernel
theorem dX1_placeOf_16 : decode cX1_placeOf 16 = .ok (.iload_n 2, 1) := by decide +kernel
theorem dX1_placeOf_17 : decode cX1_placeOf 17 = .ok (.iaload, 1) := by decide +kernel
theorem dX1_placeOf_18 : decode cX1_placeOf 18 = .ok (.iload_n 1, 1) := by decide +kernel
theorem dX1_placeOf_19 : decode cX1_placeOf 19 = .ok (.if_icmp .eq 9, 3) := by decide +kernel
theorem dX1_placeOf_22 : decode cX1_placeOf 22 = .ok (.iinc 2 1, 3) := by decide +kernel
theorem dX1_placeOf_25 : decode cX1_placeOf 25 = .ok (.goto (-23), 3) := by decide +kernel
theorem dX1_placeOf_28 : decode cX1_placeOf 28 = .ok (.iload_n 2, 1) := by decide +kernel
theorem dX1_placeOf_29 : decode cX1_placeOf 29 = .ok (.ireturn, 1) := by decide +kernel
theorem dX1_sideToGo_0 : decode cX1_sideToGo 0 = .ok (.iload_n 1, 1) := by decide +kernel
theorem dX1_sideToGo_1 : decode cX1_sideToGo 1 = .ok (.iconst 1, 1) := by decide +kernel
theorem dX1_sideToGo_2 : decode cX1_sideToGo 2 = .ok (.iadd, 1) := by decide +kernel
theorem dX1_sideToGo_3 : decode cX1_sideToGo 3 = .ok (.aload_n 0, 1) := by decide +kernel
theorem dX1_sideToGo_4 : decode cX1_sideToGo 4 = .ok (.getfield 24, 3) := by decide +kernel
theorem dX1_sideToGo_7 : decode cX1_sideToGo 7 = .ok (.if_icmp .ge 26, 3) := by decide +kernel
theorem dX1_sideToGo_10 : decode cX1_sideToGo 10 = .ok (.aload_n 0, 1) := by decide +kernel
theorem dX1_sideToGo_11 : decode cX1_sideToGo 11 = .ok (.aload_n 0, 1) := by decide +kernel
theorem dX1_sideToGo_12 : decode cX1_sideToGo 12 = .ok (.getfield 18, 3) := by decide +kernel
theorem dX1_sideToGo_15 : decode cX1_sideToGo 15 = .ok (.iload_n 1, 1) := by decide +kernel
theorem dX1_sideToGo_16 : decode cX1_sideToGo 16 = .ok (.iconst 1, 1) := by decide +kernel
theorem dX1_sideToGo_17 : decode cX1_sideToGo 17 = .ok (.iadd, 1) := by decide +kernel
theorem dX1_sideToGo_18 : decode cX1_sideToGo 18 = .ok (.iaload, 1) := by decide +kernel
theorem dX1_sideToGo_19 : decode cX1_sideToGo 19 = .ok (.aload_n 0, 1) := by decide +kernel
theorem dX1_sideToGo_20 : decode cX1_sideToGo 20 = .ok (.getfield 18, 3) := by decide +kernel
theorem dX1_sideToGo_23 : decode cX1_sideToGo 23 = .ok (.iload_n 1, 1) := by decide +kernel
theorem dX1_sideToGo_24 : decode cX1_sideToGo 24 = .ok (.iaload, 1) := by decide +kernel
theorem dX1_sideToGo_25 : decode cX1_sideToGo 25 = .ok (.invokevirtual 65, 3) := by decide +kernel
theorem dX1_sideToGo_28 : decode cX1_sideToGo 28 = .ok (.ifCond .eq 5, 3) := by decide +kernel
theorem dX1_sideToGo_31 : decode cX1_sideToGo 31 = .ok (.iconst 1, 1) := by decide +kernel
theorem dX1_sideToGo_32 : decode cX1_sideToGo 32 = .ok (.ireturn, 1) := by decide +kernel
theorem dX1_sideToGo_33 : decode cX1_sideToGo 33 = .ok (.iload_n 1, 1) := by decide +kernel
theorem dX1_sideToGo_34 : decode cX1_sideToGo 34 = .ok (.ifCond .le 26, 3) := by decide +kernel
theorem dX1_sideToGo_37 : decode cX1_sideToGo 37 = .ok (.aload_n 0, 1) := by decide +kernel
theorem dX1_sideToGo_38 : decode cX1_sideToGo 38 = .ok (.aload_n 0, 1) := by decide +kernel
theorem dX1_sideToGo_39 : decode cX1_sideToGo 39 = .ok (.getfield 18, 3) := by decide +kernel
theorem dX1_sideToGo_42 : decode cX1_sideToGo 42 = .ok (.iload_n 1, 1) := by decide +kernel
theorem dX1_sideToGo_43 : decode cX1_sideToGo 43 = .ok (.iaload, 1) := by decide +kernel
theorem dX1_sideToGo_44 : decode cX1_sideToGo 44 = .ok (.aload_n 0, 1) := by decide +kernel
theorem dX1_sideToGo_45 : decode cX1_sideToGo 45 = .ok (.getfield 18, 3) := by decide +kernel
theorem dX1_sideToGo_48 : decode cX1_sideToGo 48 = .ok (.iload_n 1, 1) := by decide +kernel
theorem dX1_sideToGo_49 : decode cX1_sideToGo 49 = .ok (.iconst 1, 1) := by decide +kernel
theorem dX1_sideToGo_50 : decode cX1_sideToGo 50 = .ok (.isub, 1) := by decide +kernel
theorem dX1_sideToGo_51 : decode cX1_sideToGo 51 = .ok (.iaload, 1) := by decide +kernel
theorem dX1_sideToGo_52 : decode cX1_sideToGo 52 = .ok (.invokevirtual 65, 3) := by decide +kernel
theorem dX1_sideToGo_55 : decode cX1_sideToGo 55 = .ok (.ifCond .eq 5, 3) := by decide +kernel
theorem dX1_sideToGo_58 : decode cX1_sideToGo 58 = .ok (.iconst (-1), 1) := by decide +kernel
theorem dX1_sideToGo_59 : decode cX1_sideToGo 59 = .ok (.ireturn, 1) := by decide +kernel
theorem dX1_sideToGo_60 : decode cX1_sideToGo 60 = .ok (.iconst 0, 1) := by decide +kernel
theorem dX1_sideToGo_61 : decode cX1_sideToGo 61 = .ok (.ireturn, 1) := by decide +kernel
theorem dX1_swapWithNext_0 : decode cX1_swapWithNext 0 = .ok (.aload_n 0, 1) := by decide +kernel
theorem dX1_swapWithNext_1 : decode cX1_swapWithNext 1 = .ok (.getfield 18, 3) := by decide +kernel
theorem dX1_swapWithNext_4 : decode cX1_swapWithNext 4 = .ok (.iload_n 1, 1) := by decide +kernel
theorem dX1_swapWithNext_5 : decode cX1_swapWithNext 5 = .ok (.iaload, 1) := by decide +kernel
theorem dX1_swapWithNext_6 : decode cX1_swapWithNext 6 = .ok (.istore_n 2, 1) := by decide +kernel
theorem dX1_swapWithNext_7 : decode cX1_swapWithNext 7 = .ok (.aload_n 0, 1) := by decide +kernel
theorem dX1_swapWithNext_8 : decode cX1_swapWithNext 8 = .ok (.getfield 18, 3) := by decide +kernel
theorem dX1_swapWithNext_11 : decode cX1_swapWithNext 11 = .ok (.iload_n 1, 1) := by decide +kernel
theorem dX1_swapWithNext_12 : decode cX1_swapWithNext 12 = .ok (.aload_n 0, 1) := by decide +kernel
theorem dX1_swapWithNext_13 : decode cX1_swapWithNext 13 = .ok (.getfield 18, 3) := by decide +kernel
theorem dX1_swapWithNext_16 : decode cX1_swapWithNext 16 = .ok (.iload_n 1, 1) := by decide +kernel
theorem dX1_swapWithNext_17 : decode cX1_swapWithNext 17 = .ok (.iconst 1, 1) := by decide +kernel
theorem dX1_swapWithNext_18 : decode cX1_swapWithNext 18 = .ok (.iadd, 1) := by decide +kernel
theorem dX1_swapWithNext_19 : decode cX1_swapWithNext 19 = .ok (.iaload, 1) := by decide +kernel
theorem dX1_swapWithNext_20 : decode cX1_swapWithNext 20 = .ok (.iastore, 1) := by decide +kernel
theorem dX1_swapWithNext_21 : decode cX1_swapWithNext 21 = .ok (.aload_n 0, 1) := by decide +kernel
theorem dX1_swapWithNext_22 : decode cX1_swapWithNext 22 = .ok (.getfield 18, 3) := by decide +kernel
theorem dX1_swapWithNext_25 : decode cX1_swapWithNext 25 = .ok (.iload_n 1, 1) := by decide +kernel
theorem dX1_swapWithNext_26 : decode cX1_swapWithNext 26 = .ok (.iconst 1, 1) := by decide +kernel
theorem dX1_swapWithNext_27 : decode cX1_swapWithNext 27 = .ok (.iadd, 1) := by decide +kernel
theorem dX1_swapWithNext_28 : decode cX1_swapWithNext 28 = .ok (.iload_n 2, 1) := by decide +kernel
theorem dX1_swapWithNext_29 : decode cX1_swapWithNext 29 = .ok (.iastore, 1) := by decide +kernel
theorem dX1_swapWithNext_30 : decode cX1_swapWithNext 30 = .ok (.return_, 1) := by decide +kernel
theorem dX1_room_0 : decode cX1_room 0 = .ok (.iload_n 2, 1) := by decide +kernel
theorem dX1_room_1 : decode cX1_room 1 = .ok (.ifCond .le 16, 3) := by decide +kernel
theorem dX1_room_4 : decode cX1_room 4 = .ok (.sipush 999, 3) := by decide +kernel
theorem dX1_room_7 : decode cX1_room 7 = .ok (.aload_n 0, 1) := by decide +kernel
theorem dX1_room_8 : decode cX1_room 8 = .ok (.getfield 15, 3) := by decide +kernel
theorem dX1_room_11 : decode cX1_room 11 = .ok (.iload_n 1, 1) := by decide +kernel
theorem dX1_room_12 : decode cX1_room 12 = .ok (.iaload, 1) := by decide +kernel
theorem dX1_room_13 : decode cX1_room 13 = .ok (.isub, 1) := by decide +kernel
theorem dX1_room_14 : decode cX1_room 14 = .ok (.goto 13, 3) := by decide +kernel
theorem dX1_room_17 : decode cX1_room 17 = .ok (.aload_n 0, 1) := by decide +kernel
theorem dX1_room_18 : decode cX1_room 18 = .ok (.getfield 9, 3) := by decide +kernel
theorem dX1_room_21 : decode cX1_room 21 = .ok (.iload_n 1, 1) := by decide +kernel
theorem dX1_room_22 : decode cX1_room 22 = .ok (.iaload, 1) := by decide +kernel
theorem dX1_room_23 : decode cX1_room 23 = .ok (.sipush 999, 3) := by decide +kernel
theorem dX1_room_26 : decode cX1_room 26 = .ok (.iadd, 1) := by decide +kernel
theorem dX1_room_27 : decode cX1_room 27 = .ok (.ireturn, 1) := by decide +kernel
theorem dX1_distanceToTurn_0 : decode cX1_distanceToTurn 0 = .ok (.aload_n 0, 1) := by decide +kernel
theorem dX1_distanceToTurn_1 : decode cX1_distanceToTurn 1 = .ok (.getfield 21, 3) := by decide +kernel
theorem dX1_distanceToTurn_4 : decode cX1_distanceToTurn 4 = .ok (.iload_n 1, 1) := by decide +kernel
theorem dX1_distanceToTurn_5 : decode cX1_distanceToTurn 5 = .ok (.iaload, 1) := by decide +kernel
theorem dX1_distanceToTurn_6 : decode cX1_distanceToTurn 6 = .ok (.iload_n 2, 1) := by decide +kernel
theorem dX1_distanceToTurn_7 : decode cX1_distanceToTurn 7 = .ok (.invokestatic 47, 3) := by decide +kernel
theorem dX1_distanceToTurn_10 : decode cX1_distanceToTurn 10 = .ok (.ifCond .eq 55, 3) := by decide +kernel
theorem dX1_distanceToTurn_13 : decode cX1_distanceToTurn 13 = .ok (.iload_n 3, 1) := by decide +kernel
theorem dX1_distanceToTurn_14 : decode cX1_distanceToTurn 14 = .ok (.ifCond .le 19, 3) := by decide +kernel
theorem dX1_distanceToTurn_17 : decode cX1_distanceToTurn 17 = .ok (.aload_n 0, 1) := by decide +kernel
theorem dX1_distanceToTurn_18 : decode cX1_distanceToTurn 18 = .ok (.getfield 15, 3) := by decide +kernel
theorem dX1_distanceToTurn_21 : decode cX1_distanceToTurn 21 = .ok (.iload_n 2, 1) := by decide +kernel
theorem dX1_distanceToTurn_22 : decode cX1_distanceToTurn 22 = .ok (.iaload, 1) := by decide +kernel
theorem dX1_distanceToTurn_23 : decode cX1_distanceToTurn 23 = .ok (.aload_n 0, 1) := by decide +kernel
theorem dX1_distanceToTurn_24 : decode cX1_distanceToTurn 24 = .ok (.getfield 9, 3) := by decide +kernel
theorem dX1_distanceToTurn_27 : decode cX1_distanceToTurn 27 = .ok (.iload_n 1, 1) := by decide +kernel
theorem dX1_distanceToTurn_28 : decode cX1_distanceToTurn 28 = .ok (.iaload, 1) := by decide +kernel
theorem dX1_distanceToTurn_29 : decode cX1_distanceToTurn 29 = .ok (.isub, 1) := by decide +kernel
theorem dX1_distanceToTurn_30 : decode cX1_distanceToTurn 30 = .ok (.goto 16, 3) := by decide +kernel
theorem dX1_distanceToTurn_33 : decode cX1_distanceToTurn 33 = .ok (.aload_n 0, 1) := by decide +kernel
theorem dX1_distanceToTurn_34 : decode cX1_distanceToTurn 34 = .ok (.getfield 15, 3) := by decide +kernel
theorem dX1_distanceToTurn_37 : decode cX1_distanceToTurn 37 = .ok (.iload_n 1, 1) := by decide +kernel
theorem dX1_distanceToTurn_38 : decode cX1_distanceToTurn 38 = .ok (.iaload, 1) := by decide +kernel
theorem dX1_distanceToTurn_39 : decode cX1_distanceToTurn 39 = .ok (.aload_n 0, 1) := by decide +kernel
theorem dX1_distanceToTurn_40 : decode cX1_distanceToTurn 40 = .ok (.getfield 9, 3) := by decide +kernel
theorem dX1_distanceToTurn_43 : decode cX1_distanceToTurn 43 = .ok (.iload_n 2, 1) := by decide +kernel
theorem dX1_distanceToTurn_44 : decode cX1_distanceToTurn 44 = .ok (.iaload, 1) := by decide +kernel
theorem dX1_distanceToTurn_45 : decode cX1_distanceToTurn 45 = .ok (.isub, 1) := by decide +kernel
theorem dX1_distanceToTurn_46 : decode cX1_distanceToTurn 46 = .ok (.istore 4, 2) := by decide +kernel
theorem dX1_distanceToTurn_48 : decode cX1_distanceToTurn 48 = .ok (.aload_n 0, 1) := by decide +kernel
theorem dX1_distanceToTurn_49 : decode cX1_distanceToTurn 49 = .ok (.getfield 28, 3) := by decide +kernel
theorem dX1_distanceToTurn_52 : decode cX1_distanceToTurn 52 = .ok (.ifCond .eq 10, 3) := by decide +kernel
theorem dX1_distanceToTurn_55 : decode cX1_distanceToTurn 55 = .ok (.iload 4, 2) := by decide +kernel
theorem dX1_distanceToTurn_57 : decode cX1_distanceToTurn 57 = .ok (.iconst 1, 1) := by decide +kernel
theorem dX1_distanceToTurn_58 : decode cX1_distanceToTurn 58 = .ok (.iadd, 1) := by decide +kernel
theorem dX1_distanceToTurn_59 : decode cX1_distanceToTurn 59 = .ok (.goto 5, 3) := by decide +kernel
theorem dX1_distanceToTurn_62 : decode cX1_distanceToTurn 62 = .ok (.iload 4, 2) := by decide +kernel
theorem dX1_distanceToTurn_64 : decode cX1_distanceToTurn 64 = .ok (.ireturn, 1) := by decide +kernel
theorem dX1_distanceToTurn_65 : decode cX1_distanceToTurn 65 = .ok (.iload_n 3, 1) := by decide +kernel
theorem dX1_distanceToTurn_66 : decode cX1_distanceToTurn 66 = .ok (.ifCond .le 19, 3) := by decide +kernel
theorem dX1_distanceToTurn_69 : decode cX1_distanceToTurn 69 = .ok (.aload_n 0, 1) := by decide +kernel
theorem dX1_distanceToTurn_70 : decode cX1_distanceToTurn 70 = .ok (.getfield 9, 3) := by decide +kernel
theorem dX1_distanceToTurn_73 : decode cX1_distanceToTurn 73 = .ok (.iload_n 2, 1) := by decide +kernel
theorem dX1_distanceToTurn_74 : decode cX1_distanceToTurn 74 = .ok (.iaload, 1) := by decide +kernel
theorem dX1_distanceToTurn_75 : decode cX1_distanceToTurn 75 = .ok (.aload_n 0, 1) := by decide +kernel
theorem dX1_distanceToTurn_76 : decode cX1_distanceToTurn 76 = .ok (.getfield 15, 3) := by decide +kernel
theorem dX1_distanceToTurn_79 : decode cX1_distanceToTurn 79 = .ok (.iload_n 1, 1) := by decide +kernel
theorem dX1_distanceToTurn_80 : decode cX1_distanceToTurn 80 = .ok (.iaload, 1) := by decide +kernel
theorem dX1_distanceToTurn_81 : decode cX1_distanceToTurn 81 = .ok (.isub, 1) := by decide +kernel
theorem dX1_distanceToTurn_82 : decode cX1_distanceToTurn 82 = .ok (.goto 16, 3) := by decide +kernel
theorem dX1_distanceToTurn_85 : decode cX1_distanceToTurn 85 = .ok (.aload_n 0, 1) := by decide +kernel
theorem dX1_distanceToTurn_86 : decode cX1_distanceToTurn 86 = .ok (.getfield 9, 3) := by decide +kernel
theorem dX1_distanceToTurn_89 : decode cX1_distanceToTurn 89 = .ok (.iload_n 1, 1) := by decide +kernel
theorem dX1_distanceToTurn_90 : decode cX1_distanceToTurn 90 = .ok (.iaload, 1) := by decide +kernel
theorem dX1_distanceToTurn_91 : decode cX1_distanceToTurn 91 = .ok (.aload_n 0, 1) := by decide +kernel
theorem dX1_distanceToTurn_92 : decode cX1_distanceToTurn 92 = .ok (.getfield 15, 3) := by decide +kernel
theorem dX1_distanceToTurn_95 : decode cX1_distanceToTurn 95 = .ok (.iload_n 2, 1) := by decide +kernel
theorem dX1_distanceToTurn_96 : decode cX1_distanceToTurn 96 = .ok (.iaload, 1) := by decide +kernel
theorem dX1_distanceToTurn_97 : decode cX1_distanceToTurn 97 = .ok (.isub, 1) := by decide +kernel
theorem dX1_distanceToTurn_98 : decode cX1_distanceToTurn 98 = .ok (.istore 4, 2) := by decide +kernel
theorem dX1_distanceToTurn_100 : decode cX1_distanceToTurn 100 = .ok (.aload_n 0, 1) := by decide +kernel
theorem dX1_distanceToTurn_101 : decode cX1_distanceToTurn 101 = .ok (.getfield 28, 3) := by decide +kernel
theorem dX1_distanceToTurn_104 : decode cX1_distanceToTurn 104 = .ok (.ifCond .eq 8, 3) := by decide +kernel
theorem dX1_distanceToTurn_107 : decode cX1_distanceToTurn 107 = .ok (.iload 4, 2) := by decide +kernel
theorem dX1_distanceToTurn_109 : decode cX1_distanceToTurn 109 = .ok (.goto 7, 3) := by decide +kernel
theorem dX1_distanceToTurn_112 : decode cX1_distanceToTurn 112 = .ok (.iload 4, 2) := by decide +kernel
theorem dX1_distanceToTurn_114 : decode cX1_distanceToTurn 114 = .ok (.iconst 1, 1) := by decide +kernel
theorem dX1_distanceToTurn_115 : decode cX1_distanceToTurn 115 = .ok (.iadd, 1) := by decide +kernel
theorem dX1_distanceToTurn_116 : decode cX1_distanceToTurn 116 = .ok (.ireturn, 1) := by decide +kernel
theorem dX2_init_0 : decode cX2_init 0 = .ok (.aload_n 0, 1) := by decide +kernel
theorem dX2_init_1 : decode cX2_init 1 = .ok (.invokespecial 5, 3) := by decide +kernel
theorem dX2_init_4 : decode cX2_init 4 = .ok (.aload_n 0, 1) := by decide +kernel
theorem dX2_init_5 : decode cX2_init 5 = .ok (.bipush 60, 2) := by decide +kernel
theorem dX2_init_7 : decode cX2_init 7 = .ok (.newarray .int, 2) := by decide +kernel
theorem dX2_init_9 : decode cX2_init 9 = .ok (.putfield 11, 3) := by decide +kernel
theorem dX2_init_12 : decode cX2_init 12 = .ok (.aload_n 0, 1) := by decide +kernel
theorem dX2_init_13 : decode cX2_init 13 = .ok (.bipush 24, 2) := by decide +kernel
theorem dX2_init_15 : decode cX2_init 15 = .ok (.newarray .int, 2) := by decide +kernel
theorem dX2_init_17 : decode cX2_init 17 = .ok (.putfield 15, 3) := by decide +kernel
theorem dX2_init_20 : decode cX2_init 20 = .ok (.aload_n 0, 1) := by decide +kernel
theorem dX2_init_21 : decode cX2_init 21 = .ok (.iconst 0, 1) := by decide +kernel
theorem dX2_init_22 : decode cX2_init 22 = .ok (.putfield 18, 3) := by decide +kernel
theorem dX2_init_25 : decode cX2_init 25 = .ok (.aload_n 0, 1) := by decide +kernel
theorem dX2_init_26 : decode cX2_init 26 = .ok (.invokevirtual 22, 3) := by decide +kernel
theorem dX2_init_29 : decode cX2_init 29 = .ok (.return_, 1) := by decide +kernel
theorem dX2_append_0 : decode cX2_append 0 = .ok (.aload_n 0, 1) := by decide +kernel
theorem dX2_append_1 : decode cX2_append 1 = .ok (.getfield 18, 3) := by decide +kernel
theorem dX2_append_4 : decode cX2_append 4 = .ok (.bipush 60, 2) := by decide +kernel
theorem dX2_append_6 : decode cX2_append 6 = .ok (.if_icmp .lt 5, 3) := by decide +kernel
theorem dX2_append_9 : decode cX2_append 9 = .ok (.iconst 0, 1) := by decide +kernel
theorem dX2_append_10 : decode cX2_append 10 = .ok (.ireturn, 1) := by decide +kernel
theorem dX2_append_11 : decode cX2_append 11 = .ok (.aload_n 0, 1) := by decide +kernel
theorem dX2_append_12 : decode cX2_append 12 = .ok (.getfield 11, 3) := by decide +kernel
theorem dX2_append_15 : decode cX2_append 15 = .ok (.aload_n 0, 1) := by decide +kernel
theorem dX2_append_16 : decode cX2_append 16 = .ok (.getfield 18, 3) := by decide +kernel
theorem dX2_append_19 : decode cX2_append 19 = .ok (.iload_n 1, 1) := by decide +kernel
theorem dX2_append_20 : decode cX2_append 20 = .ok (.iastore, 1) := by decide +kernel
theorem dX2_append_21 : decode cX2_append 21 = .ok (.aload_n 0, 1) := by decide +kernel
theorem dX2_append_22 : decode cX2_append 22 = .ok (.dup, 1) := by decide +kernel
theorem dX2_append_23 : decode cX2_append 23 = .ok (.getfield 18, 3) := by decide +kernel
theorem dX2_append_26 : decode cX2_append 26 = .ok (.iconst 1, 1) := by decide +kernel
theorem dX2_append_27 : decode cX2_append 27 = .ok (.iadd, 1) := by decide +kernel
theorem dX2_append_28 : decode cX2_append 28 = .ok (.putfield 18, 3) := by decide +kernel
theorem dX2_append_31 : decode cX2_append 31 = .ok (.iconst 1, 1) := by decide +kernel
theorem dX2_append_32 : decode cX2_append 32 = .ok (.ireturn, 1) := by decide +kernel
