theorem dX2_clear_0 : decode cX2_clear 0 = .ok (.aload_n 0, 1) := by decide +kernel
theorem dX2_clear_1 : decode cX2_clear 1 = .ok (.iconst 0, 1) := by decide +kernel
theorem dX2_clear_2 : decode cX2_clear 2 = .ok (.putfield 18, 3) := by decide +kernel
theorem dX2_clear_5 : decode cX2_clear 5 = .ok (.return_, 1) := by decide +kernel
theorem dX2_firstWrong_0 : decode cX2_firstWrong 0 = .ok (.aload_n 0, 1) := by decide +kernel
theorem dX2_firstWrong_1 : decode cX2_firstWrong 1 = .ok (.invokevirtual 22, 3) := by decide +kernel
theorem dX2_firstWrong_4 : decode cX2_firstWrong 4 = .ok (.iconst 0, 1) := by decide +kernel
theorem dX2_firstWrong_5 : decode cX2_firstWrong 5 = .ok (.istore_n 1, 1) := by decide +kernel
theorem dX2_firstWrong_6 : decode cX2_firstWrong 6 = .ok (.iload_n 1, 1) := by decide +kernel
theorem dX2_firstWrong_7 : decode cX2_firstWrong 7 = .ok (.aload_n 0, 1) := by decide +kernel
theorem dX2_firstWrong_8 : decode cX2_firstWrong 8 = .ok (.getfield 18, 3) := by decide +kernel
theorem dX2_firstWrong_11 : decode cX2_firstWrong 11 = .ok (.if_icmp .ge 24, 3) := by decide +kernel
theorem dX2_firstWrong_14 : decode cX2_firstWrong 14 = .ok (.aload_n 0, 1) := by decide +kernel
theorem dX2_firstWrong_15 : decode cX2_firstWrong 15 = .ok (.aload_n 0, 1) := by decide +kernel
theorem dX2_firstWrong_16 : decode cX2_firstWrong 16 = .ok (.getfield 11, 3) := by decide +kernel
theorem dX2_firstWrong_19 : decode cX2_firstWrong 19 = .ok (.iload_n 1, 1) := by decide +kernel
theorem dX2_firstWrong_20 : decode cX2_firstWrong 20 = .ok (.iaload, 1) := by decide +kernel
theorem dX2_firstWrong_21 : decode cX2_firstWrong 21 = .ok (.invokevirtual 25, 3) := by decide +kernel
theorem dX2_firstWrong_24 : decode cX2_firstWrong 24 = .ok (.ifCond .ne 5, 3) := by decide +kernel
theorem dX2_firstWrong_27 : decode cX2_firstWrong 27 = .ok (.iload_n 1, 1) := by decide +kernel
theorem dX2_firstWrong_28 : decode cX2_firstWrong 28 = .ok (.ireturn, 1) := by decide +kernel
theorem dX2_firstWrong_29 : decode cX2_firstWrong 29 = .ok (.iinc 1 1, 3) := by decide +kernel
theorem dX2_firstWrong_32 : decode cX2_firstWrong 32 = .ok (.goto (-26), 3) := by decide +kernel
theorem dX2_firstWrong_35 : decode cX2_firstWrong 35 = .ok (.aload_n 0, 1) := by decide +kernel
theorem dX2_firstWrong_36 : decode cX2_firstWrong 36 = .ok (.getfield 18, 3) := by decide +kernel
theorem dX2_firstWrong_39 : decode cX2_firstWrong 39 = .ok (.ireturn, 1) := by decide +kernel
theorem dX2_isBatch_0 : decode cX2_isBatch 0 = .ok (.aload_n 0, 1) := by decide +kernel
theorem dX2_isBatch_1 : decode cX2_isBatch 1 = .ok (.invokevirtual 29, 3) := by decide +kernel
theorem dX2_isBatch_4 : decode cX2_isBatch 4 = .ok (.aload_n 0, 1) := by decide +kernel
theorem dX2_isBatch_5 : decode cX2_isBatch 5 = .ok (.getfield 18, 3) := by decide +kernel
theorem dX2_isBatch_8 : decode cX2_isBatch 8 = .ok (.if_icmp .lt 10, 3) := by decide +kernel
theorem dX2_isBatch_11 : decode cX2_isBatch 11 = .ok (.aload_n 0, 1) := by decide +kernel
theorem dX2_isBatch_12 : decode cX2_isBatch 12 = .ok (.getfield 33, 3) := by decide +kernel
theorem dX2_isBatch_15 : decode cX2_isBatch 15 = .ok (.ifCond .ne 5, 3) := by decide +kernel
theorem dX2_isBatch_18 : decode cX2_isBatch 18 = .ok (.iconst 0, 1) := by decide +kernel
theorem dX2_isBatch_19 : decode cX2_isBatch 19 = .ok (.ireturn, 1) := by decide +kernel
theorem dX2_isBatch_20 : decode cX2_isBatch 20 = .ok (.aload_n 0, 1) := by decide +kernel
theorem dX2_isBatch_21 : decode cX2_isBatch 21 = .ok (.invokevirtual 36, 3) := by decide +kernel
theorem dX2_isBatch_24 : decode cX2_isBatch 24 = .ok (.aload_n 0, 1) := by decide +kernel
theorem dX2_isBatch_25 : decode cX2_isBatch 25 = .ok (.getfield 39, 3) := by decide +kernel
theorem dX2_isBatch_28 : decode cX2_isBatch 28 = .ok (.bipush 6, 2) := by decide +kernel
theorem dX2_isBatch_30 : decode cX2_isBatch 30 = .ok (.irem, 1) := by decide +kernel
theorem dX2_isBatch_31 : decode cX2_isBatch 31 = .ok (.ifCond .eq 5, 3) := by decide +kernel
theorem dX2_isBatch_34 : decode cX2_isBatch 34 = .ok (.iconst 0, 1) := by decide +kernel
theorem dX2_isBatch_35 : decode cX2_isBatch 35 = .ok (.ireturn, 1) := by decide +kernel
theorem dX2_isBatch_36 : decode cX2_isBatch 36 = .ok (.iconst 0, 1) := by decide +kernel
theorem dX2_isBatch_37 : decode cX2_isBatch 37 = .ok (.istore_n 1, 1) := by decide +kernel
theorem dX2_isBatch_38 : decode cX2_isBatch 38 = .ok (.iload_n 1, 1) := by decide +kernel
theorem dX2_isBatch_39 : decode cX2_isBatch 39 = .ok (.iconst 1, 1) := by decide +kernel
theorem dX2_isBatch_40 : decode cX2_isBatch 40 = .ok (.iadd, 1) := by decide +kernel
theorem dX2_isBatch_41 : decode cX2_isBatch 41 = .ok (.aload_n 0, 1) := by decide +kernel
theorem dX2_isBatch_42 : decode cX2_isBatch 42 = .ok (.getfield 39, 3) := by decide +kernel
theorem dX2_isBatch_45 : decode cX2_isBatch 45 = .ok (.if_icmp .ge 28, 3) := by decide +kernel
theorem dX2_isBatch_48 : decode cX2_isBatch 48 = .ok (.aload_n 0, 1) := by decide +kernel
theorem dX2_isBatch_49 : decode cX2_isBatch 49 = .ok (.getfield 15, 3) := by decide +kernel
theorem dX2_isBatch_52 : decode cX2_isBatch 52 = .ok (.iload_n 1, 1) := by decide +kernel
theorem dX2_isBatch_53 : decode cX2_isBatch 53 = .ok (.iaload, 1) := by decide +kernel
theorem dX2_isBatch_54 : decode cX2_isBatch 54 = .ok (.aload_n 0, 1) := by decide +kernel
theorem dX2_isBatch_55 : decode cX2_isBatch 55 = .ok (.getfield 15, 3) := by decide +kernel
theorem dX2_isBatch_58 : decode cX2_isBatch 58 = .ok (.iload_n 1, 1) := by decide +kernel
theorem dX2_isBatch_59 : decode cX2_isBatch 59 = .ok (.iconst 1, 1) := by decide +kernel
theorem dX2_isBatch_60 : decode cX2_isBatch 60 = .ok (.iadd, 1) := by decide +kernel
theorem dX2_isBatch_61 : decode cX2_isBatch 61 = .ok (.iaload, 1) := by decide +kernel
theorem dX2_isBatch_62 : decode cX2_isBatch 62 = .ok (.if_icmp .lt 5, 3) := by decide +kernel
theorem dX2_isBatch_65 : decode cX2_isBatch 65 = .ok (.iconst 0, 1) := by decide +kernel
theorem dX2_isBatch_66 : decode cX2_isBatch 66 = .ok (.ireturn, 1) := by decide +kernel
theorem dX2_isBatch_67 : decode cX2_isBatch 67 = .ok (.iinc 1 2, 3) := by decide +kernel
theorem dX2_isBatch_70 : decode cX2_isBatch 70 = .ok (.goto (-32), 3) := by decide +kernel
theorem dX2_isBatch_73 : decode cX2_isBatch 73 = .ok (.iconst 1, 1) := by decide +kernel
theorem dX2_isBatch_74 : decode cX2_isBatch 74 = .ok (.ireturn, 1) := by decide +kernel
theorem dX2_batchSize_0 : decode cX2_batchSize 0 = .ok (.aload_n 0, 1) := by decide +kernel
theorem dX2_batchSize_1 : decode cX2_batchSize 1 = .ok (.getfield 39, 3) := by decide +kernel
theorem dX2_batchSize_4 : decode cX2_batchSize 4 = .ok (.bipush 6, 2) := by decide +kernel
theorem dX2_batchSize_6 : decode cX2_batchSize 6 = .ok (.idiv, 1) := by decide +kernel
theorem dX2_batchSize_7 : decode cX2_batchSize 7 = .ok (.ireturn, 1) := by decide +kernel
theorem dX2_lowOf_0 : decode cX2_lowOf 0 = .ok (.aload_n 0, 1) := by decide +kernel
theorem dX2_lowOf_1 : decode cX2_lowOf 1 = .ok (.getfield 15, 3) := by decide +kernel
theorem dX2_lowOf_4 : decode cX2_lowOf 4 = .ok (.iload_n 1, 1) := by decide +kernel
theorem dX2_lowOf_5 : decode cX2_lowOf 5 = .ok (.bipush 6, 2) := by decide +kernel
theorem dX2_lowOf_7 : decode cX2_lowOf 7 = .ok (.imul, 1) := by decide +kernel
theorem dX2_lowOf_8 : decode cX2_lowOf 8 = .ok (.iconst 2, 1) := by decide +kernel
theorem dX2_lowOf_9 : decode cX2_lowOf 9 = .ok (.iload_n 2, 1) := by decide +kernel
theorem dX2_lowOf_10 : decode cX2_lowOf 10 = .ok (.imul, 1) := by decide +kernel
theorem dX2_lowOf_11 : decode cX2_lowOf 11 = .ok (.iadd, 1) := by decide +kernel
theorem dX2_lowOf_12 : decode cX2_lowOf 12 = .ok (.iaload, 1) := by decide +kernel
theorem dX2_lowOf_13 : decode cX2_lowOf 13 = .ok (.ireturn, 1) := by decide +kernel
theorem dX2_highOf_0 : decode cX2_highOf 0 = .ok (.aload_n 0, 1) := by decide +kernel
theorem dX2_highOf_1 : decode cX2_highOf 1 = .ok (.getfield 15, 3) := by decide +kernel
theorem dX2_highOf_4 : decode cX2_highOf 4 = .ok (.iload_n 1, 1) := by decide +kernel
theorem dX2_highOf_5 : decode cX2_highOf 5 = .ok (.bipush 6, 2) := by decide +kernel
theorem dX2_highOf_7 : decode cX2_highOf 7 = .ok (.imul, 1) := by decide +kernel
theorem dX2_highOf_8 : decode cX2_highOf 8 = .ok (.iconst 2, 1) := by decide +kernel
theorem dX2_highOf_9 : decode cX2_highOf 9 = .ok (.iload_n 2, 1) := by decide +kernel
theorem dX2_highOf_10 : decode cX2_highOf 10 = .ok (.imul, 1) := by decide +kernel
theorem dX2_highOf_11 : decode cX2_highOf 11 = .ok (.iadd, 1) := by decide +kernel
theorem dX2_highOf_12 : decode cX2_highOf 12 = .ok (.iconst 1, 1) := by decide +kernel
theorem dX2_highOf_13 : decode cX2_highOf 13 = .ok (.iadd, 1) := by decide +kernel
theorem dX2_highOf_14 : decode cX2_highOf 14 = .ok (.iaload, 1) := by decide +kernel
theorem dX2_highOf_15 : decode cX2_highOf 15 = .ok (.ireturn, 1) := by decide +kernel
theorem dX2_beginReading_0 : decode cX2_beginReading 0 = .ok (.aload_n 0, 1) := by decide +kernel
theorem dX2_beginReading_1 : decode cX2_beginReading 1 = .ok (.iconst 0, 1) := by decide +kernel
theorem dX2_beginReading_2 : decode cX2_beginReading 2 = .ok (.putfield 39, 3) := by decide +kernel
theorem dX2_beginReading_5 : decode cX2_beginReading 5 = .ok (.aload_n 0, 1) := by decide +kernel
theorem dX2_beginReading_6 : decode cX2_beginReading 6 = .ok (.invokevirtual 42, 3) := by decide +kernel
theorem dX2_beginReading_9 : decode cX2_beginReading 9 = .ok (.return_, 1) := by decide +kernel
theorem dX2_beginNumber_0 : decode cX2_beginNumber 0 = .ok (.aload_n 0, 1) := by decide +kernel
theorem dX2_beginNumber_1 : decode cX2_beginNumber 1 = .ok (.iconst 0, 1) := by decide +kernel
theorem dX2_beginNumber_2 : decode cX2_beginNumber 2 = .ok (.putfield 33, 3) := by decide +kernel
theorem dX2_beginNumber_5 : decode cX2_beginNumber 5 = .ok (.aload_n 0, 1) := by decide +kernel
theorem dX2_beginNumber_6 : decode cX2_beginNumber 6 = .ok (.iconst 0, 1) := by decide +kernel
theorem dX2_beginNumber_7 : decode cX2_beginNumber 7 = .ok (.putfield 45, 3) := by decide +kernel
theorem dX2_beginNumber_10 : decode cX2_beginNumber 10 = .ok (.aload_n 0, 1) := by decide +kernel
theorem dX2_beginNumber_11 : decode cX2_beginNumber 11 = .ok (.iconst 0, 1) := by decide +kernel
theorem dX2_beginNumber_12 : decode cX2_beginNumber 12 = .ok (.putfield 48, 3) := by decide +kernel
theorem dX2_beginNumber_15 : decode cX2_beginNumber 15 = .ok (.return_, 1) := by decide +kernel
theorem dX2_endNumber_0 : decode cX2_endNumber 0 = .ok (.aload_n 0, 1) := by decide +kernel
theorem dX2_endNumber_1 : decode cX2_endNumber 1 = .ok (.getfield 39, 3) := by decide +kernel
theorem dX2_endNumber_4 : decode cX2_endNumber 4 = .ok (.bipush 24, 2) := by decide +kernel
theorem dX2_endNumber_6 : decode cX2_endNumber 6 = .ok (.if_icmp .ge 41, 3) := by decide +kernel
theorem dX2_endNumber_9 : decode cX2_endNumber 9 = .ok (.aload_n 0, 1) := by decide +kernel
theorem dX2_endNumber_10 : decode cX2_endNumber 10 = .ok (.getfield 15, 3) := by decide +kernel
theorem dX2_endNumber_13 : decode cX2_endNumber 13 = .ok (.aload_n 0, 1) := by decide +kernel
theorem dX2_endNumber_14 : decode cX2_endNumber 14 = .ok (.getfield 39, 3) := by decide +kernel
theorem dX2_endNumber_17 : decode cX2_endNumber 17 = .ok (.aload_n 0, 1) := by decide +kernel
theorem dX2_endNumber_18 : decode cX2_endNumber 18 = .ok (.getfield 48, 3) := by decide +kernel
theorem dX2_endNumber_21 : decode cX2_endNumber 21 = .ok (.ifCond .eq 11, 3) := by decide +kernel
theorem dX2_endNumber_24 : decode cX2_endNumber 24 = .ok (.aload_n 0, 1) := by decide +kernel
theorem dX2_endNumber_25 : decode cX2_endNumber 25 = .ok (.getfield 45, 3) := by decide +kernel
theorem dX2_endNumber_28 : decode cX2_endNumber 28 = .ok (.ineg, 1) := by decide +kernel
theorem dX2_endNumber_29 : decode cX2_endNumber 29 = .ok (.goto 7, 3) := by decide +kernel
theorem dX2_endNumber_32 : decode cX2_endNumber 32 = .ok (.aload_n 0, 1) := by decide +kernel
theorem dX2_endNumber_33 : decode cX2_endNumber 33 = .ok (.getfield 45, 3) := by decide +kernel
theorem dX2_endNumber_36 : decode cX2_endNumber 36 = .ok (.iastore, 1) := by decide +kernel
theorem dX2_endNumber_37 : decode cX2_endNumber 37 = .ok (.aload_n 0, 1) := by decide +kernel
theorem dX2_endNumber_38 : decode cX2_endNumber 38 = .ok (.dup, 1) := by decide +kernel
theorem dX2_endNumber_39 : decode cX2_endNumber 39 = .ok (.getfield 39, 3) := by decide +kernel
theorem dX2_endNumber_42 : decode cX2_endNumber 42 = .ok (.iconst 1, 1) := by decide +kernel
theorem dX2_endNumber_43 : decode cX2_endNumber 43 = .ok (.iadd, 1) := by decide +kernel
theorem dX2_endNumber_44 : decode cX2_endNumber 44 = .ok (.putfield 39, 3) := by decide +kernel
theorem dX2_endNumber_47 : decode cX2_endNumber 47 = .ok (.aload_n 0, 1) := by decide +kernel
theorem dX2_endNumber_48 : decode cX2_endNumber 48 = .ok (.invokevirtual 42, 3) := by decide +kernel
theorem dX2_endNumber_51 : decode cX2_endNumber 51 = .ok (.return_, 1) := by decide +kernel
theorem dX2_takes_0 : decode cX2_takes 0 = .ok (.iload_n 1, 1) := by decide +kernel
theorem dX2_takes_1 : decode cX2_takes 1 = .ok (.bipush 45, 2) := by decide +kernel
theorem dX2_takes_3 : decode cX2_takes 3 = .ok (.if_icmp .ne 8, 3) := by decide +kernel
theorem dX2_takes_6 : decode cX2_takes 6 = .ok (.aload_n 0, 1) := by decide +kernel
theorem dX2_takes_7 : decode cX2_takes 7 = .ok (.invokevirtual 52, 3) := by decide +kernel
theorem dX2_takes_10 : decode cX2_takes 10 = .ok (.ireturn, 1) := by decide +kernel
theorem dX2_takes_11 : decode cX2_takes 11 = .ok (.iload_n 1, 1) := by decide +kernel
theorem dX2_takes_12 : decode cX2_takes 12 = .ok (.bipush 48, 2) := by decide +kernel
theorem dX2_takes_14 : decode cX2_takes 14 = .ok (.if_icmp .lt 18, 3) := by decide +kernel
theorem dX2_takes_17 : decode cX2_takes 17 = .ok (.iload_n 1, 1) := by decide +kernel
theorem dX2_takes_18 : decode cX2_takes 18 = .ok (.bipush 57, 2) := by decide +kernel
theorem dX2_takes_20 : decode cX2_takes 20 = .ok (.if_icmp .gt 12, 3) := by decide +kernel
theorem dX2_takes_23 : decode cX2_takes 23 = .ok (.aload_n 0, 1) := by decide +kernel
theorem dX2_takes_24 : decode cX2_takes 24 = .ok (.iload_n 1, 1) := by decide +kernel
theorem dX2_takes_25 : decode cX2_takes 25 = .ok (.bipush 48, 2) := by decide +kernel
theorem dX2_takes_27 : decode cX2_takes 27 = .ok (.isub, 1) := by decide +kernel
theorem dX2_takes_28 : decode cX2_takes 28 = .ok (.invokevirtual 56, 3) := by decide +kernel
theorem dX2_takes_31 : decode cX2_takes 31 = .ok (.ireturn, 1) := by decide +kernel
theorem dX2_takes_32 : decode cX2_takes 32 = .ok (.aload_n 0, 1) := by decide +kernel
theorem dX2_takes_33 : decode cX2_takes 33 = .ok (.iload_n 1, 1) := by decide +kernel
theorem dX2_takes_34 : decode cX2_takes 34 = .ok (.invokevirtual 59, 3) := by decide +kernel
theorem dX2_takes_37 : decode cX2_takes 37 = .ok (.ireturn, 1) := by decide +kernel
theorem dX2_takesMinus_0 : decode cX2_takesMinus 0 = .ok (.aload_n 0, 1) := by decide +kernel
theorem dX2_takesMinus_1 : decode cX2_takesMinus 1 = .ok (.getfield 48, 3) := by decide +kernel
theorem dX2_takesMinus_4 : decode cX2_takesMinus 4 = .ok (.ifCond .ne 10, 3) := by decide +kernel
theorem dX2_takesMinus_7 : decode cX2_takesMinus 7 = .ok (.aload_n 0, 1) := by decide +kernel
theorem dX2_takesMinus_8 : decode cX2_takesMinus 8 = .ok (.getfield 33, 3) := by decide +kernel
theorem dX2_takesMinus_11 : decode cX2_takesMinus 11 = .ok (.ifCond .le 5, 3) := by decide +kernel
theorem dX2_takesMinus_14 : decode cX2_takesMinus 14 = .ok (.iconst 0, 1) := by decide +kernel
theorem dX2_takesMinus_15 : decode cX2_takesMinus 15 = .ok (.ireturn, 1) := by decide +kernel
theorem dX2_takesMinus_16 : decode cX2_takesMinus 16 = .ok (.aload_n 0, 1) := by decide +kernel
theorem dX2_takesMinus_17 : decode cX2_takesMinus 17 = .ok (.iconst 1, 1) := by decide +kernel
theorem dX2_takesMinus_18 : decode cX2_takesMinus 18 = .ok (.putfield 48, 3) := by decide +kernel
theorem dX2_takesMinus_21 : decode cX2_takesMinus 21 = .ok (.iconst 1, 1) := by decide +kernel
theorem dX2_takesMinus_22 : decode cX2_takesMinus 22 = .ok (.ireturn, 1) := by decide +kernel
theorem dX2_takesFigure_0 : decode cX2_takesFigure 0 = .ok (.aload_n 0, 1) := by decide +kernel
theorem dX2_takesFigure_1 : decode cX2_takesFigure 1 = .ok (.getfield 33, 3) := by decide +kernel
theorem dX2_takesFigure_4 : decode cX2_takesFigure 4 = .ok (.ifCond .le 14, 3) := by decide +kernel
theorem dX2_takesFigure_7 : decode cX2_takesFigure 7 = .ok (.aload_n 0, 1) := by decide +kernel
theorem dX2_takesFigure_8 : decode cX2_takesFigure 8 = .ok (.getfield 45, 3) := by decide +kernel
theorem dX2_takesFigure_11 : decode cX2_takesFigure 11 = .ok (.ifCond .ne 7, 3) := by decide +kernel
theorem dX2_takesFigure_14 : decode cX2_takesFigure 14 = .ok (.iconst 1, 1) := by decide +kernel
theorem dX2_takesFigure_15 : decode cX2_takesFigure 15 = .ok (.goto 4, 3) := by decide +kernel
theorem dX2_takesFigure_18 : decode cX2_takesFigure 18 = .ok (.iconst 0, 1) := by decide +kernel
theorem dX2_takesFigure_19 : decode cX2_takesFigure 19 = .ok (.istore_n 2, 1) := by decide +kernel
theorem dX2_takesFigure_20 : decode cX2_takesFigure 20 = .ok (.aload_n 0, 1) := by decide +kernel
theorem dX2_takesFigure_21 : decode cX2_takesFigure 21 = .ok (.getfield 48, 3) := by decide +kernel
theorem dX2_takesFigure_24 : decode cX2_takesFigure 24 = .ok (.ifCond .eq 18, 3) := by decide +kernel
theorem dX2_takesFigure_27 : decode cX2_takesFigure 27 = .ok (.aload_n 0, 1) := by decide +kernel
theorem dX2_takesFigure_28 : decode cX2_takesFigure 28 = .ok (.getfield 33, 3) := by decide +kernel
theorem dX2_takesFigure_31 : decode cX2_takesFigure 31 = .ok (.ifCond .ne 11, 3) := by decide +kernel
theorem dX2_takesFigure_34 : decode cX2_takesFigure 34 = .ok (.iload_n 1, 1) := by decide +kernel
theorem dX2_takesFigure_35 : decode cX2_takesFigure 35 = .ok (.ifCond .ne 7, 3) := by decide +kernel
theorem dX2_takesFigure_38 : decode cX2_takesFigure 38 = .ok (.iconst 1, 1) := by decide +kernel
theorem dX2_takesFigure_39 : decode cX2_takesFigure 39 = .ok (.goto 4, 3) := by decide +kernel
theorem dX2_takesFigure_42 : decode cX2_takesFigure 42 = .ok (.iconst 0, 1) := by decide +kernel
theorem dX2_takesFigure_43 : decode cX2_takesFigure 43 = .ok (.istore_n 3, 1) := by decide +kernel
theorem dX2_takesFigure_44 : decode cX2_takesFigure 44 = .ok (.bipush 10, 2) := by decide +kernel
theorem dX2_takesFigure_46 : decode cX2_takesFigure 46 = .ok (.aload_n 0, 1) := by decide +kernel
theorem dX2_takesFigure_47 : decode cX2_takesFigure 47 = .ok (.getfield 45, 3) := by decide +kernel
theorem dX2_takesFigure_50 : decode cX2_takesFigure 50 = .ok (.imul, 1) := by decide +kernel
theorem dX2_takesFigure_51 : decode cX2_takesFigure 51 = .ok (.iload_n 1, 1) := by decide +kernel
theorem dX2_takesFigure_52 : decode cX2_takesFigure 52 = .ok (.iadd, 1) := by decide +kernel
theorem dX2_takesFigure_53 : decode cX2_takesFigure 53 = .ok (.istore 4, 2) := by decide +kernel
theorem dX2_takesFigure_55 : decode cX2_takesFigure 55 = .ok (.iload_n 2, 1) := by decide +kernel
theorem dX2_takesFigure_56 : decode cX2_takesFigure 56 = .ok (.ifCond .ne 15, 3) := by decide +kernel
theorem dX2_takesFigure_59 : decode cX2_takesFigure 59 = .ok (.iload_n 3, 1) := by decide +kernel
theorem dX2_takesFigure_60 : decode cX2_takesFigure 60 = .ok (.ifCond .ne 11, 3) := by decide +kernel
theorem dX2_takesFigure_63 : decode cX2_takesFigure 63 = .ok (.iload 4, 2) := by decide +kernel
theorem dX2_takesFigure_65 : decode cX2_takesFigure 65 = .ok (.sipush 999, 3) := by decide +kernel
theorem dX2_takesFigure_68 : decode cX2_takesFigure 68 = .ok (.if_icmp .le 5, 3) := by decide +kernel
theorem dX2_takesFigure_71 : decode cX2_takesFigure 71 = .ok (.iconst 0, 1) := by decide +kernel
theorem dX2_takesFigure_72 : decode cX2_takesFigure 72 = .ok (.ireturn, 1) := by decide +kernel
theorem dX2_takesFigure_73 : decode cX2_takesFigure 73 = .ok (.aload_n 0, 1) := by decide +kernel
theorem dX2_takesFigure_74 : decode cX2_takesFigure 74 = .ok (.iload 4, 2) := by decide +kernel
theorem dX2_takesFigure_76 : decode cX2_takesFigure 76 = .ok (.putfield 45, 3) := by decide +kernel
theorem dX2_takesFigure_79 : decode cX2_takesFigure 79 = .ok (.aload_n 0, 1) := by decide +kernel
theorem dX2_takesFigure_80 : decode cX2_takesFigure 80 = .ok (.dup, 1) := by decide +kernel
theorem dX2_takesFigure_81 : decode cX2_takesFigure 81 = .ok (.getfield 33, 3) := by decide +kernel
theorem dX2_takesFigure_84 : decode cX2_takesFigure 84 = .ok (.iconst 1, 1) := by decide +kernel
theorem dX2_takesFigure_85 : decode cX2_takesFigure 85 = .ok (.iadd, 1) := by decide +kernel
theorem dX2_takesFigure_86 : decode cX2_takesFigure 86 = .ok (.putfield 33, 3) := by decide +kernel
theorem dX2_takesFigure_89 : decode cX2_takesFigure 89 = .ok (.iconst 1, 1) := by decide +kernel
theorem dX2_takesFigure_90 : decode cX2_takesFigure 90 = .ok (.ireturn, 1) := by decide +kernel
theorem dX2_takesMark_0 : decode cX2_takesMark 0 = .ok (.aload_n 0, 1) := by decide +kernel
theorem dX2_takesMark_1 : decode cX2_takesMark 1 = .ok (.getfield 33, 3) := by decide +kernel
theorem dX2_takesMark_4 : decode cX2_takesMark 4 = .ok (.ifCond .eq 11, 3) := by decide +kernel
theorem dX2_takesMark_7 : decode cX2_takesMark 7 = .ok (.iload_n 1, 1) := by decide +kernel
theorem dX2_takesMark_8 : decode cX2_takesMark 8 = .ok (.aload_n 0, 1) := by decide +kernel
theorem dX2_takesMark_9 : decode cX2_takesMark 9 = .ok (.invokevirtual 62, 3) := by decide +kernel
theorem dX2_takesMark_12 : decode cX2_takesMark 12 = .ok (.if_icmp .eq 5, 3) := by decide +kernel
theorem dX2_takesMark_15 : decode cX2_takesMark 15 = .ok (.iconst 0, 1) := by decide +kernel
theorem dX2_takesMark_16 : decode cX2_takesMark 16 = .ok (.ireturn, 1) := by decide +kernel
theorem dX2_takesMark_17 : decode cX2_takesMark 17 = .ok (.aload_n 0, 1) := by decide +kernel
theorem dX2_takesMark_18 : decode cX2_takesMark 18 = .ok (.invokevirtual 36, 3) := by decide +kernel
theorem dX2_takesMark_21 : decode cX2_takesMark 21 = .ok (.iconst 1, 1) := by decide +kernel
theorem dX2_takesMark_22 : decode cX2_takesMark 22 = .ok (.ireturn, 1) := by decide +kernel
theorem dX2_markDue_0 : decode cX2_markDue 0 = .ok (.aload_n 0, 1) := by decide +kernel
theorem dX2_markDue_1 : decode cX2_markDue 1 = .ok (.getfield 39, 3) := by decide +kernel
theorem dX2_markDue_4 : decode cX2_markDue 4 = .ok (.iconst 2, 1) := by decide +kernel
theorem dX2_markDue_5 : decode cX2_markDue 5 = .ok (.irem, 1) := by decide +kernel
theorem dX2_markDue_6 : decode cX2_markDue 6 = .ok (.ifCond .ne 6, 3) := by decide +kernel
theorem dX2_markDue_9 : decode cX2_markDue 9 = .ok (.bipush 58, 2) := by decide +kernel
theorem dX2_markDue_11 : decode cX2_markDue 11 = .ok (.ireturn, 1) := by decide +kernel
theorem dX2_markDue_12 : decode cX2_markDue 12 = .ok (.aload_n 0, 1) := by decide +kernel
theorem dX2_markDue_13 : decode cX2_markDue 13 = .ok (.getfield 39, 3) := by decide +kernel
theorem dX2_markDue_16 : decode cX2_markDue 16 = .ok (.iconst 1, 1) := by decide +kernel
theorem dX2_markDue_17 : decode cX2_markDue 17 = .ok (.iadd, 1) := by decide +kernel
theorem dX2_markDue_18 : decode cX2_markDue 18 = .ok (.bipush 6, 2) := by decide +kernel
theorem dX2_markDue_20 : decode cX2_markDue 20 = .ok (.irem, 1) := by decide +kernel
theorem dX2_markDue_21 : decode cX2_markDue 21 = .ok (.ifCond .eq 6, 3) := by decide +kernel
theorem dX2_markDue_24 : decode cX2_markDue 24 = .ok (.bipush 44, 2) := by decide +kernel
theorem dX2_markDue_26 : decode cX2_markDue 26 = .ok (.ireturn, 1) := by decide +kernel
theorem dX2_markDue_27 : decode cX2_markDue 27 = .ok (.aload_n 0, 1) := by decide +kernel
theorem dX2_markDue_28 : decode cX2_markDue 28 = .ok (.getfield 39, 3) := by decide +kernel
theorem dX2_markDue_31 : decode cX2_markDue 31 = .ok (.iconst 1, 1) := by decide +kernel
theorem dX2_markDue_32 : decode cX2_markDue 32 = .ok (.iadd, 1) := by decide +kernel
theorem dX2_markDue_33 : decode cX2_markDue 33 = .ok (.bipush 24, 2) := by decide +kernel
theorem dX2_markDue_35 : decode cX2_markDue 35 = .ok (.if_icmp .ge 8, 3) := by decide +kernel
theorem dX2_markDue_38 : decode cX2_markDue 38 = .ok (.bipush 59, 2) := by decide +kernel
theorem dX2_markDue_40 : decode cX2_markDue 40 = .ok (.goto 4, 3) := by decide +kernel
theorem dX2_markDue_43 : decode cX2_markDue 43 = .ok (.iconst 0, 1) := by decide +kernel
theorem dX2_markDue_44 : decode cX2_markDue 44 = .ok (.ireturn, 1) := by decide +kernel
theorem dX3_init_0 : decode cX3_init 0 = .ok (.aload_n 0, 1) := by decide +kernel
theorem dX3_init_1 : decode cX3_init 1 = .ok (.invokespecial 1, 3) := by decide +kernel
theorem dX3_init_4 : decode cX3_init 4 = .ok (.aload_n 0, 1) := by decide +kernel
theorem dX3_init_5 : decode cX3_init 5 = .ok (.new 7, 3) := by decide +kernel
theorem dX3_init_8 : decode cX3_init 8 = .ok (.dup, 1) := by decide +kernel
theorem dX3_init_9 : decode cX3_init 9 = .ok (.invokespecial 9, 3) := by decide +kernel
theorem dX3_init_12 : decode cX3_init 12 = .ok (.putfield 10, 3) := by decide +kernel
theorem dX3_init_15 : decode cX3_init 15 = .ok (.aload_n 0, 1) := by decide +kernel
theorem dX3_init_16 : decode cX3_init 16 = .ok (.new 16, 3) := by decide +kernel
theorem dX3_init_19 : decode cX3_init 19 = .ok (.dup, 1) := by decide +kernel
theorem dX3_init_20 : decode cX3_init 20 = .ok (.invokespecial 18, 3) := by decide +kernel
theorem dX3_init_23 : decode cX3_init 23 = .ok (.putfield 19, 3) := by decide +kernel
theorem dX3_init_26 : decode cX3_init 26 = .ok (.aload_n 0, 1) := by decide +kernel
theorem dX3_init_27 : decode cX3_init 27 = .ok (.new 16, 3) := by decide +kernel
theorem dX3_init_30 : decode cX3_init 30 = .ok (.dup, 1) := by decide +kernel
theorem dX3_init_31 : decode cX3_init 31 = .ok (.invokespecial 18, 3) := by decide +kernel
theorem dX3_init_34 : decode cX3_init 34 = .ok (.putfield 23, 3) := by decide +kernel
theorem dX3_init_37 : decode cX3_init 37 = .ok (.aload_n 0, 1) := by decide +kernel
theorem dX3_init_38 : decode cX3_init 38 = .ok (.new 16, 3) := by decide +kernel
theorem dX3_init_41 : decode cX3_init 41 = .ok (.dup, 1) := by decide +kernel
theorem dX3_init_42 : decode cX3_init 42 = .ok (.invokespecial 18, 3) := by decide +kernel
theorem dX3_init_45 : decode cX3_init 45 = .ok (.putfield 26, 3) := by decide +kernel
theorem dX3_init_48 : decode cX3_init 48 = .ok (.aload_n 0, 1) := by decide +kernel
theorem dX3_init_49 : decode cX3_init 49 = .ok (.new 29, 3) := by decide +kernel
theorem dX3_init_52 : decode cX3_init 52 = .ok (.dup, 1) := by decide +kernel
theorem dX3_init_53 : decode cX3_init 53 = .ok (.invokespecial 31, 3) := by decide +kernel
theorem dX3_init_56 : decode cX3_init 56 = .ok (.putfield 32, 3) := by decide +kernel
theorem dX3_init_59 : decode cX3_init 59 = .ok (.aload_n 0, 1) := by decide +kernel
theorem dX3_init_60 : decode cX3_init 60 = .ok (.bipush 12, 2) := by decide +kernel
theorem dX3_init_62 : decode cX3_init 62 = .ok (.newarray .int, 2) := by decide +kernel
theorem dX3_init_64 : decode cX3_init 64 = .ok (.putfield 36, 3) := by decide +kernel
theorem dX3_init_67 : decode cX3_init 67 = .ok (.aload_n 0, 1) := by decide +kernel
theorem dX3_init_68 : decode cX3_init 68 = .ok (.iconst 0, 1) := by decide +kernel
theorem dX3_init_69 : decode cX3_init 69 = .ok (.putfield 40, 3) := by decide +kernel
theorem dX3_init_72 : decode cX3_init 72 = .ok (.aload_n 0, 1) := by decide +kernel
theorem dX3_init_73 : decode cX3_init 73 = .ok (.iconst 0, 1) := by decide +kernel
theorem dX3_init_74 : decode cX3_init 74 = .ok (.putfield 44, 3) := by decide +kernel
theorem dX3_init_77 : decode cX3_init 77 = .ok (.return_, 1) := by decide +kernel
theorem dX3_letter_0 : decode cX3_letter 0 = .ok (.iload_n 1, 1) := by decide +kernel
theorem dX3_letter_1 : decode cX3_letter 1 = .ok (.bipush 32, 2) := by decide +kernel
theorem dX3_letter_3 : decode cX3_letter 3 = .ok (.if_icmp .lt 9, 3) := by decide +kernel
theorem dX3_letter_6 : decode cX3_letter 6 = .ok (.iload_n 1, 1) := by decide +kernel
theorem dX3_letter_7 : decode cX3_letter 7 = .ok (.bipush 126, 2) := by decide +kernel
theorem dX3_letter_9 : decode cX3_letter 9 = .ok (.if_icmp .le 7, 3) := by decide +kernel
theorem dX3_letter_12 : decode cX3_letter 12 = .ok (.sipush (-10003), 3) := by decide +kernel
theorem dX3_letter_15 : decode cX3_letter 15 = .ok (.ireturn, 1) := by decide +kernel
theorem dX3_letter_16 : decode cX3_letter 16 = .ok (.aload_n 0, 1) := by decide +kernel
theorem dX3_letter_17 : decode cX3_letter 17 = .ok (.getfield 10, 3) := by decide +kernel
theorem dX3_letter_20 : decode cX3_letter 20 = .ok (.iload_n 1, 1) := by decide +kernel
theorem dX3_letter_21 : decode cX3_letter 21 = .ok (.invokevirtual 48, 3) := by decide +kernel
theorem dX3_letter_24 : decode cX3_letter 24 = .ok (.ifCond .ne 7, 3) := by decide +kernel
theorem dX3_letter_27 : decode cX3_letter 27 = .ok (.sipush (-10005), 3) := by decide +kernel
theorem dX3_letter_30 : decode cX3_letter 30 = .ok (.ireturn, 1) := by decide +kernel
theorem dX3_letter_31 : decode cX3_letter 31 = .ok (.aload_n 0, 1) := by decide +kernel
theorem dX3_letter_32 : decode cX3_letter 32 = .ok (.getfield 10, 3) := by decide +kernel
theorem dX3_letter_35 : decode cX3_letter 35 = .ok (.getfield 52, 3) := by decide +kernel
theorem dX3_letter_38 : decode cX3_letter 38 = .ok (.ireturn, 1) := by decide +kernel
theorem dX3_blank_0 : decode cX3_blank 0 = .ok (.aload_n 0, 1) := by decide +kernel
theorem dX3_blank_1 : decode cX3_blank 1 = .ok (.getfield 10, 3) := by decide +kernel
theorem dX3_blank_4 : decode cX3_blank 4 = .ok (.getfield 52, 3) := by decide +kernel
theorem dX3_blank_7 : decode cX3_blank 7 = .ok (.istore_n 1, 1) := by decide +kernel
theorem dX3_blank_8 : decode cX3_blank 8 = .ok (.aload_n 0, 1) := by decide +kernel
theorem dX3_blank_9 : decode cX3_blank 9 = .ok (.getfield 10, 3) := by decide +kernel
theorem dX3_blank_12 : decode cX3_blank 12 = .ok (.invokevirtual 55, 3) := by decide +kernel
theorem dX3_blank_15 : decode cX3_blank 15 = .ok (.iload_n 1, 1) := by decide +kernel
theorem dX3_blank_16 : decode cX3_blank 16 = .ok (.ireturn, 1) := by decide +kernel
theorem dX3_fault_0 : decode cX3_fault 0 = .ok (.aload_n 0, 1) := by decide +kernel
theorem dX3_fault_1 : decode cX3_fault 1 = .ok (.getfield 10, 3) := by decide +kernel
theorem dX3_fault_4 : decode cX3_fault 4 = .ok (.invokevirtual 58, 3) := by decide +kernel
theorem dX3_fault_7 : decode cX3_fault 7 = .ok (.ireturn, 1) := by decide +kernel
theorem dX3_boxes_0 : decode cX3_boxes 0 = .ok (.aload_n 0, 1) := by decide +kernel
theorem dX3_boxes_1 : decode cX3_boxes 1 = .ok (.getfield 10, 3) := by decide +kernel
theorem dX3_boxes_4 : decode cX3_boxes 4 = .ok (.invokevirtual 62, 3) := by decide +kernel
theorem dX3_boxes_7 : decode cX3_boxes 7 = .ok (.ifCond .ne 7, 3) := by decide +kernel
theorem dX3_boxes_10 : decode cX3_boxes 10 = .ok (.sipush (-10004), 3) := by decide +kernel
theorem dX3_boxes_13 : decode cX3_boxes 13 = .ok (.ireturn, 1) := by decide +kernel
theorem dX3_boxes_14 : decode cX3_boxes 14 = .ok (.aload_n 0, 1) := by decide +kernel
theorem dX3_boxes_15 : decode cX3_boxes 15 = .ok (.getfield 10, 3) := by decide +kernel
theorem dX3_boxes_18 : decode cX3_boxes 18 = .ok (.invokevirtual 66, 3) := by decide +kernel
theorem dX3_boxes_21 : decode cX3_boxes 21 = .ok (.istore_n 1, 1) := by decide +kernel
theorem dX3_boxes_22 : decode cX3_boxes 22 = .ok (.aload_n 0, 1) := by decide +kernel
theorem dX3_boxes_23 : decode cX3_boxes 23 = .ok (.getfield 40, 3) := by decide +kernel
theorem dX3_boxes_26 : decode cX3_boxes 26 = .ok (.invokestatic 69, 3) := by decide +kernel
theorem dX3_boxes_29 : decode cX3_boxes 29 = .ok (.iload_n 1, 1) := by decide +kernel
theorem dX3_boxes_30 : decode cX3_boxes 30 = .ok (.iadd, 1) := by decide +kernel
theorem dX3_boxes_31 : decode cX3_boxes 31 = .ok (.bipush 12, 2) := by decide +kernel
theorem dX3_boxes_33 : decode cX3_boxes 33 = .ok (.if_icmp .le 7, 3) := by decide +kernel
theorem dX3_boxes_36 : decode cX3_boxes 36 = .ok (.sipush (-10005), 3) := by decide +kernel
theorem dX3_boxes_39 : decode cX3_boxes 39 = .ok (.ireturn, 1) := by decide +kernel
theorem dX3_boxes_40 : decode cX3_boxes 40 = .ok (.aload_n 0, 1) := by decide +kernel
theorem dX3_boxes_41 : decode cX3_boxes 41 = .ok (.getfield 32, 3) := by decide +kernel
theorem dX3_boxes_44 : decode cX3_boxes 44 = .ok (.invokevirtual 75, 3) := by decide +kernel
theorem dX3_boxes_47 : decode cX3_boxes 47 = .ok (.iconst 0, 1) := by decide +kernel
theorem dX3_boxes_48 : decode cX3_boxes 48 = .ok (.istore_n 2, 1) := by decide +kernel
theorem dX3_boxes_49 : decode cX3_boxes 49 = .ok (.iconst 0, 1) := by decide +kernel
theorem dX3_boxes_50 : decode cX3_boxes 50 = .ok (.istore_n 3, 1) := by decide +kernel
theorem dX3_boxes_51 : decode cX3_boxes 51 = .ok (.iload_n 3, 1) := by decide +kernel
theorem dX3_boxes_52 : decode cX3_boxes 52 = .ok (.bipush 12, 2) := by decide +kernel
theorem dX3_boxes_54 : decode cX3_boxes 54 = .ok (.if_icmp .ge 31, 3) := by decide +kernel
theorem dX3_boxes_57 : decode cX3_boxes 57 = .ok (.iload_n 2, 1) := by decide +kernel
theorem dX3_boxes_58 : decode cX3_boxes 58 = .ok (.iload_n 1, 1) := by decide +kernel
theorem dX3_boxes_59 : decode cX3_boxes 59 = .ok (.if_icmp .ge 26, 3) := by decide +kernel
theorem dX3_boxes_62 : decode cX3_boxes 62 = .ok (.aload_n 0, 1) := by decide +kernel
theorem dX3_boxes_63 : decode cX3_boxes 63 = .ok (.iload_n 3, 1) := by decide +kernel
theorem dX3_boxes_64 : decode cX3_boxes 64 = .ok (.invokevirtual 78, 3) := by decide +kernel
theorem dX3_boxes_67 : decode cX3_boxes 67 = .ok (.ifCond .ne 12, 3) := by decide +kernel
theorem dX3_boxes_70 : decode cX3_boxes 70 = .ok (.aload_n 0, 1) := by decide +kernel
theorem dX3_boxes_71 : decode cX3_boxes 71 = .ok (.iload_n 3, 1) := by decide +kernel
theorem dX3_boxes_72 : decode cX3_boxes 72 = .ok (.iload_n 2, 1) := by decide +kernel
theorem dX3_boxes_73 : decode cX3_boxes 73 = .ok (.invokevirtual 81, 3) := by decide +kernel
theorem dX3_boxes_76 : decode cX3_boxes 76 = .ok (.iinc 2 1, 3) := by decide +kernel
theorem dX3_boxes_79 : decode cX3_boxes 79 = .ok (.iinc 3 1, 3) := by decide +kernel
theorem dX3_boxes_82 : decode cX3_boxes 82 = .ok (.goto (-31), 3) := by decide +kernel
theorem dX3_boxes_85 : decode cX3_boxes 85 = .ok (.aload_n 0, 1) := by decide +kernel
theorem dX3_boxes_86 : decode cX3_boxes 86 = .ok (.getfield 10, 3) := by decide +kernel
theorem dX3_boxes_89 : decode cX3_boxes 89 = .ok (.invokevirtual 55, 3) := by decide +kernel
theorem dX3_boxes_92 : decode cX3_boxes 92 = .ok (.aload_n 0, 1) := by decide +kernel
theorem dX3_boxes_93 : decode cX3_boxes 93 = .ok (.invokevirtual 85, 3) := by decide +kernel
theorem dX3_boxes_96 : decode cX3_boxes 96 = .ok (.iload_n 1, 1) := by decide +kernel
theorem dX3_boxes_97 : decode cX3_boxes 97 = .ok (.ireturn, 1) := by decide +kernel
theorem dX3_remove_0 : decode cX3_remove 0 = .ok (.iload_n 1, 1) := by decide +kernel
theorem dX3_remove_1 : decode cX3_remove 1 = .ok (.ifCond .eq 14, 3) := by decide +kernel
theorem dX3_remove_4 : decode cX3_remove 4 = .ok (.iload_n 1, 1) := by decide +kernel
theorem dX3_remove_5 : decode cX3_remove 5 = .ok (.aload_n 0, 1) := by decide +kernel
theorem dX3_remove_6 : decode cX3_remove 6 = .ok (.getfield 40, 3) := by decide +kernel
theorem dX3_remove_9 : decode cX3_remove 9 = .ok (.iconst (-1), 1) := by decide +kernel
theorem dX3_remove_10 : decode cX3_remove 10 = .ok (.ixor, 1) := by decide +kernel
theorem dX3_remove_11 : decode cX3_remove 11 = .ok (.iand, 1) := by decide +kernel
theorem dX3_remove_12 : decode cX3_remove 12 = .ok (.ifCond .eq 7, 3) := by decide +kernel
theorem dX3_remove_15 : decode cX3_remove 15 = .ok (.sipush (-10003), 3) := by decide +kernel
theorem dX3_remove_18 : decode cX3_remove 18 = .ok (.ireturn, 1) := by decide +kernel
theorem dX3_remove_19 : decode cX3_remove 19 = .ok (.aload_n 0, 1) := by decide +kernel
theorem dX3_remove_20 : decode cX3_remove 20 = .ok (.getfield 32, 3) := by decide +kernel
theorem dX3_remove_23 : decode cX3_remove 23 = .ok (.invokevirtual 75, 3) := by decide +kernel
theorem dX3_remove_26 : decode cX3_remove 26 = .ok (.aload_n 0, 1) := by decide +kernel
theorem dX3_remove_27 : decode cX3_remove 27 = .ok (.dup, 1) := by decide +kernel
theorem dX3_remove_28 : decode cX3_remove 28 = .ok (.getfield 40, 3) := by decide +kernel
theorem dX3_remove_31 : decode cX3_remove 31 = .ok (.iload_n 1, 1) := by decide +kernel
theorem dX3_remove_32 : decode cX3_remove 32 = .ok (.iconst (-1), 1) := by decide +kernel
theorem dX3_remove_33 : decode cX3_remove 33 = .ok (.ixor, 1) := by decide +kernel
theorem dX3_remove_34 : decode cX3_remove 34 = .ok (.iand, 1) := by decide +kernel
theorem dX3_remove_35 : decode cX3_remove 35 = .ok (.putfield 40, 3) := by decide +kernel
theorem dX3_remove_38 : decode cX3_remove 38 = .ok (.aload_n 0, 1) := by decide +kernel
theorem dX3_remove_39 : decode cX3_remove 39 = .ok (.invokevirtual 85, 3) := by decide +kernel
theorem dX3_remove_42 : decode cX3_remove 42 = .ok (.iload_n 1, 1) := by decide +kernel
theorem dX3_remove_43 : decode cX3_remove 43 = .ok (.invokestatic 69, 3) := by decide +kernel
theorem dX3_remove_46 : decode cX3_remove 46 = .ok (.ireturn, 1) := by decide +kernel
theorem dX3_move_0 : decode cX3_move 0 = .ok (.aload_n 0, 1) := by decide +kernel
theorem dX3_move_1 : decode cX3_move 1 = .ok (.iload_n 1, 1) := by decide +kernel
theorem dX3_move_2 : decode cX3_move 2 = .ok (.invokevirtual 78, 3) := by decide +kernel
theorem dX3_move_5 : decode cX3_move 5 = .ok (.ifCond .ne 7, 3) := by decide +kernel
theorem dX3_move_8 : decode cX3_move 8 = .ok (.sipush (-10002), 3) := by decide +kernel
theorem dX3_move_11 : decode cX3_move 11 = .ok (.ireturn, 1) := by decide +kernel
theorem dX3_move_12 : decode cX3_move 12 = .ok (.aload_n 0, 1) := by decide +kernel
theorem dX3_move_13 : decode cX3_move 13 = .ok (.getfield 19, 3) := by decide +kernel
theorem dX3_move_16 : decode cX3_move 16 = .ok (.iload_n 1, 1) := by decide +kernel
theorem dX3_move_17 : decode cX3_move 17 = .ok (.iload_n 2, 1) := by decide +kernel
theorem dX3_move_18 : decode cX3_move 18 = .ok (.invokevirtual 88, 3) := by decide +kernel
theorem dX3_move_21 : decode cX3_move 21 = .ok (.ifCond .eq 28, 3) := by decide +kernel
theorem dX3_move_24 : decode cX3_move 24 = .ok (.aload_n 0, 1) := by decide +kernel
theorem dX3_move_25 : decode cX3_move 25 = .ok (.getfield 23, 3) := by decide +kernel
theorem dX3_move_28 : decode cX3_move 28 = .ok (.iload_n 1, 1) := by decide +kernel
theorem dX3_move_29 : decode cX3_move 29 = .ok (.iload_n 3, 1) := by decide +kernel
theorem dX3_move_30 : decode cX3_move 30 = .ok (.invokevirtual 88, 3) := by decide +kernel
theorem dX3_move_33 : decode cX3_move 33 = .ok (.ifCond .eq 16, 3) := by decide +kernel
theorem dX3_move_36 : decode cX3_move 36 = .ok (.aload_n 0, 1) := by decide +kernel
theorem dX3_move_37 : decode cX3_move 37 = .ok (.getfield 26, 3) := by decide +kernel
theorem dX3_move_40 : decode cX3_move 40 = .ok (.iload_n 1, 1) := by decide +kernel
theorem dX3_move_41 : decode cX3_move 41 = .ok (.iload 4, 2) := by decide +kernel
theorem dX3_move_43 : decode cX3_move 43 = .ok (.invokevirtual 88, 3) := by decide +kernel
theorem dX3_move_46 : decode cX3_move 46 = .ok (.ifCond .ne 7, 3) := by decide +kernel
theorem dX3_move_49 : decode cX3_move 49 = .ok (.sipush (-10003), 3) := by decide +kernel
theorem dX3_move_52 : decode cX3_move 52 = .ok (.ireturn, 1) := by decide +kernel
theorem dX3_move_53 : decode cX3_move 53 = .ok (.aload_n 0, 1) := by decide +kernel
theorem dX3_move_54 : decode cX3_move 54 = .ok (.getfield 32, 3) := by decide +kernel
theorem dX3_move_57 : decode cX3_move 57 = .ok (.invokevirtual 75, 3) := by decide +kernel
theorem dX3_move_60 : decode cX3_move 60 = .ok (.aload_n 0, 1) := by decide +kernel
theorem dX3_move_61 : decode cX3_move 61 = .ok (.iconst 0, 1) := by decide +kernel
theorem dX3_move_62 : decode cX3_move 62 = .ok (.iload_n 1, 1) := by decide +kernel
theorem dX3_move_63 : decode cX3_move 63 = .ok (.aload_n 0, 1) := by decide +kernel
theorem dX3_move_64 : decode cX3_move 64 = .ok (.getfield 19, 3) := by decide +kernel
theorem dX3_move_67 : decode cX3_move 67 = .ok (.getfield 92, 3) := by decide +kernel
theorem dX3_move_70 : decode cX3_move 70 = .ok (.iload_n 1, 1) := by decide +kernel
theorem dX3_move_71 : decode cX3_move 71 = .ok (.iaload, 1) := by decide +kernel
theorem dX3_move_72 : decode cX3_move 72 = .ok (.iload_n 2, 1) := by decide +kernel
theorem dX3_move_73 : decode cX3_move 73 = .ok (.iadd, 1) := by decide +kernel
theorem dX3_move_74 : decode cX3_move 74 = .ok (.aload_n 0, 1) := by decide +kernel
theorem dX3_move_75 : decode cX3_move 75 = .ok (.getfield 19, 3) := by decide +kernel
theorem dX3_move_78 : decode cX3_move 78 = .ok (.getfield 95, 3) := by decide +kernel
theorem dX3_move_81 : decode cX3_move 81 = .ok (.iload_n 1, 1) := by decide +kernel
theorem dX3_move_82 : decode cX3_move 82 = .ok (.iaload, 1) := by decide +kernel
theorem dX3_move_83 : decode cX3_move 83 = .ok (.iload_n 2, 1) := by decide +kernel
theorem dX3_move_84 : decode cX3_move 84 = .ok (.iadd, 1) := by decide +kernel
theorem dX3_move_85 : decode cX3_move 85 = .ok (.invokevirtual 98, 3) := by decide +kernel
theorem dX3_move_88 : decode cX3_move 88 = .ok (.aload_n 0, 1) := by decide +kernel
theorem dX3_move_89 : decode cX3_move 89 = .ok (.iconst 1, 1) := by decide +kernel
theorem dX3_move_90 : decode cX3_move 90 = .ok (.iload_n 1, 1) := by decide +kernel
theorem dX3_move_91 : decode cX3_move 91 = .ok (.aload_n 0, 1) := by decide +kernel
theorem dX3_move_92 : decode cX3_move 92 = .ok (.getfield 23, 3) := by decide +kernel
theorem dX3_move_95 : decode cX3_move 95 = .ok (.getfield 92, 3) := by decide +kernel
theorem dX3_move_98 : decode cX3_move 98 = .ok (.iload_n 1, 1) := by decide +kernel
theorem dX3_move_99 : decode cX3_move 99 = .ok (.iaload, 1) := by decide +kernel
theorem dX3_move_100 : decode cX3_move 100 = .ok (.iload_n 3, 1) := by decide +kernel
theorem dX3_move_101 : decode cX3_move 101 = .ok (.iadd, 1) := by decide +kernel
theorem dX3_move_102 : decode cX3_move 102 = .ok (.aload_n 0, 1) := by decide +kernel
theorem dX3_move_103 : decode cX3_move 103 = .ok (.getfield 23, 3) := by decide +kernel
theorem dX3_move_106 : decode cX3_move 106 = .ok (.getfield 95, 3) := by decide +kernel
theorem dX3_move_109 : decode cX3_move 109 = .ok (.iload_n 1, 1) := by decide +kernel
theorem dX3_move_110 : decode cX3_move 110 = .ok (.iaload, 1) := by decide +kernel
theorem dX3_move_111 : decode cX3_move 111 = .ok (.iload_n 3, 1) := by decide +kernel
theorem dX3_move_112 : decode cX3_move 112 = .ok (.iadd, 1) := by decide +kernel
theorem dX3_move_113 : decode cX3_move 113 = .ok (.invokevirtual 98, 3) := by decide +kernel
theorem dX3_move_116 : decode cX3_move 116 = .ok (.aload_n 0, 1) := by decide +kernel
theorem dX3_move_117 : decode cX3_move 117 = .ok (.iconst 2, 1) := by decide +kernel
theorem dX3_move_118 : decode cX3_move 118 = .ok (.iload_n 1, 1) := by decide +kernel
theorem dX3_move_119 : decode cX3_move 119 = .ok (.aload_n 0, 1) := by decide +kernel
theorem dX3_move_120 : decode cX3_move 120 = .ok (.getfield 26, 3) := by decide +kernel
theorem dX3_move_123 : decode cX3_move 123 = .ok (.getfield 92, 3) := by decide +kernel
theorem dX3_move_126 : decode cX3_move 126 = .ok (.iload_n 1, 1) := by decide +kernel
theorem dX3_move_127 : decode cX3_move 127 = .ok (.iaload, 1) := by decide +kernel
theorem dX3_move_128 : decode cX3_move 128 = .ok (.iload 4, 2) := by decide +kernel
theorem dX3_move_130 : decode cX3_move 130 = .ok (.iadd, 1) := by decide +kernel
theorem dX3_move_131 : decode cX3_move 131 = .ok (.aload_n 0, 1) := by decide +kernel
theorem dX3_move_132 : decode cX3_move 132 = .ok (.getfield 26, 3) := by decide +kernel
theorem dX3_move_135 : decode cX3_move 135 = .ok (.getfield 95, 3) := by decide +kernel
theorem dX3_move_138 : decode cX3_move 138 = .ok (.iload_n 1, 1) := by decide +kernel
theorem dX3_move_139 : decode cX3_move 139 = .ok (.iaload, 1) := by decide +kernel
theorem dX3_move_140 : decode cX3_move 140 = .ok (.iload 4, 2) := by decide +kernel
theorem dX3_move_142 : decode cX3_move 142 = .ok (.iadd, 1) := by decide +kernel
theorem dX3_move_143 : decode cX3_move 143 = .ok (.invokevirtual 98, 3) := by decide +kernel
theorem dX3_move_146 : decode cX3_move 146 = .ok (.aload_n 0, 1) := by decide +kernel
theorem dX3_move_147 : decode cX3_move 147 = .ok (.invokevirtual 102, 3) := by decide +kernel
theorem dX3_move_150 : decode cX3_move 150 = .ok (.aload_n 0, 1) := by decide +kernel
theorem dX3_move_151 : decode cX3_move 151 = .ok (.getfield 32, 3) := by decide +kernel
theorem dX3_move_154 : decode cX3_move 154 = .ok (.invokevirtual 105, 3) := by decide +kernel
theorem dX3_move_157 : decode cX3_move 157 = .ok (.ireturn, 1) := by decide +kernel
theorem dX3_lay_0 : decode cX3_lay 0 = .ok (.aload_n 0, 1) := by decide +kernel
theorem dX3_lay_1 : decode cX3_lay 1 = .ok (.iload_n 1, 1) := by decide +kernel
theorem dX3_lay_2 : decode cX3_lay 2 = .ok (.invokevirtual 78, 3) := by decide +kernel
theorem dX3_lay_5 : decode cX3_lay 5 = .ok (.ifCond .eq 10, 3) := by decide +kernel
theorem dX3_lay_8 : decode cX3_lay 8 = .ok (.iload_n 2, 1) := by decide +kernel
theorem dX3_lay_9 : decode cX3_lay 9 = .ok (.invokestatic 108, 3) := by decide +kernel
theorem dX3_lay_12 : decode cX3_lay 12 = .ok (.ifCond .ne 7, 3) := by decide +kernel
theorem dX3_lay_15 : decode cX3_lay 15 = .ok (.sipush (-10002), 3) := by decide +kernel
theorem dX3_lay_18 : decode cX3_lay 18 = .ok (.ireturn, 1) := by decide +kernel
theorem dX3_lay_19 : decode cX3_lay 19 = .ok (.iload_n 3, 1) := by decide +kernel
theorem dX3_lay_20 : decode cX3_lay 20 = .ok (.iload 4, 2) := by decide +kernel
theorem dX3_lay_22 : decode cX3_lay 22 = .ok (.invokestatic 111, 3) := by decide +kernel
theorem dX3_lay_25 : decode cX3_lay 25 = .ok (.ifCond .ne 7, 3) := by decide +kernel
theorem dX3_lay_28 : decode cX3_lay 28 = .ok (.sipush (-10003), 3) := by decide +kernel
theorem dX3_lay_31 : decode cX3_lay 31 = .ok (.ireturn, 1) := by decide +kernel
theorem dX3_lay_32 : decode cX3_lay 32 = .ok (.aload_n 0, 1) := by decide +kernel
theorem dX3_lay_33 : decode cX3_lay 33 = .ok (.getfield 32, 3) := by decide +kernel
theorem dX3_lay_36 : decode cX3_lay 36 = .ok (.invokevirtual 75, 3) := by decide +kernel
theorem dX3_lay_39 : decode cX3_lay 39 = .ok (.aload_n 0, 1) := by decide +kernel
theorem dX3_lay_40 : decode cX3_lay 40 = .ok (.iload_n 2, 1) := by decide +kernel
theorem dX3_lay_41 : decode cX3_lay 41 = .ok (.iload_n 1, 1) := by decide +kernel
theorem dX3_lay_42 : decode cX3_lay 42 = .ok (.iload_n 3, 1) := by decide +kernel
theorem dX3_lay_43 : decode cX3_lay 43 = .ok (.iload 4, 2) := by decide +kernel
theorem dX3_lay_45 : decode cX3_lay 45 = .ok (.invokevirtual 98, 3) := by decide +kernel
theorem dX3_lay_48 : decode cX3_lay 48 = .ok (.aload_n 0, 1) := by decide +kernel
theorem dX3_lay_49 : decode cX3_lay 49 = .ok (.invokevirtual 102, 3) := by decide +kernel
theorem dX3_lay_52 : decode cX3_lay 52 = .ok (.aload_n 0, 1) := by decide +kernel
theorem dX3_lay_53 : decode cX3_lay 53 = .ok (.getfield 32, 3) := by decide +kernel
theorem dX3_lay_56 : decode cX3_lay 56 = .ok (.invokevirtual 105, 3) := by decide +kernel
theorem dX3_lay_59 : decode cX3_lay 59 = .ok (.ireturn, 1) := by decide +kernel
theorem dX3_touch_0 : decode cX3_touch 0 = .ok (.aload_n 0, 1) := by decide +kernel
theorem dX3_touch_1 : decode cX3_touch 1 = .ok (.getfield 44, 3) := by decide +kernel
theorem dX3_touch_4 : decode cX3_touch 4 = .ok (.ifCond .eq 7, 3) := by decide +kernel
theorem dX3_touch_7 : decode cX3_touch 7 = .ok (.iconst 1, 1) := by decide +kernel
theorem dX3_touch_8 : decode cX3_touch 8 = .ok (.goto 4, 3) := by decide +kernel
theorem dX3_touch_11 : decode cX3_touch 11 = .ok (.iconst 0, 1) := by decide +kernel
theorem dX3_touch_12 : decode cX3_touch 12 = .ok (.istore_n 2, 1) := by decide +kernel
theorem dX3_touch_13 : decode cX3_touch 13 = .ok (.aload_n 0, 1) := by decide +kernel
theorem dX3_touch_14 : decode cX3_touch 14 = .ok (.getfield 32, 3) := by decide +kernel
theorem dX3_touch_17 : decode cX3_touch 17 = .ok (.invokevirtual 75, 3) := by decide +kernel
theorem dX3_touch_20 : decode cX3_touch 20 = .ok (.aload_n 0, 1) := by decide +kernel
theorem dX3_touch_21 : decode cX3_touch 21 = .ok (.iload_n 1, 1) := by decide +kernel
theorem dX3_touch_22 : decode cX3_touch 22 = .ok (.putfield 44, 3) := by decide +kernel
theorem dX3_touch_25 : decode cX3_touch 25 = .ok (.aload_n 0, 1) := by decide +kernel
theorem dX3_touch_26 : decode cX3_touch 26 = .ok (.invokevirtual 85, 3) := by decide +kernel
theorem dX3_touch_29 : decode cX3_touch 29 = .ok (.iload_n 2, 1) := by decide +kernel
theorem dX3_touch_30 : decode cX3_touch 30 = .ok (.ireturn, 1) := by decide +kernel
theorem dX3_box_0 : decode cX3_box 0 = .ok (.aload_n 0, 1) := by decide +kernel
theorem dX3_box_1 : decode cX3_box 1 = .ok (.iload_n 1, 1) := by decide +kernel
theorem dX3_box_2 : decode cX3_box 2 = .ok (.invokevirtual 78, 3) := by decide +kernel
theorem dX3_box_5 : decode cX3_box 5 = .ok (.ifCond .ne 7, 3) := by decide +kernel
theorem dX3_box_8 : decode cX3_box 8 = .ok (.sipush (-10002), 3) := by decide +kernel
theorem dX3_box_11 : decode cX3_box 11 = .ok (.ireturn, 1) := by decide +kernel
theorem dX3_box_12 : decode cX3_box 12 = .ok (.iload_n 2, 1) := by decide +kernel
theorem dX3_box_13 : decode cX3_box 13 = .ok (.tableswitch 137 0 8 #[51, 61, 71, 81, 91, 101, 111, 121, 128], 51) := by decide +kernel
theorem dX3_box_64 : decode cX3_box 64 = .ok (.aload_n 0, 1) := by decide +kernel
theorem dX3_box_65 : decode cX3_box 65 = .ok (.getfield 19, 3) := by decide +kernel
theorem dX3_box_68 : decode cX3_box 68 = .ok (.getfield 92, 3) := by decide +kernel
theorem dX3_box_71 : decode cX3_box 71 = .ok (.iload_n 1, 1) := by decide +kernel
theorem dX3_box_72 : decode cX3_box 72 = .ok (.iaload, 1) := by decide +kernel
theorem dX3_box_73 : decode cX3_box 73 = .ok (.ireturn, 1) := by decide +kernel
theorem dX3_box_74 : decode cX3_box 74 = .ok (.aload_n 0, 1) := by decide +kernel
theorem dX3_box_75 : decode cX3_box 75 = .ok (.getfield 19, 3) := by decide +kernel
theorem dX3_box_78 : decode cX3_box 78 = .ok (.getfield 95, 3) := by decide +kernel
theorem dX3_box_81 : decode cX3_box 81 = .ok (.iload_n 1, 1) := by decide +kernel
theorem dX3_box_82 : decode cX3_box 82 = .ok (.iaload, 1) := by decide +kernel
theorem dX3_box_83 : decode cX3_box 83 = .ok (.ireturn, 1) := by decide +kernel
theorem dX3_box_84 : decode cX3_box 84 = .ok (.aload_n 0, 1) := by decide +kernel
theorem dX3_box_85 : decode cX3_box 85 = .ok (.getfield 23, 3) := by decide +kernel
theorem dX3_box_88 : decode cX3_box 88 = .ok (.getfield 92, 3) := by decide +kernel
theorem dX3_box_91 : decode cX3_box 91 = .ok (.iload_n 1, 1) := by decide +kernel
theorem dX3_box_92 : decode cX3_box 92 = .ok (.iaload, 1) := by decide +kernel
theorem dX3_box_93 : decode cX3_box 93 = .ok (.ireturn, 1) := by decide +kernel
theorem dX3_box_94 : decode cX3_box 94 = .ok (.aload_n 0, 1) := by decide +kernel
theorem dX3_box_95 : decode cX3_box 95 = .ok (.getfield 23, 3) := by decide +kernel
theorem dX3_box_98 : decode cX3_box 98 = .ok (.getfield 95, 3) := by decide +kernel
theorem dX3_box_101 : decode cX3_box 101 = .ok (.iload_n 1, 1) := by decide +kernel
theorem dX3_box_102 : decode cX3_box 102 = .ok (.iaload, 1) := by decide +kernel
theorem dX3_box_103 : decode cX3_box 103 = .ok (.ireturn, 1) := by decide +kernel
theorem dX3_box_104 : decode cX3_box 104 = .ok (.aload_n 0, 1) := by decide +kernel
theorem dX3_box_105 : decode cX3_box 105 = .ok (.getfield 26, 3) := by decide +kernel
theorem dX3_box_108 : decode cX3_box 108 = .ok (.getfield 92, 3) := by decide +kernel
theorem dX3_box_111 : decode cX3_box 111 = .ok (.iload_n 1, 1) := by decide +kernel
theorem dX3_box_112 : decode cX3_box 112 = .ok (.iaload, 1) := by decide +kernel
theorem dX3_box_113 : decode cX3_box 113 = .ok (.ireturn, 1) := by decide +kernel
theorem dX3_box_114 : decode cX3_box 114 = .ok (.aload_n 0, 1) := by decide +kernel
theorem dX3_box_115 : decode cX3_box 115 = .ok (.getfield 26, 3) := by decide +kernel
theorem dX3_box_118 : decode cX3_box 118 = .ok (.getfield 95, 3) := by decide +kernel
theorem dX3_box_121 : decode cX3_box 121 = .ok (.iload_n 1, 1) := by decide +kernel
theorem dX3_box_122 : decode cX3_box 122 = .ok (.iaload, 1) := by decide +kernel
theorem dX3_box_123 : decode cX3_box 123 = .ok (.ireturn, 1) := by decide +kernel
theorem dX3_box_124 : decode cX3_box 124 = .ok (.aload_n 0, 1) := by decide +kernel
theorem dX3_box_125 : decode cX3_box 125 = .ok (.getfield 36, 3) := by decide +kernel
theorem dX3_box_128 : decode cX3_box 128 = .ok (.iload_n 1, 1) := by decide +kernel
theorem dX3_box_129 : decode cX3_box 129 = .ok (.iaload, 1) := by decide +kernel
theorem dX3_box_130 : decode cX3_box 130 = .ok (.invokestatic 69, 3) := by decide +kernel
theorem dX3_box_133 : decode cX3_box 133 = .ok (.ireturn, 1) := by decide +kernel
theorem dX3_box_134 : decode cX3_box 134 = .ok (.aload_n 0, 1) := by decide +kernel
theorem dX3_box_135 : decode cX3_box 135 = .ok (.getfield 36, 3) := by decide +kernel
theorem dX3_box_138 : decode cX3_box 138 = .ok (.iload_n 1, 1) := by decide +kernel
theorem dX3_box_139 : decode cX3_box 139 = .ok (.iaload, 1) := by decide +kernel
theorem dX3_box_140 : decode cX3_box 140 = .ok (.ireturn, 1) := by decide +kernel
theorem dX3_box_141 : decode cX3_box 141 = .ok (.aload_n 0, 1) := by decide +kernel
theorem dX3_box_142 : decode cX3_box 142 = .ok (.iload_n 1, 1) := by decide +kernel
theorem dX3_box_143 : decode cX3_box 143 = .ok (.invokevirtual 114, 3) := by decide +kernel
theorem dX3_box_146 : decode cX3_box 146 = .ok (.invokestatic 117, 3) := by decide +kernel
theorem dX3_box_149 : decode cX3_box 149 = .ok (.ireturn, 1) := by decide +kernel
theorem dX3_box_150 : decode cX3_box 150 = .ok (.sipush (-10003), 3) := by decide +kernel
theorem dX3_box_153 : decode cX3_box 153 = .ok (.ireturn, 1) := by decide +kernel
theorem dX3_end_0 : decode cX3_end 0 = .ok (.iload_n 1, 1) := by decide +kernel
theorem dX3_end_1 : decode cX3_end 1 = .ok (.invokestatic 108, 3) := by decide +kernel
theorem dX3_end_4 : decode cX3_end 4 = .ok (.ifCond .eq 19, 3) := by decide +kernel
theorem dX3_end_7 : decode cX3_end 7 = .ok (.iload_n 2, 1) := by decide +kernel
theorem dX3_end_8 : decode cX3_end 8 = .ok (.ifCond .lt 15, 3) := by decide +kernel
theorem dX3_end_11 : decode cX3_end 11 = .ok (.iload_n 2, 1) := by decide +kernel
theorem dX3_end_12 : decode cX3_end 12 = .ok (.aload_n 0, 1) := by decide +kernel
theorem dX3_end_13 : decode cX3_end 13 = .ok (.iload_n 1, 1) := by decide +kernel
theorem dX3_end_14 : decode cX3_end 14 = .ok (.invokevirtual 120, 3) := by decide +kernel
theorem dX3_end_17 : decode cX3_end 17 = .ok (.getfield 124, 3) := by decide +kernel
theorem dX3_end_20 : decode cX3_end 20 = .ok (.if_icmp .lt 7, 3) := by decide +kernel
theorem dX3_end_23 : decode cX3_end 23 = .ok (.sipush (-10002), 3) := by decide +kernel
theorem dX3_end_26 : decode cX3_end 26 = .ok (.ireturn, 1) := by decide +kernel
theorem dX3_end_27 : decode cX3_end 27 = .ok (.aload_n 0, 1) := by decide +kernel
theorem dX3_end_28 : decode cX3_end 28 = .ok (.iload_n 1, 1) := by decide +kernel
theorem dX3_end_29 : decode cX3_end 29 = .ok (.invokevirtual 120, 3) := by decide +kernel
theorem dX3_end_32 : decode cX3_end 32 = .ok (.getfield 127, 3) := by decide +kernel
theorem dX3_end_35 : decode cX3_end 35 = .ok (.iload_n 2, 1) := by decide +kernel
theorem dX3_end_36 : decode cX3_end 36 = .ok (.iaload, 1) := by decide +kernel
theorem dX3_end_37 : decode cX3_end 37 = .ok (.istore 4, 2) := by decide +kernel
theorem dX3_end_39 : decode cX3_end 39 = .ok (.iload_n 3, 1) := by decide +kernel
theorem dX3_end_40 : decode cX3_end 40 = .ok (.tableswitch 59 0 2 #[28, 34, 48], 28) := by decide +kernel
theorem dX3_end_68 : decode cX3_end 68 = .ok (.iload 4, 2) := by decide +kernel
theorem dX3_end_70 : decode cX3_end 70 = .ok (.invokestatic 130, 3) := by decide +kernel
theorem dX3_end_73 : decode cX3_end 73 = .ok (.ireturn, 1) := by decide +kernel
theorem dX3_end_74 : decode cX3_end 74 = .ok (.iload 4, 2) := by decide +kernel
theorem dX3_end_76 : decode cX3_end 76 = .ok (.invokestatic 133, 3) := by decide +kernel
theorem dX3_end_79 : decode cX3_end 79 = .ok (.ifCond .eq 7, 3) := by decide +kernel
theorem dX3_end_82 : decode cX3_end 82 = .ok (.iconst 1, 1) := by decide +kernel
theorem dX3_end_83 : decode cX3_end 83 = .ok (.goto 4, 3) := by decide +kernel
theorem dX3_end_86 : decode cX3_end 86 = .ok (.iconst 0, 1) := by decide +kernel
theorem dX3_end_87 : decode cX3_end 87 = .ok (.ireturn, 1) := by decide +kernel
theorem dX3_end_88 : decode cX3_end 88 = .ok (.aload_n 0, 1) := by decide +kernel
theorem dX3_end_89 : decode cX3_end 89 = .ok (.iload_n 1, 1) := by decide +kernel
theorem dX3_end_90 : decode cX3_end 90 = .ok (.invokevirtual 120, 3) := by decide +kernel
theorem dX3_end_93 : decode cX3_end 93 = .ok (.iload 4, 2) := by decide +kernel
theorem dX3_end_95 : decode cX3_end 95 = .ok (.invokevirtual 136, 3) := by decide +kernel
theorem dX3_end_98 : decode cX3_end 98 = .ok (.ireturn, 1) := by decide +kernel
theorem dX3_end_99 : decode cX3_end 99 = .ok (.sipush (-10003), 3) := by decide +kernel
theorem dX3_end_102 : decode cX3_end 102 = .ok (.ireturn, 1) := by decide +kernel
theorem dX3_meet_0 : decode cX3_meet 0 = .ok (.aload_n 0, 1) := by decide +kernel
theorem dX3_meet_1 : decode cX3_meet 1 = .ok (.iload_n 1, 1) := by decide +kernel
theorem dX3_meet_2 : decode cX3_meet 2 = .ok (.invokevirtual 78, 3) := by decide +kernel
theorem dX3_meet_5 : decode cX3_meet 5 = .ok (.ifCond .eq 16, 3) := by decide +kernel
theorem dX3_meet_8 : decode cX3_meet 8 = .ok (.aload_n 0, 1) := by decide +kernel
theorem dX3_meet_9 : decode cX3_meet 9 = .ok (.iload_n 2, 1) := by decide +kernel
theorem dX3_meet_10 : decode cX3_meet 10 = .ok (.invokevirtual 78, 3) := by decide +kernel
theorem dX3_meet_13 : decode cX3_meet 13 = .ok (.ifCond .eq 8, 3) := by decide +kernel
theorem dX3_meet_16 : decode cX3_meet 16 = .ok (.iload_n 1, 1) := by decide +kernel
theorem dX3_meet_17 : decode cX3_meet 17 = .ok (.iload_n 2, 1) := by decide +kernel
theorem dX3_meet_18 : decode cX3_meet 18 = .ok (.if_icmp .ne 7, 3) := by decide +kernel
theorem dX3_meet_21 : decode cX3_meet 21 = .ok (.sipush (-10002), 3) := by decide +kernel
theorem dX3_meet_24 : decode cX3_meet 24 = .ok (.ireturn, 1) := by decide +kernel
theorem dX3_meet_25 : decode cX3_meet 25 = .ok (.iconst 0, 1) := by decide +kernel
theorem dX3_meet_26 : decode cX3_meet 26 = .ok (.istore_n 3, 1) := by decide +kernel
theorem dX3_meet_27 : decode cX3_meet 27 = .ok (.iconst 0, 1) := by decide +kernel
theorem dX3_meet_28 : decode cX3_meet 28 = .ok (.istore 4, 2) := by decide +kernel
theorem dX3_meet_30 : decode cX3_meet 30 = .ok (.iload 4, 2) := by decide +kernel
theorem dX3_meet_32 : decode cX3_meet 32 = .ok (.iconst 3, 1) := by decide +kernel
theorem dX3_meet_33 : decode cX3_meet 33 = .ok (.if_icmp .ge 30, 3) := by decide +kernel
theorem dX3_meet_36 : decode cX3_meet 36 = .ok (.aload_n 0, 1) := by decide +kernel
theorem dX3_meet_37 : decode cX3_meet 37 = .ok (.iload 4, 2) := by decide +kernel
theorem dX3_meet_39 : decode cX3_meet 39 = .ok (.invokevirtual 120, 3) := by decide +kernel
theorem dX3_meet_42 : decode cX3_meet 42 = .ok (.getfield 139, 3) := by decide +kernel
theorem dX3_meet_45 : decode cX3_meet 45 = .ok (.iload_n 1, 1) := by decide +kernel
theorem dX3_meet_46 : decode cX3_meet 46 = .ok (.iaload, 1) := by decide +kernel
theorem dX3_meet_47 : decode cX3_meet 47 = .ok (.iload_n 2, 1) := by decide +kernel
theorem dX3_meet_48 : decode cX3_meet 48 = .ok (.invokestatic 142, 3) := by decide +kernel
theorem dX3_meet_51 : decode cX3_meet 51 = .ok (.ifCond .eq 6, 3) := by decide +kernel
theorem dX3_meet_54 : decode cX3_meet 54 = .ok (.iinc 3 1, 3) := by decide +kernel
theorem dX3_meet_57 : decode cX3_meet 57 = .ok (.iinc 4 1, 3) := by decide +kernel
theorem dX3_meet_60 : decode cX3_meet 60 = .ok (.goto (-30), 3) := by decide +kernel
theorem dX3_meet_63 : decode cX3_meet 63 = .ok (.iload_n 3, 1) := by decide +kernel
theorem dX3_meet_64 : decode cX3_meet 64 = .ok (.ireturn, 1) := by decide +kernel
