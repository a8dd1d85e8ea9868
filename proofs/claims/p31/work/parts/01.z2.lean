theorem dX9_matchAlarms_19 : decode cX9_matchAlarms 19 = .ok (.aload_n 0, 1) := by decide +kernel
theorem dX9_matchAlarms_20 : decode cX9_matchAlarms 20 = .ok (.getfield 68, 3) := by decide +kernel
theorem dX9_matchAlarms_23 : decode cX9_matchAlarms 23 = .ok (.aload_n 0, 1) := by decide +kernel
theorem dX9_matchAlarms_24 : decode cX9_matchAlarms 24 = .ok (.getfield 16, 3) := by decide +kernel
theorem dX9_matchAlarms_27 : decode cX9_matchAlarms 27 = .ok (.iload_n 1, 1) := by decide +kernel
theorem dX9_matchAlarms_28 : decode cX9_matchAlarms 28 = .ok (.iload_n 2, 1) := by decide +kernel
theorem dX9_matchAlarms_29 : decode cX9_matchAlarms 29 = .ok (.invokevirtual 232, 3) := by decide +kernel
theorem dX9_matchAlarms_32 : decode cX9_matchAlarms 32 = .ok (.return_, 1) := by decide +kernel
theorem dX9_isValueNumber_0 : decode cX9_isValueNumber 0 = .ok (.iload_n 1, 1) := by decide +kernel
theorem dX9_isValueNumber_1 : decode cX9_isValueNumber 1 = .ok (.ifCond .lt 15, 3) := by decide +kernel
theorem dX9_isValueNumber_4 : decode cX9_isValueNumber 4 = .ok (.iload_n 1, 1) := by decide +kernel
theorem dX9_isValueNumber_5 : decode cX9_isValueNumber 5 = .ok (.aload_n 0, 1) := by decide +kernel
theorem dX9_isValueNumber_6 : decode cX9_isValueNumber 6 = .ok (.getfield 72, 3) := by decide +kernel
theorem dX9_isValueNumber_9 : decode cX9_isValueNumber 9 = .ok (.if_icmp .ge 7, 3) := by decide +kernel
theorem dX9_isValueNumber_12 : decode cX9_isValueNumber 12 = .ok (.iconst 1, 1) := by decide +kernel
theorem dX9_isValueNumber_13 : decode cX9_isValueNumber 13 = .ok (.goto 4, 3) := by decide +kernel
theorem dX9_isValueNumber_16 : decode cX9_isValueNumber 16 = .ok (.iconst 0, 1) := by decide +kernel
theorem dX9_isValueNumber_17 : decode cX9_isValueNumber 17 = .ok (.ireturn, 1) := by decide +kernel
theorem dX9_isSegment_0 : decode cX9_isSegment 0 = .ok (.iload_n 1, 1) := by decide +kernel
theorem dX9_isSegment_1 : decode cX9_isSegment 1 = .ok (.ifCond .lt 20, 3) := by decide +kernel
theorem dX9_isSegment_4 : decode cX9_isSegment 4 = .ok (.iload_n 1, 1) := by decide +kernel
theorem dX9_isSegment_5 : decode cX9_isSegment 5 = .ok (.iload_n 2, 1) := by decide +kernel
theorem dX9_isSegment_6 : decode cX9_isSegment 6 = .ok (.if_icmp .ge 15, 3) := by decide +kernel
theorem dX9_isSegment_9 : decode cX9_isSegment 9 = .ok (.iload_n 2, 1) := by decide +kernel
theorem dX9_isSegment_10 : decode cX9_isSegment 10 = .ok (.aload_n 0, 1) := by decide +kernel
theorem dX9_isSegment_11 : decode cX9_isSegment 11 = .ok (.getfield 72, 3) := by decide +kernel
theorem dX9_isSegment_14 : decode cX9_isSegment 14 = .ok (.if_icmp .gt 7, 3) := by decide +kernel
theorem dX9_isSegment_17 : decode cX9_isSegment 17 = .ok (.iconst 1, 1) := by decide +kernel
theorem dX9_isSegment_18 : decode cX9_isSegment 18 = .ok (.goto 4, 3) := by decide +kernel
theorem dX9_isSegment_21 : decode cX9_isSegment 21 = .ok (.iconst 0, 1) := by decide +kernel
theorem dX9_isSegment_22 : decode cX9_isSegment 22 = .ok (.ireturn, 1) := by decide +kernel
theorem dX9_isAmountFromZero_0 : decode cX9_isAmountFromZero 0 = .ok (.iload_n 0, 1) := by decide +kernel
theorem dX9_isAmountFromZero_1 : decode cX9_isAmountFromZero 1 = .ok (.sipush (-1000), 3) := by decide +kernel
theorem dX9_isAmountFromZero_4 : decode cX9_isAmountFromZero 4 = .ok (.sipush 1000, 3) := by decide +kernel
theorem dX9_isAmountFromZero_7 : decode cX9_isAmountFromZero 7 = .ok (.invokestatic 104, 3) := by decide +kernel
theorem dX9_isAmountFromZero_10 : decode cX9_isAmountFromZero 10 = .ok (.ireturn, 1) := by decide +kernel
theorem dX9_isBetween_0 : decode cX9_isBetween 0 = .ok (.iload_n 0, 1) := by decide +kernel
theorem dX9_isBetween_1 : decode cX9_isBetween 1 = .ok (.iload_n 1, 1) := by decide +kernel
theorem dX9_isBetween_2 : decode cX9_isBetween 2 = .ok (.if_icmp .lt 12, 3) := by decide +kernel
theorem dX9_isBetween_5 : decode cX9_isBetween 5 = .ok (.iload_n 0, 1) := by decide +kernel
theorem dX9_isBetween_6 : decode cX9_isBetween 6 = .ok (.iload_n 2, 1) := by decide +kernel
theorem dX9_isBetween_7 : decode cX9_isBetween 7 = .ok (.if_icmp .gt 7, 3) := by decide +kernel
theorem dX9_isBetween_10 : decode cX9_isBetween 10 = .ok (.iconst 1, 1) := by decide +kernel
theorem dX9_isBetween_11 : decode cX9_isBetween 11 = .ok (.goto 4, 3) := by decide +kernel
theorem dX9_isBetween_14 : decode cX9_isBetween 14 = .ok (.iconst 0, 1) := by decide +kernel
theorem dX9_isBetween_15 : decode cX9_isBetween 15 = .ok (.ireturn, 1) := by decide +kernel
theorem dX9_requireArgument_0 : decode cX9_requireArgument 0 = .ok (.iload_n 0, 1) := by decide +kernel
theorem dX9_requireArgument_1 : decode cX9_requireArgument 1 = .ok (.ifCond .ne 13, 3) := by decide +kernel
theorem dX9_requireArgument_4 : decode cX9_requireArgument 4 = .ok (.new 236, 3) := by decide +kernel
theorem dX9_requireArgument_7 : decode cX9_requireArgument 7 = .ok (.dup, 1) := by decide +kernel
theorem dX9_requireArgument_8 : decode cX9_requireArgument 8 = .ok (.ldc 238, 2) := by decide +kernel
theorem dX9_requireArgument_10 : decode cX9_requireArgument 10 = .ok (.invokespecial 240, 3) := by decide +kernel
theorem dX9_requireArgument_13 : decode cX9_requireArgument 13 = .ok (.athrow, 1) := by decide +kernel
theorem dX9_requireArgument_14 : decode cX9_requireArgument 14 = .ok (.return_, 1) := by decide +kernel
theorem dX9_requireIndex_0 : decode cX9_requireIndex 0 = .ok (.iload_n 0, 1) := by decide +kernel
theorem dX9_requireIndex_1 : decode cX9_requireIndex 1 = .ok (.ifCond .ne 13, 3) := by decide +kernel
theorem dX9_requireIndex_4 : decode cX9_requireIndex 4 = .ok (.new 243, 3) := by decide +kernel
theorem dX9_requireIndex_7 : decode cX9_requireIndex 7 = .ok (.dup, 1) := by decide +kernel
theorem dX9_requireIndex_8 : decode cX9_requireIndex 8 = .ok (.ldc 245, 2) := by decide +kernel
theorem dX9_requireIndex_10 : decode cX9_requireIndex 10 = .ok (.invokespecial 247, 3) := by decide +kernel
theorem dX9_requireIndex_13 : decode cX9_requireIndex 13 = .ok (.athrow, 1) := by decide +kernel
theorem dX9_requireIndex_14 : decode cX9_requireIndex 14 = .ok (.return_, 1) := by decide +kernel
theorem dX9_requireState_0 : decode cX9_requireState 0 = .ok (.iload_n 0, 1) := by decide +kernel
theorem dX9_requireState_1 : decode cX9_requireState 1 = .ok (.ifCond .ne 13, 3) := by decide +kernel
theorem dX9_requireState_4 : decode cX9_requireState 4 = .ok (.new 248, 3) := by decide +kernel
theorem dX9_requireState_7 : decode cX9_requireState 7 = .ok (.dup, 1) := by decide +kernel
theorem dX9_requireState_8 : decode cX9_requireState 8 = .ok (.ldc 250, 2) := by decide +kernel
theorem dX9_requireState_10 : decode cX9_requireState 10 = .ok (.invokespecial 252, 3) := by decide +kernel
theorem dX9_requireState_13 : decode cX9_requireState 13 = .ok (.athrow, 1) := by decide +kernel
theorem dX9_requireState_14 : decode cX9_requireState 14 = .ok (.return_, 1) := by decide +kernel
theorem dJ9_floorDiv_7cf53_0 : decode cJ9_floorDiv_7cf53 0 = .ok (.iload_n 0, 1) := by decide +kernel
theorem dJ9_floorDiv_7cf53_1 : decode cJ9_floorDiv_7cf53 1 = .ok (.iload_n 1, 1) := by decide +kernel
theorem dJ9_floorDiv_7cf53_2 : decode cJ9_floorDiv_7cf53 2 = .ok (.idiv, 1) := by decide +kernel
theorem dJ9_floorDiv_7cf53_3 : decode cJ9_floorDiv_7cf53 3 = .ok (.istore_n 2, 1) := by decide +kernel
theorem dJ9_floorDiv_7cf53_4 : decode cJ9_floorDiv_7cf53 4 = .ok (.iload_n 0, 1) := by decide +kernel
theorem dJ9_floorDiv_7cf53_5 : decode cJ9_floorDiv_7cf53 5 = .ok (.iload_n 1, 1) := by decide +kernel
theorem dJ9_floorDiv_7cf53_6 : decode cJ9_floorDiv_7cf53 6 = .ok (.ixor, 1) := by decide +kernel
theorem dJ9_floorDiv_7cf53_7 : decode cJ9_floorDiv_7cf53 7 = .ok (.ifCond .ge 14, 3) := by decide +kernel
theorem dJ9_floorDiv_7cf53_10 : decode cJ9_floorDiv_7cf53 10 = .ok (.iload_n 2, 1) := by decide +kernel
theorem dJ9_floorDiv_7cf53_11 : decode cJ9_floorDiv_7cf53 11 = .ok (.iload_n 1, 1) := by decide +kernel
theorem dJ9_floorDiv_7cf53_12 : decode cJ9_floorDiv_7cf53 12 = .ok (.imul, 1) := by decide +kernel
theorem dJ9_floorDiv_7cf53_13 : decode cJ9_floorDiv_7cf53 13 = .ok (.iload_n 0, 1) := by decide +kernel
theorem dJ9_floorDiv_7cf53_14 : decode cJ9_floorDiv_7cf53 14 = .ok (.if_icmp .eq 7, 3) := by decide +kernel
theorem dJ9_floorDiv_7cf53_17 : decode cJ9_floorDiv_7cf53 17 = .ok (.iload_n 2, 1) := by decide +kernel
theorem dJ9_floorDiv_7cf53_18 : decode cJ9_floorDiv_7cf53 18 = .ok (.iconst 1, 1) := by decide +kernel
theorem dJ9_floorDiv_7cf53_19 : decode cJ9_floorDiv_7cf53 19 = .ok (.isub, 1) := by decide +kernel
theorem dJ9_floorDiv_7cf53_20 : decode cJ9_floorDiv_7cf53 20 = .ok (.ireturn, 1) := by decide +kernel
theorem dJ9_floorDiv_7cf53_21 : decode cJ9_floorDiv_7cf53 21 = .ok (.iload_n 2, 1) := by decide +kernel
theorem dJ9_floorDiv_7cf53_22 : decode cJ9_floorDiv_7cf53 22 = .ok (.ireturn, 1) := by decide +kernel
theorem dJ9_max_7cf53_0 : decode cJ9_max_7cf53 0 = .ok (.iload_n 0, 1) := by decide +kernel
theorem dJ9_max_7cf53_1 : decode cJ9_max_7cf53 1 = .ok (.iload_n 1, 1) := by decide +kernel
theorem dJ9_max_7cf53_2 : decode cJ9_max_7cf53 2 = .ok (.if_icmp .lt 7, 3) := by decide +kernel
theorem dJ9_max_7cf53_5 : decode cJ9_max_7cf53 5 = .ok (.iload_n 0, 1) := by decide +kernel
theorem dJ9_max_7cf53_6 : decode cJ9_max_7cf53 6 = .ok (.goto 4, 3) := by decide +kernel
theorem dJ9_max_7cf53_9 : decode cJ9_max_7cf53 9 = .ok (.iload_n 1, 1) := by decide +kernel
theorem dJ9_max_7cf53_10 : decode cJ9_max_7cf53 10 = .ok (.ireturn, 1) := by decide +kernel
theorem dJ9_min_7cf53_0 : decode cJ9_min_7cf53 0 = .ok (.iload_n 0, 1) := by decide +kernel
theorem dJ9_min_7cf53_1 : decode cJ9_min_7cf53 1 = .ok (.iload_n 1, 1) := by decide +kernel
theorem dJ9_min_7cf53_2 : decode cJ9_min_7cf53 2 = .ok (.if_icmp .gt 7, 3) := by decide +kernel
theorem dJ9_min_7cf53_5 : decode cJ9_min_7cf53 5 = .ok (.iload_n 0, 1) := by decide +kernel
theorem dJ9_min_7cf53_6 : decode cJ9_min_7cf53 6 = .ok (.goto 4, 3) := by decide +kernel
theorem dJ9_min_7cf53_9 : decode cJ9_min_7cf53 9 = .ok (.iload_n 1, 1) := by decide +kernel
theorem dJ9_min_7cf53_10 : decode cJ9_min_7cf53 10 = .ok (.ireturn, 1) := by decide +kernel
theorem dL_part_0 : decode cL_part 0 = .ok (.iload_n 1, 1) := by decide +kernel
theorem dL_part_1 : decode cL_part 1 = .ok (.aload_n 0, 1) := by decide +kernel
theorem dL_part_2 : decode cL_part 2 = .ok (.arraylength, 1) := by decide +kernel
theorem dL_part_3 : decode cL_part 3 = .ok (.if_icmp .ge 9, 3) := by decide +kernel
theorem dL_part_6 : decode cL_part 6 = .ok (.aload_n 0, 1) := by decide +kernel
theorem dL_part_7 : decode cL_part 7 = .ok (.iload_n 1, 1) := by decide +kernel
theorem dL_part_8 : decode cL_part 8 = .ok (.iaload, 1) := by decide +kernel
theorem dL_part_9 : decode cL_part 9 = .ok (.goto 15, 3) := by decide +kernel
theorem dL_part_12 : decode cL_part 12 = .ok (.sipush 227, 3) := by decide +kernel
theorem dL_part_15 : decode cL_part 15 = .ok (.iload_n 1, 1) := by decide +kernel
theorem dL_part_16 : decode cL_part 16 = .ok (.imul, 1) := by decide +kernel
theorem dL_part_17 : decode cL_part 17 = .ok (.bipush 103, 2) := by decide +kernel
theorem dL_part_19 : decode cL_part 19 = .ok (.iload_n 1, 1) := by decide +kernel
theorem dL_part_20 : decode cL_part 20 = .ok (.imul, 1) := by decide +kernel
theorem dL_part_21 : decode cL_part 21 = .ok (.iload_n 1, 1) := by decide +kernel
theorem dL_part_22 : decode cL_part 22 = .ok (.imul, 1) := by decide +kernel
theorem dL_part_23 : decode cL_part 23 = .ok (.iadd, 1) := by decide +kernel
theorem dL_part_24 : decode cL_part 24 = .ok (.istore_n 3, 1) := by decide +kernel
theorem dL_part_25 : decode cL_part 25 = .ok (.iload_n 3, 1) := by decide +kernel
theorem dL_part_26 : decode cL_part 26 = .ok (.ldc 7, 2) := by decide +kernel
theorem dL_part_28 : decode cL_part 28 = .ok (.iand, 1) := by decide +kernel
theorem dL_part_29 : decode cL_part 29 = .ok (.iload_n 2, 1) := by decide +kernel
theorem dL_part_30 : decode cL_part 30 = .ok (.irem, 1) := by decide +kernel
theorem dL_part_31 : decode cL_part 31 = .ok (.ireturn, 1) := by decide +kernel
theorem dL_set_0 : decode cL_set 0 = .ok (.iload_n 1, 1) := by decide +kernel
theorem dL_set_1 : decode cL_set 1 = .ok (.ifCond .ne 14, 3) := by decide +kernel
theorem dL_set_4 : decode cL_set 4 = .ok (.aload_n 0, 1) := by decide +kernel
theorem dL_set_5 : decode cL_set 5 = .ok (.iload_n 2, 1) := by decide +kernel
theorem dL_set_6 : decode cL_set 6 = .ok (.iload_n 3, 1) := by decide +kernel
theorem dL_set_7 : decode cL_set 7 = .ok (.iload 4, 2) := by decide +kernel
theorem dL_set_9 : decode cL_set 9 = .ok (.invokevirtual 8, 3) := by decide +kernel
theorem dL_set_12 : decode cL_set 12 = .ok (.goto 11, 3) := by decide +kernel
theorem dL_set_15 : decode cL_set 15 = .ok (.aload_n 0, 1) := by decide +kernel
theorem dL_set_16 : decode cL_set 16 = .ok (.iload_n 2, 1) := by decide +kernel
theorem dL_set_17 : decode cL_set 17 = .ok (.iload_n 3, 1) := by decide +kernel
theorem dL_set_18 : decode cL_set 18 = .ok (.iload 4, 2) := by decide +kernel
theorem dL_set_20 : decode cL_set 20 = .ok (.invokevirtual 14, 3) := by decide +kernel
theorem dL_set_23 : decode cL_set 23 = .ok (.iconst 0, 1) := by decide +kernel
theorem dL_set_24 : decode cL_set 24 = .ok (.ireturn, 1) := by decide +kernel
theorem dL_sets_0 : decode cL_sets 0 = .ok (.iload_n 1, 1) := by decide +kernel
theorem dL_sets_1 : decode cL_sets 1 = .ok (.iconst 2, 1) := by decide +kernel
theorem dL_sets_2 : decode cL_sets 2 = .ok (.if_icmp .ge 15, 3) := by decide +kernel
theorem dL_sets_5 : decode cL_sets 5 = .ok (.aload_n 0, 1) := by decide +kernel
theorem dL_sets_6 : decode cL_sets 6 = .ok (.iload_n 1, 1) := by decide +kernel
theorem dL_sets_7 : decode cL_sets 7 = .ok (.iload_n 2, 1) := by decide +kernel
theorem dL_sets_8 : decode cL_sets 8 = .ok (.iload_n 3, 1) := by decide +kernel
theorem dL_sets_9 : decode cL_sets 9 = .ok (.iload 4, 2) := by decide +kernel
theorem dL_sets_11 : decode cL_sets 11 = .ok (.invokestatic 17, 3) := by decide +kernel
theorem dL_sets_14 : decode cL_sets 14 = .ok (.goto 8, 3) := by decide +kernel
theorem dL_sets_17 : decode cL_sets 17 = .ok (.aload_n 0, 1) := by decide +kernel
theorem dL_sets_18 : decode cL_sets 18 = .ok (.iload_n 2, 1) := by decide +kernel
theorem dL_sets_19 : decode cL_sets 19 = .ok (.invokevirtual 23, 3) := by decide +kernel
theorem dL_sets_22 : decode cL_sets 22 = .ok (.ireturn, 1) := by decide +kernel
theorem dL_sets_23 : decode cL_sets 23 = .ok (.astore 5, 2) := by decide +kernel
theorem dL_sets_25 : decode cL_sets 25 = .ok (.bipush (-20), 2) := by decide +kernel
theorem dL_sets_27 : decode cL_sets 27 = .ok (.ireturn, 1) := by decide +kernel
theorem dL_adds_0 : decode cL_adds 0 = .ok (.iload_n 1, 1) := by decide +kernel
theorem dL_adds_1 : decode cL_adds 1 = .ok (.ifCond .eq 14, 3) := by decide +kernel
theorem dL_adds_4 : decode cL_adds 4 = .ok (.aload_n 0, 1) := by decide +kernel
theorem dL_adds_5 : decode cL_adds 5 = .ok (.iload_n 2, 1) := by decide +kernel
theorem dL_adds_6 : decode cL_adds 6 = .ok (.iload_n 3, 1) := by decide +kernel
theorem dL_adds_7 : decode cL_adds 7 = .ok (.iload 4, 2) := by decide +kernel
theorem dL_adds_9 : decode cL_adds 9 = .ok (.invokevirtual 29, 3) := by decide +kernel
theorem dL_adds_12 : decode cL_adds 12 = .ok (.goto 8, 3) := by decide +kernel
theorem dL_adds_15 : decode cL_adds 15 = .ok (.aload_n 0, 1) := by decide +kernel
theorem dL_adds_16 : decode cL_adds 16 = .ok (.iload_n 2, 1) := by decide +kernel
theorem dL_adds_17 : decode cL_adds 17 = .ok (.invokevirtual 33, 3) := by decide +kernel
theorem dL_adds_20 : decode cL_adds 20 = .ok (.ireturn, 1) := by decide +kernel
theorem dL_adds_21 : decode cL_adds 21 = .ok (.astore 5, 2) := by decide +kernel
theorem dL_adds_23 : decode cL_adds 23 = .ok (.bipush (-20), 2) := by decide +kernel
theorem dL_adds_25 : decode cL_adds 25 = .ok (.ireturn, 1) := by decide +kernel
theorem dL_adds_26 : decode cL_adds 26 = .ok (.astore 5, 2) := by decide +kernel
theorem dL_adds_28 : decode cL_adds 28 = .ok (.bipush (-10), 2) := by decide +kernel
theorem dL_adds_30 : decode cL_adds 30 = .ok (.ireturn, 1) := by decide +kernel
theorem dL_asks_0 : decode cL_asks 0 = .ok (.iload_n 1, 1) := by decide +kernel
theorem dL_asks_1 : decode cL_asks 1 = .ok (.ifCond .ne 11, 3) := by decide +kernel
theorem dL_asks_4 : decode cL_asks 4 = .ok (.aload_n 0, 1) := by decide +kernel
theorem dL_asks_5 : decode cL_asks 5 = .ok (.iload_n 2, 1) := by decide +kernel
theorem dL_asks_6 : decode cL_asks 6 = .ok (.invokevirtual 38, 3) := by decide +kernel
theorem dL_asks_9 : decode cL_asks 9 = .ok (.goto 111, 3) := by decide +kernel
theorem dL_asks_12 : decode cL_asks 12 = .ok (.iload_n 1, 1) := by decide +kernel
theorem dL_asks_13 : decode cL_asks 13 = .ok (.iconst 1, 1) := by decide +kernel
theorem dL_asks_14 : decode cL_asks 14 = .ok (.if_icmp .ne 11, 3) := by decide +kernel
theorem dL_asks_17 : decode cL_asks 17 = .ok (.aload_n 0, 1) := by decide +kernel
theorem dL_asks_18 : decode cL_asks 18 = .ok (.iload_n 2, 1) := by decide +kernel
theorem dL_asks_19 : decode cL_asks 19 = .ok (.invokevirtual 41, 3) := by decide +kernel
theorem dL_asks_22 : decode cL_asks 22 = .ok (.goto 98, 3) := by decide +kernel
theorem dL_asks_25 : decode cL_asks 25 = .ok (.iload_n 1, 1) := by decide +kernel
theorem dL_asks_26 : decode cL_asks 26 = .ok (.iconst 2, 1) := by decide +kernel
theorem dL_asks_27 : decode cL_asks 27 = .ok (.if_icmp .ne 11, 3) := by decide +kernel
theorem dL_asks_30 : decode cL_asks 30 = .ok (.aload_n 0, 1) := by decide +kernel
theorem dL_asks_31 : decode cL_asks 31 = .ok (.iload_n 2, 1) := by decide +kernel
theorem dL_asks_32 : decode cL_asks 32 = .ok (.invokevirtual 44, 3) := by decide +kernel
theorem dL_asks_35 : decode cL_asks 35 = .ok (.goto 85, 3) := by decide +kernel
theorem dL_asks_38 : decode cL_asks 38 = .ok (.iload_n 1, 1) := by decide +kernel
theorem dL_asks_39 : decode cL_asks 39 = .ok (.iconst 3, 1) := by decide +kernel
theorem dL_asks_40 : decode cL_asks 40 = .ok (.if_icmp .ne 11, 3) := by decide +kernel
theorem dL_asks_43 : decode cL_asks 43 = .ok (.aload_n 0, 1) := by decide +kernel
theorem dL_asks_44 : decode cL_asks 44 = .ok (.iload_n 2, 1) := by decide +kernel
theorem dL_asks_45 : decode cL_asks 45 = .ok (.invokevirtual 47, 3) := by decide +kernel
theorem dL_asks_48 : decode cL_asks 48 = .ok (.goto 72, 3) := by decide +kernel
theorem dL_asks_51 : decode cL_asks 51 = .ok (.iload_n 1, 1) := by decide +kernel
theorem dL_asks_52 : decode cL_asks 52 = .ok (.iconst 4, 1) := by decide +kernel
theorem dL_asks_53 : decode cL_asks 53 = .ok (.if_icmp .ne 12, 3) := by decide +kernel
theorem dL_asks_56 : decode cL_asks 56 = .ok (.aload_n 0, 1) := by decide +kernel
theorem dL_asks_57 : decode cL_asks 57 = .ok (.iload_n 2, 1) := by decide +kernel
theorem dL_asks_58 : decode cL_asks 58 = .ok (.iload_n 3, 1) := by decide +kernel
theorem dL_asks_59 : decode cL_asks 59 = .ok (.invokevirtual 50, 3) := by decide +kernel
theorem dL_asks_62 : decode cL_asks 62 = .ok (.goto 58, 3) := by decide +kernel
theorem dL_asks_65 : decode cL_asks 65 = .ok (.iload_n 1, 1) := by decide +kernel
theorem dL_asks_66 : decode cL_asks 66 = .ok (.iconst 5, 1) := by decide +kernel
theorem dL_asks_67 : decode cL_asks 67 = .ok (.if_icmp .ne 12, 3) := by decide +kernel
theorem dL_asks_70 : decode cL_asks 70 = .ok (.aload_n 0, 1) := by decide +kernel
theorem dL_asks_71 : decode cL_asks 71 = .ok (.iload_n 2, 1) := by decide +kernel
theorem dL_asks_72 : decode cL_asks 72 = .ok (.iload_n 3, 1) := by decide +kernel
theorem dL_asks_73 : decode cL_asks 73 = .ok (.invokevirtual 54, 3) := by decide +kernel
theorem dL_asks_76 : decode cL_asks 76 = .ok (.goto 44, 3) := by decide +kernel
theorem dL_asks_79 : decode cL_asks 79 = .ok (.iload_n 1, 1) := by decide +kernel
theorem dL_asks_80 : decode cL_asks 80 = .ok (.bipush 6, 2) := by decide +kernel
theorem dL_asks_82 : decode cL_asks 82 = .ok (.if_icmp .ne 11, 3) := by decide +kernel
theorem dL_asks_85 : decode cL_asks 85 = .ok (.aload_n 0, 1) := by decide +kernel
theorem dL_asks_86 : decode cL_asks 86 = .ok (.iload_n 2, 1) := by decide +kernel
theorem dL_asks_87 : decode cL_asks 87 = .ok (.invokevirtual 57, 3) := by decide +kernel
theorem dL_asks_90 : decode cL_asks 90 = .ok (.goto 30, 3) := by decide +kernel
theorem dL_asks_93 : decode cL_asks 93 = .ok (.iload_n 1, 1) := by decide +kernel
theorem dL_asks_94 : decode cL_asks 94 = .ok (.bipush 7, 2) := by decide +kernel
theorem dL_asks_96 : decode cL_asks 96 = .ok (.if_icmp .ne 11, 3) := by decide +kernel
theorem dL_asks_99 : decode cL_asks 99 = .ok (.aload_n 0, 1) := by decide +kernel
theorem dL_asks_100 : decode cL_asks 100 = .ok (.iload_n 2, 1) := by decide +kernel
theorem dL_asks_101 : decode cL_asks 101 = .ok (.invokevirtual 60, 3) := by decide +kernel
theorem dL_asks_104 : decode cL_asks 104 = .ok (.goto 16, 3) := by decide +kernel
theorem dL_asks_107 : decode cL_asks 107 = .ok (.aload_n 0, 1) := by decide +kernel
theorem dL_asks_108 : decode cL_asks 108 = .ok (.iload_n 2, 1) := by decide +kernel
theorem dL_asks_109 : decode cL_asks 109 = .ok (.invokevirtual 63, 3) := by decide +kernel
theorem dL_asks_112 : decode cL_asks 112 = .ok (.ifCond .eq 7, 3) := by decide +kernel
theorem dL_asks_115 : decode cL_asks 115 = .ok (.iconst 1, 1) := by decide +kernel
theorem dL_asks_116 : decode cL_asks 116 = .ok (.goto 4, 3) := by decide +kernel
theorem dL_asks_119 : decode cL_asks 119 = .ok (.iconst 0, 1) := by decide +kernel
theorem dL_asks_120 : decode cL_asks 120 = .ok (.ireturn, 1) := by decide +kernel
theorem dL_asks_121 : decode cL_asks 121 = .ok (.astore 4, 2) := by decide +kernel
theorem dL_asks_123 : decode cL_asks 123 = .ok (.sipush (-3000), 3) := by decide +kernel
theorem dL_asks_126 : decode cL_asks 126 = .ok (.ireturn, 1) := by decide +kernel
theorem dL_leastCost_0 : decode cL_leastCost 0 = .ok (.aload_n 0, 1) := by decide +kernel
theorem dL_leastCost_1 : decode cL_leastCost 1 = .ok (.iload_n 1, 1) := by decide +kernel
theorem dL_leastCost_2 : decode cL_leastCost 2 = .ok (.invokevirtual 69, 3) := by decide +kernel
theorem dL_leastCost_5 : decode cL_leastCost 5 = .ok (.ireturn, 1) := by decide +kernel
theorem dL_leastCost_6 : decode cL_leastCost 6 = .ok (.astore_n 2, 1) := by decide +kernel
theorem dL_leastCost_7 : decode cL_leastCost 7 = .ok (.bipush (-20), 2) := by decide +kernel
theorem dL_leastCost_9 : decode cL_leastCost 9 = .ok (.ireturn, 1) := by decide +kernel
theorem dL_leastCost_10 : decode cL_leastCost 10 = .ok (.astore_n 2, 1) := by decide +kernel
theorem dL_leastCost_11 : decode cL_leastCost 11 = .ok (.bipush (-10), 2) := by decide +kernel
theorem dL_leastCost_13 : decode cL_leastCost 13 = .ok (.ireturn, 1) := by decide +kernel
theorem dL_matched_0 : decode cL_matched 0 = .ok (.iload_n 1, 1) := by decide +kernel
theorem dL_matched_1 : decode cL_matched 1 = .ok (.ifCond .eq 12, 3) := by decide +kernel
theorem dL_matched_4 : decode cL_matched 4 = .ok (.aload_n 0, 1) := by decide +kernel
theorem dL_matched_5 : decode cL_matched 5 = .ok (.iload_n 2, 1) := by decide +kernel
theorem dL_matched_6 : decode cL_matched 6 = .ok (.iload_n 3, 1) := by decide +kernel
theorem dL_matched_7 : decode cL_matched 7 = .ok (.invokevirtual 72, 3) := by decide +kernel
theorem dL_matched_10 : decode cL_matched 10 = .ok (.goto 9, 3) := by decide +kernel
theorem dL_matched_13 : decode cL_matched 13 = .ok (.aload_n 0, 1) := by decide +kernel
theorem dL_matched_14 : decode cL_matched 14 = .ok (.iload_n 2, 1) := by decide +kernel
theorem dL_matched_15 : decode cL_matched 15 = .ok (.iload_n 3, 1) := by decide +kernel
theorem dL_matched_16 : decode cL_matched 16 = .ok (.invokevirtual 75, 3) := by decide +kernel
theorem dL_matched_19 : decode cL_matched 19 = .ok (.ireturn, 1) := by decide +kernel
theorem dL_matched_20 : decode cL_matched 20 = .ok (.astore 4, 2) := by decide +kernel
theorem dL_matched_22 : decode cL_matched 22 = .ok (.bipush (-20), 2) := by decide +kernel
theorem dL_matched_24 : decode cL_matched 24 = .ok (.ireturn, 1) := by decide +kernel
theorem dL_delay_0 : decode cL_delay 0 = .ok (.aload_n 0, 1) := by decide +kernel
theorem dL_delay_1 : decode cL_delay 1 = .ok (.iload_n 1, 1) := by decide +kernel
theorem dL_delay_2 : decode cL_delay 2 = .ok (.iload_n 2, 1) := by decide +kernel
theorem dL_delay_3 : decode cL_delay 3 = .ok (.invokevirtual 78, 3) := by decide +kernel
theorem dL_delay_6 : decode cL_delay 6 = .ok (.freturn, 1) := by decide +kernel
theorem dL_delay_7 : decode cL_delay 7 = .ok (.astore_n 3, 1) := by decide +kernel
theorem dL_delay_8 : decode cL_delay 8 = .ok (.ldc 82, 2) := by decide +kernel
theorem dL_delay_10 : decode cL_delay 10 = .ok (.freturn, 1) := by decide +kernel
theorem dL_delay_11 : decode cL_delay 11 = .ok (.astore_n 3, 1) := by decide +kernel
theorem dL_delay_12 : decode cL_delay 12 = .ok (.ldc 83, 2) := by decide +kernel
theorem dL_delay_14 : decode cL_delay 14 = .ok (.freturn, 1) := by decide +kernel
theorem dL_areAlarms_0 : decode cL_areAlarms 0 = .ok (.iconst (-1), 1) := by decide +kernel
theorem dL_areAlarms_1 : decode cL_areAlarms 1 = .ok (.istore_n 2, 1) := by decide +kernel
theorem dL_areAlarms_2 : decode cL_areAlarms 2 = .ok (.aload_n 0, 1) := by decide +kernel
theorem dL_areAlarms_3 : decode cL_areAlarms 3 = .ok (.invokevirtual 84, 3) := by decide +kernel
theorem dL_areAlarms_6 : decode cL_areAlarms 6 = .ok (.ifCond .lt 48, 3) := by decide +kernel
theorem dL_areAlarms_9 : decode cL_areAlarms 9 = .ok (.aload_n 0, 1) := by decide +kernel
theorem dL_areAlarms_10 : decode cL_areAlarms 10 = .ok (.invokevirtual 84, 3) := by decide +kernel
theorem dL_areAlarms_13 : decode cL_areAlarms 13 = .ok (.iconst 3, 1) := by decide +kernel
theorem dL_areAlarms_14 : decode cL_areAlarms 14 = .ok (.aload_n 1, 1) := by decide +kernel
theorem dL_areAlarms_15 : decode cL_areAlarms 15 = .ok (.iconst 0, 1) := by decide +kernel
theorem dL_areAlarms_16 : decode cL_areAlarms 16 = .ok (.iaload, 1) := by decide +kernel
theorem dL_areAlarms_17 : decode cL_areAlarms 17 = .ok (.imul, 1) := by decide +kernel
theorem dL_areAlarms_18 : decode cL_areAlarms 18 = .ok (.if_icmp .gt 36, 3) := by decide +kernel
theorem dL_areAlarms_21 : decode cL_areAlarms 21 = .ok (.aload_n 0, 1) := by decide +kernel
theorem dL_areAlarms_22 : decode cL_areAlarms 22 = .ok (.iconst 1, 1) := by decide +kernel
theorem dL_areAlarms_23 : decode cL_areAlarms 23 = .ok (.aload_n 0, 1) := by decide +kernel
theorem dL_areAlarms_24 : decode cL_areAlarms 24 = .ok (.invokevirtual 84, 3) := by decide +kernel
theorem dL_areAlarms_27 : decode cL_areAlarms 27 = .ok (.iconst 0, 1) := by decide +kernel
theorem dL_areAlarms_28 : decode cL_areAlarms 28 = .ok (.invokestatic 88, 3) := by decide +kernel
theorem dL_areAlarms_31 : decode cL_areAlarms 31 = .ok (.sipush (-3000), 3) := by decide +kernel
theorem dL_areAlarms_34 : decode cL_areAlarms 34 = .ok (.if_icmp .ne 20, 3) := by decide +kernel
theorem dL_areAlarms_37 : decode cL_areAlarms 37 = .ok (.aload_n 0, 1) := by decide +kernel
theorem dL_areAlarms_38 : decode cL_areAlarms 38 = .ok (.iconst 2, 1) := by decide +kernel
theorem dL_areAlarms_39 : decode cL_areAlarms 39 = .ok (.iconst (-1), 1) := by decide +kernel
theorem dL_areAlarms_40 : decode cL_areAlarms 40 = .ok (.iconst 0, 1) := by decide +kernel
theorem dL_areAlarms_41 : decode cL_areAlarms 41 = .ok (.invokestatic 88, 3) := by decide +kernel
theorem dL_areAlarms_44 : decode cL_areAlarms 44 = .ok (.sipush (-3000), 3) := by decide +kernel
theorem dL_areAlarms_47 : decode cL_areAlarms 47 = .ok (.if_icmp .ne 7, 3) := by decide +kernel
theorem dL_areAlarms_50 : decode cL_areAlarms 50 = .ok (.iconst 1, 1) := by decide +kernel
theorem dL_areAlarms_51 : decode cL_areAlarms 51 = .ok (.goto 4, 3) := by decide +kernel
theorem dL_areAlarms_54 : decode cL_areAlarms 54 = .ok (.iconst 0, 1) := by decide +kernel
theorem dL_areAlarms_55 : decode cL_areAlarms 55 = .ok (.istore_n 3, 1) := by decide +kernel
theorem dL_areAlarms_56 : decode cL_areAlarms 56 = .ok (.iconst 3, 1) := by decide +kernel
theorem dL_areAlarms_57 : decode cL_areAlarms 57 = .ok (.newarray .int, 2) := by decide +kernel
theorem dL_areAlarms_59 : decode cL_areAlarms 59 = .ok (.astore 4, 2) := by decide +kernel
theorem dL_areAlarms_61 : decode cL_areAlarms 61 = .ok (.iconst (-1), 1) := by decide +kernel
theorem dL_areAlarms_62 : decode cL_areAlarms 62 = .ok (.istore 5, 2) := by decide +kernel
theorem dL_areAlarms_64 : decode cL_areAlarms 64 = .ok (.iconst 0, 1) := by decide +kernel
theorem dL_areAlarms_65 : decode cL_areAlarms 65 = .ok (.istore 6, 2) := by decide +kernel
theorem dL_areAlarms_67 : decode cL_areAlarms 67 = .ok (.iload 6, 2) := by decide +kernel
theorem dL_areAlarms_69 : decode cL_areAlarms 69 = .ok (.aload_n 0, 1) := by decide +kernel
theorem dL_areAlarms_70 : decode cL_areAlarms 70 = .ok (.invokevirtual 84, 3) := by decide +kernel
theorem dL_areAlarms_73 : decode cL_areAlarms 73 = .ok (.if_icmp .ge 122, 3) := by decide +kernel
theorem dL_areAlarms_76 : decode cL_areAlarms 76 = .ok (.iload_n 3, 1) := by decide +kernel
theorem dL_areAlarms_77 : decode cL_areAlarms 77 = .ok (.ifCond .eq 118, 3) := by decide +kernel
theorem dL_areAlarms_80 : decode cL_areAlarms 80 = .ok (.aload_n 0, 1) := by decide +kernel
theorem dL_areAlarms_81 : decode cL_areAlarms 81 = .ok (.iload 6, 2) := by decide +kernel
theorem dL_areAlarms_83 : decode cL_areAlarms 83 = .ok (.invokevirtual 41, 3) := by decide +kernel
theorem dL_areAlarms_86 : decode cL_areAlarms 86 = .ok (.istore 7, 2) := by decide +kernel
theorem dL_areAlarms_88 : decode cL_areAlarms 88 = .ok (.aload_n 0, 1) := by decide +kernel
theorem dL_areAlarms_89 : decode cL_areAlarms 89 = .ok (.iload 6, 2) := by decide +kernel
theorem dL_areAlarms_91 : decode cL_areAlarms 91 = .ok (.invokevirtual 44, 3) := by decide +kernel
theorem dL_areAlarms_94 : decode cL_areAlarms 94 = .ok (.istore 8, 2) := by decide +kernel
theorem dL_areAlarms_96 : decode cL_areAlarms 96 = .ok (.iload 7, 2) := by decide +kernel
theorem dL_areAlarms_98 : decode cL_areAlarms 98 = .ok (.ifCond .lt 65, 3) := by decide +kernel
theorem dL_areAlarms_101 : decode cL_areAlarms 101 = .ok (.iload 7, 2) := by decide +kernel
theorem dL_areAlarms_103 : decode cL_areAlarms 103 = .ok (.iconst 3, 1) := by decide +kernel
theorem dL_areAlarms_104 : decode cL_areAlarms 104 = .ok (.if_icmp .ge 59, 3) := by decide +kernel
theorem dL_areAlarms_107 : decode cL_areAlarms 107 = .ok (.iload 8, 2) := by decide +kernel
theorem dL_areAlarms_109 : decode cL_areAlarms 109 = .ok (.ifCond .lt 54, 3) := by decide +kernel
theorem dL_areAlarms_112 : decode cL_areAlarms 112 = .ok (.iload 8, 2) := by decide +kernel
theorem dL_areAlarms_114 : decode cL_areAlarms 114 = .ok (.aload_n 1, 1) := by decide +kernel
theorem dL_areAlarms_115 : decode cL_areAlarms 115 = .ok (.iconst 0, 1) := by decide +kernel
theorem dL_areAlarms_116 : decode cL_areAlarms 116 = .ok (.iaload, 1) := by decide +kernel
theorem dL_areAlarms_117 : decode cL_areAlarms 117 = .ok (.if_icmp .ge 46, 3) := by decide +kernel
theorem dL_areAlarms_120 : decode cL_areAlarms 120 = .ok (.iload 8, 2) := by decide +kernel
theorem dL_areAlarms_122 : decode cL_areAlarms 122 = .ok (.iload_n 2, 1) := by decide +kernel
theorem dL_areAlarms_123 : decode cL_areAlarms 123 = .ok (.if_icmp .gt 16, 3) := by decide +kernel
theorem dL_areAlarms_126 : decode cL_areAlarms 126 = .ok (.iload 8, 2) := by decide +kernel
theorem dL_areAlarms_128 : decode cL_areAlarms 128 = .ok (.iload_n 2, 1) := by decide +kernel
theorem dL_areAlarms_129 : decode cL_areAlarms 129 = .ok (.if_icmp .ne 34, 3) := by decide +kernel
theorem dL_areAlarms_132 : decode cL_areAlarms 132 = .ok (.iload 7, 2) := by decide +kernel
theorem dL_areAlarms_134 : decode cL_areAlarms 134 = .ok (.iload 5, 2) := by decide +kernel
theorem dL_areAlarms_136 : decode cL_areAlarms 136 = .ok (.if_icmp .le 27, 3) := by decide +kernel
theorem dL_areAlarms_139 : decode cL_areAlarms 139 = .ok (.aload_n 0, 1) := by decide +kernel
theorem dL_areAlarms_140 : decode cL_areAlarms 140 = .ok (.iload 6, 2) := by decide +kernel
theorem dL_areAlarms_142 : decode cL_areAlarms 142 = .ok (.invokevirtual 47, 3) := by decide +kernel
theorem dL_areAlarms_145 : decode cL_areAlarms 145 = .ok (.ifCond .lt 18, 3) := by decide +kernel
theorem dL_areAlarms_148 : decode cL_areAlarms 148 = .ok (.aload_n 0, 1) := by decide +kernel
theorem dL_areAlarms_149 : decode cL_areAlarms 149 = .ok (.iload 6, 2) := by decide +kernel
theorem dL_areAlarms_151 : decode cL_areAlarms 151 = .ok (.invokevirtual 47, 3) := by decide +kernel
theorem dL_areAlarms_154 : decode cL_areAlarms 154 = .ok (.iload 8, 2) := by decide +kernel
theorem dL_areAlarms_156 : decode cL_areAlarms 156 = .ok (.if_icmp .gt 7, 3) := by decide +kernel
theorem dL_areAlarms_159 : decode cL_areAlarms 159 = .ok (.iconst 1, 1) := by decide +kernel
theorem dL_areAlarms_160 : decode cL_areAlarms 160 = .ok (.goto 4, 3) := by decide +kernel
theorem dL_areAlarms_163 : decode cL_areAlarms 163 = .ok (.iconst 0, 1) := by decide +kernel
theorem dL_areAlarms_164 : decode cL_areAlarms 164 = .ok (.istore_n 3, 1) := by decide +kernel
theorem dL_areAlarms_165 : decode cL_areAlarms 165 = .ok (.iload 8, 2) := by decide +kernel
theorem dL_areAlarms_167 : decode cL_areAlarms 167 = .ok (.istore_n 2, 1) := by decide +kernel
theorem dL_areAlarms_168 : decode cL_areAlarms 168 = .ok (.iload 7, 2) := by decide +kernel
theorem dL_areAlarms_170 : decode cL_areAlarms 170 = .ok (.istore 5, 2) := by decide +kernel
theorem dL_areAlarms_172 : decode cL_areAlarms 172 = .ok (.aload 4, 2) := by decide +kernel
theorem dL_areAlarms_174 : decode cL_areAlarms 174 = .ok (.iload_n 3, 1) := by decide +kernel
theorem dL_areAlarms_175 : decode cL_areAlarms 175 = .ok (.ifCond .eq 8, 3) := by decide +kernel
theorem dL_areAlarms_178 : decode cL_areAlarms 178 = .ok (.iload 7, 2) := by decide +kernel
theorem dL_areAlarms_180 : decode cL_areAlarms 180 = .ok (.goto 4, 3) := by decide +kernel
theorem dL_areAlarms_183 : decode cL_areAlarms 183 = .ok (.iconst 0, 1) := by decide +kernel
theorem dL_areAlarms_184 : decode cL_areAlarms 184 = .ok (.dup2, 1) := by decide +kernel
theorem dL_areAlarms_185 : decode cL_areAlarms 185 = .ok (.iaload, 1) := by decide +kernel
theorem dL_areAlarms_186 : decode cL_areAlarms 186 = .ok (.iconst 1, 1) := by decide +kernel
theorem dL_areAlarms_187 : decode cL_areAlarms 187 = .ok (.iadd, 1) := by decide +kernel
theorem dL_areAlarms_188 : decode cL_areAlarms 188 = .ok (.iastore, 1) := by decide +kernel
theorem dL_areAlarms_189 : decode cL_areAlarms 189 = .ok (.iinc 6 1, 3) := by decide +kernel
theorem dL_areAlarms_192 : decode cL_areAlarms 192 = .ok (.goto (-125), 3) := by decide +kernel
theorem dL_areAlarms_195 : decode cL_areAlarms 195 = .ok (.iconst 0, 1) := by decide +kernel
theorem dL_areAlarms_196 : decode cL_areAlarms 196 = .ok (.istore 6, 2) := by decide +kernel
theorem dL_areAlarms_198 : decode cL_areAlarms 198 = .ok (.iload 6, 2) := by decide +kernel
theorem dL_areAlarms_200 : decode cL_areAlarms 200 = .ok (.iconst 3, 1) := by decide +kernel
theorem dL_areAlarms_201 : decode cL_areAlarms 201 = .ok (.if_icmp .ge 152, 3) := by decide +kernel
theorem dL_areAlarms_204 : decode cL_areAlarms 204 = .ok (.iload_n 3, 1) := by decide +kernel
theorem dL_areAlarms_205 : decode cL_areAlarms 205 = .ok (.ifCond .eq 148, 3) := by decide +kernel
theorem dL_areAlarms_208 : decode cL_areAlarms 208 = .ok (.aload_n 0, 1) := by decide +kernel
theorem dL_areAlarms_209 : decode cL_areAlarms 209 = .ok (.iconst 0, 1) := by decide +kernel
theorem dL_areAlarms_210 : decode cL_areAlarms 210 = .ok (.iload 6, 2) := by decide +kernel
theorem dL_areAlarms_212 : decode cL_areAlarms 212 = .ok (.bipush 120, 2) := by decide +kernel
theorem dL_areAlarms_214 : decode cL_areAlarms 214 = .ok (.invokestatic 92, 3) := by decide +kernel
theorem dL_areAlarms_217 : decode cL_areAlarms 217 = .ok (.istore 7, 2) := by decide +kernel
theorem dL_areAlarms_219 : decode cL_areAlarms 219 = .ok (.aload_n 0, 1) := by decide +kernel
theorem dL_areAlarms_220 : decode cL_areAlarms 220 = .ok (.iconst 0, 1) := by decide +kernel
theorem dL_areAlarms_221 : decode cL_areAlarms 221 = .ok (.iload 6, 2) := by decide +kernel
theorem dL_areAlarms_223 : decode cL_areAlarms 223 = .ok (.iconst 3, 1) := by decide +kernel
theorem dL_areAlarms_224 : decode cL_areAlarms 224 = .ok (.invokestatic 92, 3) := by decide +kernel
theorem dL_areAlarms_227 : decode cL_areAlarms 227 = .ok (.istore 8, 2) := by decide +kernel
theorem dL_areAlarms_229 : decode cL_areAlarms 229 = .ok (.iload 7, 2) := by decide +kernel
theorem dL_areAlarms_231 : decode cL_areAlarms 231 = .ok (.aload_n 0, 1) := by decide +kernel
theorem dL_areAlarms_232 : decode cL_areAlarms 232 = .ok (.iconst 1, 1) := by decide +kernel
theorem dL_areAlarms_233 : decode cL_areAlarms 233 = .ok (.iload 6, 2) := by decide +kernel
theorem dL_areAlarms_235 : decode cL_areAlarms 235 = .ok (.bipush 120, 2) := by decide +kernel
theorem dL_areAlarms_237 : decode cL_areAlarms 237 = .ok (.invokestatic 92, 3) := by decide +kernel
theorem dL_areAlarms_240 : decode cL_areAlarms 240 = .ok (.iadd, 1) := by decide +kernel
theorem dL_areAlarms_241 : decode cL_areAlarms 241 = .ok (.aload 4, 2) := by decide +kernel
theorem dL_areAlarms_243 : decode cL_areAlarms 243 = .ok (.iload 6, 2) := by decide +kernel
theorem dL_areAlarms_245 : decode cL_areAlarms 245 = .ok (.iaload, 1) := by decide +kernel
theorem dL_areAlarms_246 : decode cL_areAlarms 246 = .ok (.if_icmp .ne 49, 3) := by decide +kernel
theorem dL_areAlarms_249 : decode cL_areAlarms 249 = .ok (.iload 8, 2) := by decide +kernel
theorem dL_areAlarms_251 : decode cL_areAlarms 251 = .ok (.aload_n 0, 1) := by decide +kernel
theorem dL_areAlarms_252 : decode cL_areAlarms 252 = .ok (.iconst 1, 1) := by decide +kernel
theorem dL_areAlarms_253 : decode cL_areAlarms 253 = .ok (.iload 6, 2) := by decide +kernel
theorem dL_areAlarms_255 : decode cL_areAlarms 255 = .ok (.iconst 3, 1) := by decide +kernel
theorem dL_areAlarms_256 : decode cL_areAlarms 256 = .ok (.invokestatic 92, 3) := by decide +kernel
theorem dL_areAlarms_259 : decode cL_areAlarms 259 = .ok (.iadd, 1) := by decide +kernel
theorem dL_areAlarms_260 : decode cL_areAlarms 260 = .ok (.aload 4, 2) := by decide +kernel
theorem dL_areAlarms_262 : decode cL_areAlarms 262 = .ok (.iload 6, 2) := by decide +kernel
theorem dL_areAlarms_264 : decode cL_areAlarms 264 = .ok (.iaload, 1) := by decide +kernel
theorem dL_areAlarms_265 : decode cL_areAlarms 265 = .ok (.if_icmp .ne 30, 3) := by decide +kernel
theorem dL_areAlarms_268 : decode cL_areAlarms 268 = .ok (.iload 7, 2) := by decide +kernel
theorem dL_areAlarms_270 : decode cL_areAlarms 270 = .ok (.aload_n 1, 1) := by decide +kernel
theorem dL_areAlarms_271 : decode cL_areAlarms 271 = .ok (.iconst 2, 1) := by decide +kernel
theorem dL_areAlarms_272 : decode cL_areAlarms 272 = .ok (.iaload, 1) := by decide +kernel
theorem dL_areAlarms_273 : decode cL_areAlarms 273 = .ok (.if_icmp .gt 22, 3) := by decide +kernel
theorem dL_areAlarms_276 : decode cL_areAlarms 276 = .ok (.iload 8, 2) := by decide +kernel
theorem dL_areAlarms_278 : decode cL_areAlarms 278 = .ok (.ifCond .lt 17, 3) := by decide +kernel
theorem dL_areAlarms_281 : decode cL_areAlarms 281 = .ok (.iload 8, 2) := by decide +kernel
theorem dL_areAlarms_283 : decode cL_areAlarms 283 = .ok (.aload 4, 2) := by decide +kernel
theorem dL_areAlarms_285 : decode cL_areAlarms 285 = .ok (.iload 6, 2) := by decide +kernel
theorem dL_areAlarms_287 : decode cL_areAlarms 287 = .ok (.iaload, 1) := by decide +kernel
theorem dL_areAlarms_288 : decode cL_areAlarms 288 = .ok (.if_icmp .gt 7, 3) := by decide +kernel
theorem dL_areAlarms_291 : decode cL_areAlarms 291 = .ok (.iconst 1, 1) := by decide +kernel
theorem dL_areAlarms_292 : decode cL_areAlarms 292 = .ok (.goto 4, 3) := by decide +kernel
theorem dL_areAlarms_295 : decode cL_areAlarms 295 = .ok (.iconst 0, 1) := by decide +kernel
theorem dL_areAlarms_296 : decode cL_areAlarms 296 = .ok (.istore_n 3, 1) := by decide +kernel
theorem dL_areAlarms_297 : decode cL_areAlarms 297 = .ok (.aload_n 0, 1) := by decide +kernel
theorem dL_areAlarms_298 : decode cL_areAlarms 298 = .ok (.iload 6, 2) := by decide +kernel
theorem dL_areAlarms_300 : decode cL_areAlarms 300 = .ok (.iconst 3, 1) := by decide +kernel
theorem dL_areAlarms_301 : decode cL_areAlarms 301 = .ok (.invokestatic 95, 3) := by decide +kernel
theorem dL_areAlarms_304 : decode cL_areAlarms 304 = .ok (.fstore 9, 2) := by decide +kernel
theorem dL_areAlarms_306 : decode cL_areAlarms 306 = .ok (.iload_n 3, 1) := by decide +kernel
theorem dL_areAlarms_307 : decode cL_areAlarms 307 = .ok (.ifCond .eq 38, 3) := by decide +kernel
theorem dL_areAlarms_310 : decode cL_areAlarms 310 = .ok (.iload 8, 2) := by decide +kernel
theorem dL_areAlarms_312 : decode cL_areAlarms 312 = .ok (.ifCond .ne 14, 3) := by decide +kernel
theorem dL_areAlarms_315 : decode cL_areAlarms 315 = .ok (.fload 9, 2) := by decide +kernel
theorem dL_areAlarms_317 : decode cL_areAlarms 317 = .ok (.ldc 83, 2) := by decide +kernel
theorem dL_areAlarms_319 : decode cL_areAlarms 319 = .ok (.fcmp .l, 1) := by decide +kernel
theorem dL_areAlarms_320 : decode cL_areAlarms 320 = .ok (.ifCond .ne 25, 3) := by decide +kernel
theorem dL_areAlarms_323 : decode cL_areAlarms 323 = .ok (.goto 18, 3) := by decide +kernel
theorem dL_areAlarms_326 : decode cL_areAlarms 326 = .ok (.fload 9, 2) := by decide +kernel
theorem dL_areAlarms_328 : decode cL_areAlarms 328 = .ok (.fconst 0, 1) := by decide +kernel
theorem dL_areAlarms_329 : decode cL_areAlarms 329 = .ok (.fcmp .l, 1) := by decide +kernel
theorem dL_areAlarms_330 : decode cL_areAlarms 330 = .ok (.ifCond .lt 15, 3) := by decide +kernel
theorem dL_areAlarms_333 : decode cL_areAlarms 333 = .ok (.fload 9, 2) := by decide +kernel
theorem dL_areAlarms_335 : decode cL_areAlarms 335 = .ok (.ldc 99, 2) := by decide +kernel
theorem dL_areAlarms_337 : decode cL_areAlarms 337 = .ok (.fcmp .g, 1) := by decide +kernel
theorem dL_areAlarms_338 : decode cL_areAlarms 338 = .ok (.ifCond .gt 7, 3) := by decide +kernel
theorem dL_areAlarms_341 : decode cL_areAlarms 341 = .ok (.iconst 1, 1) := by decide +kernel
theorem dL_areAlarms_342 : decode cL_areAlarms 342 = .ok (.goto 4, 3) := by decide +kernel
theorem dL_areAlarms_345 : decode cL_areAlarms 345 = .ok (.iconst 0, 1) := by decide +kernel
theorem dL_areAlarms_346 : decode cL_areAlarms 346 = .ok (.istore_n 3, 1) := by decide +kernel
theorem dL_areAlarms_347 : decode cL_areAlarms 347 = .ok (.iinc 6 1, 3) := by decide +kernel
theorem dL_areAlarms_350 : decode cL_areAlarms 350 = .ok (.goto (-152), 3) := by decide +kernel
theorem dL_areAlarms_353 : decode cL_areAlarms 353 = .ok (.iload_n 3, 1) := by decide +kernel
theorem dL_areAlarms_354 : decode cL_areAlarms 354 = .ok (.ifCond .eq 65, 3) := by decide +kernel
theorem dL_areAlarms_357 : decode cL_areAlarms 357 = .ok (.aload_n 0, 1) := by decide +kernel
theorem dL_areAlarms_358 : decode cL_areAlarms 358 = .ok (.iconst 0, 1) := by decide +kernel
theorem dL_areAlarms_359 : decode cL_areAlarms 359 = .ok (.iconst 3, 1) := by decide +kernel
theorem dL_areAlarms_360 : decode cL_areAlarms 360 = .ok (.iconst 0, 1) := by decide +kernel
theorem dL_areAlarms_361 : decode cL_areAlarms 361 = .ok (.invokestatic 92, 3) := by decide +kernel
theorem dL_areAlarms_364 : decode cL_areAlarms 364 = .ok (.bipush (-20), 2) := by decide +kernel
theorem dL_areAlarms_366 : decode cL_areAlarms 366 = .ok (.if_icmp .ne 53, 3) := by decide +kernel
theorem dL_areAlarms_369 : decode cL_areAlarms 369 = .ok (.aload_n 0, 1) := by decide +kernel
theorem dL_areAlarms_370 : decode cL_areAlarms 370 = .ok (.iconst 1, 1) := by decide +kernel
theorem dL_areAlarms_371 : decode cL_areAlarms 371 = .ok (.iconst 0, 1) := by decide +kernel
theorem dL_areAlarms_372 : decode cL_areAlarms 372 = .ok (.bipush 121, 2) := by decide +kernel
theorem dL_areAlarms_374 : decode cL_areAlarms 374 = .ok (.invokestatic 92, 3) := by decide +kernel
theorem dL_areAlarms_377 : decode cL_areAlarms 377 = .ok (.bipush (-20), 2) := by decide +kernel
theorem dL_areAlarms_379 : decode cL_areAlarms 379 = .ok (.if_icmp .ne 40, 3) := by decide +kernel
theorem dL_areAlarms_382 : decode cL_areAlarms 382 = .ok (.aload_n 0, 1) := by decide +kernel
theorem dL_areAlarms_383 : decode cL_areAlarms 383 = .ok (.iconst (-1), 1) := by decide +kernel
theorem dL_areAlarms_384 : decode cL_areAlarms 384 = .ok (.iconst 0, 1) := by decide +kernel
theorem dL_areAlarms_385 : decode cL_areAlarms 385 = .ok (.invokestatic 95, 3) := by decide +kernel
theorem dL_areAlarms_388 : decode cL_areAlarms 388 = .ok (.ldc 82, 2) := by decide +kernel
theorem dL_areAlarms_390 : decode cL_areAlarms 390 = .ok (.fcmp .l, 1) := by decide +kernel
theorem dL_areAlarms_391 : decode cL_areAlarms 391 = .ok (.ifCond .ne 28, 3) := by decide +kernel
theorem dL_areAlarms_394 : decode cL_areAlarms 394 = .ok (.aload_n 0, 1) := by decide +kernel
theorem dL_areAlarms_395 : decode cL_areAlarms 395 = .ok (.invokevirtual 100, 3) := by decide +kernel
theorem dL_areAlarms_398 : decode cL_areAlarms 398 = .ok (.ifCond .lt 21, 3) := by decide +kernel
theorem dL_areAlarms_401 : decode cL_areAlarms 401 = .ok (.aload_n 0, 1) := by decide +kernel
theorem dL_areAlarms_402 : decode cL_areAlarms 402 = .ok (.invokevirtual 103, 3) := by decide +kernel
theorem dL_areAlarms_405 : decode cL_areAlarms 405 = .ok (.ifCond .lt 14, 3) := by decide +kernel
theorem dL_areAlarms_408 : decode cL_areAlarms 408 = .ok (.aload_n 0, 1) := by decide +kernel
theorem dL_areAlarms_409 : decode cL_areAlarms 409 = .ok (.invokevirtual 106, 3) := by decide +kernel
theorem dL_areAlarms_412 : decode cL_areAlarms 412 = .ok (.ifCond .lt 7, 3) := by decide +kernel
theorem dL_areAlarms_415 : decode cL_areAlarms 415 = .ok (.iconst 1, 1) := by decide +kernel
theorem dL_areAlarms_416 : decode cL_areAlarms 416 = .ok (.goto 4, 3) := by decide +kernel
theorem dL_areAlarms_419 : decode cL_areAlarms 419 = .ok (.iconst 0, 1) := by decide +kernel
theorem dL_areAlarms_420 : decode cL_areAlarms 420 = .ok (.ireturn, 1) := by decide +kernel
theorem dL_isSegment_0 : decode cL_isSegment 0 = .ok (.aload_n 1, 1) := by decide +kernel
theorem dL_isSegment_1 : decode cL_isSegment 1 = .ok (.iconst 0, 1) := by decide +kernel
theorem dL_isSegment_2 : decode cL_isSegment 2 = .ok (.iaload, 1) := by decide +kernel
theorem dL_isSegment_3 : decode cL_isSegment 3 = .ok (.ifCond .ne 35, 3) := by decide +kernel
theorem dL_isSegment_6 : decode cL_isSegment 6 = .ok (.aload_n 0, 1) := by decide +kernel
theorem dL_isSegment_7 : decode cL_isSegment 7 = .ok (.iconst 4, 1) := by decide +kernel
theorem dL_isSegment_8 : decode cL_isSegment 8 = .ok (.iconst 0, 1) := by decide +kernel
theorem dL_isSegment_9 : decode cL_isSegment 9 = .ok (.iconst 1, 1) := by decide +kernel
theorem dL_isSegment_10 : decode cL_isSegment 10 = .ok (.invokestatic 88, 3) := by decide +kernel
theorem dL_isSegment_13 : decode cL_isSegment 13 = .ok (.sipush (-3000), 3) := by decide +kernel
theorem dL_isSegment_16 : decode cL_isSegment 16 = .ok (.if_icmp .ne 20, 3) := by decide +kernel
theorem dL_isSegment_19 : decode cL_isSegment 19 = .ok (.aload_n 0, 1) := by decide +kernel
theorem dL_isSegment_20 : decode cL_isSegment 20 = .ok (.iconst 5, 1) := by decide +kernel
theorem dL_isSegment_21 : decode cL_isSegment 21 = .ok (.iconst 0, 1) := by decide +kernel
theorem dL_isSegment_22 : decode cL_isSegment 22 = .ok (.iconst 0, 1) := by decide +kernel
theorem dL_isSegment_23 : decode cL_isSegment 23 = .ok (.invokestatic 88, 3) := by decide +kernel
theorem dL_isSegment_26 : decode cL_isSegment 26 = .ok (.sipush (-3000), 3) := by decide +kernel
theorem dL_isSegment_29 : decode cL_isSegment 29 = .ok (.if_icmp .ne 7, 3) := by decide +kernel
theorem dL_isSegment_32 : decode cL_isSegment 32 = .ok (.iconst 1, 1) := by decide +kernel
theorem dL_isSegment_33 : decode cL_isSegment 33 = .ok (.goto 4, 3) := by decide +kernel
theorem dL_isSegment_36 : decode cL_isSegment 36 = .ok (.iconst 0, 1) := by decide +kernel
theorem dL_isSegment_37 : decode cL_isSegment 37 = .ok (.ireturn, 1) := by decide +kernel
theorem dL_isSegment_38 : decode cL_isSegment 38 = .ok (.iload_n 2, 1) := by decide +kernel
theorem dL_isSegment_39 : decode cL_isSegment 39 = .ok (.aload_n 1, 1) := by decide +kernel
theorem dL_isSegment_40 : decode cL_isSegment 40 = .ok (.iconst 0, 1) := by decide +kernel
theorem dL_isSegment_41 : decode cL_isSegment 41 = .ok (.iaload, 1) := by decide +kernel
theorem dL_isSegment_42 : decode cL_isSegment 42 = .ok (.irem, 1) := by decide +kernel
theorem dL_isSegment_43 : decode cL_isSegment 43 = .ok (.istore 4, 2) := by decide +kernel
theorem dL_isSegment_45 : decode cL_isSegment 45 = .ok (.iload 4, 2) := by decide +kernel
theorem dL_isSegment_47 : decode cL_isSegment 47 = .ok (.iconst 1, 1) := by decide +kernel
theorem dL_isSegment_48 : decode cL_isSegment 48 = .ok (.iadd, 1) := by decide +kernel
theorem dL_isSegment_49 : decode cL_isSegment 49 = .ok (.iload_n 3, 1) := by decide +kernel
theorem dL_isSegment_50 : decode cL_isSegment 50 = .ok (.aload_n 1, 1) := by decide +kernel
theorem dL_isSegment_51 : decode cL_isSegment 51 = .ok (.iconst 0, 1) := by decide +kernel
theorem dL_isSegment_52 : decode cL_isSegment 52 = .ok (.iaload, 1) := by decide +kernel
theorem dL_isSegment_53 : decode cL_isSegment 53 = .ok (.iload 4, 2) := by decide +kernel
theorem dL_isSegment_55 : decode cL_isSegment 55 = .ok (.isub, 1) := by decide +kernel
theorem dL_isSegment_56 : decode cL_isSegment 56 = .ok (.irem, 1) := by decide +kernel
theorem dL_isSegment_57 : decode cL_isSegment 57 = .ok (.iadd, 1) := by decide +kernel
theorem dL_isSegment_58 : decode cL_isSegment 58 = .ok (.istore 5, 2) := by decide +kernel
theorem dL_isSegment_60 : decode cL_isSegment 60 = .ok (.aload_n 0, 1) := by decide +kernel
theorem dL_isSegment_61 : decode cL_isSegment 61 = .ok (.iload 4, 2) := by decide +kernel
theorem dL_isSegment_63 : decode cL_isSegment 63 = .ok (.iload 5, 2) := by decide +kernel
theorem dL_isSegment_65 : decode cL_isSegment 65 = .ok (.invokevirtual 54, 3) := by decide +kernel
theorem dL_isSegment_68 : decode cL_isSegment 68 = .ok (.istore 6, 2) := by decide +kernel
theorem dL_isSegment_70 : decode cL_isSegment 70 = .ok (.iconst 0, 1) := by decide +kernel
theorem dL_isSegment_71 : decode cL_isSegment 71 = .ok (.istore 7, 2) := by decide +kernel
theorem dL_isSegment_73 : decode cL_isSegment 73 = .ok (.iconst 0, 1) := by decide +kernel
theorem dL_isSegment_74 : decode cL_isSegment 74 = .ok (.istore 8, 2) := by decide +kernel
theorem dL_isSegment_76 : decode cL_isSegment 76 = .ok (.iconst 0, 1) := by decide +kernel
theorem dL_isSegment_77 : decode cL_isSegment 77 = .ok (.istore 9, 2) := by decide +kernel
theorem dL_isSegment_79 : decode cL_isSegment 79 = .ok (.iconst 0, 1) := by decide +kernel
theorem dL_isSegment_80 : decode cL_isSegment 80 = .ok (.istore 10, 2) := by decide +kernel
theorem dL_isSegment_82 : decode cL_isSegment 82 = .ok (.iload 4, 2) := by decide +kernel
theorem dL_isSegment_84 : decode cL_isSegment 84 = .ok (.istore 11, 2) := by decide +kernel
theorem dL_isSegment_86 : decode cL_isSegment 86 = .ok (.iload 11, 2) := by decide +kernel
theorem dL_isSegment_88 : decode cL_isSegment 88 = .ok (.iload 5, 2) := by decide +kernel
theorem dL_isSegment_90 : decode cL_isSegment 90 = .ok (.if_icmp .ge 95, 3) := by decide +kernel
theorem dL_isSegment_93 : decode cL_isSegment 93 = .ok (.aload_n 0, 1) := by decide +kernel
theorem dL_isSegment_94 : decode cL_isSegment 94 = .ok (.iload 11, 2) := by decide +kernel
theorem dL_isSegment_96 : decode cL_isSegment 96 = .ok (.invokevirtual 38, 3) := by decide +kernel
theorem dL_isSegment_99 : decode cL_isSegment 99 = .ok (.istore 12, 2) := by decide +kernel
theorem dL_isSegment_101 : decode cL_isSegment 101 = .ok (.iload 7, 2) := by decide +kernel
theorem dL_isSegment_103 : decode cL_isSegment 103 = .ok (.iload 12, 2) := by decide +kernel
theorem dL_isSegment_105 : decode cL_isSegment 105 = .ok (.iload 6, 2) := by decide +kernel
theorem dL_isSegment_107 : decode cL_isSegment 107 = .ok (.if_icmp .ge 7, 3) := by decide +kernel
theorem dL_isSegment_110 : decode cL_isSegment 110 = .ok (.iconst 1, 1) := by decide +kernel
theorem dL_isSegment_111 : decode cL_isSegment 111 = .ok (.goto 4, 3) := by decide +kernel
theorem dL_isSegment_114 : decode cL_isSegment 114 = .ok (.iconst 0, 1) := by decide +kernel
theorem dL_isSegment_115 : decode cL_isSegment 115 = .ok (.iadd, 1) := by decide +kernel
theorem dL_isSegment_116 : decode cL_isSegment 116 = .ok (.istore 7, 2) := by decide +kernel
theorem dL_isSegment_118 : decode cL_isSegment 118 = .ok (.iload 8, 2) := by decide +kernel
theorem dL_isSegment_120 : decode cL_isSegment 120 = .ok (.iload 12, 2) := by decide +kernel
theorem dL_isSegment_122 : decode cL_isSegment 122 = .ok (.iload 6, 2) := by decide +kernel
theorem dL_isSegment_124 : decode cL_isSegment 124 = .ok (.if_icmp .le 7, 3) := by decide +kernel
theorem dL_isSegment_127 : decode cL_isSegment 127 = .ok (.iconst 1, 1) := by decide +kernel
theorem dL_isSegment_128 : decode cL_isSegment 128 = .ok (.goto 4, 3) := by decide +kernel
theorem dL_isSegment_131 : decode cL_isSegment 131 = .ok (.iconst 0, 1) := by decide +kernel
theorem dL_isSegment_132 : decode cL_isSegment 132 = .ok (.iadd, 1) := by decide +kernel
theorem dL_isSegment_133 : decode cL_isSegment 133 = .ok (.istore 8, 2) := by decide +kernel
theorem dL_isSegment_135 : decode cL_isSegment 135 = .ok (.iload 9, 2) := by decide +kernel
theorem dL_isSegment_137 : decode cL_isSegment 137 = .ok (.iload 12, 2) := by decide +kernel
theorem dL_isSegment_139 : decode cL_isSegment 139 = .ok (.iload 6, 2) := by decide +kernel
theorem dL_isSegment_141 : decode cL_isSegment 141 = .ok (.if_icmp .ge 11, 3) := by decide +kernel
theorem dL_isSegment_144 : decode cL_isSegment 144 = .ok (.iload 6, 2) := by decide +kernel
theorem dL_isSegment_146 : decode cL_isSegment 146 = .ok (.iload 12, 2) := by decide +kernel
theorem dL_isSegment_148 : decode cL_isSegment 148 = .ok (.isub, 1) := by decide +kernel
theorem dL_isSegment_149 : decode cL_isSegment 149 = .ok (.goto 8, 3) := by decide +kernel
theorem dL_isSegment_152 : decode cL_isSegment 152 = .ok (.iload 12, 2) := by decide +kernel
theorem dL_isSegment_154 : decode cL_isSegment 154 = .ok (.iload 6, 2) := by decide +kernel
theorem dL_isSegment_156 : decode cL_isSegment 156 = .ok (.isub, 1) := by decide +kernel
theorem dL_isSegment_157 : decode cL_isSegment 157 = .ok (.iadd, 1) := by decide +kernel
theorem dL_isSegment_158 : decode cL_isSegment 158 = .ok (.istore 9, 2) := by decide +kernel
theorem dL_isSegment_160 : decode cL_isSegment 160 = .ok (.iload 10, 2) := by decide +kernel
theorem dL_isSegment_162 : decode cL_isSegment 162 = .ok (.ifCond .ne 10, 3) := by decide +kernel
theorem dL_isSegment_165 : decode cL_isSegment 165 = .ok (.iload 12, 2) := by decide +kernel
theorem dL_isSegment_167 : decode cL_isSegment 167 = .ok (.iload 6, 2) := by decide +kernel
theorem dL_isSegment_169 : decode cL_isSegment 169 = .ok (.if_icmp .ne 7, 3) := by decide +kernel
theorem dL_isSegment_172 : decode cL_isSegment 172 = .ok (.iconst 1, 1) := by decide +kernel
theorem dL_isSegment_173 : decode cL_isSegment 173 = .ok (.goto 4, 3) := by decide +kernel
theorem dL_isSegment_176 : decode cL_isSegment 176 = .ok (.iconst 0, 1) := by decide +kernel
theorem dL_isSegment_177 : decode cL_isSegment 177 = .ok (.istore 10, 2) := by decide +kernel
theorem dL_isSegment_179 : decode cL_isSegment 179 = .ok (.iinc 11 1, 3) := by decide +kernel
theorem dL_isSegment_182 : decode cL_isSegment 182 = .ok (.goto (-96), 3) := by decide +kernel
theorem dL_isSegment_185 : decode cL_isSegment 185 = .ok (.iload 5, 2) := by decide +kernel
theorem dL_isSegment_187 : decode cL_isSegment 187 = .ok (.iload 4, 2) := by decide +kernel
theorem dL_isSegment_189 : decode cL_isSegment 189 = .ok (.isub, 1) := by decide +kernel
theorem dL_isSegment_190 : decode cL_isSegment 190 = .ok (.istore 11, 2) := by decide +kernel
theorem dL_isSegment_192 : decode cL_isSegment 192 = .ok (.iload 10, 2) := by decide +kernel
theorem dL_isSegment_194 : decode cL_isSegment 194 = .ok (.ifCond .eq 87, 3) := by decide +kernel
theorem dL_isSegment_197 : decode cL_isSegment 197 = .ok (.aload_n 0, 1) := by decide +kernel
theorem dL_isSegment_198 : decode cL_isSegment 198 = .ok (.iload 4, 2) := by decide +kernel
theorem dL_isSegment_200 : decode cL_isSegment 200 = .ok (.iload 5, 2) := by decide +kernel
theorem dL_isSegment_202 : decode cL_isSegment 202 = .ok (.invokevirtual 50, 3) := by decide +kernel
theorem dL_isSegment_205 : decode cL_isSegment 205 = .ok (.iload 9, 2) := by decide +kernel
theorem dL_isSegment_207 : decode cL_isSegment 207 = .ok (.if_icmp .ne 74, 3) := by decide +kernel
theorem dL_isSegment_210 : decode cL_isSegment 210 = .ok (.iload 7, 2) := by decide +kernel
theorem dL_isSegment_212 : decode cL_isSegment 212 = .ok (.iload 11, 2) := by decide +kernel
theorem dL_isSegment_214 : decode cL_isSegment 214 = .ok (.iconst 1, 1) := by decide +kernel
theorem dL_isSegment_215 : decode cL_isSegment 215 = .ok (.isub, 1) := by decide +kernel
theorem dL_isSegment_216 : decode cL_isSegment 216 = .ok (.iconst 2, 1) := by decide +kernel
theorem dL_isSegment_217 : decode cL_isSegment 217 = .ok (.idiv, 1) := by decide +kernel
theorem dL_isSegment_218 : decode cL_isSegment 218 = .ok (.if_icmp .gt 63, 3) := by decide +kernel
theorem dL_isSegment_221 : decode cL_isSegment 221 = .ok (.iload 8, 2) := by decide +kernel
theorem dL_isSegment_223 : decode cL_isSegment 223 = .ok (.iload 11, 2) := by decide +kernel
theorem dL_isSegment_225 : decode cL_isSegment 225 = .ok (.iconst 2, 1) := by decide +kernel
theorem dL_isSegment_226 : decode cL_isSegment 226 = .ok (.idiv, 1) := by decide +kernel
theorem dL_isSegment_227 : decode cL_isSegment 227 = .ok (.if_icmp .gt 54, 3) := by decide +kernel
theorem dL_isSegment_230 : decode cL_isSegment 230 = .ok (.aload_n 0, 1) := by decide +kernel
theorem dL_isSegment_231 : decode cL_isSegment 231 = .ok (.iconst 4, 1) := by decide +kernel
theorem dL_isSegment_232 : decode cL_isSegment 232 = .ok (.iload 4, 2) := by decide +kernel
theorem dL_isSegment_234 : decode cL_isSegment 234 = .ok (.iload 4, 2) := by decide +kernel
theorem dL_isSegment_236 : decode cL_isSegment 236 = .ok (.invokestatic 88, 3) := by decide +kernel
theorem dL_isSegment_239 : decode cL_isSegment 239 = .ok (.sipush (-3000), 3) := by decide +kernel
theorem dL_isSegment_242 : decode cL_isSegment 242 = .ok (.if_icmp .ne 39, 3) := by decide +kernel
theorem dL_isSegment_245 : decode cL_isSegment 245 = .ok (.aload_n 0, 1) := by decide +kernel
theorem dL_isSegment_246 : decode cL_isSegment 246 = .ok (.iconst 4, 1) := by decide +kernel
theorem dL_isSegment_247 : decode cL_isSegment 247 = .ok (.iload 4, 2) := by decide +kernel
theorem dL_isSegment_249 : decode cL_isSegment 249 = .ok (.aload_n 1, 1) := by decide +kernel
theorem dL_isSegment_250 : decode cL_isSegment 250 = .ok (.iconst 0, 1) := by decide +kernel
theorem dL_isSegment_251 : decode cL_isSegment 251 = .ok (.iaload, 1) := by decide +kernel
theorem dL_isSegment_252 : decode cL_isSegment 252 = .ok (.iconst 1, 1) := by decide +kernel
theorem dL_isSegment_253 : decode cL_isSegment 253 = .ok (.iadd, 1) := by decide +kernel
theorem dL_isSegment_254 : decode cL_isSegment 254 = .ok (.invokestatic 88, 3) := by decide +kernel
theorem dL_isSegment_257 : decode cL_isSegment 257 = .ok (.sipush (-3000), 3) := by decide +kernel
theorem dL_isSegment_260 : decode cL_isSegment 260 = .ok (.if_icmp .ne 21, 3) := by decide +kernel
theorem dL_isSegment_263 : decode cL_isSegment 263 = .ok (.aload_n 0, 1) := by decide +kernel
theorem dL_isSegment_264 : decode cL_isSegment 264 = .ok (.iconst 5, 1) := by decide +kernel
theorem dL_isSegment_265 : decode cL_isSegment 265 = .ok (.iconst (-1), 1) := by decide +kernel
theorem dL_isSegment_266 : decode cL_isSegment 266 = .ok (.iload 5, 2) := by decide +kernel
theorem dL_isSegment_268 : decode cL_isSegment 268 = .ok (.invokestatic 88, 3) := by decide +kernel
theorem dL_isSegment_271 : decode cL_isSegment 271 = .ok (.sipush (-3000), 3) := by decide +kernel
theorem dL_isSegment_274 : decode cL_isSegment 274 = .ok (.if_icmp .ne 7, 3) := by decide +kernel
theorem dL_isSegment_277 : decode cL_isSegment 277 = .ok (.iconst 1, 1) := by decide +kernel
theorem dL_isSegment_278 : decode cL_isSegment 278 = .ok (.goto 4, 3) := by decide +kernel
theorem dL_isSegment_281 : decode cL_isSegment 281 = .ok (.iconst 0, 1) := by decide +kernel
theorem dL_isSegment_282 : decode cL_isSegment 282 = .ok (.ireturn, 1) := by decide +kernel
theorem dL_told_0 : decode cL_told 0 = .ok (.iload_n 2, 1) := by decide +kernel
theorem dL_told_1 : decode cL_told 1 = .ok (.ifCond .eq 10, 3) := by decide +kernel
theorem dL_told_4 : decode cL_told 4 = .ok (.aload_n 0, 1) := by decide +kernel
theorem dL_told_5 : decode cL_told 5 = .ok (.invokevirtual 109, 3) := by decide +kernel
theorem dL_told_8 : decode cL_told 8 = .ok (.goto 7, 3) := by decide +kernel
theorem dL_told_11 : decode cL_told 11 = .ok (.aload_n 0, 1) := by decide +kernel
theorem dL_told_12 : decode cL_told 12 = .ok (.invokevirtual 112, 3) := by decide +kernel
theorem dL_told_15 : decode cL_told 15 = .ok (.istore_n 3, 1) := by decide +kernel
theorem dL_told_16 : decode cL_told 16 = .ok (.iconst 0, 1) := by decide +kernel
theorem dL_told_17 : decode cL_told 17 = .ok (.istore 4, 2) := by decide +kernel
theorem dL_told_19 : decode cL_told 19 = .ok (.iconst 0, 1) := by decide +kernel
theorem dL_told_20 : decode cL_told 20 = .ok (.istore 5, 2) := by decide +kernel
theorem dL_told_22 : decode cL_told 22 = .ok (.iconst 0, 1) := by decide +kernel
theorem dL_told_23 : decode cL_told 23 = .ok (.istore 6, 2) := by decide +kernel
theorem dL_told_25 : decode cL_told 25 = .ok (.iload 6, 2) := by decide +kernel
theorem dL_told_27 : decode cL_told 27 = .ok (.iload_n 3, 1) := by decide +kernel
theorem dL_told_28 : decode cL_told 28 = .ok (.if_icmp .ge 68, 3) := by decide +kernel
theorem dL_told_31 : decode cL_told 31 = .ok (.iload_n 2, 1) := by decide +kernel
theorem dL_told_32 : decode cL_told 32 = .ok (.ifCond .eq 12, 3) := by decide +kernel
theorem dL_told_35 : decode cL_told 35 = .ok (.aload_n 0, 1) := by decide +kernel
theorem dL_told_36 : decode cL_told 36 = .ok (.iload 6, 2) := by decide +kernel
theorem dL_told_38 : decode cL_told 38 = .ok (.invokevirtual 60, 3) := by decide +kernel
theorem dL_told_41 : decode cL_told 41 = .ok (.goto 9, 3) := by decide +kernel
theorem dL_told_44 : decode cL_told 44 = .ok (.aload_n 0, 1) := by decide +kernel
theorem dL_told_45 : decode cL_told 45 = .ok (.iload 6, 2) := by decide +kernel
theorem dL_told_47 : decode cL_told 47 = .ok (.invokevirtual 57, 3) := by decide +kernel
theorem dL_told_50 : decode cL_told 50 = .ok (.istore 7, 2) := by decide +kernel
theorem dL_told_52 : decode cL_told 52 = .ok (.iload 7, 2) := by decide +kernel
theorem dL_told_54 : decode cL_told 54 = .ok (.iload 4, 2) := by decide +kernel
theorem dL_told_56 : decode cL_told 56 = .ok (.if_icmp .le 11, 3) := by decide +kernel
theorem dL_told_59 : decode cL_told 59 = .ok (.iload 7, 2) := by decide +kernel
theorem dL_told_61 : decode cL_told 61 = .ok (.aload_n 1, 1) := by decide +kernel
theorem dL_told_62 : decode cL_told 62 = .ok (.iconst 0, 1) := by decide +kernel
theorem dL_told_63 : decode cL_told 63 = .ok (.iaload, 1) := by decide +kernel
theorem dL_told_64 : decode cL_told 64 = .ok (.if_icmp .lt 5, 3) := by decide +kernel
theorem dL_told_67 : decode cL_told 67 = .ok (.iconst (-1), 1) := by decide +kernel
theorem dL_told_68 : decode cL_told 68 = .ok (.ireturn, 1) := by decide +kernel
theorem dL_told_69 : decode cL_told 69 = .ok (.iload 5, 2) := by decide +kernel
theorem dL_told_71 : decode cL_told 71 = .ok (.aload_n 0, 1) := by decide +kernel
theorem dL_told_72 : decode cL_told 72 = .ok (.iload 4, 2) := by decide +kernel
theorem dL_told_74 : decode cL_told 74 = .ok (.iload 7, 2) := by decide +kernel
theorem dL_told_76 : decode cL_told 76 = .ok (.invokevirtual 50, 3) := by decide +kernel
theorem dL_told_79 : decode cL_told 79 = .ok (.aload_n 1, 1) := by decide +kernel
theorem dL_told_80 : decode cL_told 80 = .ok (.iconst 1, 1) := by decide +kernel
theorem dL_told_81 : decode cL_told 81 = .ok (.iaload, 1) := by decide +kernel
theorem dL_told_82 : decode cL_told 82 = .ok (.iadd, 1) := by decide +kernel
theorem dL_told_83 : decode cL_told 83 = .ok (.iadd, 1) := by decide +kernel
theorem dL_told_84 : decode cL_told 84 = .ok (.istore 5, 2) := by decide +kernel
theorem dL_told_86 : decode cL_told 86 = .ok (.iload 7, 2) := by decide +kernel
theorem dL_told_88 : decode cL_told 88 = .ok (.istore 4, 2) := by decide +kernel
theorem dL_told_90 : decode cL_told 90 = .ok (.iinc 6 1, 3) := by decide +kernel
theorem dL_told_93 : decode cL_told 93 = .ok (.goto (-68), 3) := by decide +kernel
theorem dL_told_96 : decode cL_told 96 = .ok (.aload_n 1, 1) := by decide +kernel
theorem dL_told_97 : decode cL_told 97 = .ok (.iconst 0, 1) := by decide +kernel
theorem dL_told_98 : decode cL_told 98 = .ok (.iaload, 1) := by decide +kernel
theorem dL_told_99 : decode cL_told 99 = .ok (.ifCond .ne 7, 3) := by decide +kernel
theorem dL_told_102 : decode cL_told 102 = .ok (.iconst 0, 1) := by decide +kernel
theorem dL_told_103 : decode cL_told 103 = .ok (.goto 15, 3) := by decide +kernel
theorem dL_told_106 : decode cL_told 106 = .ok (.iload 5, 2) := by decide +kernel
theorem dL_told_108 : decode cL_told 108 = .ok (.aload_n 0, 1) := by decide +kernel
theorem dL_told_109 : decode cL_told 109 = .ok (.iload 4, 2) := by decide +kernel
theorem dL_told_111 : decode cL_told 111 = .ok (.aload_n 1, 1) := by decide +kernel
theorem dL_told_112 : decode cL_told 112 = .ok (.iconst 0, 1) := by decide +kernel
theorem dL_told_113 : decode cL_told 113 = .ok (.iaload, 1) := by decide +kernel
theorem dL_told_114 : decode cL_told 114 = .ok (.invokevirtual 50, 3) := by decide +kernel
theorem dL_told_117 : decode cL_told 117 = .ok (.iadd, 1) := by decide +kernel
theorem dL_told_118 : decode cL_told 118 = .ok (.ireturn, 1) := by decide +kernel
theorem dL_areCuttings_0 : decode cL_areCuttings 0 = .ok (.aload_n 0, 1) := by decide +kernel
theorem dL_areCuttings_1 : decode cL_areCuttings 1 = .ok (.invokevirtual 115, 3) := by decide +kernel
theorem dL_areCuttings_4 : decode cL_areCuttings 4 = .ok (.istore_n 2, 1) := by decide +kernel
theorem dL_areCuttings_5 : decode cL_areCuttings 5 = .ok (.aload_n 0, 1) := by decide +kernel
theorem dL_areCuttings_6 : decode cL_areCuttings 6 = .ok (.invokevirtual 118, 3) := by decide +kernel
theorem dL_areCuttings_9 : decode cL_areCuttings 9 = .ok (.istore_n 3, 1) := by decide +kernel
theorem dL_areCuttings_10 : decode cL_areCuttings 10 = .ok (.aload_n 0, 1) := by decide +kernel
theorem dL_areCuttings_11 : decode cL_areCuttings 11 = .ok (.aload_n 1, 1) := by decide +kernel
theorem dL_areCuttings_12 : decode cL_areCuttings 12 = .ok (.iconst 0, 1) := by decide +kernel
theorem dL_areCuttings_13 : decode cL_areCuttings 13 = .ok (.invokestatic 121, 3) := by decide +kernel
theorem dL_areCuttings_16 : decode cL_areCuttings 16 = .ok (.iload_n 2, 1) := by decide +kernel
theorem dL_areCuttings_17 : decode cL_areCuttings 17 = .ok (.if_icmp .ne 70, 3) := by decide +kernel
theorem dL_areCuttings_20 : decode cL_areCuttings 20 = .ok (.aload_n 0, 1) := by decide +kernel
theorem dL_areCuttings_21 : decode cL_areCuttings 21 = .ok (.aload_n 1, 1) := by decide +kernel
theorem dL_areCuttings_22 : decode cL_areCuttings 22 = .ok (.iconst 1, 1) := by decide +kernel
theorem dL_areCuttings_23 : decode cL_areCuttings 23 = .ok (.invokestatic 121, 3) := by decide +kernel
theorem dL_areCuttings_26 : decode cL_areCuttings 26 = .ok (.iload_n 3, 1) := by decide +kernel
theorem dL_areCuttings_27 : decode cL_areCuttings 27 = .ok (.if_icmp .ne 60, 3) := by decide +kernel
theorem dL_areCuttings_30 : decode cL_areCuttings 30 = .ok (.iload_n 2, 1) := by decide +kernel
theorem dL_areCuttings_31 : decode cL_areCuttings 31 = .ok (.iload_n 3, 1) := by decide +kernel
theorem dL_areCuttings_32 : decode cL_areCuttings 32 = .ok (.if_icmp .gt 55, 3) := by decide +kernel
theorem dL_areCuttings_35 : decode cL_areCuttings 35 = .ok (.aload_n 0, 1) := by decide +kernel
theorem dL_areCuttings_36 : decode cL_areCuttings 36 = .ok (.bipush 6, 2) := by decide +kernel
theorem dL_areCuttings_38 : decode cL_areCuttings 38 = .ok (.aload_n 0, 1) := by decide +kernel
theorem dL_areCuttings_39 : decode cL_areCuttings 39 = .ok (.invokevirtual 112, 3) := by decide +kernel
theorem dL_areCuttings_42 : decode cL_areCuttings 42 = .ok (.iconst 0, 1) := by decide +kernel
theorem dL_areCuttings_43 : decode cL_areCuttings 43 = .ok (.invokestatic 88, 3) := by decide +kernel
theorem dL_areCuttings_46 : decode cL_areCuttings 46 = .ok (.sipush (-3000), 3) := by decide +kernel
theorem dL_areCuttings_49 : decode cL_areCuttings 49 = .ok (.if_icmp .ne 38, 3) := by decide +kernel
theorem dL_areCuttings_52 : decode cL_areCuttings 52 = .ok (.aload_n 0, 1) := by decide +kernel
theorem dL_areCuttings_53 : decode cL_areCuttings 53 = .ok (.bipush 7, 2) := by decide +kernel
theorem dL_areCuttings_55 : decode cL_areCuttings 55 = .ok (.aload_n 0, 1) := by decide +kernel
theorem dL_areCuttings_56 : decode cL_areCuttings 56 = .ok (.invokevirtual 109, 3) := by decide +kernel
theorem dL_areCuttings_59 : decode cL_areCuttings 59 = .ok (.iconst 0, 1) := by decide +kernel
theorem dL_areCuttings_60 : decode cL_areCuttings 60 = .ok (.invokestatic 88, 3) := by decide +kernel
theorem dL_areCuttings_63 : decode cL_areCuttings 63 = .ok (.sipush (-3000), 3) := by decide +kernel
theorem dL_areCuttings_66 : decode cL_areCuttings 66 = .ok (.if_icmp .ne 21, 3) := by decide +kernel
theorem dL_areCuttings_69 : decode cL_areCuttings 69 = .ok (.aload_n 0, 1) := by decide +kernel
theorem dL_areCuttings_70 : decode cL_areCuttings 70 = .ok (.bipush 6, 2) := by decide +kernel
theorem dL_areCuttings_72 : decode cL_areCuttings 72 = .ok (.iconst (-1), 1) := by decide +kernel
theorem dL_areCuttings_73 : decode cL_areCuttings 73 = .ok (.iconst 0, 1) := by decide +kernel
theorem dL_areCuttings_74 : decode cL_areCuttings 74 = .ok (.invokestatic 88, 3) := by decide +kernel
theorem dL_areCuttings_77 : decode cL_areCuttings 77 = .ok (.sipush (-3000), 3) := by decide +kernel
theorem dL_areCuttings_80 : decode cL_areCuttings 80 = .ok (.if_icmp .ne 7, 3) := by decide +kernel
theorem dL_areCuttings_83 : decode cL_areCuttings 83 = .ok (.iconst 1, 1) := by decide +kernel
theorem dL_areCuttings_84 : decode cL_areCuttings 84 = .ok (.goto 4, 3) := by decide +kernel
theorem dL_areCuttings_87 : decode cL_areCuttings 87 = .ok (.iconst 0, 1) := by decide +kernel
theorem dL_areCuttings_88 : decode cL_areCuttings 88 = .ok (.istore 4, 2) := by decide +kernel
theorem dL_areCuttings_90 : decode cL_areCuttings 90 = .ok (.aload_n 1, 1) := by decide +kernel
theorem dL_areCuttings_91 : decode cL_areCuttings 91 = .ok (.iconst 0, 1) := by decide +kernel
theorem dL_areCuttings_92 : decode cL_areCuttings 92 = .ok (.iaload, 1) := by decide +kernel
theorem dL_areCuttings_93 : decode cL_areCuttings 93 = .ok (.ifCond .ne 42, 3) := by decide +kernel
theorem dL_areCuttings_96 : decode cL_areCuttings 96 = .ok (.iload 4, 2) := by decide +kernel
theorem dL_areCuttings_98 : decode cL_areCuttings 98 = .ok (.ifCond .eq 35, 3) := by decide +kernel
theorem dL_areCuttings_101 : decode cL_areCuttings 101 = .ok (.iload_n 2, 1) := by decide +kernel
theorem dL_areCuttings_102 : decode cL_areCuttings 102 = .ok (.ifCond .ne 31, 3) := by decide +kernel
theorem dL_areCuttings_105 : decode cL_areCuttings 105 = .ok (.aload_n 0, 1) := by decide +kernel
theorem dL_areCuttings_106 : decode cL_areCuttings 106 = .ok (.invokevirtual 112, 3) := by decide +kernel
theorem dL_areCuttings_109 : decode cL_areCuttings 109 = .ok (.ifCond .ne 24, 3) := by decide +kernel
theorem dL_areCuttings_112 : decode cL_areCuttings 112 = .ok (.aload_n 0, 1) := by decide +kernel
theorem dL_areCuttings_113 : decode cL_areCuttings 113 = .ok (.invokevirtual 109, 3) := by decide +kernel
theorem dL_areCuttings_116 : decode cL_areCuttings 116 = .ok (.ifCond .ne 17, 3) := by decide +kernel
theorem dL_areCuttings_119 : decode cL_areCuttings 119 = .ok (.aload_n 0, 1) := by decide +kernel
theorem dL_areCuttings_120 : decode cL_areCuttings 120 = .ok (.iconst 1, 1) := by decide +kernel
theorem dL_areCuttings_121 : decode cL_areCuttings 121 = .ok (.invokestatic 125, 3) := by decide +kernel
theorem dL_areCuttings_124 : decode cL_areCuttings 124 = .ok (.bipush (-10), 2) := by decide +kernel
theorem dL_areCuttings_126 : decode cL_areCuttings 126 = .ok (.if_icmp .ne 7, 3) := by decide +kernel
theorem dL_areCuttings_129 : decode cL_areCuttings 129 = .ok (.iconst 1, 1) := by decide +kernel
theorem dL_areCuttings_130 : decode cL_areCuttings 130 = .ok (.goto 4, 3) := by decide +kernel
theorem dL_areCuttings_133 : decode cL_areCuttings 133 = .ok (.iconst 0, 1) := by decide +kernel
theorem dL_areCuttings_134 : decode cL_areCuttings 134 = .ok (.ireturn, 1) := by decide +kernel
