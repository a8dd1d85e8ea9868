theorem dX7_middleOf_18 : decode cX7_middleOf 18 = .ok (.invokevirtual 30, 3) := by decide +kernel
theorem dX7_middleOf_21 : decode cX7_middleOf 21 = .ok (.iinc 4 1, 3) := by decide +kernel
theorem dX7_middleOf_24 : decode cX7_middleOf 24 = .ok (.goto (-21), 3) := by decide +kernel
theorem dX7_middleOf_27 : decode cX7_middleOf 27 = .ok (.aload_n 0, 1) := by decide +kernel
theorem dX7_middleOf_28 : decode cX7_middleOf 28 = .ok (.getfield 19, 3) := by decide +kernel
theorem dX7_middleOf_31 : decode cX7_middleOf 31 = .ok (.iload_n 3, 1) := by decide +kernel
theorem dX7_middleOf_32 : decode cX7_middleOf 32 = .ok (.iload_n 2, 1) := by decide +kernel
theorem dX7_middleOf_33 : decode cX7_middleOf 33 = .ok (.isub, 1) := by decide +kernel
theorem dX7_middleOf_34 : decode cX7_middleOf 34 = .ok (.iconst 1, 1) := by decide +kernel
theorem dX7_middleOf_35 : decode cX7_middleOf 35 = .ok (.isub, 1) := by decide +kernel
theorem dX7_middleOf_36 : decode cX7_middleOf 36 = .ok (.iconst 2, 1) := by decide +kernel
theorem dX7_middleOf_37 : decode cX7_middleOf 37 = .ok (.idiv, 1) := by decide +kernel
theorem dX7_middleOf_38 : decode cX7_middleOf 38 = .ok (.iaload, 1) := by decide +kernel
theorem dX7_middleOf_39 : decode cX7_middleOf 39 = .ok (.ireturn, 1) := by decide +kernel
theorem dX7_learnSegmentsTo_0 : decode cX7_learnSegmentsTo 0 = .ok (.iload_n 2, 1) := by decide +kernel
theorem dX7_learnSegmentsTo_1 : decode cX7_learnSegmentsTo 1 = .ok (.iconst 1, 1) := by decide +kernel
theorem dX7_learnSegmentsTo_2 : decode cX7_learnSegmentsTo 2 = .ok (.isub, 1) := by decide +kernel
theorem dX7_learnSegmentsTo_3 : decode cX7_learnSegmentsTo 3 = .ok (.invokestatic 9, 3) := by decide +kernel
theorem dX7_learnSegmentsTo_6 : decode cX7_learnSegmentsTo 6 = .ok (.istore_n 3, 1) := by decide +kernel
theorem dX7_learnSegmentsTo_7 : decode cX7_learnSegmentsTo 7 = .ok (.iconst 0, 1) := by decide +kernel
theorem dX7_learnSegmentsTo_8 : decode cX7_learnSegmentsTo 8 = .ok (.istore 4, 2) := by decide +kernel
theorem dX7_learnSegmentsTo_10 : decode cX7_learnSegmentsTo 10 = .ok (.iload_n 2, 1) := by decide +kernel
theorem dX7_learnSegmentsTo_11 : decode cX7_learnSegmentsTo 11 = .ok (.iconst 1, 1) := by decide +kernel
theorem dX7_learnSegmentsTo_12 : decode cX7_learnSegmentsTo 12 = .ok (.isub, 1) := by decide +kernel
theorem dX7_learnSegmentsTo_13 : decode cX7_learnSegmentsTo 13 = .ok (.istore 5, 2) := by decide +kernel
theorem dX7_learnSegmentsTo_15 : decode cX7_learnSegmentsTo 15 = .ok (.iload 5, 2) := by decide +kernel
theorem dX7_learnSegmentsTo_17 : decode cX7_learnSegmentsTo 17 = .ok (.ifCond .lt 53, 3) := by decide +kernel
theorem dX7_learnSegmentsTo_20 : decode cX7_learnSegmentsTo 20 = .ok (.iload_n 2, 1) := by decide +kernel
theorem dX7_learnSegmentsTo_21 : decode cX7_learnSegmentsTo 21 = .ok (.iconst 1, 1) := by decide +kernel
theorem dX7_learnSegmentsTo_22 : decode cX7_learnSegmentsTo 22 = .ok (.isub, 1) := by decide +kernel
theorem dX7_learnSegmentsTo_23 : decode cX7_learnSegmentsTo 23 = .ok (.iload 5, 2) := by decide +kernel
theorem dX7_learnSegmentsTo_25 : decode cX7_learnSegmentsTo 25 = .ok (.isub, 1) := by decide +kernel
theorem dX7_learnSegmentsTo_26 : decode cX7_learnSegmentsTo 26 = .ok (.istore 6, 2) := by decide +kernel
theorem dX7_learnSegmentsTo_28 : decode cX7_learnSegmentsTo 28 = .ok (.iload 4, 2) := by decide +kernel
theorem dX7_learnSegmentsTo_30 : decode cX7_learnSegmentsTo 30 = .ok (.aload_n 0, 1) := by decide +kernel
theorem dX7_learnSegmentsTo_31 : decode cX7_learnSegmentsTo 31 = .ok (.aload_n 1, 1) := by decide +kernel
theorem dX7_learnSegmentsTo_32 : decode cX7_learnSegmentsTo 32 = .ok (.iload 5, 2) := by decide +kernel
theorem dX7_learnSegmentsTo_34 : decode cX7_learnSegmentsTo 34 = .ok (.iaload, 1) := by decide +kernel
theorem dX7_learnSegmentsTo_35 : decode cX7_learnSegmentsTo 35 = .ok (.iload 6, 2) := by decide +kernel
theorem dX7_learnSegmentsTo_37 : decode cX7_learnSegmentsTo 37 = .ok (.invokevirtual 34, 3) := by decide +kernel
theorem dX7_learnSegmentsTo_40 : decode cX7_learnSegmentsTo 40 = .ok (.iadd, 1) := by decide +kernel
theorem dX7_learnSegmentsTo_41 : decode cX7_learnSegmentsTo 41 = .ok (.istore 4, 2) := by decide +kernel
theorem dX7_learnSegmentsTo_43 : decode cX7_learnSegmentsTo 43 = .ok (.aload_n 0, 1) := by decide +kernel
theorem dX7_learnSegmentsTo_44 : decode cX7_learnSegmentsTo 44 = .ok (.getfield 15, 3) := by decide +kernel
theorem dX7_learnSegmentsTo_47 : decode cX7_learnSegmentsTo 47 = .ok (.iload_n 3, 1) := by decide +kernel
theorem dX7_learnSegmentsTo_48 : decode cX7_learnSegmentsTo 48 = .ok (.iload 5, 2) := by decide +kernel
theorem dX7_learnSegmentsTo_50 : decode cX7_learnSegmentsTo 50 = .ok (.iadd, 1) := by decide +kernel
theorem dX7_learnSegmentsTo_51 : decode cX7_learnSegmentsTo 51 = .ok (.iload 4, 2) := by decide +kernel
theorem dX7_learnSegmentsTo_53 : decode cX7_learnSegmentsTo 53 = .ok (.iastore, 1) := by decide +kernel
theorem dX7_learnSegmentsTo_54 : decode cX7_learnSegmentsTo 54 = .ok (.aload_n 0, 1) := by decide +kernel
theorem dX7_learnSegmentsTo_55 : decode cX7_learnSegmentsTo 55 = .ok (.aload_n 1, 1) := by decide +kernel
theorem dX7_learnSegmentsTo_56 : decode cX7_learnSegmentsTo 56 = .ok (.iload 5, 2) := by decide +kernel
theorem dX7_learnSegmentsTo_58 : decode cX7_learnSegmentsTo 58 = .ok (.iaload, 1) := by decide +kernel
theorem dX7_learnSegmentsTo_59 : decode cX7_learnSegmentsTo 59 = .ok (.iload 6, 2) := by decide +kernel
theorem dX7_learnSegmentsTo_61 : decode cX7_learnSegmentsTo 61 = .ok (.invokevirtual 30, 3) := by decide +kernel
theorem dX7_learnSegmentsTo_64 : decode cX7_learnSegmentsTo 64 = .ok (.iinc 5 (-1), 3) := by decide +kernel
theorem dX7_learnSegmentsTo_67 : decode cX7_learnSegmentsTo 67 = .ok (.goto (-52), 3) := by decide +kernel
theorem dX7_learnSegmentsTo_70 : decode cX7_learnSegmentsTo 70 = .ok (.return_, 1) := by decide +kernel
theorem dX7_distanceFromMiddles_0 : decode cX7_distanceFromMiddles 0 = .ok (.iload_n 2, 1) := by decide +kernel
theorem dX7_distanceFromMiddles_1 : decode cX7_distanceFromMiddles 1 = .ok (.ifCond .ne 5, 3) := by decide +kernel
theorem dX7_distanceFromMiddles_4 : decode cX7_distanceFromMiddles 4 = .ok (.iconst 0, 1) := by decide +kernel
theorem dX7_distanceFromMiddles_5 : decode cX7_distanceFromMiddles 5 = .ok (.ireturn, 1) := by decide +kernel
theorem dX7_distanceFromMiddles_6 : decode cX7_distanceFromMiddles 6 = .ok (.aload_n 0, 1) := by decide +kernel
theorem dX7_distanceFromMiddles_7 : decode cX7_distanceFromMiddles 7 = .ok (.getfield 19, 3) := by decide +kernel
theorem dX7_distanceFromMiddles_10 : decode cX7_distanceFromMiddles 10 = .ok (.iload_n 2, 1) := by decide +kernel
theorem dX7_distanceFromMiddles_11 : decode cX7_distanceFromMiddles 11 = .ok (.iconst 1, 1) := by decide +kernel
theorem dX7_distanceFromMiddles_12 : decode cX7_distanceFromMiddles 12 = .ok (.isub, 1) := by decide +kernel
theorem dX7_distanceFromMiddles_13 : decode cX7_distanceFromMiddles 13 = .ok (.iconst 2, 1) := by decide +kernel
theorem dX7_distanceFromMiddles_14 : decode cX7_distanceFromMiddles 14 = .ok (.idiv, 1) := by decide +kernel
theorem dX7_distanceFromMiddles_15 : decode cX7_distanceFromMiddles 15 = .ok (.iaload, 1) := by decide +kernel
theorem dX7_distanceFromMiddles_16 : decode cX7_distanceFromMiddles 16 = .ok (.istore_n 3, 1) := by decide +kernel
theorem dX7_distanceFromMiddles_17 : decode cX7_distanceFromMiddles 17 = .ok (.aload_n 0, 1) := by decide +kernel
theorem dX7_distanceFromMiddles_18 : decode cX7_distanceFromMiddles 18 = .ok (.getfield 19, 3) := by decide +kernel
theorem dX7_distanceFromMiddles_21 : decode cX7_distanceFromMiddles 21 = .ok (.iload_n 2, 1) := by decide +kernel
theorem dX7_distanceFromMiddles_22 : decode cX7_distanceFromMiddles 22 = .ok (.iconst 2, 1) := by decide +kernel
theorem dX7_distanceFromMiddles_23 : decode cX7_distanceFromMiddles 23 = .ok (.idiv, 1) := by decide +kernel
theorem dX7_distanceFromMiddles_24 : decode cX7_distanceFromMiddles 24 = .ok (.iaload, 1) := by decide +kernel
theorem dX7_distanceFromMiddles_25 : decode cX7_distanceFromMiddles 25 = .ok (.istore 4, 2) := by decide +kernel
theorem dX7_distanceFromMiddles_27 : decode cX7_distanceFromMiddles 27 = .ok (.iload_n 1, 1) := by decide +kernel
theorem dX7_distanceFromMiddles_28 : decode cX7_distanceFromMiddles 28 = .ok (.iload_n 3, 1) := by decide +kernel
theorem dX7_distanceFromMiddles_29 : decode cX7_distanceFromMiddles 29 = .ok (.if_icmp .ge 7, 3) := by decide +kernel
theorem dX7_distanceFromMiddles_32 : decode cX7_distanceFromMiddles 32 = .ok (.iload_n 3, 1) := by decide +kernel
theorem dX7_distanceFromMiddles_33 : decode cX7_distanceFromMiddles 33 = .ok (.iload_n 1, 1) := by decide +kernel
theorem dX7_distanceFromMiddles_34 : decode cX7_distanceFromMiddles 34 = .ok (.isub, 1) := by decide +kernel
theorem dX7_distanceFromMiddles_35 : decode cX7_distanceFromMiddles 35 = .ok (.ireturn, 1) := by decide +kernel
theorem dX7_distanceFromMiddles_36 : decode cX7_distanceFromMiddles 36 = .ok (.iload_n 1, 1) := by decide +kernel
theorem dX7_distanceFromMiddles_37 : decode cX7_distanceFromMiddles 37 = .ok (.iload 4, 2) := by decide +kernel
theorem dX7_distanceFromMiddles_39 : decode cX7_distanceFromMiddles 39 = .ok (.if_icmp .le 10, 3) := by decide +kernel
theorem dX7_distanceFromMiddles_42 : decode cX7_distanceFromMiddles 42 = .ok (.iload_n 1, 1) := by decide +kernel
theorem dX7_distanceFromMiddles_43 : decode cX7_distanceFromMiddles 43 = .ok (.iload 4, 2) := by decide +kernel
theorem dX7_distanceFromMiddles_45 : decode cX7_distanceFromMiddles 45 = .ok (.isub, 1) := by decide +kernel
theorem dX7_distanceFromMiddles_46 : decode cX7_distanceFromMiddles 46 = .ok (.goto 4, 3) := by decide +kernel
theorem dX7_distanceFromMiddles_49 : decode cX7_distanceFromMiddles 49 = .ok (.iconst 0, 1) := by decide +kernel
theorem dX7_distanceFromMiddles_50 : decode cX7_distanceFromMiddles 50 = .ok (.ireturn, 1) := by decide +kernel
theorem dX7_sortIn_0 : decode cX7_sortIn 0 = .ok (.iload_n 2, 1) := by decide +kernel
theorem dX7_sortIn_1 : decode cX7_sortIn 1 = .ok (.istore_n 3, 1) := by decide +kernel
theorem dX7_sortIn_2 : decode cX7_sortIn 2 = .ok (.iload_n 3, 1) := by decide +kernel
theorem dX7_sortIn_3 : decode cX7_sortIn 3 = .ok (.ifCond .le 35, 3) := by decide +kernel
theorem dX7_sortIn_6 : decode cX7_sortIn 6 = .ok (.aload_n 0, 1) := by decide +kernel
theorem dX7_sortIn_7 : decode cX7_sortIn 7 = .ok (.getfield 19, 3) := by decide +kernel
theorem dX7_sortIn_10 : decode cX7_sortIn 10 = .ok (.iload_n 3, 1) := by decide +kernel
theorem dX7_sortIn_11 : decode cX7_sortIn 11 = .ok (.iconst 1, 1) := by decide +kernel
theorem dX7_sortIn_12 : decode cX7_sortIn 12 = .ok (.isub, 1) := by decide +kernel
theorem dX7_sortIn_13 : decode cX7_sortIn 13 = .ok (.iaload, 1) := by decide +kernel
theorem dX7_sortIn_14 : decode cX7_sortIn 14 = .ok (.iload_n 1, 1) := by decide +kernel
theorem dX7_sortIn_15 : decode cX7_sortIn 15 = .ok (.if_icmp .le 23, 3) := by decide +kernel
theorem dX7_sortIn_18 : decode cX7_sortIn 18 = .ok (.aload_n 0, 1) := by decide +kernel
theorem dX7_sortIn_19 : decode cX7_sortIn 19 = .ok (.getfield 19, 3) := by decide +kernel
theorem dX7_sortIn_22 : decode cX7_sortIn 22 = .ok (.iload_n 3, 1) := by decide +kernel
theorem dX7_sortIn_23 : decode cX7_sortIn 23 = .ok (.aload_n 0, 1) := by decide +kernel
theorem dX7_sortIn_24 : decode cX7_sortIn 24 = .ok (.getfield 19, 3) := by decide +kernel
theorem dX7_sortIn_27 : decode cX7_sortIn 27 = .ok (.iload_n 3, 1) := by decide +kernel
theorem dX7_sortIn_28 : decode cX7_sortIn 28 = .ok (.iconst 1, 1) := by decide +kernel
theorem dX7_sortIn_29 : decode cX7_sortIn 29 = .ok (.isub, 1) := by decide +kernel
theorem dX7_sortIn_30 : decode cX7_sortIn 30 = .ok (.iaload, 1) := by decide +kernel
theorem dX7_sortIn_31 : decode cX7_sortIn 31 = .ok (.iastore, 1) := by decide +kernel
theorem dX7_sortIn_32 : decode cX7_sortIn 32 = .ok (.iinc 3 (-1), 3) := by decide +kernel
theorem dX7_sortIn_35 : decode cX7_sortIn 35 = .ok (.goto (-33), 3) := by decide +kernel
theorem dX7_sortIn_38 : decode cX7_sortIn 38 = .ok (.aload_n 0, 1) := by decide +kernel
theorem dX7_sortIn_39 : decode cX7_sortIn 39 = .ok (.getfield 19, 3) := by decide +kernel
theorem dX7_sortIn_42 : decode cX7_sortIn 42 = .ok (.iload_n 3, 1) := by decide +kernel
theorem dX7_sortIn_43 : decode cX7_sortIn 43 = .ok (.iload_n 1, 1) := by decide +kernel
theorem dX7_sortIn_44 : decode cX7_sortIn 44 = .ok (.iastore, 1) := by decide +kernel
theorem dX7_sortIn_45 : decode cX7_sortIn 45 = .ok (.return_, 1) := by decide +kernel
theorem dX8_init_0 : decode cX8_init 0 = .ok (.aload_n 0, 1) := by decide +kernel
theorem dX8_init_1 : decode cX8_init 1 = .ok (.invokespecial 3, 3) := by decide +kernel
theorem dX8_init_4 : decode cX8_init 4 = .ok (.aload_n 0, 1) := by decide +kernel
theorem dX8_init_5 : decode cX8_init 5 = .ok (.bipush 120, 2) := by decide +kernel
theorem dX8_init_7 : decode cX8_init 7 = .ok (.newarray .boolean, 2) := by decide +kernel
theorem dX8_init_9 : decode cX8_init 9 = .ok (.putfield 9, 3) := by decide +kernel
theorem dX8_init_12 : decode cX8_init 12 = .ok (.aload_n 0, 1) := by decide +kernel
theorem dX8_init_13 : decode cX8_init 13 = .ok (.bipush 120, 2) := by decide +kernel
theorem dX8_init_15 : decode cX8_init 15 = .ok (.newarray .boolean, 2) := by decide +kernel
theorem dX8_init_17 : decode cX8_init 17 = .ok (.putfield 15, 3) := by decide +kernel
theorem dX8_init_20 : decode cX8_init 20 = .ok (.aload_n 0, 1) := by decide +kernel
theorem dX8_init_21 : decode cX8_init 21 = .ok (.iconst 0, 1) := by decide +kernel
theorem dX8_init_22 : decode cX8_init 22 = .ok (.putfield 18, 3) := by decide +kernel
theorem dX8_init_25 : decode cX8_init 25 = .ok (.aload_n 0, 1) := by decide +kernel
theorem dX8_init_26 : decode cX8_init 26 = .ok (.iconst 0, 1) := by decide +kernel
theorem dX8_init_27 : decode cX8_init 27 = .ok (.putfield 22, 3) := by decide +kernel
theorem dX8_init_30 : decode cX8_init 30 = .ok (.aload_n 0, 1) := by decide +kernel
theorem dX8_init_31 : decode cX8_init 31 = .ok (.iconst 0, 1) := by decide +kernel
theorem dX8_init_32 : decode cX8_init 32 = .ok (.putfield 25, 3) := by decide +kernel
theorem dX8_init_35 : decode cX8_init 35 = .ok (.return_, 1) := by decide +kernel
theorem dX8_removeMarks_0 : decode cX8_removeMarks 0 = .ok (.iconst 0, 1) := by decide +kernel
theorem dX8_removeMarks_1 : decode cX8_removeMarks 1 = .ok (.istore_n 1, 1) := by decide +kernel
theorem dX8_removeMarks_2 : decode cX8_removeMarks 2 = .ok (.iload_n 1, 1) := by decide +kernel
theorem dX8_removeMarks_3 : decode cX8_removeMarks 3 = .ok (.bipush 120, 2) := by decide +kernel
theorem dX8_removeMarks_5 : decode cX8_removeMarks 5 = .ok (.if_icmp .ge 16, 3) := by decide +kernel
theorem dX8_removeMarks_8 : decode cX8_removeMarks 8 = .ok (.aload_n 0, 1) := by decide +kernel
theorem dX8_removeMarks_9 : decode cX8_removeMarks 9 = .ok (.getfield 9, 3) := by decide +kernel
theorem dX8_removeMarks_12 : decode cX8_removeMarks 12 = .ok (.iload_n 1, 1) := by decide +kernel
theorem dX8_removeMarks_13 : decode cX8_removeMarks 13 = .ok (.iconst 0, 1) := by decide +kernel
theorem dX8_removeMarks_14 : decode cX8_removeMarks 14 = .ok (.bastore, 1) := by decide +kernel
theorem dX8_removeMarks_15 : decode cX8_removeMarks 15 = .ok (.iinc 1 1, 3) := by decide +kernel
theorem dX8_removeMarks_18 : decode cX8_removeMarks 18 = .ok (.goto (-16), 3) := by decide +kernel
theorem dX8_removeMarks_21 : decode cX8_removeMarks 21 = .ok (.return_, 1) := by decide +kernel
theorem dX8_match_0 : decode cX8_match 0 = .ok (.aload_n 0, 1) := by decide +kernel
theorem dX8_match_1 : decode cX8_match 1 = .ok (.invokevirtual 28, 3) := by decide +kernel
theorem dX8_match_4 : decode cX8_match 4 = .ok (.iconst 0, 1) := by decide +kernel
theorem dX8_match_5 : decode cX8_match 5 = .ok (.istore 4, 2) := by decide +kernel
theorem dX8_match_7 : decode cX8_match 7 = .ok (.iload 4, 2) := by decide +kernel
theorem dX8_match_9 : decode cX8_match 9 = .ok (.aload_n 1, 1) := by decide +kernel
theorem dX8_match_10 : decode cX8_match 10 = .ok (.getfield 31, 3) := by decide +kernel
theorem dX8_match_13 : decode cX8_match 13 = .ok (.if_icmp .ge 32, 3) := by decide +kernel
theorem dX8_match_16 : decode cX8_match 16 = .ok (.aload_n 1, 1) := by decide +kernel
theorem dX8_match_17 : decode cX8_match 17 = .ok (.getfield 36, 3) := by decide +kernel
theorem dX8_match_20 : decode cX8_match 20 = .ok (.iload 4, 2) := by decide +kernel
theorem dX8_match_22 : decode cX8_match 22 = .ok (.iaload, 1) := by decide +kernel
theorem dX8_match_23 : decode cX8_match 23 = .ok (.iload_n 2, 1) := by decide +kernel
theorem dX8_match_24 : decode cX8_match 24 = .ok (.if_icmp .ne 15, 3) := by decide +kernel
theorem dX8_match_27 : decode cX8_match 27 = .ok (.aload_n 0, 1) := by decide +kernel
theorem dX8_match_28 : decode cX8_match 28 = .ok (.aload_n 1, 1) := by decide +kernel
theorem dX8_match_29 : decode cX8_match 29 = .ok (.getfield 40, 3) := by decide +kernel
theorem dX8_match_32 : decode cX8_match 32 = .ok (.iload 4, 2) := by decide +kernel
theorem dX8_match_34 : decode cX8_match 34 = .ok (.iaload, 1) := by decide +kernel
theorem dX8_match_35 : decode cX8_match 35 = .ok (.iload_n 3, 1) := by decide +kernel
theorem dX8_match_36 : decode cX8_match 36 = .ok (.invokevirtual 43, 3) := by decide +kernel
theorem dX8_match_39 : decode cX8_match 39 = .ok (.iinc 4 1, 3) := by decide +kernel
theorem dX8_match_42 : decode cX8_match 42 = .ok (.goto (-35), 3) := by decide +kernel
theorem dX8_match_45 : decode cX8_match 45 = .ok (.return_, 1) := by decide +kernel
theorem dX8_beginMatching_0 : decode cX8_beginMatching 0 = .ok (.iconst 0, 1) := by decide +kernel
theorem dX8_beginMatching_1 : decode cX8_beginMatching 1 = .ok (.istore_n 1, 1) := by decide +kernel
theorem dX8_beginMatching_2 : decode cX8_beginMatching 2 = .ok (.iload_n 1, 1) := by decide +kernel
theorem dX8_beginMatching_3 : decode cX8_beginMatching 3 = .ok (.bipush 120, 2) := by decide +kernel
theorem dX8_beginMatching_5 : decode cX8_beginMatching 5 = .ok (.if_icmp .ge 16, 3) := by decide +kernel
theorem dX8_beginMatching_8 : decode cX8_beginMatching 8 = .ok (.aload_n 0, 1) := by decide +kernel
theorem dX8_beginMatching_9 : decode cX8_beginMatching 9 = .ok (.getfield 15, 3) := by decide +kernel
theorem dX8_beginMatching_12 : decode cX8_beginMatching 12 = .ok (.iload_n 1, 1) := by decide +kernel
theorem dX8_beginMatching_13 : decode cX8_beginMatching 13 = .ok (.iconst 0, 1) := by decide +kernel
theorem dX8_beginMatching_14 : decode cX8_beginMatching 14 = .ok (.bastore, 1) := by decide +kernel
theorem dX8_beginMatching_15 : decode cX8_beginMatching 15 = .ok (.iinc 1 1, 3) := by decide +kernel
theorem dX8_beginMatching_18 : decode cX8_beginMatching 18 = .ok (.goto (-16), 3) := by decide +kernel
theorem dX8_beginMatching_21 : decode cX8_beginMatching 21 = .ok (.aload_n 0, 1) := by decide +kernel
theorem dX8_beginMatching_22 : decode cX8_beginMatching 22 = .ok (.iconst 0, 1) := by decide +kernel
theorem dX8_beginMatching_23 : decode cX8_beginMatching 23 = .ok (.putfield 18, 3) := by decide +kernel
theorem dX8_beginMatching_26 : decode cX8_beginMatching 26 = .ok (.aload_n 0, 1) := by decide +kernel
theorem dX8_beginMatching_27 : decode cX8_beginMatching 27 = .ok (.iconst 0, 1) := by decide +kernel
theorem dX8_beginMatching_28 : decode cX8_beginMatching 28 = .ok (.putfield 22, 3) := by decide +kernel
theorem dX8_beginMatching_31 : decode cX8_beginMatching 31 = .ok (.aload_n 0, 1) := by decide +kernel
theorem dX8_beginMatching_32 : decode cX8_beginMatching 32 = .ok (.iconst 0, 1) := by decide +kernel
theorem dX8_beginMatching_33 : decode cX8_beginMatching 33 = .ok (.putfield 25, 3) := by decide +kernel
theorem dX8_beginMatching_36 : decode cX8_beginMatching 36 = .ok (.return_, 1) := by decide +kernel
theorem dX8_matchAlarm_0 : decode cX8_matchAlarm 0 = .ok (.iconst 0, 1) := by decide +kernel
theorem dX8_matchAlarm_1 : decode cX8_matchAlarm 1 = .ok (.iload_n 1, 1) := by decide +kernel
theorem dX8_matchAlarm_2 : decode cX8_matchAlarm 2 = .ok (.iload_n 2, 1) := by decide +kernel
theorem dX8_matchAlarm_3 : decode cX8_matchAlarm 3 = .ok (.isub, 1) := by decide +kernel
theorem dX8_matchAlarm_4 : decode cX8_matchAlarm 4 = .ok (.invokestatic 47, 3) := by decide +kernel
theorem dX8_matchAlarm_7 : decode cX8_matchAlarm 7 = .ok (.istore_n 3, 1) := by decide +kernel
theorem dX8_matchAlarm_8 : decode cX8_matchAlarm 8 = .ok (.iload_n 1, 1) := by decide +kernel
theorem dX8_matchAlarm_9 : decode cX8_matchAlarm 9 = .ok (.istore 4, 2) := by decide +kernel
theorem dX8_matchAlarm_11 : decode cX8_matchAlarm 11 = .ok (.iload 4, 2) := by decide +kernel
theorem dX8_matchAlarm_13 : decode cX8_matchAlarm 13 = .ok (.iload_n 3, 1) := by decide +kernel
theorem dX8_matchAlarm_14 : decode cX8_matchAlarm 14 = .ok (.if_icmp .lt 61, 3) := by decide +kernel
theorem dX8_matchAlarm_17 : decode cX8_matchAlarm 17 = .ok (.aload_n 0, 1) := by decide +kernel
theorem dX8_matchAlarm_18 : decode cX8_matchAlarm 18 = .ok (.getfield 9, 3) := by decide +kernel
theorem dX8_matchAlarm_21 : decode cX8_matchAlarm 21 = .ok (.iload 4, 2) := by decide +kernel
theorem dX8_matchAlarm_23 : decode cX8_matchAlarm 23 = .ok (.baload, 1) := by decide +kernel
theorem dX8_matchAlarm_24 : decode cX8_matchAlarm 24 = .ok (.ifCond .eq 45, 3) := by decide +kernel
theorem dX8_matchAlarm_27 : decode cX8_matchAlarm 27 = .ok (.aload_n 0, 1) := by decide +kernel
theorem dX8_matchAlarm_28 : decode cX8_matchAlarm 28 = .ok (.getfield 15, 3) := by decide +kernel
theorem dX8_matchAlarm_31 : decode cX8_matchAlarm 31 = .ok (.iload 4, 2) := by decide +kernel
theorem dX8_matchAlarm_33 : decode cX8_matchAlarm 33 = .ok (.baload, 1) := by decide +kernel
theorem dX8_matchAlarm_34 : decode cX8_matchAlarm 34 = .ok (.ifCond .ne 35, 3) := by decide +kernel
theorem dX8_matchAlarm_37 : decode cX8_matchAlarm 37 = .ok (.aload_n 0, 1) := by decide +kernel
theorem dX8_matchAlarm_38 : decode cX8_matchAlarm 38 = .ok (.getfield 15, 3) := by decide +kernel
theorem dX8_matchAlarm_41 : decode cX8_matchAlarm 41 = .ok (.iload 4, 2) := by decide +kernel
theorem dX8_matchAlarm_43 : decode cX8_matchAlarm 43 = .ok (.iconst 1, 1) := by decide +kernel
theorem dX8_matchAlarm_44 : decode cX8_matchAlarm 44 = .ok (.bastore, 1) := by decide +kernel
theorem dX8_matchAlarm_45 : decode cX8_matchAlarm 45 = .ok (.aload_n 0, 1) := by decide +kernel
theorem dX8_matchAlarm_46 : decode cX8_matchAlarm 46 = .ok (.dup, 1) := by decide +kernel
theorem dX8_matchAlarm_47 : decode cX8_matchAlarm 47 = .ok (.getfield 18, 3) := by decide +kernel
theorem dX8_matchAlarm_50 : decode cX8_matchAlarm 50 = .ok (.iconst 1, 1) := by decide +kernel
theorem dX8_matchAlarm_51 : decode cX8_matchAlarm 51 = .ok (.iadd, 1) := by decide +kernel
theorem dX8_matchAlarm_52 : decode cX8_matchAlarm 52 = .ok (.putfield 18, 3) := by decide +kernel
theorem dX8_matchAlarm_55 : decode cX8_matchAlarm 55 = .ok (.aload_n 0, 1) := by decide +kernel
theorem dX8_matchAlarm_56 : decode cX8_matchAlarm 56 = .ok (.dup, 1) := by decide +kernel
theorem dX8_matchAlarm_57 : decode cX8_matchAlarm 57 = .ok (.getfield 25, 3) := by decide +kernel
theorem dX8_matchAlarm_60 : decode cX8_matchAlarm 60 = .ok (.iload_n 1, 1) := by decide +kernel
theorem dX8_matchAlarm_61 : decode cX8_matchAlarm 61 = .ok (.iload 4, 2) := by decide +kernel
theorem dX8_matchAlarm_63 : decode cX8_matchAlarm 63 = .ok (.isub, 1) := by decide +kernel
theorem dX8_matchAlarm_64 : decode cX8_matchAlarm 64 = .ok (.iadd, 1) := by decide +kernel
theorem dX8_matchAlarm_65 : decode cX8_matchAlarm 65 = .ok (.putfield 25, 3) := by decide +kernel
theorem dX8_matchAlarm_68 : decode cX8_matchAlarm 68 = .ok (.return_, 1) := by decide +kernel
theorem dX8_matchAlarm_69 : decode cX8_matchAlarm 69 = .ok (.iinc 4 (-1), 3) := by decide +kernel
theorem dX8_matchAlarm_72 : decode cX8_matchAlarm 72 = .ok (.goto (-61), 3) := by decide +kernel
theorem dX8_matchAlarm_75 : decode cX8_matchAlarm 75 = .ok (.aload_n 0, 1) := by decide +kernel
theorem dX8_matchAlarm_76 : decode cX8_matchAlarm 76 = .ok (.dup, 1) := by decide +kernel
theorem dX8_matchAlarm_77 : decode cX8_matchAlarm 77 = .ok (.getfield 22, 3) := by decide +kernel
theorem dX8_matchAlarm_80 : decode cX8_matchAlarm 80 = .ok (.iconst 1, 1) := by decide +kernel
theorem dX8_matchAlarm_81 : decode cX8_matchAlarm 81 = .ok (.iadd, 1) := by decide +kernel
theorem dX8_matchAlarm_82 : decode cX8_matchAlarm 82 = .ok (.putfield 22, 3) := by decide +kernel
theorem dX8_matchAlarm_85 : decode cX8_matchAlarm 85 = .ok (.return_, 1) := by decide +kernel
theorem dX9_init_0 : decode cX9_init 0 = .ok (.aload_n 0, 1) := by decide +kernel
theorem dX9_init_1 : decode cX9_init 1 = .ok (.invokespecial 1, 3) := by decide +kernel
theorem dX9_init_4 : decode cX9_init 4 = .ok (.aload_n 0, 1) := by decide +kernel
theorem dX9_init_5 : decode cX9_init 5 = .ok (.bipush 120, 2) := by decide +kernel
theorem dX9_init_7 : decode cX9_init 7 = .ok (.newarray .int, 2) := by decide +kernel
theorem dX9_init_9 : decode cX9_init 9 = .ok (.putfield 9, 3) := by decide +kernel
theorem dX9_init_12 : decode cX9_init 12 = .ok (.aload_n 0, 1) := by decide +kernel
theorem dX9_init_13 : decode cX9_init 13 = .ok (.new 13, 3) := by decide +kernel
theorem dX9_init_16 : decode cX9_init 16 = .ok (.dup, 1) := by decide +kernel
theorem dX9_init_17 : decode cX9_init 17 = .ok (.invokespecial 15, 3) := by decide +kernel
theorem dX9_init_20 : decode cX9_init 20 = .ok (.putfield 16, 3) := by decide +kernel
theorem dX9_init_23 : decode cX9_init 23 = .ok (.aload_n 0, 1) := by decide +kernel
theorem dX9_init_24 : decode cX9_init 24 = .ok (.new 20, 3) := by decide +kernel
theorem dX9_init_27 : decode cX9_init 27 = .ok (.dup, 1) := by decide +kernel
theorem dX9_init_28 : decode cX9_init 28 = .ok (.invokespecial 22, 3) := by decide +kernel
theorem dX9_init_31 : decode cX9_init 31 = .ok (.putfield 23, 3) := by decide +kernel
theorem dX9_init_34 : decode cX9_init 34 = .ok (.aload_n 0, 1) := by decide +kernel
theorem dX9_init_35 : decode cX9_init 35 = .ok (.new 27, 3) := by decide +kernel
theorem dX9_init_38 : decode cX9_init 38 = .ok (.dup, 1) := by decide +kernel
theorem dX9_init_39 : decode cX9_init 39 = .ok (.invokespecial 29, 3) := by decide +kernel
theorem dX9_init_42 : decode cX9_init 42 = .ok (.putfield 30, 3) := by decide +kernel
theorem dX9_init_45 : decode cX9_init 45 = .ok (.aload_n 0, 1) := by decide +kernel
theorem dX9_init_46 : decode cX9_init 46 = .ok (.new 34, 3) := by decide +kernel
theorem dX9_init_49 : decode cX9_init 49 = .ok (.dup, 1) := by decide +kernel
theorem dX9_init_50 : decode cX9_init 50 = .ok (.invokespecial 36, 3) := by decide +kernel
theorem dX9_init_53 : decode cX9_init 53 = .ok (.putfield 37, 3) := by decide +kernel
theorem dX9_init_56 : decode cX9_init 56 = .ok (.aload_n 0, 1) := by decide +kernel
theorem dX9_init_57 : decode cX9_init 57 = .ok (.new 41, 3) := by decide +kernel
theorem dX9_init_60 : decode cX9_init 60 = .ok (.dup, 1) := by decide +kernel
theorem dX9_init_61 : decode cX9_init 61 = .ok (.invokespecial 43, 3) := by decide +kernel
theorem dX9_init_64 : decode cX9_init 64 = .ok (.putfield 44, 3) := by decide +kernel
theorem dX9_init_67 : decode cX9_init 67 = .ok (.aload_n 0, 1) := by decide +kernel
theorem dX9_init_68 : decode cX9_init 68 = .ok (.new 48, 3) := by decide +kernel
theorem dX9_init_71 : decode cX9_init 71 = .ok (.dup, 1) := by decide +kernel
theorem dX9_init_72 : decode cX9_init 72 = .ok (.invokespecial 50, 3) := by decide +kernel
theorem dX9_init_75 : decode cX9_init 75 = .ok (.putfield 51, 3) := by decide +kernel
theorem dX9_init_78 : decode cX9_init 78 = .ok (.aload_n 0, 1) := by decide +kernel
theorem dX9_init_79 : decode cX9_init 79 = .ok (.new 55, 3) := by decide +kernel
theorem dX9_init_82 : decode cX9_init 82 = .ok (.dup, 1) := by decide +kernel
theorem dX9_init_83 : decode cX9_init 83 = .ok (.invokespecial 57, 3) := by decide +kernel
theorem dX9_init_86 : decode cX9_init 86 = .ok (.putfield 58, 3) := by decide +kernel
theorem dX9_init_89 : decode cX9_init 89 = .ok (.aload_n 0, 1) := by decide +kernel
theorem dX9_init_90 : decode cX9_init 90 = .ok (.new 55, 3) := by decide +kernel
theorem dX9_init_93 : decode cX9_init 93 = .ok (.dup, 1) := by decide +kernel
theorem dX9_init_94 : decode cX9_init 94 = .ok (.invokespecial 57, 3) := by decide +kernel
theorem dX9_init_97 : decode cX9_init 97 = .ok (.putfield 62, 3) := by decide +kernel
theorem dX9_init_100 : decode cX9_init 100 = .ok (.aload_n 0, 1) := by decide +kernel
theorem dX9_init_101 : decode cX9_init 101 = .ok (.new 65, 3) := by decide +kernel
theorem dX9_init_104 : decode cX9_init 104 = .ok (.dup, 1) := by decide +kernel
theorem dX9_init_105 : decode cX9_init 105 = .ok (.invokespecial 67, 3) := by decide +kernel
theorem dX9_init_108 : decode cX9_init 108 = .ok (.putfield 68, 3) := by decide +kernel
theorem dX9_init_111 : decode cX9_init 111 = .ok (.aload_n 0, 1) := by decide +kernel
theorem dX9_init_112 : decode cX9_init 112 = .ok (.iconst 0, 1) := by decide +kernel
theorem dX9_init_113 : decode cX9_init 113 = .ok (.putfield 72, 3) := by decide +kernel
theorem dX9_init_116 : decode cX9_init 116 = .ok (.aload_n 0, 1) := by decide +kernel
theorem dX9_init_117 : decode cX9_init 117 = .ok (.bipush 20, 2) := by decide +kernel
theorem dX9_init_119 : decode cX9_init 119 = .ok (.putfield 76, 3) := by decide +kernel
theorem dX9_init_122 : decode cX9_init 122 = .ok (.return_, 1) := by decide +kernel
theorem dX9_clear_0 : decode cX9_clear 0 = .ok (.aload_n 0, 1) := by decide +kernel
theorem dX9_clear_1 : decode cX9_clear 1 = .ok (.getfield 72, 3) := by decide +kernel
theorem dX9_clear_4 : decode cX9_clear 4 = .ok (.istore_n 1, 1) := by decide +kernel
theorem dX9_clear_5 : decode cX9_clear 5 = .ok (.aload_n 0, 1) := by decide +kernel
theorem dX9_clear_6 : decode cX9_clear 6 = .ok (.iconst 0, 1) := by decide +kernel
theorem dX9_clear_7 : decode cX9_clear 7 = .ok (.putfield 72, 3) := by decide +kernel
theorem dX9_clear_10 : decode cX9_clear 10 = .ok (.aload_n 0, 1) := by decide +kernel
theorem dX9_clear_11 : decode cX9_clear 11 = .ok (.getfield 16, 3) := by decide +kernel
theorem dX9_clear_14 : decode cX9_clear 14 = .ok (.invokevirtual 79, 3) := by decide +kernel
theorem dX9_clear_17 : decode cX9_clear 17 = .ok (.aload_n 0, 1) := by decide +kernel
theorem dX9_clear_18 : decode cX9_clear 18 = .ok (.getfield 68, 3) := by decide +kernel
theorem dX9_clear_21 : decode cX9_clear 21 = .ok (.invokevirtual 82, 3) := by decide +kernel
theorem dX9_clear_24 : decode cX9_clear 24 = .ok (.aload_n 0, 1) := by decide +kernel
theorem dX9_clear_25 : decode cX9_clear 25 = .ok (.getfield 23, 3) := by decide +kernel
theorem dX9_clear_28 : decode cX9_clear 28 = .ok (.invokevirtual 85, 3) := by decide +kernel
theorem dX9_clear_31 : decode cX9_clear 31 = .ok (.aload_n 0, 1) := by decide +kernel
theorem dX9_clear_32 : decode cX9_clear 32 = .ok (.getfield 30, 3) := by decide +kernel
theorem dX9_clear_35 : decode cX9_clear 35 = .ok (.invokevirtual 88, 3) := by decide +kernel
theorem dX9_clear_38 : decode cX9_clear 38 = .ok (.aload_n 0, 1) := by decide +kernel
theorem dX9_clear_39 : decode cX9_clear 39 = .ok (.getfield 37, 3) := by decide +kernel
theorem dX9_clear_42 : decode cX9_clear 42 = .ok (.invokevirtual 89, 3) := by decide +kernel
theorem dX9_clear_45 : decode cX9_clear 45 = .ok (.aload_n 0, 1) := by decide +kernel
theorem dX9_clear_46 : decode cX9_clear 46 = .ok (.getfield 44, 3) := by decide +kernel
theorem dX9_clear_49 : decode cX9_clear 49 = .ok (.invokevirtual 92, 3) := by decide +kernel
theorem dX9_clear_52 : decode cX9_clear 52 = .ok (.aload_n 0, 1) := by decide +kernel
theorem dX9_clear_53 : decode cX9_clear 53 = .ok (.invokevirtual 93, 3) := by decide +kernel
theorem dX9_clear_56 : decode cX9_clear 56 = .ok (.iload_n 1, 1) := by decide +kernel
theorem dX9_clear_57 : decode cX9_clear 57 = .ok (.ireturn, 1) := by decide +kernel
theorem dX9_setSums_0 : decode cX9_setSums 0 = .ok (.iload_n 1, 1) := by decide +kernel
theorem dX9_setSums_1 : decode cX9_setSums 1 = .ok (.invokestatic 96, 3) := by decide +kernel
theorem dX9_setSums_4 : decode cX9_setSums 4 = .ok (.invokestatic 100, 3) := by decide +kernel
theorem dX9_setSums_7 : decode cX9_setSums 7 = .ok (.iload_n 2, 1) := by decide +kernel
theorem dX9_setSums_8 : decode cX9_setSums 8 = .ok (.iconst 0, 1) := by decide +kernel
theorem dX9_setSums_9 : decode cX9_setSums 9 = .ok (.sipush 1000, 3) := by decide +kernel
theorem dX9_setSums_12 : decode cX9_setSums 12 = .ok (.invokestatic 104, 3) := by decide +kernel
theorem dX9_setSums_15 : decode cX9_setSums 15 = .ok (.invokestatic 100, 3) := by decide +kernel
theorem dX9_setSums_18 : decode cX9_setSums 18 = .ok (.iload_n 3, 1) := by decide +kernel
theorem dX9_setSums_19 : decode cX9_setSums 19 = .ok (.iconst 0, 1) := by decide +kernel
theorem dX9_setSums_20 : decode cX9_setSums 20 = .ok (.ldc 108, 2) := by decide +kernel
theorem dX9_setSums_22 : decode cX9_setSums 22 = .ok (.invokestatic 104, 3) := by decide +kernel
theorem dX9_setSums_25 : decode cX9_setSums 25 = .ok (.invokestatic 100, 3) := by decide +kernel
theorem dX9_setSums_28 : decode cX9_setSums 28 = .ok (.aload_n 0, 1) := by decide +kernel
theorem dX9_setSums_29 : decode cX9_setSums 29 = .ok (.getfield 23, 3) := by decide +kernel
theorem dX9_setSums_32 : decode cX9_setSums 32 = .ok (.iload_n 1, 1) := by decide +kernel
theorem dX9_setSums_33 : decode cX9_setSums 33 = .ok (.iload_n 2, 1) := by decide +kernel
theorem dX9_setSums_34 : decode cX9_setSums 34 = .ok (.iload_n 3, 1) := by decide +kernel
theorem dX9_setSums_35 : decode cX9_setSums 35 = .ok (.invokevirtual 109, 3) := by decide +kernel
theorem dX9_setSums_38 : decode cX9_setSums 38 = .ok (.return_, 1) := by decide +kernel
theorem dX9_setTest_0 : decode cX9_setTest 0 = .ok (.iload_n 1, 1) := by decide +kernel
theorem dX9_setTest_1 : decode cX9_setTest 1 = .ok (.iconst 0, 1) := by decide +kernel
theorem dX9_setTest_2 : decode cX9_setTest 2 = .ok (.sipush 1000, 3) := by decide +kernel
theorem dX9_setTest_5 : decode cX9_setTest 5 = .ok (.invokestatic 104, 3) := by decide +kernel
theorem dX9_setTest_8 : decode cX9_setTest 8 = .ok (.invokestatic 100, 3) := by decide +kernel
theorem dX9_setTest_11 : decode cX9_setTest 11 = .ok (.iload_n 2, 1) := by decide +kernel
theorem dX9_setTest_12 : decode cX9_setTest 12 = .ok (.iconst 0, 1) := by decide +kernel
theorem dX9_setTest_13 : decode cX9_setTest 13 = .ok (.sipush 1000, 3) := by decide +kernel
theorem dX9_setTest_16 : decode cX9_setTest 16 = .ok (.invokestatic 104, 3) := by decide +kernel
theorem dX9_setTest_19 : decode cX9_setTest 19 = .ok (.invokestatic 100, 3) := by decide +kernel
theorem dX9_setTest_22 : decode cX9_setTest 22 = .ok (.iload_n 3, 1) := by decide +kernel
theorem dX9_setTest_23 : decode cX9_setTest 23 = .ok (.iconst 0, 1) := by decide +kernel
theorem dX9_setTest_24 : decode cX9_setTest 24 = .ok (.ldc 108, 2) := by decide +kernel
theorem dX9_setTest_26 : decode cX9_setTest 26 = .ok (.invokestatic 104, 3) := by decide +kernel
theorem dX9_setTest_29 : decode cX9_setTest 29 = .ok (.invokestatic 100, 3) := by decide +kernel
theorem dX9_setTest_32 : decode cX9_setTest 32 = .ok (.aload_n 0, 1) := by decide +kernel
theorem dX9_setTest_33 : decode cX9_setTest 33 = .ok (.getfield 30, 3) := by decide +kernel
theorem dX9_setTest_36 : decode cX9_setTest 36 = .ok (.iload_n 1, 1) := by decide +kernel
theorem dX9_setTest_37 : decode cX9_setTest 37 = .ok (.iload_n 2, 1) := by decide +kernel
theorem dX9_setTest_38 : decode cX9_setTest 38 = .ok (.iload_n 3, 1) := by decide +kernel
theorem dX9_setTest_39 : decode cX9_setTest 39 = .ok (.invokevirtual 113, 3) := by decide +kernel
theorem dX9_setTest_42 : decode cX9_setTest 42 = .ok (.return_, 1) := by decide +kernel
theorem dX9_setPenalty_0 : decode cX9_setPenalty 0 = .ok (.iload_n 1, 1) := by decide +kernel
theorem dX9_setPenalty_1 : decode cX9_setPenalty 1 = .ok (.iconst 0, 1) := by decide +kernel
theorem dX9_setPenalty_2 : decode cX9_setPenalty 2 = .ok (.ldc 108, 2) := by decide +kernel
theorem dX9_setPenalty_4 : decode cX9_setPenalty 4 = .ok (.invokestatic 104, 3) := by decide +kernel
theorem dX9_setPenalty_7 : decode cX9_setPenalty 7 = .ok (.invokestatic 100, 3) := by decide +kernel
theorem dX9_setPenalty_10 : decode cX9_setPenalty 10 = .ok (.aload_n 0, 1) := by decide +kernel
theorem dX9_setPenalty_11 : decode cX9_setPenalty 11 = .ok (.getfield 76, 3) := by decide +kernel
theorem dX9_setPenalty_14 : decode cX9_setPenalty 14 = .ok (.istore_n 2, 1) := by decide +kernel
theorem dX9_setPenalty_15 : decode cX9_setPenalty 15 = .ok (.aload_n 0, 1) := by decide +kernel
theorem dX9_setPenalty_16 : decode cX9_setPenalty 16 = .ok (.iload_n 1, 1) := by decide +kernel
theorem dX9_setPenalty_17 : decode cX9_setPenalty 17 = .ok (.putfield 76, 3) := by decide +kernel
theorem dX9_setPenalty_20 : decode cX9_setPenalty 20 = .ok (.aload_n 0, 1) := by decide +kernel
theorem dX9_setPenalty_21 : decode cX9_setPenalty 21 = .ok (.invokevirtual 93, 3) := by decide +kernel
theorem dX9_setPenalty_24 : decode cX9_setPenalty 24 = .ok (.iload_n 2, 1) := by decide +kernel
theorem dX9_setPenalty_25 : decode cX9_setPenalty 25 = .ok (.ireturn, 1) := by decide +kernel
theorem dX9_add_0 : decode cX9_add 0 = .ok (.iload_n 1, 1) := by decide +kernel
theorem dX9_add_1 : decode cX9_add 1 = .ok (.invokestatic 96, 3) := by decide +kernel
theorem dX9_add_4 : decode cX9_add 4 = .ok (.invokestatic 100, 3) := by decide +kernel
theorem dX9_add_7 : decode cX9_add 7 = .ok (.aload_n 0, 1) := by decide +kernel
theorem dX9_add_8 : decode cX9_add 8 = .ok (.getfield 72, 3) := by decide +kernel
theorem dX9_add_11 : decode cX9_add 11 = .ok (.bipush 120, 2) := by decide +kernel
theorem dX9_add_13 : decode cX9_add 13 = .ok (.if_icmp .ge 7, 3) := by decide +kernel
theorem dX9_add_16 : decode cX9_add 16 = .ok (.iconst 1, 1) := by decide +kernel
theorem dX9_add_17 : decode cX9_add 17 = .ok (.goto 4, 3) := by decide +kernel
theorem dX9_add_20 : decode cX9_add 20 = .ok (.iconst 0, 1) := by decide +kernel
theorem dX9_add_21 : decode cX9_add 21 = .ok (.invokestatic 114, 3) := by decide +kernel
theorem dX9_add_24 : decode cX9_add 24 = .ok (.aload_n 0, 1) := by decide +kernel
theorem dX9_add_25 : decode cX9_add 25 = .ok (.iload_n 1, 1) := by decide +kernel
theorem dX9_add_26 : decode cX9_add 26 = .ok (.invokevirtual 117, 3) := by decide +kernel
theorem dX9_add_29 : decode cX9_add 29 = .ok (.ireturn, 1) := by decide +kernel
theorem dX9_addRun_0 : decode cX9_addRun 0 = .ok (.iload_n 1, 1) := by decide +kernel
theorem dX9_addRun_1 : decode cX9_addRun 1 = .ok (.invokestatic 96, 3) := by decide +kernel
theorem dX9_addRun_4 : decode cX9_addRun 4 = .ok (.invokestatic 100, 3) := by decide +kernel
theorem dX9_addRun_7 : decode cX9_addRun 7 = .ok (.iload_n 2, 1) := by decide +kernel
theorem dX9_addRun_8 : decode cX9_addRun 8 = .ok (.invokestatic 96, 3) := by decide +kernel
theorem dX9_addRun_11 : decode cX9_addRun 11 = .ok (.invokestatic 100, 3) := by decide +kernel
theorem dX9_addRun_14 : decode cX9_addRun 14 = .ok (.iload_n 3, 1) := by decide +kernel
theorem dX9_addRun_15 : decode cX9_addRun 15 = .ok (.iconst 1, 1) := by decide +kernel
theorem dX9_addRun_16 : decode cX9_addRun 16 = .ok (.bipush 40, 2) := by decide +kernel
theorem dX9_addRun_18 : decode cX9_addRun 18 = .ok (.invokestatic 104, 3) := by decide +kernel
theorem dX9_addRun_21 : decode cX9_addRun 21 = .ok (.invokestatic 100, 3) := by decide +kernel
theorem dX9_addRun_24 : decode cX9_addRun 24 = .ok (.iload_n 1, 1) := by decide +kernel
theorem dX9_addRun_25 : decode cX9_addRun 25 = .ok (.iload_n 2, 1) := by decide +kernel
theorem dX9_addRun_26 : decode cX9_addRun 26 = .ok (.iload_n 3, 1) := by decide +kernel
theorem dX9_addRun_27 : decode cX9_addRun 27 = .ok (.iconst 1, 1) := by decide +kernel
theorem dX9_addRun_28 : decode cX9_addRun 28 = .ok (.isub, 1) := by decide +kernel
theorem dX9_addRun_29 : decode cX9_addRun 29 = .ok (.imul, 1) := by decide +kernel
theorem dX9_addRun_30 : decode cX9_addRun 30 = .ok (.iadd, 1) := by decide +kernel
theorem dX9_addRun_31 : decode cX9_addRun 31 = .ok (.invokestatic 96, 3) := by decide +kernel
theorem dX9_addRun_34 : decode cX9_addRun 34 = .ok (.invokestatic 100, 3) := by decide +kernel
theorem dX9_addRun_37 : decode cX9_addRun 37 = .ok (.aload_n 0, 1) := by decide +kernel
theorem dX9_addRun_38 : decode cX9_addRun 38 = .ok (.getfield 72, 3) := by decide +kernel
theorem dX9_addRun_41 : decode cX9_addRun 41 = .ok (.iload_n 3, 1) := by decide +kernel
theorem dX9_addRun_42 : decode cX9_addRun 42 = .ok (.iadd, 1) := by decide +kernel
theorem dX9_addRun_43 : decode cX9_addRun 43 = .ok (.bipush 120, 2) := by decide +kernel
theorem dX9_addRun_45 : decode cX9_addRun 45 = .ok (.if_icmp .gt 7, 3) := by decide +kernel
theorem dX9_addRun_48 : decode cX9_addRun 48 = .ok (.iconst 1, 1) := by decide +kernel
theorem dX9_addRun_49 : decode cX9_addRun 49 = .ok (.goto 4, 3) := by decide +kernel
theorem dX9_addRun_52 : decode cX9_addRun 52 = .ok (.iconst 0, 1) := by decide +kernel
theorem dX9_addRun_53 : decode cX9_addRun 53 = .ok (.invokestatic 114, 3) := by decide +kernel
theorem dX9_addRun_56 : decode cX9_addRun 56 = .ok (.aload_n 0, 1) := by decide +kernel
theorem dX9_addRun_57 : decode cX9_addRun 57 = .ok (.getfield 16, 3) := by decide +kernel
theorem dX9_addRun_60 : decode cX9_addRun 60 = .ok (.getfield 121, 3) := by decide +kernel
theorem dX9_addRun_63 : decode cX9_addRun 63 = .ok (.istore 4, 2) := by decide +kernel
theorem dX9_addRun_65 : decode cX9_addRun 65 = .ok (.iconst 0, 1) := by decide +kernel
theorem dX9_addRun_66 : decode cX9_addRun 66 = .ok (.istore 5, 2) := by decide +kernel
theorem dX9_addRun_68 : decode cX9_addRun 68 = .ok (.iload 5, 2) := by decide +kernel
theorem dX9_addRun_70 : decode cX9_addRun 70 = .ok (.iload_n 3, 1) := by decide +kernel
theorem dX9_addRun_71 : decode cX9_addRun 71 = .ok (.if_icmp .ge 20, 3) := by decide +kernel
theorem dX9_addRun_74 : decode cX9_addRun 74 = .ok (.aload_n 0, 1) := by decide +kernel
theorem dX9_addRun_75 : decode cX9_addRun 75 = .ok (.iload_n 1, 1) := by decide +kernel
theorem dX9_addRun_76 : decode cX9_addRun 76 = .ok (.iload_n 2, 1) := by decide +kernel
theorem dX9_addRun_77 : decode cX9_addRun 77 = .ok (.iload 5, 2) := by decide +kernel
theorem dX9_addRun_79 : decode cX9_addRun 79 = .ok (.imul, 1) := by decide +kernel
theorem dX9_addRun_80 : decode cX9_addRun 80 = .ok (.iadd, 1) := by decide +kernel
theorem dX9_addRun_81 : decode cX9_addRun 81 = .ok (.invokevirtual 117, 3) := by decide +kernel
theorem dX9_addRun_84 : decode cX9_addRun 84 = .ok (.pop, 1) := by decide +kernel
theorem dX9_addRun_85 : decode cX9_addRun 85 = .ok (.iinc 5 1, 3) := by decide +kernel
theorem dX9_addRun_88 : decode cX9_addRun 88 = .ok (.goto (-20), 3) := by decide +kernel
theorem dX9_addRun_91 : decode cX9_addRun 91 = .ok (.aload_n 0, 1) := by decide +kernel
theorem dX9_addRun_92 : decode cX9_addRun 92 = .ok (.getfield 16, 3) := by decide +kernel
theorem dX9_addRun_95 : decode cX9_addRun 95 = .ok (.getfield 121, 3) := by decide +kernel
theorem dX9_addRun_98 : decode cX9_addRun 98 = .ok (.iload 4, 2) := by decide +kernel
theorem dX9_addRun_100 : decode cX9_addRun 100 = .ok (.isub, 1) := by decide +kernel
theorem dX9_addRun_101 : decode cX9_addRun 101 = .ok (.ireturn, 1) := by decide +kernel
theorem dX9_size_0 : decode cX9_size 0 = .ok (.aload_n 0, 1) := by decide +kernel
theorem dX9_size_1 : decode cX9_size 1 = .ok (.getfield 72, 3) := by decide +kernel
theorem dX9_size_4 : decode cX9_size 4 = .ok (.ireturn, 1) := by decide +kernel
theorem dX9_value_0 : decode cX9_value 0 = .ok (.aload_n 0, 1) := by decide +kernel
theorem dX9_value_1 : decode cX9_value 1 = .ok (.iload_n 1, 1) := by decide +kernel
theorem dX9_value_2 : decode cX9_value 2 = .ok (.invokevirtual 124, 3) := by decide +kernel
theorem dX9_value_5 : decode cX9_value 5 = .ok (.invokestatic 127, 3) := by decide +kernel
theorem dX9_value_8 : decode cX9_value 8 = .ok (.aload_n 0, 1) := by decide +kernel
theorem dX9_value_9 : decode cX9_value 9 = .ok (.getfield 9, 3) := by decide +kernel
theorem dX9_value_12 : decode cX9_value 12 = .ok (.iload_n 1, 1) := by decide +kernel
theorem dX9_value_13 : decode cX9_value 13 = .ok (.iaload, 1) := by decide +kernel
theorem dX9_value_14 : decode cX9_value 14 = .ok (.ireturn, 1) := by decide +kernel
theorem dX9_highSum_0 : decode cX9_highSum 0 = .ok (.aload_n 0, 1) := by decide +kernel
theorem dX9_highSum_1 : decode cX9_highSum 1 = .ok (.getfield 23, 3) := by decide +kernel
theorem dX9_highSum_4 : decode cX9_highSum 4 = .ok (.getfield 130, 3) := by decide +kernel
theorem dX9_highSum_7 : decode cX9_highSum 7 = .ok (.ireturn, 1) := by decide +kernel
theorem dX9_lowSum_0 : decode cX9_lowSum 0 = .ok (.aload_n 0, 1) := by decide +kernel
theorem dX9_lowSum_1 : decode cX9_lowSum 1 = .ok (.getfield 23, 3) := by decide +kernel
theorem dX9_lowSum_4 : decode cX9_lowSum 4 = .ok (.getfield 133, 3) := by decide +kernel
theorem dX9_lowSum_7 : decode cX9_lowSum 7 = .ok (.ireturn, 1) := by decide +kernel
theorem dX9_testSum_0 : decode cX9_testSum 0 = .ok (.aload_n 0, 1) := by decide +kernel
theorem dX9_testSum_1 : decode cX9_testSum 1 = .ok (.getfield 30, 3) := by decide +kernel
theorem dX9_testSum_4 : decode cX9_testSum 4 = .ok (.getfield 136, 3) := by decide +kernel
theorem dX9_testSum_7 : decode cX9_testSum 7 = .ok (.aload_n 0, 1) := by decide +kernel
theorem dX9_testSum_8 : decode cX9_testSum 8 = .ok (.getfield 30, 3) := by decide +kernel
theorem dX9_testSum_11 : decode cX9_testSum 11 = .ok (.getfield 139, 3) := by decide +kernel
theorem dX9_testSum_14 : decode cX9_testSum 14 = .ok (.isub, 1) := by decide +kernel
theorem dX9_testSum_15 : decode cX9_testSum 15 = .ok (.ireturn, 1) := by decide +kernel
theorem dX9_alarms_0 : decode cX9_alarms 0 = .ok (.aload_n 0, 1) := by decide +kernel
theorem dX9_alarms_1 : decode cX9_alarms 1 = .ok (.getfield 16, 3) := by decide +kernel
theorem dX9_alarms_4 : decode cX9_alarms 4 = .ok (.getfield 121, 3) := by decide +kernel
theorem dX9_alarms_7 : decode cX9_alarms 7 = .ok (.ireturn, 1) := by decide +kernel
theorem dX9_alarmKind_0 : decode cX9_alarmKind 0 = .ok (.aload_n 0, 1) := by decide +kernel
theorem dX9_alarmKind_1 : decode cX9_alarmKind 1 = .ok (.getfield 16, 3) := by decide +kernel
theorem dX9_alarmKind_4 : decode cX9_alarmKind 4 = .ok (.iload_n 1, 1) := by decide +kernel
theorem dX9_alarmKind_5 : decode cX9_alarmKind 5 = .ok (.invokevirtual 142, 3) := by decide +kernel
theorem dX9_alarmKind_8 : decode cX9_alarmKind 8 = .ok (.invokestatic 127, 3) := by decide +kernel
theorem dX9_alarmKind_11 : decode cX9_alarmKind 11 = .ok (.aload_n 0, 1) := by decide +kernel
theorem dX9_alarmKind_12 : decode cX9_alarmKind 12 = .ok (.getfield 16, 3) := by decide +kernel
theorem dX9_alarmKind_15 : decode cX9_alarmKind 15 = .ok (.getfield 145, 3) := by decide +kernel
theorem dX9_alarmKind_18 : decode cX9_alarmKind 18 = .ok (.iload_n 1, 1) := by decide +kernel
theorem dX9_alarmKind_19 : decode cX9_alarmKind 19 = .ok (.iaload, 1) := by decide +kernel
theorem dX9_alarmKind_20 : decode cX9_alarmKind 20 = .ok (.ireturn, 1) := by decide +kernel
theorem dX9_alarmNumber_0 : decode cX9_alarmNumber 0 = .ok (.aload_n 0, 1) := by decide +kernel
theorem dX9_alarmNumber_1 : decode cX9_alarmNumber 1 = .ok (.getfield 16, 3) := by decide +kernel
theorem dX9_alarmNumber_4 : decode cX9_alarmNumber 4 = .ok (.iload_n 1, 1) := by decide +kernel
theorem dX9_alarmNumber_5 : decode cX9_alarmNumber 5 = .ok (.invokevirtual 142, 3) := by decide +kernel
theorem dX9_alarmNumber_8 : decode cX9_alarmNumber 8 = .ok (.invokestatic 127, 3) := by decide +kernel
theorem dX9_alarmNumber_11 : decode cX9_alarmNumber 11 = .ok (.aload_n 0, 1) := by decide +kernel
theorem dX9_alarmNumber_12 : decode cX9_alarmNumber 12 = .ok (.getfield 16, 3) := by decide +kernel
theorem dX9_alarmNumber_15 : decode cX9_alarmNumber 15 = .ok (.getfield 148, 3) := by decide +kernel
theorem dX9_alarmNumber_18 : decode cX9_alarmNumber 18 = .ok (.iload_n 1, 1) := by decide +kernel
theorem dX9_alarmNumber_19 : decode cX9_alarmNumber 19 = .ok (.iaload, 1) := by decide +kernel
theorem dX9_alarmNumber_20 : decode cX9_alarmNumber 20 = .ok (.ireturn, 1) := by decide +kernel
theorem dX9_alarmStart_0 : decode cX9_alarmStart 0 = .ok (.aload_n 0, 1) := by decide +kernel
theorem dX9_alarmStart_1 : decode cX9_alarmStart 1 = .ok (.getfield 16, 3) := by decide +kernel
theorem dX9_alarmStart_4 : decode cX9_alarmStart 4 = .ok (.iload_n 1, 1) := by decide +kernel
theorem dX9_alarmStart_5 : decode cX9_alarmStart 5 = .ok (.invokevirtual 142, 3) := by decide +kernel
theorem dX9_alarmStart_8 : decode cX9_alarmStart 8 = .ok (.invokestatic 127, 3) := by decide +kernel
theorem dX9_alarmStart_11 : decode cX9_alarmStart 11 = .ok (.aload_n 0, 1) := by decide +kernel
theorem dX9_alarmStart_12 : decode cX9_alarmStart 12 = .ok (.getfield 16, 3) := by decide +kernel
theorem dX9_alarmStart_15 : decode cX9_alarmStart 15 = .ok (.getfield 151, 3) := by decide +kernel
theorem dX9_alarmStart_18 : decode cX9_alarmStart 18 = .ok (.iload_n 1, 1) := by decide +kernel
theorem dX9_alarmStart_19 : decode cX9_alarmStart 19 = .ok (.iaload, 1) := by decide +kernel
theorem dX9_alarmStart_20 : decode cX9_alarmStart 20 = .ok (.ireturn, 1) := by decide +kernel
theorem dX9_cost_0 : decode cX9_cost 0 = .ok (.aload_n 0, 1) := by decide +kernel
theorem dX9_cost_1 : decode cX9_cost 1 = .ok (.iload_n 1, 1) := by decide +kernel
theorem dX9_cost_2 : decode cX9_cost 2 = .ok (.iload_n 2, 1) := by decide +kernel
theorem dX9_cost_3 : decode cX9_cost 3 = .ok (.invokevirtual 154, 3) := by decide +kernel
theorem dX9_cost_6 : decode cX9_cost 6 = .ok (.invokestatic 127, 3) := by decide +kernel
theorem dX9_cost_9 : decode cX9_cost 9 = .ok (.aload_n 0, 1) := by decide +kernel
theorem dX9_cost_10 : decode cX9_cost 10 = .ok (.invokevirtual 158, 3) := by decide +kernel
theorem dX9_cost_13 : decode cX9_cost 13 = .ok (.iload_n 1, 1) := by decide +kernel
theorem dX9_cost_14 : decode cX9_cost 14 = .ok (.iload_n 2, 1) := by decide +kernel
theorem dX9_cost_15 : decode cX9_cost 15 = .ok (.invokevirtual 162, 3) := by decide +kernel
theorem dX9_cost_18 : decode cX9_cost 18 = .ok (.ireturn, 1) := by decide +kernel
theorem dX9_middle_0 : decode cX9_middle 0 = .ok (.aload_n 0, 1) := by decide +kernel
theorem dX9_middle_1 : decode cX9_middle 1 = .ok (.iload_n 1, 1) := by decide +kernel
theorem dX9_middle_2 : decode cX9_middle 2 = .ok (.iload_n 2, 1) := by decide +kernel
theorem dX9_middle_3 : decode cX9_middle 3 = .ok (.invokevirtual 154, 3) := by decide +kernel
theorem dX9_middle_6 : decode cX9_middle 6 = .ok (.invokestatic 127, 3) := by decide +kernel
theorem dX9_middle_9 : decode cX9_middle 9 = .ok (.aload_n 0, 1) := by decide +kernel
theorem dX9_middle_10 : decode cX9_middle 10 = .ok (.getfield 37, 3) := by decide +kernel
theorem dX9_middle_13 : decode cX9_middle 13 = .ok (.aload_n 0, 1) := by decide +kernel
theorem dX9_middle_14 : decode cX9_middle 14 = .ok (.getfield 9, 3) := by decide +kernel
theorem dX9_middle_17 : decode cX9_middle 17 = .ok (.iload_n 1, 1) := by decide +kernel
theorem dX9_middle_18 : decode cX9_middle 18 = .ok (.iload_n 2, 1) := by decide +kernel
theorem dX9_middle_19 : decode cX9_middle 19 = .ok (.invokevirtual 166, 3) := by decide +kernel
theorem dX9_middle_22 : decode cX9_middle 22 = .ok (.ireturn, 1) := by decide +kernel
theorem dX9_changes_0 : decode cX9_changes 0 = .ok (.aload_n 0, 1) := by decide +kernel
theorem dX9_changes_1 : decode cX9_changes 1 = .ok (.invokevirtual 170, 3) := by decide +kernel
theorem dX9_changes_4 : decode cX9_changes 4 = .ok (.getfield 174, 3) := by decide +kernel
theorem dX9_changes_7 : decode cX9_changes 7 = .ok (.ireturn, 1) := by decide +kernel
theorem dX9_change_0 : decode cX9_change 0 = .ok (.aload_n 0, 1) := by decide +kernel
theorem dX9_change_1 : decode cX9_change 1 = .ok (.invokevirtual 170, 3) := by decide +kernel
theorem dX9_change_4 : decode cX9_change 4 = .ok (.astore_n 2, 1) := by decide +kernel
theorem dX9_change_5 : decode cX9_change 5 = .ok (.aload_n 2, 1) := by decide +kernel
theorem dX9_change_6 : decode cX9_change 6 = .ok (.iload_n 1, 1) := by decide +kernel
theorem dX9_change_7 : decode cX9_change 7 = .ok (.invokevirtual 177, 3) := by decide +kernel
theorem dX9_change_10 : decode cX9_change 10 = .ok (.invokestatic 127, 3) := by decide +kernel
theorem dX9_change_13 : decode cX9_change 13 = .ok (.aload_n 2, 1) := by decide +kernel
theorem dX9_change_14 : decode cX9_change 14 = .ok (.iload_n 1, 1) := by decide +kernel
theorem dX9_change_15 : decode cX9_change 15 = .ok (.invokevirtual 178, 3) := by decide +kernel
theorem dX9_change_18 : decode cX9_change 18 = .ok (.ireturn, 1) := by decide +kernel
theorem dX9_bestCost_0 : decode cX9_bestCost 0 = .ok (.aload_n 0, 1) := by decide +kernel
theorem dX9_bestCost_1 : decode cX9_bestCost 1 = .ok (.invokevirtual 170, 3) := by decide +kernel
theorem dX9_bestCost_4 : decode cX9_bestCost 4 = .ok (.getfield 181, 3) := by decide +kernel
theorem dX9_bestCost_7 : decode cX9_bestCost 7 = .ok (.ireturn, 1) := by decide +kernel
theorem dX9_leastCost_0 : decode cX9_leastCost 0 = .ok (.iload_n 1, 1) := by decide +kernel
theorem dX9_leastCost_1 : decode cX9_leastCost 1 = .ok (.iconst 0, 1) := by decide +kernel
theorem dX9_leastCost_2 : decode cX9_leastCost 2 = .ok (.bipush 119, 2) := by decide +kernel
theorem dX9_leastCost_4 : decode cX9_leastCost 4 = .ok (.invokestatic 104, 3) := by decide +kernel
theorem dX9_leastCost_7 : decode cX9_leastCost 7 = .ok (.invokestatic 100, 3) := by decide +kernel
theorem dX9_leastCost_10 : decode cX9_leastCost 10 = .ok (.iload_n 1, 1) := by decide +kernel
theorem dX9_leastCost_11 : decode cX9_leastCost 11 = .ok (.aload_n 0, 1) := by decide +kernel
theorem dX9_leastCost_12 : decode cX9_leastCost 12 = .ok (.getfield 72, 3) := by decide +kernel
theorem dX9_leastCost_15 : decode cX9_leastCost 15 = .ok (.if_icmp .ge 7, 3) := by decide +kernel
theorem dX9_leastCost_18 : decode cX9_leastCost 18 = .ok (.iconst 1, 1) := by decide +kernel
theorem dX9_leastCost_19 : decode cX9_leastCost 19 = .ok (.goto 4, 3) := by decide +kernel
theorem dX9_leastCost_22 : decode cX9_leastCost 22 = .ok (.iconst 0, 1) := by decide +kernel
theorem dX9_leastCost_23 : decode cX9_leastCost 23 = .ok (.invokestatic 114, 3) := by decide +kernel
theorem dX9_leastCost_26 : decode cX9_leastCost 26 = .ok (.aload_n 0, 1) := by decide +kernel
theorem dX9_leastCost_27 : decode cX9_leastCost 27 = .ok (.getfield 44, 3) := by decide +kernel
theorem dX9_leastCost_30 : decode cX9_leastCost 30 = .ok (.aload_n 0, 1) := by decide +kernel
theorem dX9_leastCost_31 : decode cX9_leastCost 31 = .ok (.invokevirtual 158, 3) := by decide +kernel
theorem dX9_leastCost_34 : decode cX9_leastCost 34 = .ok (.aload_n 0, 1) := by decide +kernel
theorem dX9_leastCost_35 : decode cX9_leastCost 35 = .ok (.getfield 72, 3) := by decide +kernel
theorem dX9_leastCost_38 : decode cX9_leastCost 38 = .ok (.invokevirtual 184, 3) := by decide +kernel
theorem dX9_leastCost_41 : decode cX9_leastCost 41 = .ok (.aload_n 0, 1) := by decide +kernel
theorem dX9_leastCost_42 : decode cX9_leastCost 42 = .ok (.getfield 44, 3) := by decide +kernel
theorem dX9_leastCost_45 : decode cX9_leastCost 45 = .ok (.iload_n 1, 1) := by decide +kernel
theorem dX9_leastCost_46 : decode cX9_leastCost 46 = .ok (.aload_n 0, 1) := by decide +kernel
theorem dX9_leastCost_47 : decode cX9_leastCost 47 = .ok (.getfield 72, 3) := by decide +kernel
theorem dX9_leastCost_50 : decode cX9_leastCost 50 = .ok (.invokevirtual 188, 3) := by decide +kernel
theorem dX9_leastCost_53 : decode cX9_leastCost 53 = .ok (.ireturn, 1) := by decide +kernel
theorem dX9_greedyChanges_0 : decode cX9_greedyChanges 0 = .ok (.aload_n 0, 1) := by decide +kernel
theorem dX9_greedyChanges_1 : decode cX9_greedyChanges 1 = .ok (.invokevirtual 189, 3) := by decide +kernel
theorem dX9_greedyChanges_4 : decode cX9_greedyChanges 4 = .ok (.getfield 174, 3) := by decide +kernel
theorem dX9_greedyChanges_7 : decode cX9_greedyChanges 7 = .ok (.ireturn, 1) := by decide +kernel
theorem dX9_greedyChange_0 : decode cX9_greedyChange 0 = .ok (.aload_n 0, 1) := by decide +kernel
theorem dX9_greedyChange_1 : decode cX9_greedyChange 1 = .ok (.invokevirtual 189, 3) := by decide +kernel
theorem dX9_greedyChange_4 : decode cX9_greedyChange 4 = .ok (.astore_n 2, 1) := by decide +kernel
theorem dX9_greedyChange_5 : decode cX9_greedyChange 5 = .ok (.aload_n 2, 1) := by decide +kernel
theorem dX9_greedyChange_6 : decode cX9_greedyChange 6 = .ok (.iload_n 1, 1) := by decide +kernel
theorem dX9_greedyChange_7 : decode cX9_greedyChange 7 = .ok (.invokevirtual 177, 3) := by decide +kernel
theorem dX9_greedyChange_10 : decode cX9_greedyChange 10 = .ok (.invokestatic 127, 3) := by decide +kernel
theorem dX9_greedyChange_13 : decode cX9_greedyChange 13 = .ok (.aload_n 2, 1) := by decide +kernel
theorem dX9_greedyChange_14 : decode cX9_greedyChange 14 = .ok (.iload_n 1, 1) := by decide +kernel
theorem dX9_greedyChange_15 : decode cX9_greedyChange 15 = .ok (.invokevirtual 178, 3) := by decide +kernel
theorem dX9_greedyChange_18 : decode cX9_greedyChange 18 = .ok (.ireturn, 1) := by decide +kernel
theorem dX9_greedyCost_0 : decode cX9_greedyCost 0 = .ok (.aload_n 0, 1) := by decide +kernel
theorem dX9_greedyCost_1 : decode cX9_greedyCost 1 = .ok (.invokevirtual 189, 3) := by decide +kernel
theorem dX9_greedyCost_4 : decode cX9_greedyCost 4 = .ok (.getfield 181, 3) := by decide +kernel
theorem dX9_greedyCost_7 : decode cX9_greedyCost 7 = .ok (.ireturn, 1) := by decide +kernel
theorem dX9_toggleTruth_0 : decode cX9_toggleTruth 0 = .ok (.aload_n 0, 1) := by decide +kernel
theorem dX9_toggleTruth_1 : decode cX9_toggleTruth 1 = .ok (.iload_n 1, 1) := by decide +kernel
theorem dX9_toggleTruth_2 : decode cX9_toggleTruth 2 = .ok (.invokevirtual 124, 3) := by decide +kernel
theorem dX9_toggleTruth_5 : decode cX9_toggleTruth 5 = .ok (.invokestatic 127, 3) := by decide +kernel
theorem dX9_toggleTruth_8 : decode cX9_toggleTruth 8 = .ok (.aload_n 0, 1) := by decide +kernel
theorem dX9_toggleTruth_9 : decode cX9_toggleTruth 9 = .ok (.getfield 68, 3) := by decide +kernel
theorem dX9_toggleTruth_12 : decode cX9_toggleTruth 12 = .ok (.getfield 192, 3) := by decide +kernel
theorem dX9_toggleTruth_15 : decode cX9_toggleTruth 15 = .ok (.iload_n 1, 1) := by decide +kernel
theorem dX9_toggleTruth_16 : decode cX9_toggleTruth 16 = .ok (.aload_n 0, 1) := by decide +kernel
theorem dX9_toggleTruth_17 : decode cX9_toggleTruth 17 = .ok (.getfield 68, 3) := by decide +kernel
theorem dX9_toggleTruth_20 : decode cX9_toggleTruth 20 = .ok (.getfield 192, 3) := by decide +kernel
theorem dX9_toggleTruth_23 : decode cX9_toggleTruth 23 = .ok (.iload_n 1, 1) := by decide +kernel
theorem dX9_toggleTruth_24 : decode cX9_toggleTruth 24 = .ok (.baload, 1) := by decide +kernel
theorem dX9_toggleTruth_25 : decode cX9_toggleTruth 25 = .ok (.ifCond .ne 7, 3) := by decide +kernel
theorem dX9_toggleTruth_28 : decode cX9_toggleTruth 28 = .ok (.iconst 1, 1) := by decide +kernel
theorem dX9_toggleTruth_29 : decode cX9_toggleTruth 29 = .ok (.goto 4, 3) := by decide +kernel
theorem dX9_toggleTruth_32 : decode cX9_toggleTruth 32 = .ok (.iconst 0, 1) := by decide +kernel
theorem dX9_toggleTruth_33 : decode cX9_toggleTruth 33 = .ok (.bastore, 1) := by decide +kernel
theorem dX9_toggleTruth_34 : decode cX9_toggleTruth 34 = .ok (.aload_n 0, 1) := by decide +kernel
theorem dX9_toggleTruth_35 : decode cX9_toggleTruth 35 = .ok (.getfield 68, 3) := by decide +kernel
theorem dX9_toggleTruth_38 : decode cX9_toggleTruth 38 = .ok (.getfield 192, 3) := by decide +kernel
theorem dX9_toggleTruth_41 : decode cX9_toggleTruth 41 = .ok (.iload_n 1, 1) := by decide +kernel
theorem dX9_toggleTruth_42 : decode cX9_toggleTruth 42 = .ok (.baload, 1) := by decide +kernel
theorem dX9_toggleTruth_43 : decode cX9_toggleTruth 43 = .ok (.ireturn, 1) := by decide +kernel
theorem dX9_matched_0 : decode cX9_matched 0 = .ok (.aload_n 0, 1) := by decide +kernel
theorem dX9_matched_1 : decode cX9_matched 1 = .ok (.iload_n 1, 1) := by decide +kernel
theorem dX9_matched_2 : decode cX9_matched 2 = .ok (.iload_n 2, 1) := by decide +kernel
theorem dX9_matched_3 : decode cX9_matched 3 = .ok (.invokevirtual 196, 3) := by decide +kernel
theorem dX9_matched_6 : decode cX9_matched 6 = .ok (.aload_n 0, 1) := by decide +kernel
theorem dX9_matched_7 : decode cX9_matched 7 = .ok (.getfield 68, 3) := by decide +kernel
theorem dX9_matched_10 : decode cX9_matched 10 = .ok (.getfield 200, 3) := by decide +kernel
theorem dX9_matched_13 : decode cX9_matched 13 = .ok (.ireturn, 1) := by decide +kernel
theorem dX9_falseAlarms_0 : decode cX9_falseAlarms 0 = .ok (.aload_n 0, 1) := by decide +kernel
theorem dX9_falseAlarms_1 : decode cX9_falseAlarms 1 = .ok (.iload_n 1, 1) := by decide +kernel
theorem dX9_falseAlarms_2 : decode cX9_falseAlarms 2 = .ok (.iload_n 2, 1) := by decide +kernel
theorem dX9_falseAlarms_3 : decode cX9_falseAlarms 3 = .ok (.invokevirtual 196, 3) := by decide +kernel
theorem dX9_falseAlarms_6 : decode cX9_falseAlarms 6 = .ok (.aload_n 0, 1) := by decide +kernel
theorem dX9_falseAlarms_7 : decode cX9_falseAlarms 7 = .ok (.getfield 68, 3) := by decide +kernel
theorem dX9_falseAlarms_10 : decode cX9_falseAlarms 10 = .ok (.getfield 203, 3) := by decide +kernel
theorem dX9_falseAlarms_13 : decode cX9_falseAlarms 13 = .ok (.ireturn, 1) := by decide +kernel
theorem dX9_averageDelay_0 : decode cX9_averageDelay 0 = .ok (.aload_n 0, 1) := by decide +kernel
theorem dX9_averageDelay_1 : decode cX9_averageDelay 1 = .ok (.iload_n 1, 1) := by decide +kernel
theorem dX9_averageDelay_2 : decode cX9_averageDelay 2 = .ok (.iload_n 2, 1) := by decide +kernel
theorem dX9_averageDelay_3 : decode cX9_averageDelay 3 = .ok (.invokevirtual 196, 3) := by decide +kernel
theorem dX9_averageDelay_6 : decode cX9_averageDelay 6 = .ok (.aload_n 0, 1) := by decide +kernel
theorem dX9_averageDelay_7 : decode cX9_averageDelay 7 = .ok (.getfield 68, 3) := by decide +kernel
theorem dX9_averageDelay_10 : decode cX9_averageDelay 10 = .ok (.getfield 200, 3) := by decide +kernel
theorem dX9_averageDelay_13 : decode cX9_averageDelay 13 = .ok (.ifCond .le 7, 3) := by decide +kernel
theorem dX9_averageDelay_16 : decode cX9_averageDelay 16 = .ok (.iconst 1, 1) := by decide +kernel
theorem dX9_averageDelay_17 : decode cX9_averageDelay 17 = .ok (.goto 4, 3) := by decide +kernel
theorem dX9_averageDelay_20 : decode cX9_averageDelay 20 = .ok (.iconst 0, 1) := by decide +kernel
theorem dX9_averageDelay_21 : decode cX9_averageDelay 21 = .ok (.invokestatic 114, 3) := by decide +kernel
theorem dX9_averageDelay_24 : decode cX9_averageDelay 24 = .ok (.aload_n 0, 1) := by decide +kernel
theorem dX9_averageDelay_25 : decode cX9_averageDelay 25 = .ok (.getfield 68, 3) := by decide +kernel
theorem dX9_averageDelay_28 : decode cX9_averageDelay 28 = .ok (.getfield 206, 3) := by decide +kernel
theorem dX9_averageDelay_31 : decode cX9_averageDelay 31 = .ok (.i2f, 1) := by decide +kernel
theorem dX9_averageDelay_32 : decode cX9_averageDelay 32 = .ok (.aload_n 0, 1) := by decide +kernel
theorem dX9_averageDelay_33 : decode cX9_averageDelay 33 = .ok (.getfield 68, 3) := by decide +kernel
theorem dX9_averageDelay_36 : decode cX9_averageDelay 36 = .ok (.getfield 200, 3) := by decide +kernel
theorem dX9_averageDelay_39 : decode cX9_averageDelay 39 = .ok (.i2f, 1) := by decide +kernel
theorem dX9_averageDelay_40 : decode cX9_averageDelay 40 = .ok (.fdiv, 1) := by decide +kernel
theorem dX9_averageDelay_41 : decode cX9_averageDelay 41 = .ok (.freturn, 1) := by decide +kernel
theorem dX9_take_0 : decode cX9_take 0 = .ok (.aload_n 0, 1) := by decide +kernel
theorem dX9_take_1 : decode cX9_take 1 = .ok (.getfield 72, 3) := by decide +kernel
theorem dX9_take_4 : decode cX9_take 4 = .ok (.istore_n 2, 1) := by decide +kernel
theorem dX9_take_5 : decode cX9_take 5 = .ok (.aload_n 0, 1) := by decide +kernel
theorem dX9_take_6 : decode cX9_take 6 = .ok (.getfield 9, 3) := by decide +kernel
theorem dX9_take_9 : decode cX9_take 9 = .ok (.iload_n 2, 1) := by decide +kernel
theorem dX9_take_10 : decode cX9_take 10 = .ok (.iload_n 1, 1) := by decide +kernel
theorem dX9_take_11 : decode cX9_take 11 = .ok (.iastore, 1) := by decide +kernel
theorem dX9_take_12 : decode cX9_take 12 = .ok (.aload_n 0, 1) := by decide +kernel
theorem dX9_take_13 : decode cX9_take 13 = .ok (.dup, 1) := by decide +kernel
theorem dX9_take_14 : decode cX9_take 14 = .ok (.getfield 72, 3) := by decide +kernel
theorem dX9_take_17 : decode cX9_take 17 = .ok (.iconst 1, 1) := by decide +kernel
theorem dX9_take_18 : decode cX9_take 18 = .ok (.iadd, 1) := by decide +kernel
theorem dX9_take_19 : decode cX9_take 19 = .ok (.putfield 72, 3) := by decide +kernel
theorem dX9_take_22 : decode cX9_take 22 = .ok (.aload_n 0, 1) := by decide +kernel
theorem dX9_take_23 : decode cX9_take 23 = .ok (.invokevirtual 93, 3) := by decide +kernel
theorem dX9_take_26 : decode cX9_take 26 = .ok (.aload_n 0, 1) := by decide +kernel
theorem dX9_take_27 : decode cX9_take 27 = .ok (.getfield 23, 3) := by decide +kernel
theorem dX9_take_30 : decode cX9_take 30 = .ok (.iload_n 1, 1) := by decide +kernel
theorem dX9_take_31 : decode cX9_take 31 = .ok (.iload_n 2, 1) := by decide +kernel
theorem dX9_take_32 : decode cX9_take 32 = .ok (.aload_n 0, 1) := by decide +kernel
theorem dX9_take_33 : decode cX9_take 33 = .ok (.getfield 16, 3) := by decide +kernel
theorem dX9_take_36 : decode cX9_take 36 = .ok (.invokevirtual 209, 3) := by decide +kernel
theorem dX9_take_39 : decode cX9_take 39 = .ok (.istore_n 3, 1) := by decide +kernel
theorem dX9_take_40 : decode cX9_take 40 = .ok (.aload_n 0, 1) := by decide +kernel
theorem dX9_take_41 : decode cX9_take 41 = .ok (.getfield 30, 3) := by decide +kernel
theorem dX9_take_44 : decode cX9_take 44 = .ok (.iload_n 1, 1) := by decide +kernel
theorem dX9_take_45 : decode cX9_take 45 = .ok (.iload_n 2, 1) := by decide +kernel
theorem dX9_take_46 : decode cX9_take 46 = .ok (.aload_n 0, 1) := by decide +kernel
theorem dX9_take_47 : decode cX9_take 47 = .ok (.getfield 16, 3) := by decide +kernel
theorem dX9_take_50 : decode cX9_take 50 = .ok (.invokevirtual 213, 3) := by decide +kernel
theorem dX9_take_53 : decode cX9_take 53 = .ok (.istore 4, 2) := by decide +kernel
theorem dX9_take_55 : decode cX9_take 55 = .ok (.iload_n 3, 1) := by decide +kernel
theorem dX9_take_56 : decode cX9_take 56 = .ok (.iload 4, 2) := by decide +kernel
theorem dX9_take_58 : decode cX9_take 58 = .ok (.ior, 1) := by decide +kernel
theorem dX9_take_59 : decode cX9_take 59 = .ok (.ireturn, 1) := by decide +kernel
theorem dX9_forgetCuttings_0 : decode cX9_forgetCuttings 0 = .ok (.aload_n 0, 1) := by decide +kernel
theorem dX9_forgetCuttings_1 : decode cX9_forgetCuttings 1 = .ok (.getfield 58, 3) := by decide +kernel
theorem dX9_forgetCuttings_4 : decode cX9_forgetCuttings 4 = .ok (.iconst 0, 1) := by decide +kernel
theorem dX9_forgetCuttings_5 : decode cX9_forgetCuttings 5 = .ok (.putfield 214, 3) := by decide +kernel
theorem dX9_forgetCuttings_8 : decode cX9_forgetCuttings 8 = .ok (.aload_n 0, 1) := by decide +kernel
theorem dX9_forgetCuttings_9 : decode cX9_forgetCuttings 9 = .ok (.getfield 62, 3) := by decide +kernel
theorem dX9_forgetCuttings_12 : decode cX9_forgetCuttings 12 = .ok (.iconst 0, 1) := by decide +kernel
theorem dX9_forgetCuttings_13 : decode cX9_forgetCuttings 13 = .ok (.putfield 214, 3) := by decide +kernel
theorem dX9_forgetCuttings_16 : decode cX9_forgetCuttings 16 = .ok (.return_, 1) := by decide +kernel
theorem dX9_learntCosts_0 : decode cX9_learntCosts 0 = .ok (.aload_n 0, 1) := by decide +kernel
theorem dX9_learntCosts_1 : decode cX9_learntCosts 1 = .ok (.getfield 37, 3) := by decide +kernel
theorem dX9_learntCosts_4 : decode cX9_learntCosts 4 = .ok (.aload_n 0, 1) := by decide +kernel
theorem dX9_learntCosts_5 : decode cX9_learntCosts 5 = .ok (.getfield 9, 3) := by decide +kernel
theorem dX9_learntCosts_8 : decode cX9_learntCosts 8 = .ok (.aload_n 0, 1) := by decide +kernel
theorem dX9_learntCosts_9 : decode cX9_learntCosts 9 = .ok (.getfield 72, 3) := by decide +kernel
theorem dX9_learntCosts_12 : decode cX9_learntCosts 12 = .ok (.invokevirtual 218, 3) := by decide +kernel
theorem dX9_learntCosts_15 : decode cX9_learntCosts 15 = .ok (.aload_n 0, 1) := by decide +kernel
theorem dX9_learntCosts_16 : decode cX9_learntCosts 16 = .ok (.getfield 37, 3) := by decide +kernel
theorem dX9_learntCosts_19 : decode cX9_learntCosts 19 = .ok (.areturn, 1) := by decide +kernel
theorem dX9_bestCutting_0 : decode cX9_bestCutting 0 = .ok (.aload_n 0, 1) := by decide +kernel
theorem dX9_bestCutting_1 : decode cX9_bestCutting 1 = .ok (.getfield 58, 3) := by decide +kernel
theorem dX9_bestCutting_4 : decode cX9_bestCutting 4 = .ok (.getfield 214, 3) := by decide +kernel
theorem dX9_bestCutting_7 : decode cX9_bestCutting 7 = .ok (.ifCond .ne 44, 3) := by decide +kernel
theorem dX9_bestCutting_10 : decode cX9_bestCutting 10 = .ok (.aload_n 0, 1) := by decide +kernel
theorem dX9_bestCutting_11 : decode cX9_bestCutting 11 = .ok (.invokevirtual 158, 3) := by decide +kernel
theorem dX9_bestCutting_14 : decode cX9_bestCutting 14 = .ok (.astore_n 1, 1) := by decide +kernel
theorem dX9_bestCutting_15 : decode cX9_bestCutting 15 = .ok (.aload_n 0, 1) := by decide +kernel
theorem dX9_bestCutting_16 : decode cX9_bestCutting 16 = .ok (.getfield 51, 3) := by decide +kernel
theorem dX9_bestCutting_19 : decode cX9_bestCutting 19 = .ok (.aload_n 1, 1) := by decide +kernel
theorem dX9_bestCutting_20 : decode cX9_bestCutting 20 = .ok (.aload_n 0, 1) := by decide +kernel
theorem dX9_bestCutting_21 : decode cX9_bestCutting 21 = .ok (.getfield 72, 3) := by decide +kernel
theorem dX9_bestCutting_24 : decode cX9_bestCutting 24 = .ok (.aload_n 0, 1) := by decide +kernel
theorem dX9_bestCutting_25 : decode cX9_bestCutting 25 = .ok (.getfield 76, 3) := by decide +kernel
theorem dX9_bestCutting_28 : decode cX9_bestCutting 28 = .ok (.aload_n 0, 1) := by decide +kernel
theorem dX9_bestCutting_29 : decode cX9_bestCutting 29 = .ok (.getfield 58, 3) := by decide +kernel
theorem dX9_bestCutting_32 : decode cX9_bestCutting 32 = .ok (.invokevirtual 221, 3) := by decide +kernel
theorem dX9_bestCutting_35 : decode cX9_bestCutting 35 = .ok (.aload_n 0, 1) := by decide +kernel
theorem dX9_bestCutting_36 : decode cX9_bestCutting 36 = .ok (.getfield 58, 3) := by decide +kernel
theorem dX9_bestCutting_39 : decode cX9_bestCutting 39 = .ok (.aload_n 1, 1) := by decide +kernel
theorem dX9_bestCutting_40 : decode cX9_bestCutting 40 = .ok (.aload_n 0, 1) := by decide +kernel
theorem dX9_bestCutting_41 : decode cX9_bestCutting 41 = .ok (.getfield 72, 3) := by decide +kernel
theorem dX9_bestCutting_44 : decode cX9_bestCutting 44 = .ok (.aload_n 0, 1) := by decide +kernel
theorem dX9_bestCutting_45 : decode cX9_bestCutting 45 = .ok (.getfield 76, 3) := by decide +kernel
theorem dX9_bestCutting_48 : decode cX9_bestCutting 48 = .ok (.invokevirtual 225, 3) := by decide +kernel
theorem dX9_bestCutting_51 : decode cX9_bestCutting 51 = .ok (.aload_n 0, 1) := by decide +kernel
theorem dX9_bestCutting_52 : decode cX9_bestCutting 52 = .ok (.getfield 58, 3) := by decide +kernel
theorem dX9_bestCutting_55 : decode cX9_bestCutting 55 = .ok (.areturn, 1) := by decide +kernel
theorem dX9_greedyCutting_0 : decode cX9_greedyCutting 0 = .ok (.aload_n 0, 1) := by decide +kernel
theorem dX9_greedyCutting_1 : decode cX9_greedyCutting 1 = .ok (.getfield 62, 3) := by decide +kernel
theorem dX9_greedyCutting_4 : decode cX9_greedyCutting 4 = .ok (.getfield 214, 3) := by decide +kernel
theorem dX9_greedyCutting_7 : decode cX9_greedyCutting 7 = .ok (.ifCond .ne 40, 3) := by decide +kernel
theorem dX9_greedyCutting_10 : decode cX9_greedyCutting 10 = .ok (.aload_n 0, 1) := by decide +kernel
theorem dX9_greedyCutting_11 : decode cX9_greedyCutting 11 = .ok (.invokevirtual 158, 3) := by decide +kernel
theorem dX9_greedyCutting_14 : decode cX9_greedyCutting 14 = .ok (.astore_n 1, 1) := by decide +kernel
theorem dX9_greedyCutting_15 : decode cX9_greedyCutting 15 = .ok (.aload_n 1, 1) := by decide +kernel
theorem dX9_greedyCutting_16 : decode cX9_greedyCutting 16 = .ok (.aload_n 0, 1) := by decide +kernel
theorem dX9_greedyCutting_17 : decode cX9_greedyCutting 17 = .ok (.getfield 72, 3) := by decide +kernel
theorem dX9_greedyCutting_20 : decode cX9_greedyCutting 20 = .ok (.aload_n 0, 1) := by decide +kernel
theorem dX9_greedyCutting_21 : decode cX9_greedyCutting 21 = .ok (.getfield 76, 3) := by decide +kernel
theorem dX9_greedyCutting_24 : decode cX9_greedyCutting 24 = .ok (.aload_n 0, 1) := by decide +kernel
theorem dX9_greedyCutting_25 : decode cX9_greedyCutting 25 = .ok (.getfield 62, 3) := by decide +kernel
theorem dX9_greedyCutting_28 : decode cX9_greedyCutting 28 = .ok (.invokestatic 229, 3) := by decide +kernel
theorem dX9_greedyCutting_31 : decode cX9_greedyCutting 31 = .ok (.aload_n 0, 1) := by decide +kernel
theorem dX9_greedyCutting_32 : decode cX9_greedyCutting 32 = .ok (.getfield 62, 3) := by decide +kernel
theorem dX9_greedyCutting_35 : decode cX9_greedyCutting 35 = .ok (.aload_n 1, 1) := by decide +kernel
theorem dX9_greedyCutting_36 : decode cX9_greedyCutting 36 = .ok (.aload_n 0, 1) := by decide +kernel
theorem dX9_greedyCutting_37 : decode cX9_greedyCutting 37 = .ok (.getfield 72, 3) := by decide +kernel
theorem dX9_greedyCutting_40 : decode cX9_greedyCutting 40 = .ok (.aload_n 0, 1) := by decide +kernel
theorem dX9_greedyCutting_41 : decode cX9_greedyCutting 41 = .ok (.getfield 76, 3) := by decide +kernel
theorem dX9_greedyCutting_44 : decode cX9_greedyCutting 44 = .ok (.invokevirtual 225, 3) := by decide +kernel
theorem dX9_greedyCutting_47 : decode cX9_greedyCutting 47 = .ok (.aload_n 0, 1) := by decide +kernel
theorem dX9_greedyCutting_48 : decode cX9_greedyCutting 48 = .ok (.getfield 62, 3) := by decide +kernel
theorem dX9_greedyCutting_51 : decode cX9_greedyCutting 51 = .ok (.areturn, 1) := by decide +kernel
theorem dX9_matchAlarms_0 : decode cX9_matchAlarms 0 = .ok (.iload_n 1, 1) := by decide +kernel
theorem dX9_matchAlarms_1 : decode cX9_matchAlarms 1 = .ok (.iconst 0, 1) := by decide +kernel
theorem dX9_matchAlarms_2 : decode cX9_matchAlarms 2 = .ok (.iconst 2, 1) := by decide +kernel
theorem dX9_matchAlarms_3 : decode cX9_matchAlarms 3 = .ok (.invokestatic 104, 3) := by decide +kernel
theorem dX9_matchAlarms_6 : decode cX9_matchAlarms 6 = .ok (.invokestatic 100, 3) := by decide +kernel
theorem dX9_matchAlarms_9 : decode cX9_matchAlarms 9 = .ok (.iload_n 2, 1) := by decide +kernel
theorem dX9_matchAlarms_10 : decode cX9_matchAlarms 10 = .ok (.iconst 0, 1) := by decide +kernel
theorem dX9_matchAlarms_11 : decode cX9_matchAlarms 11 = .ok (.bipush 120, 2) := by decide +kernel
theorem dX9_matchAlarms_13 : decode cX9_matchAlarms 13 = .ok (.invokestatic 104, 3) := by decide +kernel
theorem dX9_matchAlarms_16 : decode cX9_matchAlarms 16 = .ok (.invokestatic 100, 3) := by decide +kernel
