theorem dX9_clear_6 : decode cX9_clear 6 = .ok (.iconst 0, 1) := by decide +kernel
theorem dX9_clear_7 : decode cX9_clear 7 = .ok (.putfield 72, 3) := by decide +kernel
theorem dX9_clear_10 : decode cX9_clear 10 = .ok (.aload_n 0, 1) := by decide +kernel
theorem dX9_clear_11 : decode cX9_clear 11 = .ok (.getfield 16, 3) := by decide +kernel
theorem dX9_clear_14 : decode cX9_clear 14 = .ok (.invokevirtual 79, 3) := by decide +kernel
theorem dX9_clear_17 : decode cX9_clear 17 = .ok (.aload_n 0, 1) := by decide +kernel
theorem dX9_clear_18 : decode cX9_clear 18 = .ok (.getfield 68, 3) := by decide +kernel
theorem dX9_clear_21 : decode cX9_clear 21 = .ok (.invokevirtual 82, 3) := by decide +kernel
theorem dX9_clear_24 : decode cX9_clear 24 = .ok (.aload_n 0, 1) := by decide +kernel
theorem dX9_clear_25 : decode cX9_clear 25 = .ok (.getfield 23, 3) := by decide +kernel
theorem dX9_clear_28 : decode cX9_clear 28 = .ok (.invokevirtual 85, 3) := by decide +kernel
theorem dX9_clear_31 : decode cX9_clear 31 = .ok (.aload_n 0, 1) := by decide +kernel
theorem dX9_clear_32 : decode cX9_clear 32 = .ok (.getfield 30, 3) := by decide +kernel
theorem dX9_clear_35 : decode cX9_clear 35 = .ok (.invokevirtual 88, 3) := by decide +kernel
theorem dX9_clear_38 : decode cX9_clear 38 = .ok (.aload_n 0, 1) := by decide +kernel
theorem dX9_clear_39 : decode cX9_clear 39 = .ok (.getfield 37, 3) := by decide +kernel
theorem dX9_clear_42 : decode cX9_clear 42 = .ok (.invokevirtual 89, 3) := by decide +kernel
theorem dX9_clear_45 : decode cX9_clear 45 = .ok (.aload_n 0, 1) := by decide +kernel
theorem dX9_clear_46 : decode cX9_clear 46 = .ok (.getfield 44, 3) := by decide +kernel
theorem dX9_clear_49 : decode cX9_clear 49 = .ok (.invokevirtual 92, 3) := by decide +kernel
theorem dX9_clear_52 : decode cX9_clear 52 = .ok (.aload_n 0, 1) := by decide +kernel
theorem dX9_clear_53 : decode cX9_clear 53 = .ok (.invokevirtual 93, 3) := by decide +kernel
theorem dX9_clear_56 : decode cX9_clear 56 = .ok (.iload_n 1, 1) := by decide +kernel
theorem dX9_clear_57 : decode cX9_clear 57 = .ok (.ireturn, 1) := by decide +kernel
theorem dX9_setSums_0 : decode cX9_setSums 0 = .ok (.iload_n 1, 1) := by decide +kernel
theorem dX9_setSums_1 : decode cX9_setSums 1 = .ok (.invokestatic 96, 3) := by decide +kernel
theorem dX9_setSums_4 : decode cX9_setSums 4 = .ok (.invokestatic 100, 3) := by decide +kernel
theorem dX9_setSums_7 : decode cX9_setSums 7 = .ok (.iload_n 2, 1) := by decide +kernel
theorem dX9_setSums_8 : decode cX9_setSums 8 = .ok (.iconst 0, 1) := by decide +kernel
theorem dX9_setSums_9 : decode cX9_setSums 9 = .ok (.sipush 1000, 3) := by decide +kernel
theorem dX9_setSums_12 : decode cX9_setSums 12 = .ok (.invokestatic 104, 3) := by decide +kernel
theorem dX9_setSums_15 : decode cX9_setSums 15 = .ok (.invokestatic 100, 3) := by decide +kernel
theorem dX9_setSums_18 : decode cX9_setSums 18 = .ok (.iload_n 3, 1) := by decide +kernel
theorem dX9_setSums_19 : decode cX9_setSums 19 = .ok (.iconst 0, 1) := by decide +kernel
theorem dX9_setSums_20 : decode cX9_setSums 20 = .ok (.ldc 108, 2) := by decide +kernel
theorem dX9_setSums_22 : decode cX9_setSums 22 = .ok (.invokestatic 104, 3) := by decide +kernel
theorem dX9_setSums_25 : decode cX9_setSums 25 = .ok (.invokestatic 100, 3) := by decide +kernel
theorem dX9_setSums_28 : decode cX9_setSums 28 = .ok (.aload_n 0, 1) := by decide +kernel
theorem dX9_setSums_29 : decode cX9_setSums 29 = .ok (.getfield 23, 3) := by decide +kernel
theorem dX9_setSums_32 : decode cX9_setSums 32 = .ok (.iload_n 1, 1) := by decide +kernel
theorem dX9_setSums_33 : decode cX9_setSums 33 = .ok (.iload_n 2, 1) := by decide +kernel
theorem dX9_setSums_34 : decode cX9_setSums 34 = .ok (.iload_n 3, 1) := by decide +kernel
theorem dX9_setSums_35 : decode cX9_setSums 35 = .ok (.invokevirtual 109, 3) := by decide +kernel
theorem dX9_setSums_38 : decode cX9_setSums 38 = .ok (.return_, 1) := by decide +kernel
theorem dX9_setTest_0 : decode cX9_setTest 0 = .ok (.iload_n 1, 1) := by decide +kernel
theorem dX9_setTest_1 : decode cX9_setTest 1 = .ok (.iconst 0, 1) := by decide +kernel
theorem dX9_setTest_2 : decode cX9_setTest 2 = .ok (.sipush 1000, 3) := by decide +kernel
theorem dX9_setTest_5 : decode cX9_setTest 5 = .ok (.invokestatic 104, 3) := by decide +kernel
theorem dX9_setTest_8 : decode cX9_setTest 8 = .ok (.invokestatic 100, 3) := by decide +kernel
theorem dX9_setTest_11 : decode cX9_setTest 11 = .ok (.iload_n 2, 1) := by decide +kernel
theorem dX9_setTest_12 : decode cX9_setTest 12 = .ok (.iconst 0, 1) := by decide +kernel
theorem dX9_setTest_13 : decode cX9_setTest 13 = .ok (.sipush 1000, 3) := by decide +kernel
theorem dX9_setTest_16 : decode cX9_setTest 16 = .ok (.invokestatic 104, 3) := by decide +kernel
theorem dX9_setTest_19 : decode cX9_setTest 19 = .ok (.invokestatic 100, 3) := by decide +kernel
theorem dX9_setTest_22 : decode cX9_setTest 22 = .ok (.iload_n 3, 1) := by decide +kernel
theorem dX9_setTest_23 : decode cX9_setTest 23 = .ok (.iconst 0, 1) := by decide +kernel
theorem dX9_setTest_24 : decode cX9_setTest 24 = .ok (.ldc 108, 2) := by decide +kernel
theorem dX9_setTest_26 : decode cX9_setTest 26 = .ok (.invokestatic 104, 3) := by decide +kernel
theorem dX9_setTest_29 : decode cX9_setTest 29 = .ok (.invokestatic 100, 3) := by decide +kernel
theorem dX9_setTest_32 : decode cX9_setTest 32 = .ok (.aload_n 0, 1) := by decide +kernel
theorem dX9_setTest_33 : decode cX9_setTest 33 = .ok (.getfield 30, 3) := by decide +kernel
theorem dX9_setTest_36 : decode cX9_setTest 36 = .ok (.iload_n 1, 1) := by decide +kernel
theorem dX9_setTest_37 : decode cX9_setTest 37 = .ok (.iload_n 2, 1) := by decide +kernel
theorem dX9_setTest_38 : decode cX9_setTest 38 = .ok (.iload_n 3, 1) := by decide +kernel
theorem dX9_setTest_39 : decode cX9_setTest 39 = .ok (.invokevirtual 113, 3) := by decide +kernel
theorem dX9_setTest_42 : decode cX9_setTest 42 = .ok (.return_, 1) := by decide +kernel
theorem dX9_setPenalty_0 : decode cX9_setPenalty 0 = .ok (.iload_n 1, 1) := by decide +kernel
theorem dX9_setPenalty_1 : decode cX9_setPenalty 1 = .ok (.iconst 0, 1) := by decide +kernel
theorem dX9_setPenalty_2 : decode cX9_setPenalty 2 = .ok (.ldc 108, 2) := by decide +kernel
theorem dX9_setPenalty_4 : decode cX9_setPenalty 4 = .ok (.invokestatic 104, 3) := by decide +kernel
theorem dX9_setPenalty_7 : decode cX9_setPenalty 7 = .ok (.invokestatic 100, 3) := by decide +kernel
theorem dX9_setPenalty_10 : decode cX9_setPenalty 10 = .ok (.aload_n 0, 1) := by decide +kernel
theorem dX9_setPenalty_11 : decode cX9_setPenalty 11 = .ok (.getfield 76, 3) := by decide +kernel
theorem dX9_setPenalty_14 : decode cX9_setPenalty 14 = .ok (.istore_n 2, 1) := by decide +kernel
theorem dX9_setPenalty_15 : decode cX9_setPenalty 15 = .ok (.aload_n 0, 1) := by decide +kernel
theorem dX9_setPenalty_16 : decode cX9_setPenalty 16 = .ok (.iload_n 1, 1) := by decide +kernel
theorem dX9_setPenalty_17 : decode cX9_setPenalty 17 = .ok (.putfield 76, 3) := by decide +kernel
theorem dX9_setPenalty_20 : decode cX9_setPenalty 20 = .ok (.aload_n 0, 1) := by decide +kernel
theorem dX9_setPenalty_21 : decode cX9_setPenalty 21 = .ok (.invokevirtual 93, 3) := by decide +kernel
theorem dX9_setPenalty_24 : decode cX9_setPenalty 24 = .ok (.iload_n 2, 1) := by decide +kernel
theorem dX9_setPenalty_25 : decode cX9_setPenalty 25 = .ok (.ireturn, 1) := by decide +kernel
theorem dX9_add_0 : decode cX9_add 0 = .ok (.iload_n 1, 1) := by decide +kernel
theorem dX9_add_1 : decode cX9_add 1 = .ok (.invokestatic 96, 3) := by decide +kernel
theorem dX9_add_4 : decode cX9_add 4 = .ok (.invokestatic 100, 3) := by decide +kernel
theorem dX9_add_7 : decode cX9_add 7 = .ok (.aload_n 0, 1) := by decide +kernel
theorem dX9_add_8 : decode cX9_add 8 = .ok (.getfield 72, 3) := by decide +kernel
theorem dX9_add_11 : decode cX9_add 11 = .ok (.bipush 120, 2) := by decide +kernel
theorem dX9_add_13 : decode cX9_add 13 = .ok (.if_icmp .ge 7, 3) := by decide +kernel
theorem dX9_add_16 : decode cX9_add 16 = .ok (.iconst 1, 1) := by decide +kernel
theorem dX9_add_17 : decode cX9_add 17 = .ok (.goto 4, 3) := by decide +kernel
theorem dX9_add_20 : decode cX9_add 20 = .ok (.iconst 0, 1) := by decide +kernel
theorem dX9_add_21 : decode cX9_add 21 = .ok (.invokestatic 114, 3) := by decide +kernel
theorem dX9_add_24 : decode cX9_add 24 = .ok (.aload_n 0, 1) := by decide +kernel
theorem dX9_add_25 : decode cX9_add 25 = .ok (.iload_n 1, 1) := by decide +kernel
theorem dX9_add_26 : decode cX9_add 26 = .ok (.invokevirtual 117, 3) := by decide +kernel
theorem dX9_add_29 : decode cX9_add 29 = .ok (.ireturn, 1) := by decide +kernel
theorem dX9_addRun_0 : decode cX9_addRun 0 = .ok (.iload_n 1, 1) := by decide +kernel
theorem dX9_addRun_1 : decode cX9_addRun 1 = .ok (.invokestatic 96, 3) := by decide +kernel
theorem dX9_addRun_4 : decode cX9_addRun 4 = .ok (.invokestatic 100, 3) := by decide +kernel
theorem dX9_addRun_7 : decode cX9_addRun 7 = .ok (.iload_n 2, 1) := by decide +kernel
theorem dX9_addRun_8 : decode cX9_addRun 8 = .ok (.invokestatic 96, 3) := by decide +kernel
theorem dX9_addRun_11 : decode cX9_addRun 11 = .ok (.invokestatic 100, 3) := by decide +kernel
theorem dX9_addRun_14 : decode cX9_addRun 14 = .ok (.iload_n 3, 1) := by decide +kernel
theorem dX9_addRun_15 : decode cX9_addRun 15 = .ok (.iconst 1, 1) := by decide +kernel
theorem dX9_addRun_16 : decode cX9_addRun 16 = .ok (.bipush 40, 2) := by decide +kernel
theorem dX9_addRun_18 : decode cX9_addRun 18 = .ok (.invokestatic 104, 3) := by decide +kernel
theorem dX9_addRun_21 : decode cX9_addRun 21 = .ok (.invokestatic 100, 3) := by decide +kernel
theorem dX9_addRun_24 : decode cX9_addRun 24 = .ok (.iload_n 1, 1) := by decide +kernel
theorem dX9_addRun_25 : decode cX9_addRun 25 = .ok (.iload_n 2, 1) := by decide +kernel
theorem dX9_addRun_26 : decode cX9_addRun 26 = .ok (.iload_n 3, 1) := by decide +kernel
theorem dX9_addRun_27 : decode cX9_addRun 27 = .ok (.iconst 1, 1) := by decide +kernel
theorem dX9_addRun_28 : decode cX9_addRun 28 = .ok (.isub, 1) := by decide +kernel
theorem dX9_addRun_29 : decode cX9_addRun 29 = .ok (.imul, 1) := by decide +kernel
theorem dX9_addRun_30 : decode cX9_addRun 30 = .ok (.iadd, 1) := by decide +kernel
theorem dX9_addRun_31 : decode cX9_addRun 31 = .ok (.invokestatic 96, 3) := by decide +kernel
theorem dX9_addRun_34 : decode cX9_addRun 34 = .ok (.invokestatic 100, 3) := by decide +kernel
theorem dX9_addRun_37 : decode cX9_addRun 37 = .ok (.aload_n 0, 1) := by decide +kernel
theorem dX9_addRun_38 : decode cX9_addRun 38 = .ok (.getfield 72, 3) := by decide +kernel
theorem dX9_addRun_41 : decode cX9_addRun 41 = .ok (.iload_n 3, 1) := by decide +kernel
theorem dX9_addRun_42 : decode cX9_addRun 42 = .ok (.iadd, 1) := by decide +kernel
theorem dX9_addRun_43 : decode cX9_addRun 43 = .ok (.bipush 120, 2) := by decide +kernel
theorem dX9_addRun_45 : decode cX9_addRun 45 = .ok (.if_icmp .gt 7, 3) := by decide +kernel
theorem dX9_addRun_48 : decode cX9_addRun 48 = .ok (.iconst 1, 1) := by decide +kernel
theorem dX9_addRun_49 : decode cX9_addRun 49 = .ok (.goto 4, 3) := by decide +kernel
theorem dX9_addRun_52 : decode cX9_addRun 52 = .ok (.iconst 0, 1) := by decide +kernel
theorem dX9_addRun_53 : decode cX9_addRun 53 = .ok (.invokestatic 114, 3) := by decide +kernel
theorem dX9_addRun_56 : decode cX9_addRun 56 = .ok (.aload_n 0, 1) := by decide +kernel
theorem dX9_addRun_57 : decode cX9_addRun 57 = .ok (.getfield 16, 3) := by decide +kernel
theorem dX9_addRun_60 : decode cX9_addRun 60 = .ok (.getfield 121, 3) := by decide +kernel
theorem dX9_addRun_63 : decode cX9_addRun 63 = .ok (.istore 4, 2) := by decide +kernel
theorem dX9_addRun_65 : decode cX9_addRun 65 = .ok (.iconst 0, 1) := by decide +kernel
theorem dX9_addRun_66 : decode cX9_addRun 66 = .ok (.istore 5, 2) := by decide +kernel
theorem dX9_addRun_68 : decode cX9_addRun 68 = .ok (.iload 5, 2) := by decide +kernel
theorem dX9_addRun_70 : decode cX9_addRun 70 = .ok (.iload_n 3, 1) := by decide +kernel
theorem dX9_addRun_71 : decode cX9_addRun 71 = .ok (.if_icmp .ge 20, 3) := by decide +kernel
theorem dX9_addRun_74 : decode cX9_addRun 74 = .ok (.aload_n 0, 1) := by decide +kernel
theorem dX9_addRun_75 : decode cX9_addRun 75 = .ok (.iload_n 1, 1) := by decide +kernel
theorem dX9_addRun_76 : decode cX9_addRun 76 = .ok (.iload_n 2, 1) := by decide +kernel
theorem dX9_addRun_77 : decode cX9_addRun 77 = .ok (.iload 5, 2) := by decide +kernel
theorem dX9_addRun_79 : decode cX9_addRun 79 = .ok (.imul, 1) := by decide +kernel
theorem dX9_addRun_80 : decode cX9_addRun 80 = .ok (.iadd, 1) := by decide +kernel
theorem dX9_addRun_81 : decode cX9_addRun 81 = .ok (.invokevirtual 117, 3) := by decide +kernel
theorem dX9_addRun_84 : decode cX9_addRun 84 = .ok (.pop, 1) := by decide +kernel
theorem dX9_addRun_85 : decode cX9_addRun 85 = .ok (.iinc 5 1, 3) := by decide +kernel
theorem dX9_addRun_88 : decode cX9_addRun 88 = .ok (.goto (-20), 3) := by decide +kernel
theorem dX9_addRun_91 : decode cX9_addRun 91 = .ok (.aload_n 0, 1) := by decide +kernel
theorem dX9_addRun_92 : decode cX9_addRun 92 = .ok (.getfield 16, 3) := by decide +kernel
theorem dX9_addRun_95 : decode cX9_addRun 95 = .ok (.getfield 121, 3) := by decide +kernel
theorem dX9_addRun_98 : decode cX9_addRun 98 = .ok (.iload 4, 2) := by decide +kernel
theorem dX9_addRun_100 : decode cX9_addRun 100 = .ok (.isub, 1) := by decide +kernel
theorem dX9_addRun_101 : decode cX9_addRun 101 = .ok (.ireturn, 1) := by decide +kernel
theorem dX9_size_0 : decode cX9_size 0 = .ok (.aload_n 0, 1) := by decide +kernel
theorem dX9_size_1 : decode cX9_size 1 = .ok (.getfield 72, 3) := by decide +kernel
theorem dX9_size_4 : decode cX9_size 4 = .ok (.ireturn, 1) := by decide +kernel
theorem dX9_value_0 : decode cX9_value 0 = .ok (.aload_n 0, 1) := by decide +kernel
theorem dX9_value_1 : decode cX9_value 1 = .ok (.iload_n 1, 1) := by decide +kernel
theorem dX9_value_2 : decode cX9_value 2 = .ok (.invokevirtual 124, 3) := by decide +kernel
theorem dX9_value_5 : decode cX9_value 5 = .ok (.invokestatic 127, 3) := by decide +kernel
theorem dX9_value_8 : decode cX9_value 8 = .ok (.aload_n 0, 1) := by decide +kernel
theorem dX9_value_9 : decode cX9_value 9 = .ok (.getfield 9, 3) := by decide +kernel
theorem dX9_value_12 : decode cX9_value 12 = .ok (.iload_n 1, 1) := by decide +kernel
theorem dX9_value_13 : decode cX9_value 13 = .ok (.iaload, 1) := by decide +kernel
theorem dX9_value_14 : decode cX9_value 14 = .ok (.ireturn, 1) := by decide +kernel
theorem dX9_highSum_0 : decode cX9_highSum 0 = .ok (.aload_n 0, 1) := by decide +kernel
theorem dX9_highSum_1 : decode cX9_highSum 1 = .ok (.getfield 23, 3) := by decide +kernel
theorem dX9_highSum_4 : decode cX9_highSum 4 = .ok (.getfield 130, 3) := by decide +kernel
theorem dX9_highSum_7 : decode cX9_highSum 7 = .ok (.ireturn, 1) := by decide +kernel
theorem dX9_lowSum_0 : decode cX9_lowSum 0 = .ok (.aload_n 0, 1) := by decide +kernel
theorem dX9_lowSum_1 : decode cX9_lowSum 1 = .ok (.getfield 23, 3) := by decide +kernel
theorem dX9_lowSum_4 : decode cX9_lowSum 4 = .ok (.getfield 133, 3) := by decide +kernel
theorem dX9_lowSum_7 : decode cX9_lowSum 7 = .ok (.ireturn, 1) := by decide +kernel
theorem dX9_testSum_0 : decode cX9_testSum 0 = .ok (.aload_n 0, 1) := by decide +kernel
theorem dX9_testSum_1 : decode cX9_testSum 1 = .ok (.getfield 30, 3) := by decide +kernel
theorem dX9_testSum_4 : decode cX9_testSum 4 = .ok (.getfield 136, 3) := by decide +kernel
theorem dX9_testSum_7 : decode cX9_testSum 7 = .ok (.aload_n 0, 1) := by decide +kernel
theorem dX9_testSum_8 : decode cX9_testSum 8 = .ok (.getfield 30, 3) := by decide +kernel
theorem dX9_testSum_11 : decode cX9_testSum 11 = .ok (.getfield 139, 3) := by decide +kernel
theorem dX9_testSum_14 : decode cX9_testSum 14 = .ok (.isub, 1) := by decide +kernel
theorem dX9_testSum_15 : decode cX9_testSum 15 = .ok (.ireturn, 1) := by decide +kernel
theorem dX9_alarms_0 : decode cX9_alarms 0 = .ok (.aload_n 0, 1) := by decide +kernel
theorem dX9_alarms_1 : decode cX9_alarms 1 = .ok (.getfield 16, 3) := by decide +kernel
theorem dX9_alarms_4 : decode cX9_alarms 4 = .ok (.getfield 121, 3) := by decide +kernel
theorem dX9_alarms_7 : decode cX9_alarms 7 = .ok (.ireturn, 1) := by decide +kernel
theorem dX9_alarmKind_0 : decode cX9_alarmKind 0 = .ok (.aload_n 0, 1) := by decide +kernel
theorem dX9_alarmKind_1 : decode cX9_alarmKind 1 = .ok (.getfield 16, 3) := by decide +kernel
theorem dX9_alarmKind_4 : decode cX9_alarmKind 4 = .ok (.iload_n 1, 1) := by decide +kernel
theorem dX9_alarmKind_5 : decode cX9_alarmKind 5 = .ok (.invokevirtual 142, 3) := by decide +kernel
theorem dX9_alarmKind_8 : decode cX9_alarmKind 8 = .ok (.invokestatic 127, 3) := by decide +kernel
theorem dX9_alarmKind_11 : decode cX9_alarmKind 11 = .ok (.aload_n 0, 1) := by decide +kernel
theorem dX9_alarmKind_12 : decode cX9_alarmKind 12 = .ok (.getfield 16, 3) := by decide +kernel
theorem dX9_alarmKind_15 : decode cX9_alarmKind 15 = .ok (.getfield 145, 3) := by decide +kernel
theorem dX9_alarmKind_18 : decode cX9_alarmKind 18 = .ok (.iload_n 1, 1) := by decide +kernel
theorem dX9_alarmKind_19 : decode cX9_alarmKind 19 = .ok (.iaload, 1) := by decide +kernel
theorem dX9_alarmKind_20 : decode cX9_alarmKind 20 = .ok (.ireturn, 1) := by decide +kernel
theorem dX9_alarmNumber_0 : decode cX9_alarmNumber 0 = .ok (.aload_n 0, 1) := by decide +kernel
theorem dX9_alarmNumber_1 : decode cX9_alarmNumber 1 = .ok (.getfield 16, 3) := by decide +kernel
theorem dX9_alarmNumber_4 : decode cX9_alarmNumber 4 = .ok (.iload_n 1, 1) := by decide +kernel
theorem dX9_alarmNumber_5 : decode cX9_alarmNumber 5 = .ok (.invokevirtual 142, 3) := by decide +kernel
theorem dX9_alarmNumber_8 : decode cX9_alarmNumber 8 = .ok (.invokestatic 127, 3) := by decide +kernel
theorem dX9_alarmNumber_11 : decode cX9_alarmNumber 11 = .ok (.aload_n 0, 1) := by decide +kernel
theorem dX9_alarmNumber_12 : decode cX9_alarmNumber 12 = .ok (.getfield 16, 3) := by decide +kernel
theorem dX9_alarmNumber_15 : decode cX9_alarmNumber 15 = .ok (.getfield 148, 3) := by decide +kernel
theorem dX9_alarmNumber_18 : decode cX9_alarmNumber 18 = .ok (.iload_n 1, 1) := by decide +kernel
theorem dX9_alarmNumber_19 : decode cX9_alarmNumber 19 = .ok (.iaload, 1) := by decide +kernel
theorem dX9_alarmNumber_20 : decode cX9_alarmNumber 20 = .ok (.ireturn, 1) := by decide +kernel
theorem dX9_alarmStart_0 : decode cX9_alarmStart 0 = .ok (.aload_n 0, 1) := by decide +kernel
theorem dX9_alarmStart_1 : decode cX9_alarmStart 1 = .ok (.getfield 16, 3) := by decide +kernel
theorem dX9_alarmStart_4 : decode cX9_alarmStart 4 = .ok (.iload_n 1, 1) := by decide +kernel
theorem dX9_alarmStart_5 : decode cX9_alarmStart 5 = .ok (.invokevirtual 142, 3) := by decide +kernel
theorem dX9_alarmStart_8 : decode cX9_alarmStart 8 = .ok (.invokestatic 127, 3) := by decide +kernel
theorem dX9_alarmStart_11 : decode cX9_alarmStart 11 = .ok (.aload_n 0, 1) := by decide +kernel
theorem dX9_alarmStart_12 : decode cX9_alarmStart 12 = .ok (.getfield 16, 3) := by decide +kernel
theorem dX9_alarmStart_15 : decode cX9_alarmStart 15 = .ok (.getfield 151, 3) := by decide +kernel
theorem dX9_alarmStart_18 : decode cX9_alarmStart 18 = .ok (.iload_n 1, 1) := by decide +kernel
theorem dX9_alarmStart_19 : decode cX9_alarmStart 19 = .ok (.iaload, 1) := by decide +kernel
theorem dX9_alarmStart_20 : decode cX9_alarmStart 20 = .ok (.ireturn, 1) := by decide +kernel
theorem dX9_cost_0 : decode cX9_cost 0 = .ok (.aload_n 0, 1) := by decide +kernel
theorem dX9_cost_1 : decode cX9_cost 1 = .ok (.iload_n 1, 1) := by decide +kernel
theorem dX9_cost_2 : decode cX9_cost 2 = .ok (.iload_n 2, 1) := by decide +kernel
theorem dX9_cost_3 : decode cX9_cost 3 = .ok (.invokevirtual 154, 3) := by decide +kernel
theorem dX9_cost_6 : decode cX9_cost 6 = .ok (.invokestatic 127, 3) := by decide +kernel
theorem dX9_cost_9 : decode cX9_cost 9 = .ok (.aload_n 0, 1) := by decide +kernel
theorem dX9_cost_10 : decode cX9_cost 10 = .ok (.invokevirtual 158, 3) := by decide +kernel
theorem dX9_cost_13 : decode cX9_cost 13 = .ok (.iload_n 1, 1) := by decide +kernel
theorem dX9_cost_14 : decode cX9_cost 14 = .ok (.iload_n 2, 1) := by decide +kernel
theorem dX9_cost_15 : decode cX9_cost 15 = .ok (.invokevirtual 162, 3) := by decide +kernel
theorem dX9_cost_18 : decode cX9_cost 18 = .ok (.ireturn, 1) := by decide +kernel
theorem dX9_middle_0 : decode cX9_middle 0 = .ok (.aload_n 0, 1) := by decide +kernel
theorem dX9_middle_1 : decode cX9_middle 1 = .ok (.iload_n 1, 1) := by decide +kernel
theorem dX9_middle_2 : decode cX9_middle 2 = .ok (.iload_n 2, 1) := by decide +kernel
theorem dX9_middle_3 : decode cX9_middle 3 = .ok (.invokevirtual 154, 3) := by decide +kernel
theorem dX9_middle_6 : decode cX9_middle 6 = .ok (.invokestatic 127, 3) := by decide +kernel
theorem dX9_middle_9 : decode cX9_middle 9 = .ok (.aload_n 0, 1) := by decide +kernel
theorem dX9_middle_10 : decode cX9_middle 10 = .ok (.getfield 37, 3) := by decide +kernel
theorem dX9_middle_13 : decode cX9_middle 13 = .ok (.aload_n 0, 1) := by decide +kernel
theorem dX9_middle_14 : decode cX9_middle 14 = .ok (.getfield 9, 3) := by decide +kernel
theorem dX9_middle_17 : decode cX9_middle 17 = .ok (.iload_n 1, 1) := by decide +kernel
theorem dX9_middle_18 : decode cX9_middle 18 = .ok (.iload_n 2, 1) := by decide +kernel
theorem dX9_middle_19 : decode cX9_middle 19 = .ok (.invokevirtual 166, 3) := by decide +kernel
theorem dX9_middle_22 : decode cX9_middle 22 = .ok (.ireturn, 1) := by decide +kernel
theorem dX9_changes_0 : decode cX9_changes 0 = .ok (.aload_n 0, 1) := by decide +kernel
theorem dX9_changes_1 : decode cX9_changes 1 = .ok (.invokevirtual 170, 3) := by decide +kernel
theorem dX9_changes_4 : decode cX9_changes 4 = .ok (.getfield 174, 3) := by decide +kernel
theorem dX9_changes_7 : decode cX9_changes 7 = .ok (.ireturn, 1) := by decide +kernel
theorem dX9_change_0 : decode cX9_change 0 = .ok (.aload_n 0, 1) := by decide +kernel
theorem dX9_change_1 : decode cX9_change 1 = .ok (.invokevirtual 170, 3) := by decide +kernel
theorem dX9_change_4 : decode cX9_change 4 = .ok (.astore_n 2, 1) := by decide +kernel
theorem dX9_change_5 : decode cX9_change 5 = .ok (.aload_n 2, 1) := by decide +kernel
theorem dX9_change_6 : decode cX9_change 6 = .ok (.iload_n 1, 1) := by decide +kernel
theorem dX9_change_7 : decode cX9_change 7 = .ok (.invokevirtual 177, 3) := by decide +kernel
theorem dX9_change_10 : decode cX9_change 10 = .ok (.invokestatic 127, 3) := by decide +kernel
theorem dX9_change_13 : decode cX9_change 13 = .ok (.aload_n 2, 1) := by decide +kernel
theorem dX9_change_14 : decode cX9_change 14 = .ok (.iload_n 1, 1) := by decide +kernel
theorem dX9_change_15 : decode cX9_change 15 = .ok (.invokevirtual 178, 3) := by decide +kernel
theorem dX9_change_18 : decode cX9_change 18 = .ok (.ireturn, 1) := by decide +kernel
theorem dX9_bestCost_0 : decode cX9_bestCost 0 = .ok (.aload_n 0, 1) := by decide +kernel
theorem dX9_bestCost_1 : decode cX9_bestCost 1 = .ok (.invokevirtual 170, 3) := by decide +kernel
theorem dX9_bestCost_4 : decode cX9_bestCost 4 = .ok (.getfield 181, 3) := by decide +kernel
theorem dX9_bestCost_7 : decode cX9_bestCost 7 = .ok (.ireturn, 1) := by decide +kernel
theorem dX9_leastCost_0 : decode cX9_leastCost 0 = .ok (.iload_n 1, 1) := by decide +kernel
theorem dX9_leastCost_1 : decode cX9_leastCost 1 = .ok (.iconst 0, 1) := by decide +kernel
theorem dX9_leastCost_2 : decode cX9_leastCost 2 = .ok (.bipush 119, 2) := by decide +kernel
theorem dX9_leastCost_4 : decode cX9_leastCost 4 = .ok (.invokestatic 104, 3) := by decide +kernel
theorem dX9_leastCost_7 : decode cX9_leastCost 7 = .ok (.invokestatic 100, 3) := by decide +kernel
theorem dX9_leastCost_10 : decode cX9_leastCost 10 = .ok (.iload_n 1, 1) := by decide +kernel
theorem dX9_leastCost_11 : decode cX9_leastCost 11 = .ok (.aload_n 0, 1) := by decide +kernel
theorem dX9_leastCost_12 : decode cX9_leastCost 12 = .ok (.getfield 72, 3) := by decide +kernel
theorem dX9_leastCost_15 : decode cX9_leastCost 15 = .ok (.if_icmp .ge 7, 3) := by decide +kernel
theorem dX9_leastCost_18 : decode cX9_leastCost 18 = .ok (.iconst 1, 1) := by decide +kernel
theorem dX9_leastCost_19 : decode cX9_leastCost 19 = .ok (.goto 4, 3) := by decide +kernel
theorem dX9_leastCost_22 : decode cX9_leastCost 22 = .ok (.iconst 0, 1) := by decide +kernel
theorem dX9_leastCost_23 : decode cX9_leastCost 23 = .ok (.invokestatic 114, 3) := by decide +kernel
theorem dX9_leastCost_26 : decode cX9_leastCost 26 = .ok (.aload_n 0, 1) := by decide +kernel
theorem dX9_leastCost_27 : decode cX9_leastCost 27 = .ok (.getfield 44, 3) := by decide +kernel
theorem dX9_leastCost_30 : decode cX9_leastCost 30 = .ok (.aload_n 0, 1) := by decide +kernel
theorem dX9_leastCost_31 : decode cX9_leastCost 31 = .ok (.invokevirtual 158, 3) := by decide +kernel
theorem dX9_leastCost_34 : decode cX9_leastCost 34 = .ok (.aload_n 0, 1) := by decide +kernel
theorem dX9_leastCost_35 : decode cX9_leastCost 35 = .ok (.getfield 72, 3) := by decide +kernel
theorem dX9_leastCost_38 : decode cX9_leastCost 38 = .ok (.invokevirtual 184, 3) := by decide +kernel
theorem dX9_leastCost_41 : decode cX9_leastCost 41 = .ok (.aload_n 0, 1) := by decide +kernel
theorem dX9_leastCost_42 : decode cX9_leastCost 42 = .ok (.getfield 44, 3) := by decide +kernel
theorem dX9_leastCost_45 : decode cX9_leastCost 45 = .ok (.iload_n 1, 1) := by decide +kernel
theorem dX9_leastCost_46 : decode cX9_leastCost 46 = .ok (.aload_n 0, 1) := by decide +kernel
theorem dX9_leastCost_47 : decode cX9_leastCost 47 = .ok (.getfield 72, 3) := by decide +kernel
theorem dX9_leastCost_50 : decode cX9_leastCost 50 = .ok (.invokevirtual 188, 3) := by decide +kernel
theorem dX9_leastCost_53 : decode cX9_leastCost 53 = .ok (.ireturn, 1) := by decide +kernel
theorem dX9_greedyChanges_0 : decode cX9_greedyChanges 0 = .ok (.aload_n 0, 1) := by decide +kernel
theorem dX9_greedyChanges_1 : decode cX9_greedyChanges 1 = .ok (.invokevirtual 189, 3) := by decide +kernel
theorem dX9_greedyChanges_4 : decode cX9_greedyChanges 4 = .ok (.getfield 174, 3) := by decide +kernel
theorem dX9_greedyChanges_7 : decode cX9_greedyChanges 7 = .ok (.ireturn, 1) := by decide +kernel
theorem dX9_greedyChange_0 : decode cX9_greedyChange 0 = .ok (.aload_n 0, 1) := by decide +kernel
theorem dX9_greedyChange_1 : decode cX9_greedyChange 1 = .ok (.invokevirtual 189, 3) := by decide +kernel
theorem dX9_greedyChange_4 : decode cX9_greedyChange 4 = .ok (.astore_n 2, 1) := by decide +kernel
theorem dX9_greedyChange_5 : decode cX9_greedyChange 5 = .ok (.aload_n 2, 1) := by decide +kernel
theorem dX9_greedyChange_6 : decode cX9_greedyChange 6 = .ok (.iload_n 1, 1) := by decide +kernel
theorem dX9_greedyChange_7 : decode cX9_greedyChange 7 = .ok (.invokevirtual 177, 3) := by decide +kernel
theorem dX9_greedyChange_10 : decode cX9_greedyChange 10 = .ok (.invokestatic 127, 3) := by decide +kernel
theorem dX9_greedyChange_13 : decode cX9_greedyChange 13 = .ok (.aload_n 2, 1) := by decide +kernel
theorem dX9_greedyChange_14 : decode cX9_greedyChange 14 = .ok (.iload_n 1, 1) := by decide +kernel
theorem dX9_greedyChange_15 : decode cX9_greedyChange 15 = .ok (.invokevirtual 178, 3) := by decide +kernel
theorem dX9_greedyChange_18 : decode cX9_greedyChange 18 = .ok (.ireturn, 1) := by decide +kernel
theorem dX9_greedyCost_0 : decode cX9_greedyCost 0 = .ok (.aload_n 0, 1) := by decide +kernel
theorem dX9_greedyCost_1 : decode cX9_greedyCost 1 = .ok (.invokevirtual 189, 3) := by decide +kernel
theorem dX9_greedyCost_4 : decode cX9_greedyCost 4 = .ok (.getfield 181, 3) := by decide +kernel
theorem dX9_greedyCost_7 : decode cX9_greedyCost 7 = .ok (.ireturn, 1) := by decide +kernel
theorem dX9_toggleTruth_0 : decode cX9_toggleTruth 0 = .ok (.aload_n 0, 1) := by decide +kernel
theorem dX9_toggleTruth_1 : decode cX9_toggleTruth 1 = .ok (.iload_n 1, 1) := by decide +kernel
theorem dX9_toggleTruth_2 : decode cX9_toggleTruth 2 = .ok (.invokevirtual 124, 3) := by decide +kernel
theorem dX9_toggleTruth_5 : decode cX9_toggleTruth 5 = .ok (.invokestatic 127, 3) := by decide +kernel
theorem dX9_toggleTruth_8 : decode cX9_toggleTruth 8 = .ok (.aload_n 0, 1) := by decide +kernel
theorem dX9_toggleTruth_9 : decode cX9_toggleTruth 9 = .ok (.getfield 68, 3) := by decide +kernel
theorem dX9_toggleTruth_12 : decode cX9_toggleTruth 12 = .ok (.getfield 192, 3) := by decide +kernel
theorem dX9_toggleTruth_15 : decode cX9_toggleTruth 15 = .ok (.iload_n 1, 1) := by decide +kernel
theorem dX9_toggleTruth_16 : decode cX9_toggleTruth 16 = .ok (.aload_n 0, 1) := by decide +kernel
theorem dX9_toggleTruth_17 : decode cX9_toggleTruth 17 = .ok (.getfield 68, 3) := by decide +kernel
theorem dX9_toggleTruth_20 : decode cX9_toggleTruth 20 = .ok (.getfield 192, 3) := by decide +kernel
theorem dX9_toggleTruth_23 : decode cX9_toggleTruth 23 = .ok (.iload_n 1, 1) := by decide +kernel
theorem dX9_toggleTruth_24 : decode cX9_toggleTruth 24 = .ok (.baload, 1) := by decide +kernel
theorem dX9_toggleTruth_25 : decode cX9_toggleTruth 25 = .ok (.ifCond .ne 7, 3) := by decide +kernel
theorem dX9_toggleTruth_28 : decode cX9_toggleTruth 28 = .ok (.iconst 1, 1) := by decide +kernel
theorem dX9_toggleTruth_29 : decode cX9_toggleTruth 29 = .ok (.goto 4, 3) := by decide +kernel
theorem dX9_toggleTruth_32 : decode cX9_toggleTruth 32 = .ok (.iconst 0, 1) := by decide +kernel
theorem dX9_toggleTruth_33 : decode cX9_toggleTruth 33 = .ok (.bastore, 1) := by decide +kernel
theorem dX9_toggleTruth_34 : decode cX9_toggleTruth 34 = .ok (.aload_n 0, 1) := by decide +kernel
theorem dX9_toggleTruth_35 : decode cX9_toggleTruth 35 = .ok (.getfield 68, 3) := by decide +kernel
theorem dX9_toggleTruth_38 : decode cX9_toggleTruth 38 = .ok (.getfield 192, 3) := by decide +kernel
theorem dX9_toggleTruth_41 : decode cX9_toggleTruth 41 = .ok (.iload_n 1, 1) := by decide +kernel
theorem dX9_toggleTruth_42 : decode cX9_toggleTruth 42 = .ok (.baload, 1) := by decide +kernel
theorem dX9_toggleTruth_43 : decode cX9_toggleTruth 43 = .ok (.ireturn, 1) := by decide +kernel
theorem dX9_matched_0 : decode cX9_matched 0 = .ok (.aload_n 0, 1) := by decide +kernel
theorem dX9_matched_1 : decode cX9_matched 1 = .ok (.iload_n 1, 1) := by decide +kernel
theorem dX9_matched_2 : decode cX9_matched 2 = .ok (.iload_n 2, 1) := by decide +kernel
theorem dX9_matched_3 : decode cX9_matched 3 = .ok (.invokevirtual 196, 3) := by decide +kernel
theorem dX9_matched_6 : decode cX9_matched 6 = .ok (.aload_n 0, 1) := by decide +kernel
theorem dX9_matched_7 : decode cX9_matched 7 = .ok (.getfield 68, 3) := by decide +kernel
theorem dX9_matched_10 : decode cX9_matched 10 = .ok (.getfield 200, 3) := by decide +kernel
theorem dX9_matched_13 : decode cX9_matched 13 = .ok (.ireturn, 1) := by decide +kernel
theorem dX9_falseAlarms_0 : decode cX9_falseAlarms 0 = .ok (.aload_n 0, 1) := by decide +kernel
theorem dX9_falseAlarms_1 : decode cX9_falseAlarms 1 = .ok (.iload_n 1, 1) := by decide +kernel
theorem dX9_falseAlarms_2 : decode cX9_falseAlarms 2 = .ok (.iload_n 2, 1) := by decide +kernel
theorem dX9_falseAlarms_3 : decode cX9_falseAlarms 3 = .ok (.invokevirtual 196, 3) := by decide +kernel
theorem dX9_falseAlarms_6 : decode cX9_falseAlarms 6 = .ok (.aload_n 0, 1) := by decide +kernel
theorem dX9_falseAlarms_7 : decode cX9_falseAlarms 7 = .ok (.getfield 68, 3) := by decide +kernel
theorem dX9_falseAlarms_10 : decode cX9_falseAlarms 10 = .ok (.getfield 203, 3) := by decide +kernel
theorem dX9_falseAlarms_13 : decode cX9_falseAlarms 13 = .ok (.ireturn, 1) := by decide +kernel
theorem dX9_averageDelay_0 : decode cX9_averageDelay 0 = .ok (.aload_n 0, 1) := by decide +kernel
theorem dX9_averageDelay_1 : decode cX9_averageDelay 1 = .ok (.iload_n 1, 1) := by decide +kernel
theorem dX9_averageDelay_2 : decode cX9_averageDelay 2 = .ok (.iload_n 2, 1) := by decide +kernel
theorem dX9_averageDelay_3 : decode cX9_averageDelay 3 = .ok (.invokevirtual 196, 3) := by decide +kernel
theorem dX9_averageDelay_6 : decode cX9_averageDelay 6 = .ok (.aload_n 0, 1) := by decide +kernel
theorem dX9_averageDelay_7 : decode cX9_averageDelay 7 = .ok (.getfield 68, 3) := by decide +kernel
theorem dX9_averageDelay_10 : decode cX9_averageDelay 10 = .ok (.getfield 200, 3) := by decide +kernel
theorem dX9_averageDelay_13 : decode cX9_averageDelay 13 = .ok (.ifCond .le 7, 3) := by decide +kernel
theorem dX9_averageDelay_16 : decode cX9_averageDelay 16 = .ok (.iconst 1, 1) := by decide +kernel
theorem dX9_averageDelay_17 : decode cX9_averageDelay 17 = .ok (.goto 4, 3) := by decide +kernel
theorem dX9_averageDelay_20 : decode cX9_averageDelay 20 = .ok (.iconst 0, 1) := by decide +kernel
theorem dX9_averageDelay_21 : decode cX9_averageDelay 21 = .ok (.invokestatic 114, 3) := by decide +kernel
theorem dX9_averageDelay_24 : decode cX9_averageDelay 24 = .ok (.aload_n 0, 1) := by decide +kernel
theorem dX9_averageDelay_25 : decode cX9_averageDelay 25 = .ok (.getfield 68, 3) := by decide +kernel
theorem dX9_averageDelay_28 : decode cX9_averageDelay 28 = .ok (.getfield 206, 3) := by decide +kernel
theorem dX9_averageDelay_31 : decode cX9_averageDelay 31 = .ok (.i2f, 1) := by decide +kernel
theorem dX9_averageDelay_32 : decode cX9_averageDelay 32 = .ok (.aload_n 0, 1) := by decide +kernel
theorem dX9_averageDelay_33 : decode cX9_averageDelay 33 = .ok (.getfield 68, 3) := by decide +kernel
theorem dX9_averageDelay_36 : decode cX9_averageDelay 36 = .ok (.getfield 200, 3) := by decide +kernel
theorem dX9_averageDelay_39 : decode cX9_averageDelay 39 = .ok (.i2f, 1) := by decide +kernel
theorem dX9_averageDelay_40 : decode cX9_averageDelay 40 = .ok (.fdiv, 1) := by decide +kernel
theorem dX9_averageDelay_41 : decode cX9_averageDelay 41 = .ok (.freturn, 1) := by decide +kernel
theorem dX9_take_0 : decode cX9_take 0 = .ok (.aload_n 0, 1) := by decide +kernel
theorem dX9_take_1 : decode cX9_take 1 = .ok (.getfield 72, 3) := by decide +kernel
theorem dX9_take_4 : decode cX9_take 4 = .ok (.istore_n 2, 1) := by decide +kernel
theorem dX9_take_5 : decode cX9_take 5 = .ok (.aload_n 0, 1) := by decide +kernel
theorem dX9_take_6 : decode cX9_take 6 = .ok (.getfield 9, 3) := by decide +kernel
theorem dX9_take_9 : decode cX9_take 9 = .ok (.iload_n 2, 1) := by decide +kernel
theorem dX9_take_10 : decode cX9_take 10 = .ok (.iload_n 1, 1) := by decide +kernel
theorem dX9_take_11 : decode cX9_take 11 = .ok (.iastore, 1) := by decide +kernel
theorem dX9_take_12 : decode cX9_take 12 = .ok (.aload_n 0, 1) := by decide +kernel
theorem dX9_take_13 : decode cX9_take 13 = .ok (.dup, 1) := by decide +kernel
theorem dX9_take_14 : decode cX9_take 14 = .ok (.getfield 72, 3) := by decide +kernel
theorem dX9_take_17 : decode cX9_take 17 = .ok (.iconst 1, 1) := by decide +kernel
theorem dX9_take_18 : decode cX9_take 18 = .ok (.iadd, 1) := by decide +kernel
theorem dX9_take_19 : decode cX9_take 19 = .ok (.putfield 72, 3) := by decide +kernel
theorem dX9_take_22 : decode cX9_take 22 = .ok (.aload_n 0, 1) := by decide +kernel
theorem dX9_take_23 : decode cX9_take 23 = .ok (.invokevirtual 93, 3) := by decide +kernel
theorem dX9_take_26 : decode cX9_take 26 = .ok (.aload_n 0, 1) := by decide +kernel
theorem dX9_take_27 : decode cX9_take 27 = .ok (.getfield 23, 3) := by decide +kernel
theorem dX9_take_30 : decode cX9_take 30 = .ok (.iload_n 1, 1) := by decide +kernel
theorem dX9_take_31 : decode cX9_take 31 = .ok (.iload_n 2, 1) := by decide +kernel
theorem dX9_take_32 : decode cX9_take 32 = .ok (.aload_n 0, 1) := by decide +kernel
theorem dX9_take_33 : decode cX9_take 33 = .ok (.getfield 16, 3) := by decide +kernel
theorem dX9_take_36 : decode cX9_take 36 = .ok (.invokevirtual 209, 3) := by decide +kernel
theorem dX9_take_39 : decode cX9_take 39 = .ok (.istore_n 3, 1) := by decide +kernel
theorem dX9_take_40 : decode cX9_take 40 = .ok (.aload_n 0, 1) := by decide +kernel
theorem dX9_take_41 : decode cX9_take 41 = .ok (.getfield 30, 3) := by decide +kernel
theorem dX9_take_44 : decode cX9_take 44 = .ok (.iload_n 1, 1) := by decide +kernel
theorem dX9_take_45 : decode cX9_take 45 = .ok (.iload_n 2, 1) := by decide +kernel
theorem dX9_take_46 : decode cX9_take 46 = .ok (.aload_n 0, 1) := by decide +kernel
theorem dX9_take_47 : decode cX9_take 47 = .ok (.getfield 16, 3) := by decide +kernel
theorem dX9_take_50 : decode cX9_take 50 = .ok (.invokevirtual 213, 3) := by decide +kernel
theorem dX9_take_53 : decode cX9_take 53 = .ok (.istore 4, 2) := by decide +kernel
theorem dX9_take_55 : decode cX9_take 55 = .ok (.iload_n 3, 1) := by decide +kernel
theorem dX9_take_56 : decode cX9_take 56 = .ok (.iload 4, 2) := by decide +kernel
theorem dX9_take_58 : decode cX9_take 58 = .ok (.ior, 1) := by decide +kernel
theorem dX9_take_59 : decode cX9_take 59 = .ok (.ireturn, 1) := by decide +kernel
theorem dX9_forgetCuttings_0 : decode cX9_forgetCuttings 0 = .ok (.aload_n 0, 1) := by decide +kernel
theorem dX9_forgetCuttings_1 : decode cX9_forgetCuttings 1 = .ok (.getfield 58, 3) := by decide +kernel
theorem dX9_forgetCuttings_4 : decode cX9_forgetCuttings 4 = .ok (.iconst 0, 1) := by decide +kernel
theorem dX9_forgetCuttings_5 : decode cX9_forgetCuttings 5 = .ok (.putfield 214, 3) := by decide +kernel
theorem dX9_forgetCuttings_8 : decode cX9_forgetCuttings 8 = .ok (.aload_n 0, 1) := by decide +kernel
theorem dX9_forgetCuttings_9 : decode cX9_forgetCuttings 9 = .ok (.getfield 62, 3) := by decide +kernel
theorem dX9_forgetCuttings_12 : decode cX9_forgetCuttings 12 = .ok (.iconst 0, 1) := by decide +kernel
theorem dX9_forgetCuttings_13 : decode cX9_forgetCuttings 13 = .ok (.putfield 214, 3) := by decide +kernel
theorem dX9_forgetCuttings_16 : decode cX9_forgetCuttings 16 = .ok (.return_, 1) := by decide +kernel
theorem dX9_learntCosts_0 : decode cX9_learntCosts 0 = .ok (.aload_n 0, 1) := by decide +kernel
theorem dX9_learntCosts_1 : decode cX9_learntCosts 1 = .ok (.getfield 37, 3) := by decide +kernel
theorem dX9_learntCosts_4 : decode cX9_learntCosts 4 = .ok (.aload_n 0, 1) := by decide +kernel
theorem dX9_learntCosts_5 : decode cX9_learntCosts 5 = .ok (.getfield 9, 3) := by decide +kernel
theorem dX9_learntCosts_8 : decode cX9_learntCosts 8 = .ok (.aload_n 0, 1) := by decide +kernel
theorem dX9_learntCosts_9 : decode cX9_learntCosts 9 = .ok (.getfield 72, 3) := by decide +kernel
theorem dX9_learntCosts_12 : decode cX9_learntCosts 12 = .ok (.invokevirtual 218, 3) := by decide +kernel
theorem dX9_learntCosts_15 : decode cX9_learntCosts 15 = .ok (.aload_n 0, 1) := by decide +kernel
theorem dX9_learntCosts_16 : decode cX9_learntCosts 16 = .ok (.getfield 37, 3) := by decide +kernel
theorem dX9_learntCosts_19 : decode cX9_learntCosts 19 = .ok (.areturn, 1) := by decide +kernel
theorem dX9_bestCutting_0 : decode cX9_bestCutting 0 = .ok (.aload_n 0, 1) := by decide +kernel
theorem dX9_bestCutting_1 : decode cX9_bestCutting 1 = .ok (.getfield 58, 3) := by decide +kernel
theorem dX9_bestCutting_4 : decode cX9_bestCutting 4 = .ok (.getfield 214, 3) := by decide +kernel
theorem dX9_bestCutting_7 : decode cX9_bestCutting 7 = .ok (.ifCond .ne 44, 3) := by decide +kernel
theorem dX9_bestCutting_10 : decode cX9_bestCutting 10 = .ok (.aload_n 0, 1) := by decide +kernel
theorem dX9_bestCutting_11 : decode cX9_bestCutting 11 = .ok (.invokevirtual 158, 3) := by decide +kernel
theorem dX9_bestCutting_14 : decode cX9_bestCutting 14 = .ok (.astore_n 1, 1) := by decide +kernel
theorem dX9_bestCutting_15 : decode cX9_bestCutting 15 = .ok (.aload_n 0, 1) := by decide +kernel
theorem dX9_bestCutting_16 : decode cX9_bestCutting 16 = .ok (.getfield 51, 3) := by decide +kernel
theorem dX9_bestCutting_19 : decode cX9_bestCutting 19 = .ok (.aload_n 1, 1) := by decide +kernel
theorem dX9_bestCutting_20 : decode cX9_bestCutting 20 = .ok (.aload_n 0, 1) := by decide +kernel
theorem dX9_bestCutting_21 : decode cX9_bestCutting 21 = .ok (.getfield 72, 3) := by decide +kernel
theorem dX9_bestCutting_24 : decode cX9_bestCutting 24 = .ok (.aload_n 0, 1) := by decide +kernel
theorem dX9_bestCutting_25 : decode cX9_bestCutting 25 = .ok (.getfield 76, 3) := by decide +kernel
theorem dX9_bestCutting_28 : decode cX9_bestCutting 28 = .ok (.aload_n 0, 1) := by decide +kernel
theorem dX9_bestCutting_29 : decode cX9_bestCutting 29 = .ok (.getfield 58, 3) := by decide +kernel
theorem dX9_bestCutting_32 : decode cX9_bestCutting 32 = .ok (.invokevirtual 221, 3) := by decide +kernel
theorem dX9_bestCutting_35 : decode cX9_bestCutting 35 = .ok (.aload_n 0, 1) := by decide +kernel
theorem dX9_bestCutting_36 : decode cX9_bestCutting 36 = .ok (.getfield 58, 3) := by decide +kernel
theorem dX9_bestCutting_39 : decode cX9_bestCutting 39 = .ok (.aload_n 1, 1) := by decide +kernel
theorem dX9_bestCutting_40 : decode cX9_bestCutting 40 = .ok (.aload_n 0, 1) := by decide +kernel
theorem dX9_bestCutting_41 : decode cX9_bestCutting 41 = .ok (.getfield 72, 3) := by decide +kernel
theorem dX9_bestCutting_44 : decode cX9_bestCutting 44 = .ok (.aload_n 0, 1) := by decide +kernel
theorem dX9_bestCutting_45 : decode cX9_bestCutting 45 = .ok (.getfield 76, 3) := by decide +kernel
theorem dX9_bestCutting_48 : decode cX9_bestCutting 48 = .ok (.invokevirtual 225, 3) := by decide +kernel
theorem dX9_bestCutting_51 : decode cX9_bestCutting 51 = .ok (.aload_n 0, 1) := by decide +kernel
theorem dX9_bestCutting_52 : decode cX9_bestCutting 52 = .ok (.getfield 58, 3) := by decide +kernel
theorem dX9_bestCutting_55 : decode cX9_bestCutting 55 = .ok (.areturn, 1) := by decide +kernel
theorem dX9_greedyCutting_0 : decode cX9_greedyCutting 0 = .ok (.aload_n 0, 1) := by decide +kernel
theorem dX9_greedyCutting_1 : decode cX9_greedyCutting 1 = .ok (.getfield 62, 3) := by decide +kernel
theorem dX9_greedyCutting_4 : decode cX9_greedyCutting 4 = .ok (.getfield 214, 3) := by decide +kernel
theorem dX9_greedyCutting_7 : decode cX9_greedyCutting 7 = .ok (.ifCond .ne 40, 3) := by decide +kernel
theorem dX9_greedyCutting_10 : decode cX9_greedyCutting 10 = .ok (.aload_n 0, 1) := by decide +kernel
theorem dX9_greedyCutting_11 : decode cX9_greedyCutting 11 = .ok (.invokevirtual 158, 3) := by decide +kernel
theorem dX9_greedyCutting_14 : decode cX9_greedyCutting 14 = .ok (.astore_n 1, 1) := by decide +kernel
theorem dX9_greedyCutting_15 : decode cX9_greedyCutting 15 = .ok (.aload_n 1, 1) := by decide +kernel
theorem dX9_greedyCutting_16 : decode cX9_greedyCutting 16 = .ok (.aload_n 0, 1) := by decide +kernel
theorem dX9_greedyCutting_17 : decode cX9_greedyCutting 17 = .ok (.getfield 72, 3) := by decide +kernel
theorem dX9_greedyCutting_20 : decode cX9_greedyCutting 20 = .ok (.aload_n 0, 1) := by decide +kernel
theorem dX9_greedyCutting_21 : decode cX9_greedyCutting 21 = .ok (.getfield 76, 3) := by decide +kernel
theorem dX9_greedyCutting_24 : decode cX9_greedyCutting 24 = .ok (.aload_n 0, 1) := by decide +kernel
theorem dX9_greedyCutting_25 : decode cX9_greedyCutting 25 = .ok (.getfield 62, 3) := by decide +kernel
theorem dX9_greedyCutting_28 : decode cX9_greedyCutting 28 = .ok (.invokestatic 229, 3) := by decide +kernel
theorem dX9_greedyCutting_31 : decode cX9_greedyCutting 31 = .ok (.aload_n 0, 1) := by decide +kernel
theorem dX9_greedyCutting_32 : decode cX9_greedyCutting 32 = .ok (.getfield 62, 3) := by decide +kernel
theorem dX9_greedyCutting_35 : decode cX9_greedyCutting 35 = .ok (.aload_n 1, 1) := by decide +kernel
theorem dX9_greedyCutting_36 : decode cX9_greedyCutting 36 = .ok (.aload_n 0, 1) := by decide +kernel
theorem dX9_greedyCutting_37 : decode cX9_greedyCutting 37 = .ok (.getfield 72, 3) := by decide +kernel
theorem dX9_greedyCutting_40 : decode cX9_greedyCutting 40 = .ok (.aload_n 0, 1) := by decide +kernel
theorem dX9_greedyCutting_41 : decode cX9_greedyCutting 41 = .ok (.getfield 76, 3) := by decide +kernel
theorem dX9_greedyCutting_44 : decode cX9_greedyCutting 44 = .ok (.invokevirtual 225, 3) := by decide +kernel
theorem dX9_greedyCutting_47 : decode cX9_greedyCutting 47 = .ok (.aload_n 0, 1) := by decide +kernel
theorem dX9_greedyCutting_48 : decode cX9_greedyCutting 48 = .ok (.getfield 62, 3) := by decide +kernel
theorem dX9_greedyCutting_51 : decode cX9_greedyCutting 51 = .ok (.areturn, 1) := by decide +kernel
theorem dX9_matchAlarms_0 : decode cX9_matchAlarms 0 = .ok (.iload_n 1, 1) := by decide +kernel
theorem dX9_matchAlarms_1 : decode cX9_matchAlarms 1 = .ok (.iconst 0, 1) := by decide +kernel
theorem dX9_matchAlarms_2 : decode cX9_matchAlarms 2 = .ok (.iconst 2, 1) := by decide +kernel
theorem dX9_matchAlarms_3 : decode cX9_matchAlarms 3 = .ok (.invokestatic 104, 3) := by decide +kernel
theorem dX9_matchAlarms_6 : decode cX9_matchAlarms 6 = .ok (.invokestatic 100, 3) := by decide +kernel
theorem dX9_matchAlarms_9 : decode cX9_matchAlarms 9 = .ok (.iload_n 2, 1) := by decide +kernel
theorem dX9_matchAlarms_10 : decode cX9_matchAlarms 10 = .ok (.iconst 0, 1) := by decide +kernel
theorem dX9_matchAlarms_11 : decode cX9_matchAlarms 11 = .ok (.bipush 120, 2) := by decide +kernel
theorem dX9_matchAlarms_13 : decode cX9_matchAlarms 13 = .ok (.invokestatic 104, 3) := by decide +kernel
theorem dX9_matchAlarms_16 : decode cX9_matchAlarms 16 = .ok (.invokestatic 100, 3) := by decide +kernel
theorem dX9_matchAlarms_19 : decode cX9_matchAlarms 19 = .ok (.aload_n 0, 1) := by decide +kernel
theorem dX9_matchAlarms_20 : decode cX9_matchAlarms 20 = .ok (.getfield 68, 3) := by decide +kernel
theorem dX9_matchAlarms_23 : decode cX9_matchAlarms 23 = .ok (.aload_n 0, 1) := by decide +kernel
theorem dX9_matchAlarms_24 : decode cX9_matchAlarms 24 = .ok (.getfield 16, 3) := by decide +kernel
theorem dX9_matchAlarms_27 : decode cX9_matchAlarms 27 = .ok (.iload_n 1, 1) := by decide +kernel
theorem dX9_matchAlarms_28 : decode cX9_matchAlarms 28 = .ok (.iload_n 2, 1) := by decide +kernel
theorem dX9_matchAlarms_29 : decode cX9_matchAlarms 29 = .ok (.invokevirtual 232, 3) := by decide +kernel
theorem dX9_matchAlarms_32 : decode cX9_matchAlarms 32 = .ok (.return_, 1) := by decide +kernel
theorem dX9_isValueNumber_0 : decode cX9_isValueNumber 0 = .ok (.iload_n 1, 1) := by decide +kernel
theorem dX9_isValueNumber_1 : decode cX9_isValueNumber 1 = .ok (.ifCond .lt 15, 3) := by decide +kernel
theorem dX9_isValueNumber_4 : decode cX9_isValueNumber 4 = .ok (.iload_n 1, 1) := by decide +kernel
theorem dX9_isValueNumber_5 : decode cX9_isValueNumber 5 = .ok (.aload_n 0, 1) := by decide +kernel
theorem dX9_isValueNumber_6 : decode cX9_isValueNumber 6 = .ok (.getfield 72, 3) := by decide +kernel
theorem dX9_isValueNumber_9 : decode cX9_isValueNumber 9 = .ok (.if_icmp .ge 7, 3) := by decide +kernel
theorem dX9_isValueNumber_12 : decode cX9_isValueNumber 12 = .ok (.iconst 1, 1) := by decide +kernel
theorem dX9_isValueNumber_13 : decode cX9_isValueNumber 13 = .ok (.goto 4, 3) := by decide +kernel
theorem dX9_isValueNumber_16 : decode cX9_isValueNumber 16 = .ok (.iconst 0, 1) := by decide +kernel
theorem dX9_isValueNumber_17 : decode cX9_isValueNumber 17 = .ok (.ireturn, 1) := by decide +kernel
theorem dX9_isSegment_0 : decode cX9_isSegment 0 = .ok (.iload_n 1, 1) := by decide +kernel
theorem dX9_isSegment_1 : decode cX9_isSegment 1 = .ok (.ifCond .lt 20, 3) := by decide +kernel
theorem dX9_isSegment_4 : decode cX9_isSegment 4 = .ok (.iload_n 1, 1) := by decide +kernel
theorem dX9_isSegment_5 : decode cX9_isSegment 5 = .ok (.iload_n 2, 1) := by decide +kernel
theorem dX9_isSegment_6 : decode cX9_isSegment 6 = .ok (.if_icmp .ge 15, 3) := by decide +kernel
theorem dX9_isSegment_9 : decode cX9_isSegment 9 = .ok (.iload_n 2, 1) := by decide +kernel
theorem dX9_isSegment_10 : decode cX9_isSegment 10 = .ok (.aload_n 0, 1) := by decide +kernel
theorem dX9_isSegment_11 : decode cX9_isSegment 11 = .ok (.getfield 72, 3) := by decide +kernel
theorem dX9_isSegment_14 : decode cX9_isSegment 14 = .ok (.if_icmp .gt 7, 3) := by decide +kernel
theorem dX9_isSegment_17 : decode cX9_isSegment 17 = .ok (.iconst 1, 1) := by decide +kernel
theorem dX9_isSegment_18 : decode cX9_isSegment 18 = .ok (.goto 4, 3) := by decide +kernel
theorem dX9_isSegment_21 : decode cX9_isSegment 21 = .ok (.iconst 0, 1) := by decide +kernel
theorem dX9_isSegment_22 : decode cX9_isSegment 22 = .ok (.ireturn, 1) := by decide +kernel
theorem dX9_isAmountFromZero_0 : decode cX9_isAmountFromZero 0 = .ok (.iload_n 0, 1) := by decide +kernel
theorem dX9_isAmountFromZero_1 : decode cX9_isAmountFromZero 1 = .ok (.sipush (-1000), 3) := by decide +kernel
theorem dX9_isAmountFromZero_4 : decode cX9_isAmountFromZero 4 = .ok (.sipush 1000, 3) := by decide +kernel
theorem dX9_isAmountFromZero_7 : decode cX9_isAmountFromZero 7 = .ok (.invokestatic 104, 3) := by decide +kernel
theorem dX9_isAmountFromZero_10 : decode cX9_isAmountFromZero 10 = .ok (.ireturn, 1) := by decide +kernel
theorem dX9_isBetween_0 : decode cX9_isBetween 0 = .ok (.iload_n 0, 1) := by decide +kernel
theorem dX9_isBetween_1 : decode cX9_isBetween 1 = .ok (.iload_n 1, 1) := by decide +kernel
theorem dX9_isBetween_2 : decode cX9_isBetween 2 = .ok (.if_icmp .lt 12, 3) := by decide +kernel
theorem dX9_isBetween_5 : decode cX9_isBetween 5 = .ok (.iload_n 0, 1) := by decide +kernel
theorem dX9_isBetween_6 : decode cX9_isBetween 6 = .ok (.iload_n 2, 1) := by decide +kernel
theorem dX9_isBetween_7 : decode cX9_isBetween 7 = .ok (.if_icmp .gt 7, 3) := by decide +kernel
theorem dX9_isBetween_10 : decode cX9_isBetween 10 = .ok (.iconst 1, 1) := by decide +kernel
theorem dX9_isBetween_11 : decode cX9_isBetween 11 = .ok (.goto 4, 3) := by decide +kernel
theorem dX9_isBetween_14 : decode cX9_isBetween 14 = .ok (.iconst 0, 1) := by decide +kernel
theorem dX9_isBetween_15 : decode cX9_isBetween 15 = .ok (.ireturn, 1) := by decide +kernel
theorem dX9_requireArgument_0 : decode cX9_requireArgument 0 = .ok (.iload_n 0, 1) := by decide +kernel
theorem dX9_requireArgument_1 : decode cX9_requireArgument 1 = .ok (.ifCond .ne 13, 3) := by decide +kernel
theorem dX9_requireArgument_4 : decode cX9_requireArgument 4 = .ok (.new 236, 3) := by decide +kernel
theorem dX9_requireArgument_7 : decode cX9_requireArgument 7 = .ok (.dup, 1) := by decide +kernel
theorem dX9_requireArgument_8 : decode cX9_requireArgument 8 = .ok (.ldc 238, 2) := by decide +kernel
theorem dX9_requireArgument_10 : decode cX9_requireArgument 10 = .ok (.invokespecial 240, 3) := by decide +kernel
theorem dX9_requireArgument_13 : decode cX9_requireArgument 13 = .ok (.athrow, 1) := by decide +kernel
theorem dX9_requireArgument_14 : decode cX9_requireArgument 14 = .ok (.return_, 1) := by decide +kernel
theorem dX9_requireIndex_0 : decode cX9_requireIndex 0 = .ok (.iload_n 0, 1) := by decide +kernel
theorem dX9_requireIndex_1 : decode cX9_requireIndex 1 = .ok (.ifCond .ne 13, 3) := by decide +kernel
theorem dX9_requireIndex_4 : decode cX9_requireIndex 4 = .ok (.new 243, 3) := by decide +kernel
theorem dX9_requireIndex_7 : decode cX9_requireIndex 7 = .ok (.dup, 1) := by decide +kernel
theorem dX9_requireIndex_8 : decode cX9_requireIndex 8 = .ok (.ldc 245, 2) := by decide +kernel
theorem dX9_requireIndex_10 : decode cX9_requireIndex 10 = .ok (.invokespecial 247, 3) := by decide +kernel
theorem dX9_requireIndex_13 : decode cX9_requireIndex 13 = .ok (.athrow, 1) := by decide +kernel
theorem dX9_requireIndex_14 : decode cX9_requireIndex 14 = .ok (.return_, 1) := by decide +kernel
theorem dX9_requireState_0 : decode cX9_requireState 0 = .ok (.iload_n 0, 1) := by decide +kernel
theorem dX9_requireState_1 : decode cX9_requireState 1 = .ok (.ifCond .ne 13, 3) := by decide +kernel
theorem dX9_requireState_4 : decode cX9_requireState 4 = .ok (.new 248, 3) := by decide +kernel
theorem dX9_requireState_7 : decode cX9_requireState 7 = .ok (.dup, 1) := by decide +kernel
theorem dX9_requireState_8 : decode cX9_requireState 8 = .ok (.ldc 250, 2) := by decide +kernel
theorem dX9_requireState_10 : decode cX9_requireState 10 = .ok (.invokespecial 252, 3) := by decide +kernel
theorem dX9_requireState_13 : decode cX9_requireState 13 = .ok (.athrow, 1) := by decide +kernel
theorem dX9_requireState_14 : decode cX9_requireState 14 = .ok (.return_, 1) := by decide +kernel
theorem dX10_init_0 : decode cX10_init 0 = .ok (.aload_n 0, 1) := by decide +kernel
theorem dX10_init_1 : decode cX10_init 1 = .ok (.invokespecial 1, 3) := by decide +kernel
theorem dX10_init_4 : decode cX10_init 4 = .ok (.aload_n 0, 1) := by decide +kernel
theorem dX10_init_5 : decode cX10_init 5 = .ok (.iconst 5, 1) := by decide +kernel
theorem dX10_init_6 : decode cX10_init 6 = .ok (.putfield 7, 3) := by decide +kernel
theorem dX10_init_9 : decode cX10_init 9 = .ok (.aload_n 0, 1) := by decide +kernel
theorem dX10_init_10 : decode cX10_init 10 = .ok (.bipush 50, 2) := by decide +kernel
theorem dX10_init_12 : decode cX10_init 12 = .ok (.putfield 13, 3) := by decide +kernel
theorem dX10_init_15 : decode cX10_init 15 = .ok (.aload_n 0, 1) := by decide +kernel
theorem dX10_init_16 : decode cX10_init 16 = .ok (.iconst 5, 1) := by decide +kernel
theorem dX10_init_17 : decode cX10_init 17 = .ok (.putfield 16, 3) := by decide +kernel
theorem dX10_init_20 : decode cX10_init 20 = .ok (.aload_n 0, 1) := by decide +kernel
theorem dX10_init_21 : decode cX10_init 21 = .ok (.sipush 1000, 3) := by decide +kernel
theorem dX10_init_24 : decode cX10_init 24 = .ok (.putfield 19, 3) := by decide +kernel
theorem dX10_init_27 : decode cX10_init 27 = .ok (.aload_n 0, 1) := by decide +kernel
theorem dX10_init_28 : decode cX10_init 28 = .ok (.bipush 50, 2) := by decide +kernel
theorem dX10_init_30 : decode cX10_init 30 = .ok (.putfield 22, 3) := by decide +kernel
theorem dX10_init_33 : decode cX10_init 33 = .ok (.aload_n 0, 1) := by decide +kernel
theorem dX10_init_34 : decode cX10_init 34 = .ok (.bipush 20, 2) := by decide +kernel
theorem dX10_init_36 : decode cX10_init 36 = .ok (.putfield 25, 3) := by decide +kernel
theorem dX10_init_39 : decode cX10_init 39 = .ok (.aload_n 0, 1) := by decide +kernel
theorem dX10_init_40 : decode cX10_init 40 = .ok (.bipush 120, 2) := by decide +kernel
theorem dX10_init_42 : decode cX10_init 42 = .ok (.newarray .int, 2) := by decide +kernel
theorem dX10_init_44 : decode cX10_init 44 = .ok (.putfield 28, 3) := by decide +kernel
theorem dX10_init_47 : decode cX10_init 47 = .ok (.aload_n 0, 1) := by decide +kernel
theorem dX10_init_48 : decode cX10_init 48 = .ok (.bipush 120, 2) := by decide +kernel
theorem dX10_init_50 : decode cX10_init 50 = .ok (.newarray .boolean, 2) := by decide +kernel
theorem dX10_init_52 : decode cX10_init 52 = .ok (.putfield 32, 3) := by decide +kernel
theorem dX10_init_55 : decode cX10_init 55 = .ok (.aload_n 0, 1) := by decide +kernel
theorem dX10_init_56 : decode cX10_init 56 = .ok (.sipush 360, 3) := by decide +kernel
theorem dX10_init_59 : decode cX10_init 59 = .ok (.newarray .int, 2) := by decide +kernel
theorem dX10_init_61 : decode cX10_init 61 = .ok (.putfield 36, 3) := by decide +kernel
theorem dX10_init_64 : decode cX10_init 64 = .ok (.aload_n 0, 1) := by decide +kernel
theorem dX10_init_65 : decode cX10_init 65 = .ok (.sipush 360, 3) := by decide +kernel
theorem dX10_init_68 : decode cX10_init 68 = .ok (.newarray .int, 2) := by decide +kernel
theorem dX10_init_70 : decode cX10_init 70 = .ok (.putfield 39, 3) := by decide +kernel
theorem dX10_init_73 : decode cX10_init 73 = .ok (.aload_n 0, 1) := by decide +kernel
theorem dX10_init_74 : decode cX10_init 74 = .ok (.sipush 360, 3) := by decide +kernel
theorem dX10_init_77 : decode cX10_init 77 = .ok (.newarray .int, 2) := by decide +kernel
theorem dX10_init_79 : decode cX10_init 79 = .ok (.putfield 42, 3) := by decide +kernel
theorem dX10_init_82 : decode cX10_init 82 = .ok (.aload_n 0, 1) := by decide +kernel
theorem dX10_init_83 : decode cX10_init 83 = .ok (.sipush 14641, 3) := by decide +kernel
theorem dX10_init_86 : decode cX10_init 86 = .ok (.newarray .int, 2) := by decide +kernel
theorem dX10_init_88 : decode cX10_init 88 = .ok (.putfield 45, 3) := by decide +kernel
theorem dX10_init_91 : decode cX10_init 91 = .ok (.aload_n 0, 1) := by decide +kernel
theorem dX10_init_92 : decode cX10_init 92 = .ok (.bipush 120, 2) := by decide +kernel
theorem dX10_init_94 : decode cX10_init 94 = .ok (.newarray .int, 2) := by decide +kernel
theorem dX10_init_96 : decode cX10_init 96 = .ok (.putfield 48, 3) := by decide +kernel
theorem dX10_init_99 : decode cX10_init 99 = .ok (.aload_n 0, 1) := by decide +kernel
theorem dX10_init_100 : decode cX10_init 100 = .ok (.bipush 121, 2) := by decide +kernel
theorem dX10_init_102 : decode cX10_init 102 = .ok (.newarray .int, 2) := by decide +kernel
theorem dX10_init_104 : decode cX10_init 104 = .ok (.putfield 51, 3) := by decide +kernel
theorem dX10_init_107 : decode cX10_init 107 = .ok (.aload_n 0, 1) := by decide +kernel
theorem dX10_init_108 : decode cX10_init 108 = .ok (.bipush 121, 2) := by decide +kernel
theorem dX10_init_110 : decode cX10_init 110 = .ok (.newarray .int, 2) := by decide +kernel
theorem dX10_init_112 : decode cX10_init 112 = .ok (.putfield 54, 3) := by decide +kernel
theorem dX10_init_115 : decode cX10_init 115 = .ok (.aload_n 0, 1) := by decide +kernel
theorem dX10_init_116 : decode cX10_init 116 = .ok (.bipush 121, 2) := by decide +kernel
theorem dX10_init_118 : decode cX10_init 118 = .ok (.newarray .int, 2) := by decide +kernel
theorem dX10_init_120 : decode cX10_init 120 = .ok (.putfield 57, 3) := by decide +kernel
theorem dX10_init_123 : decode cX10_init 123 = .ok (.aload_n 0, 1) := by decide +kernel
theorem dX10_init_124 : decode cX10_init 124 = .ok (.bipush 121, 2) := by decide +kernel
theorem dX10_init_126 : decode cX10_init 126 = .ok (.newarray .int, 2) := by decide +kernel
theorem dX10_init_128 : decode cX10_init 128 = .ok (.putfield 60, 3) := by decide +kernel
theorem dX10_init_131 : decode cX10_init 131 = .ok (.aload_n 0, 1) := by decide +kernel
theorem dX10_init_132 : decode cX10_init 132 = .ok (.bipush 121, 2) := by decide +kernel
theorem dX10_init_134 : decode cX10_init 134 = .ok (.newarray .boolean, 2) := by decide +kernel
theorem dX10_init_136 : decode cX10_init 136 = .ok (.putfield 63, 3) := by decide +kernel
theorem dX10_init_139 : decode cX10_init 139 = .ok (.aload_n 0, 1) := by decide +kernel
theorem dX10_init_140 : decode cX10_init 140 = .ok (.bipush 120, 2) := by decide +kernel
theorem dX10_init_142 : decode cX10_init 142 = .ok (.newarray .boolean, 2) := by decide +kernel
theorem dX10_init_144 : decode cX10_init 144 = .ok (.putfield 66, 3) := by decide +kernel
theorem dX10_init_147 : decode cX10_init 147 = .ok (.return_, 1) := by decide +kernel
theorem dX10_thrown_0 : decode cX10_thrown 0 = .ok (.aload_n 0, 1) := by decide +kernel
theorem dX10_thrown_1 : decode cX10_thrown 1 = .ok (.getfield 69, 3) := by decide +kernel
theorem dX10_thrown_4 : decode cX10_thrown 4 = .ok (.ireturn, 1) := by decide +kernel
theorem dX10_fails_0 : decode cX10_fails 0 = .ok (.aload_n 0, 1) := by decide +kernel
theorem dX10_fails_1 : decode cX10_fails 1 = .ok (.iload_n 1, 1) := by decide +kernel
theorem dX10_fails_2 : decode cX10_fails 2 = .ok (.putfield 69, 3) := by decide +kernel
theorem dX10_fails_5 : decode cX10_fails 5 = .ok (.iload_n 1, 1) := by decide +kernel
theorem dX10_fails_6 : decode cX10_fails 6 = .ok (.ifCond .le 7, 3) := by decide +kernel
theorem dX10_fails_9 : decode cX10_fails 9 = .ok (.iconst 1, 1) := by decide +kernel
theorem dX10_fails_10 : decode cX10_fails 10 = .ok (.goto 4, 3) := by decide +kernel
theorem dX10_fails_13 : decode cX10_fails 13 = .ok (.iconst 0, 1) := by decide +kernel
theorem dX10_fails_14 : decode cX10_fails 14 = .ok (.ireturn, 1) := by decide +kernel
theorem dX10_tells_0 : decode cX10_tells 0 = .ok (.aload_n 0, 1) := by decide +kernel
theorem dX10_tells_1 : decode cX10_tells 1 = .ok (.iconst 0, 1) := by decide +kernel
theorem dX10_tells_2 : decode cX10_tells 2 = .ok (.putfield 69, 3) := by decide +kernel
theorem dX10_tells_5 : decode cX10_tells 5 = .ok (.iload_n 1, 1) := by decide +kernel
theorem dX10_tells_6 : decode cX10_tells 6 = .ok (.ireturn, 1) := by decide +kernel
theorem dX10_isIn_0 : decode cX10_isIn 0 = .ok (.iload_n 0, 1) := by decide +kernel
theorem dX10_isIn_1 : decode cX10_isIn 1 = .ok (.iload_n 1, 1) := by decide +kernel
theorem dX10_isIn_2 : decode cX10_isIn 2 = .ok (.if_icmp .lt 12, 3) := by decide +kernel
theorem dX10_isIn_5 : decode cX10_isIn 5 = .ok (.iload_n 0, 1) := by decide +kernel
theorem dX10_isIn_6 : decode cX10_isIn 6 = .ok (.iload_n 2, 1) := by decide +kernel
theorem dX10_isIn_7 : decode cX10_isIn 7 = .ok (.if_icmp .gt 7, 3) := by decide +kernel
theorem dX10_isIn_10 : decode cX10_isIn 10 = .ok (.iconst 1, 1) := by decide +kernel
theorem dX10_isIn_11 : decode cX10_isIn 11 = .ok (.goto 4, 3) := by decide +kernel
theorem dX10_isIn_14 : decode cX10_isIn 14 = .ok (.iconst 0, 1) := by decide +kernel
theorem dX10_isIn_15 : decode cX10_isIn 15 = .ok (.ireturn, 1) := by decide +kernel
theorem dX10_restsSums_0 : decode cX10_restsSums 0 = .ok (.aload_n 0, 1) := by decide +kernel
theorem dX10_restsSums_1 : decode cX10_restsSums 1 = .ok (.iconst 0, 1) := by decide +kernel
theorem dX10_restsSums_2 : decode cX10_restsSums 2 = .ok (.putfield 72, 3) := by decide +kernel
theorem dX10_restsSums_5 : decode cX10_restsSums 5 = .ok (.aload_n 0, 1) := by decide +kernel
theorem dX10_restsSums_6 : decode cX10_restsSums 6 = .ok (.iconst 0, 1) := by decide +kernel
theorem dX10_restsSums_7 : decode cX10_restsSums 7 = .ok (.putfield 75, 3) := by decide +kernel
theorem dX10_restsSums_10 : decode cX10_restsSums 10 = .ok (.return_, 1) := by decide +kernel
theorem dX10_restsTest_0 : decode cX10_restsTest 0 = .ok (.aload_n 0, 1) := by decide +kernel
theorem dX10_restsTest_1 : decode cX10_restsTest 1 = .ok (.iconst 0, 1) := by decide +kernel
theorem dX10_restsTest_2 : decode cX10_restsTest 2 = .ok (.putfield 78, 3) := by decide +kernel
theorem dX10_restsTest_5 : decode cX10_restsTest 5 = .ok (.aload_n 0, 1) := by decide +kernel
theorem dX10_restsTest_6 : decode cX10_restsTest 6 = .ok (.iconst 0, 1) := by decide +kernel
theorem dX10_restsTest_7 : decode cX10_restsTest 7 = .ok (.putfield 81, 3) := by decide +kernel
theorem dX10_restsTest_10 : decode cX10_restsTest 10 = .ok (.aload_n 0, 1) := by decide +kernel
theorem dX10_restsTest_11 : decode cX10_restsTest 11 = .ok (.iconst 0, 1) := by decide +kernel
theorem dX10_restsTest_12 : decode cX10_restsTest 12 = .ok (.putfield 84, 3) := by decide +kernel
theorem dX10_restsTest_15 : decode cX10_restsTest 15 = .ok (.aload_n 0, 1) := by decide +kernel
theorem dX10_restsTest_16 : decode cX10_restsTest 16 = .ok (.iconst 0, 1) := by decide +kernel
theorem dX10_restsTest_17 : decode cX10_restsTest 17 = .ok (.putfield 87, 3) := by decide +kernel
theorem dX10_restsTest_20 : decode cX10_restsTest 20 = .ok (.aload_n 0, 1) := by decide +kernel
theorem dX10_restsTest_21 : decode cX10_restsTest 21 = .ok (.iconst (-1), 1) := by decide +kernel
theorem dX10_restsTest_22 : decode cX10_restsTest 22 = .ok (.putfield 90, 3) := by decide +kernel
theorem dX10_restsTest_25 : decode cX10_restsTest 25 = .ok (.return_, 1) := by decide +kernel
theorem dX10_clear_0 : decode cX10_clear 0 = .ok (.aload_n 0, 1) := by decide +kernel
theorem dX10_clear_1 : decode cX10_clear 1 = .ok (.iconst 0, 1) := by decide +kernel
theorem dX10_clear_2 : decode cX10_clear 2 = .ok (.putfield 69, 3) := by decide +kernel
theorem dX10_clear_5 : decode cX10_clear 5 = .ok (.aload_n 0, 1) := by decide +kernel
theorem dX10_clear_6 : decode cX10_clear 6 = .ok (.getfield 93, 3) := by decide +kernel
theorem dX10_clear_9 : decode cX10_clear 9 = .ok (.istore_n 1, 1) := by decide +kernel
theorem dX10_clear_10 : decode cX10_clear 10 = .ok (.aload_n 0, 1) := by decide +kernel
theorem dX10_clear_11 : decode cX10_clear 11 = .ok (.iconst 0, 1) := by decide +kernel
theorem dX10_clear_12 : decode cX10_clear 12 = .ok (.putfield 93, 3) := by decide +kernel
theorem dX10_clear_15 : decode cX10_clear 15 = .ok (.aload_n 0, 1) := by decide +kernel
theorem dX10_clear_16 : decode cX10_clear 16 = .ok (.iconst 0, 1) := by decide +kernel
theorem dX10_clear_17 : decode cX10_clear 17 = .ok (.putfield 96, 3) := by decide +kernel
theorem dX10_clear_20 : decode cX10_clear 20 = .ok (.aload_n 0, 1) := by decide +kernel
theorem dX10_clear_21 : decode cX10_clear 21 = .ok (.iconst 0, 1) := by decide +kernel
theorem dX10_clear_22 : decode cX10_clear 22 = .ok (.putfield 99, 3) := by decide +kernel
theorem dX10_clear_25 : decode cX10_clear 25 = .ok (.iconst 0, 1) := by decide +kernel
theorem dX10_clear_26 : decode cX10_clear 26 = .ok (.istore_n 2, 1) := by decide +kernel
theorem dX10_clear_27 : decode cX10_clear 27 = .ok (.iload_n 2, 1) := by decide +kernel
theorem dX10_clear_28 : decode cX10_clear 28 = .ok (.bipush 120, 2) := by decide +kernel
theorem dX10_clear_30 : decode cX10_clear 30 = .ok (.if_icmp .ge 16, 3) := by decide +kernel
theorem dX10_clear_33 : decode cX10_clear 33 = .ok (.aload_n 0, 1) := by decide +kernel
theorem dX10_clear_34 : decode cX10_clear 34 = .ok (.getfield 32, 3) := by decide +kernel
theorem dX10_clear_37 : decode cX10_clear 37 = .ok (.iload_n 2, 1) := by decide +kernel
theorem dX10_clear_38 : decode cX10_clear 38 = .ok (.iconst 0, 1) := by decide +kernel
theorem dX10_clear_39 : decode cX10_clear 39 = .ok (.bastore, 1) := by decide +kernel
theorem dX10_clear_40 : decode cX10_clear 40 = .ok (.iinc 2 1, 3) := by decide +kernel
theorem dX10_clear_43 : decode cX10_clear 43 = .ok (.goto (-16), 3) := by decide +kernel
theorem dX10_clear_46 : decode cX10_clear 46 = .ok (.aload_n 0, 1) := by decide +kernel
theorem dX10_clear_47 : decode cX10_clear 47 = .ok (.invokevirtual 103, 3) := by decide +kernel
theorem dX10_clear_50 : decode cX10_clear 50 = .ok (.aload_n 0, 1) := by decide +kernel
theorem dX10_clear_51 : decode cX10_clear 51 = .ok (.invokevirtual 106, 3) := by decide +kernel
theorem dX10_clear_54 : decode cX10_clear 54 = .ok (.iload_n 1, 1) := by decide +kernel
theorem dX10_clear_55 : decode cX10_clear 55 = .ok (.ireturn, 1) := by decide +kernel
theorem dX10_setSums_0 : decode cX10_setSums 0 = .ok (.aload_n 0, 1) := by decide +kernel
theorem dX10_setSums_1 : decode cX10_setSums 1 = .ok (.iload_n 1, 1) := by decide +kernel
theorem dX10_setSums_2 : decode cX10_setSums 2 = .ok (.sipush (-1000), 3) := by decide +kernel
theorem dX10_setSums_5 : decode cX10_setSums 5 = .ok (.sipush 1000, 3) := by decide +kernel
theorem dX10_setSums_8 : decode cX10_setSums 8 = .ok (.invokestatic 109, 3) := by decide +kernel
theorem dX10_setSums_11 : decode cX10_setSums 11 = .ok (.ifCond .eq 28, 3) := by decide +kernel
theorem dX10_setSums_14 : decode cX10_setSums 14 = .ok (.iload_n 2, 1) := by decide +kernel
theorem dX10_setSums_15 : decode cX10_setSums 15 = .ok (.iconst 0, 1) := by decide +kernel
theorem dX10_setSums_16 : decode cX10_setSums 16 = .ok (.sipush 1000, 3) := by decide +kernel
theorem dX10_setSums_19 : decode cX10_setSums 19 = .ok (.invokestatic 109, 3) := by decide +kernel
theorem dX10_setSums_22 : decode cX10_setSums 22 = .ok (.ifCond .eq 17, 3) := by decide +kernel
theorem dX10_setSums_25 : decode cX10_setSums 25 = .ok (.iload_n 3, 1) := by decide +kernel
theorem dX10_setSums_26 : decode cX10_setSums 26 = .ok (.iconst 0, 1) := by decide +kernel
theorem dX10_setSums_27 : decode cX10_setSums 27 = .ok (.ldc 113, 2) := by decide +kernel
theorem dX10_setSums_29 : decode cX10_setSums 29 = .ok (.invokestatic 109, 3) := by decide +kernel
theorem dX10_setSums_32 : decode cX10_setSums 32 = .ok (.ifCond .eq 7, 3) := by decide +kernel
theorem dX10_setSums_35 : decode cX10_setSums 35 = .ok (.iconst 0, 1) := by decide +kernel
theorem dX10_setSums_36 : decode cX10_setSums 36 = .ok (.goto 4, 3) := by decide +kernel
theorem dX10_setSums_39 : decode cX10_setSums 39 = .ok (.iconst 1, 1) := by decide +kernel
theorem dX10_setSums_40 : decode cX10_setSums 40 = .ok (.invokevirtual 114, 3) := by decide +kernel
theorem dX10_setSums_43 : decode cX10_setSums 43 = .ok (.ifCond .ne 22, 3) := by decide +kernel
theorem dX10_setSums_46 : decode cX10_setSums 46 = .ok (.aload_n 0, 1) := by decide +kernel
theorem dX10_setSums_47 : decode cX10_setSums 47 = .ok (.iload_n 1, 1) := by decide +kernel
theorem dX10_setSums_48 : decode cX10_setSums 48 = .ok (.putfield 118, 3) := by decide +kernel
theorem dX10_setSums_51 : decode cX10_setSums 51 = .ok (.aload_n 0, 1) := by decide +kernel
theorem dX10_setSums_52 : decode cX10_setSums 52 = .ok (.iload_n 2, 1) := by decide +kernel
theorem dX10_setSums_53 : decode cX10_setSums 53 = .ok (.putfield 7, 3) := by decide +kernel
theorem dX10_setSums_56 : decode cX10_setSums 56 = .ok (.aload_n 0, 1) := by decide +kernel
theorem dX10_setSums_57 : decode cX10_setSums 57 = .ok (.iload_n 3, 1) := by decide +kernel
theorem dX10_setSums_58 : decode cX10_setSums 58 = .ok (.putfield 13, 3) := by decide +kernel
theorem dX10_setSums_61 : decode cX10_setSums 61 = .ok (.aload_n 0, 1) := by decide +kernel
theorem dX10_setSums_62 : decode cX10_setSums 62 = .ok (.invokevirtual 103, 3) := by decide +kernel
theorem dX10_setSums_65 : decode cX10_setSums 65 = .ok (.return_, 1) := by decide +kernel
theorem dX10_setTest_0 : decode cX10_setTest 0 = .ok (.aload_n 0, 1) := by decide +kernel
theorem dX10_setTest_1 : decode cX10_setTest 1 = .ok (.iload_n 1, 1) := by decide +kernel
theorem dX10_setTest_2 : decode cX10_setTest 2 = .ok (.iconst 0, 1) := by decide +kernel
theorem dX10_setTest_3 : decode cX10_setTest 3 = .ok (.sipush 1000, 3) := by decide +kernel
theorem dX10_setTest_6 : decode cX10_setTest 6 = .ok (.invokestatic 109, 3) := by decide +kernel
theorem dX10_setTest_9 : decode cX10_setTest 9 = .ok (.ifCond .eq 28, 3) := by decide +kernel
theorem dX10_setTest_12 : decode cX10_setTest 12 = .ok (.iload_n 2, 1) := by decide +kernel
theorem dX10_setTest_13 : decode cX10_setTest 13 = .ok (.iconst 0, 1) := by decide +kernel
theorem dX10_setTest_14 : decode cX10_setTest 14 = .ok (.sipush 1000, 3) := by decide +kernel
theorem dX10_setTest_17 : decode cX10_setTest 17 = .ok (.invokestatic 109, 3) := by decide +kernel
theorem dX10_setTest_20 : decode cX10_setTest 20 = .ok (.ifCond .eq 17, 3) := by decide +kernel
theorem dX10_setTest_23 : decode cX10_setTest 23 = .ok (.iload_n 3, 1) := by decide +kernel
theorem dX10_setTest_24 : decode cX10_setTest 24 = .ok (.iconst 0, 1) := by decide +kernel
theorem dX10_setTest_25 : decode cX10_setTest 25 = .ok (.ldc 113, 2) := by decide +kernel
theorem dX10_setTest_27 : decode cX10_setTest 27 = .ok (.invokestatic 109, 3) := by decide +kernel
theorem dX10_setTest_30 : decode cX10_setTest 30 = .ok (.ifCond .eq 7, 3) := by decide +kernel
theorem dX10_setTest_33 : decode cX10_setTest 33 = .ok (.iconst 0, 1) := by decide +kernel
theorem dX10_setTest_34 : decode cX10_setTest 34 = .ok (.goto 4, 3) := by decide +kernel
theorem dX10_setTest_37 : decode cX10_setTest 37 = .ok (.iconst 1, 1) := by decide +kernel
theorem dX10_setTest_38 : decode cX10_setTest 38 = .ok (.invokevirtual 114, 3) := by decide +kernel
theorem dX10_setTest_41 : decode cX10_setTest 41 = .ok (.ifCond .ne 22, 3) := by decide +kernel
theorem dX10_setTest_44 : decode cX10_setTest 44 = .ok (.aload_n 0, 1) := by decide +kernel
theorem dX10_setTest_45 : decode cX10_setTest 45 = .ok (.iload_n 1, 1) := by decide +kernel
theorem dX10_setTest_46 : decode cX10_setTest 46 = .ok (.putfield 16, 3) := by decide +kernel
theorem dX10_setTest_49 : decode cX10_setTest 49 = .ok (.aload_n 0, 1) := by decide +kernel
theorem dX10_setTest_50 : decode cX10_setTest 50 = .ok (.iload_n 2, 1) := by decide +kernel
theorem dX10_setTest_51 : decode cX10_setTest 51 = .ok (.putfield 19, 3) := by decide +kernel
theorem dX10_setTest_54 : decode cX10_setTest 54 = .ok (.aload_n 0, 1) := by decide +kernel
theorem dX10_setTest_55 : decode cX10_setTest 55 = .ok (.iload_n 3, 1) := by decide +kernel
theorem dX10_setTest_56 : decode cX10_setTest 56 = .ok (.putfield 22, 3) := by decide +kernel
theorem dX10_setTest_59 : decode cX10_setTest 59 = .ok (.aload_n 0, 1) := by decide +kernel
theorem dX10_setTest_60 : decode cX10_setTest 60 = .ok (.invokevirtual 106, 3) := by decide +kernel
theorem dX10_setTest_63 : decode cX10_setTest 63 = .ok (.return_, 1) := by decide +kernel
theorem dX10_setPenalty_0 : decode cX10_setPenalty 0 = .ok (.aload_n 0, 1) := by decide +kernel
theorem dX10_setPenalty_1 : decode cX10_setPenalty 1 = .ok (.iload_n 1, 1) := by decide +kernel
theorem dX10_setPenalty_2 : decode cX10_setPenalty 2 = .ok (.iconst 0, 1) := by decide +kernel
theorem dX10_setPenalty_3 : decode cX10_setPenalty 3 = .ok (.ldc 113, 2) := by decide +kernel
theorem dX10_setPenalty_5 : decode cX10_setPenalty 5 = .ok (.invokestatic 109, 3) := by decide +kernel
theorem dX10_setPenalty_8 : decode cX10_setPenalty 8 = .ok (.ifCond .eq 7, 3) := by decide +kernel
theorem dX10_setPenalty_11 : decode cX10_setPenalty 11 = .ok (.iconst 0, 1) := by decide +kernel
theorem dX10_setPenalty_12 : decode cX10_setPenalty 12 = .ok (.goto 4, 3) := by decide +kernel
theorem dX10_setPenalty_15 : decode cX10_setPenalty 15 = .ok (.iconst 1, 1) := by decide +kernel
theorem dX10_setPenalty_16 : decode cX10_setPenalty 16 = .ok (.invokevirtual 114, 3) := by decide +kernel
theorem dX10_setPenalty_19 : decode cX10_setPenalty 19 = .ok (.ifCond .eq 5, 3) := by decide +kernel
theorem dX10_setPenalty_22 : decode cX10_setPenalty 22 = .ok (.iconst 0, 1) := by decide +kernel
theorem dX10_setPenalty_23 : decode cX10_setPenalty 23 = .ok (.ireturn, 1) := by decide +kernel
theorem dX10_setPenalty_24 : decode cX10_setPenalty 24 = .ok (.aload_n 0, 1) := by decide +kernel
theorem dX10_setPenalty_25 : decode cX10_setPenalty 25 = .ok (.getfield 25, 3) := by decide +kernel
theorem dX10_setPenalty_28 : decode cX10_setPenalty 28 = .ok (.istore_n 2, 1) := by decide +kernel
theorem dX10_setPenalty_29 : decode cX10_setPenalty 29 = .ok (.aload_n 0, 1) := by decide +kernel
theorem dX10_setPenalty_30 : decode cX10_setPenalty 30 = .ok (.iload_n 1, 1) := by decide +kernel
theorem dX10_setPenalty_31 : decode cX10_setPenalty 31 = .ok (.putfield 25, 3) := by decide +kernel
theorem dX10_setPenalty_34 : decode cX10_setPenalty 34 = .ok (.iload_n 2, 1) := by decide +kernel
theorem dX10_setPenalty_35 : decode cX10_setPenalty 35 = .ok (.ireturn, 1) := by decide +kernel
theorem dX10_raises_0 : decode cX10_raises 0 = .ok (.aload_n 0, 1) := by decide +kernel
theorem dX10_raises_1 : decode cX10_raises 1 = .ok (.getfield 36, 3) := by decide +kernel
theorem dX10_raises_4 : decode cX10_raises 4 = .ok (.aload_n 0, 1) := by decide +kernel
theorem dX10_raises_5 : decode cX10_raises 5 = .ok (.getfield 96, 3) := by decide +kernel
theorem dX10_raises_8 : decode cX10_raises 8 = .ok (.iload_n 1, 1) := by decide +kernel
theorem dX10_raises_9 : decode cX10_raises 9 = .ok (.iastore, 1) := by decide +kernel
theorem dX10_raises_10 : decode cX10_raises 10 = .ok (.aload_n 0, 1) := by decide +kernel
theorem dX10_raises_11 : decode cX10_raises 11 = .ok (.getfield 39, 3) := by decide +kernel
theorem dX10_raises_14 : decode cX10_raises 14 = .ok (.aload_n 0, 1) := by decide +kernel
theorem dX10_raises_15 : decode cX10_raises 15 = .ok (.getfield 96, 3) := by decide +kernel
theorem dX10_raises_18 : decode cX10_raises 18 = .ok (.aload_n 0, 1) := by decide +kernel
theorem dX10_raises_19 : decode cX10_raises 19 = .ok (.getfield 93, 3) := by decide +kernel
theorem dX10_raises_22 : decode cX10_raises 22 = .ok (.iastore, 1) := by decide +kernel
theorem dX10_raises_23 : decode cX10_raises 23 = .ok (.aload_n 0, 1) := by decide +kernel
theorem dX10_raises_24 : decode cX10_raises 24 = .ok (.getfield 42, 3) := by decide +kernel
theorem dX10_raises_27 : decode cX10_raises 27 = .ok (.aload_n 0, 1) := by decide +kernel
theorem dX10_raises_28 : decode cX10_raises 28 = .ok (.getfield 96, 3) := by decide +kernel
theorem dX10_raises_31 : decode cX10_raises 31 = .ok (.iload_n 2, 1) := by decide +kernel
theorem dX10_raises_32 : decode cX10_raises 32 = .ok (.iastore, 1) := by decide +kernel
theorem dX10_raises_33 : decode cX10_raises 33 = .ok (.aload_n 0, 1) := by decide +kernel
theorem dX10_raises_34 : decode cX10_raises 34 = .ok (.dup, 1) := by decide +kernel
theorem dX10_raises_35 : decode cX10_raises 35 = .ok (.getfield 96, 3) := by decide +kernel
theorem dX10_raises_38 : decode cX10_raises 38 = .ok (.iconst 1, 1) := by decide +kernel
theorem dX10_raises_39 : decode cX10_raises 39 = .ok (.iadd, 1) := by decide +kernel
theorem dX10_raises_40 : decode cX10_raises 40 = .ok (.putfield 96, 3) := by decide +kernel
theorem dX10_raises_43 : decode cX10_raises 43 = .ok (.return_, 1) := by decide +kernel
theorem dX10_sums_0 : decode cX10_sums 0 = .ok (.aload_n 0, 1) := by decide +kernel
theorem dX10_sums_1 : decode cX10_sums 1 = .ok (.aload_n 0, 1) := by decide +kernel
theorem dX10_sums_2 : decode cX10_sums 2 = .ok (.getfield 72, 3) := by decide +kernel
theorem dX10_sums_5 : decode cX10_sums 5 = .ok (.ifCond .ne 10, 3) := by decide +kernel
theorem dX10_sums_8 : decode cX10_sums 8 = .ok (.aload_n 0, 1) := by decide +kernel
theorem dX10_sums_9 : decode cX10_sums 9 = .ok (.getfield 93, 3) := by decide +kernel
theorem dX10_sums_12 : decode cX10_sums 12 = .ok (.goto 7, 3) := by decide +kernel
theorem dX10_sums_15 : decode cX10_sums 15 = .ok (.aload_n 0, 1) := by decide +kernel
theorem dX10_sums_16 : decode cX10_sums 16 = .ok (.getfield 121, 3) := by decide +kernel
theorem dX10_sums_19 : decode cX10_sums 19 = .ok (.putfield 121, 3) := by decide +kernel
theorem dX10_sums_22 : decode cX10_sums 22 = .ok (.aload_n 0, 1) := by decide +kernel
theorem dX10_sums_23 : decode cX10_sums 23 = .ok (.aload_n 0, 1) := by decide +kernel
theorem dX10_sums_24 : decode cX10_sums 24 = .ok (.getfield 75, 3) := by decide +kernel
theorem dX10_sums_27 : decode cX10_sums 27 = .ok (.ifCond .ne 10, 3) := by decide +kernel
theorem dX10_sums_30 : decode cX10_sums 30 = .ok (.aload_n 0, 1) := by decide +kernel
theorem dX10_sums_31 : decode cX10_sums 31 = .ok (.getfield 93, 3) := by decide +kernel
theorem dX10_sums_34 : decode cX10_sums 34 = .ok (.goto 7, 3) := by decide +kernel
theorem dX10_sums_37 : decode cX10_sums 37 = .ok (.aload_n 0, 1) := by decide +kernel
theorem dX10_sums_38 : decode cX10_sums 38 = .ok (.getfield 124, 3) := by decide +kernel
theorem dX10_sums_41 : decode cX10_sums 41 = .ok (.putfield 124, 3) := by decide +kernel
theorem dX10_sums_44 : decode cX10_sums 44 = .ok (.aload_n 0, 1) := by decide +kernel
theorem dX10_sums_45 : decode cX10_sums 45 = .ok (.dup, 1) := by decide +kernel
theorem dX10_sums_46 : decode cX10_sums 46 = .ok (.getfield 72, 3) := by decide +kernel
theorem dX10_sums_49 : decode cX10_sums 49 = .ok (.iload_n 1, 1) := by decide +kernel
theorem dX10_sums_50 : decode cX10_sums 50 = .ok (.aload_n 0, 1) := by decide +kernel
theorem dX10_sums_51 : decode cX10_sums 51 = .ok (.getfield 118, 3) := by decide +kernel
theorem dX10_sums_54 : decode cX10_sums 54 = .ok (.isub, 1) := by decide +kernel
theorem dX10_sums_55 : decode cX10_sums 55 = .ok (.aload_n 0, 1) := by decide +kernel
theorem dX10_sums_56 : decode cX10_sums 56 = .ok (.getfield 7, 3) := by decide +kernel
theorem dX10_sums_59 : decode cX10_sums 59 = .ok (.isub, 1) := by decide +kernel
theorem dX10_sums_60 : decode cX10_sums 60 = .ok (.iadd, 1) := by decide +kernel
theorem dX10_sums_61 : decode cX10_sums 61 = .ok (.putfield 72, 3) := by decide +kernel
theorem dX10_sums_64 : decode cX10_sums 64 = .ok (.aload_n 0, 1) := by decide +kernel
theorem dX10_sums_65 : decode cX10_sums 65 = .ok (.aload_n 0, 1) := by decide +kernel
theorem dX10_sums_66 : decode cX10_sums 66 = .ok (.getfield 72, 3) := by decide +kernel
theorem dX10_sums_69 : decode cX10_sums 69 = .ok (.ifCond .ge 7, 3) := by decide +kernel
theorem dX10_sums_72 : decode cX10_sums 72 = .ok (.iconst 0, 1) := by decide +kernel
theorem dX10_sums_73 : decode cX10_sums 73 = .ok (.goto 7, 3) := by decide +kernel
theorem dX10_sums_76 : decode cX10_sums 76 = .ok (.aload_n 0, 1) := by decide +kernel
theorem dX10_sums_77 : decode cX10_sums 77 = .ok (.getfield 72, 3) := by decide +kernel
theorem dX10_sums_80 : decode cX10_sums 80 = .ok (.putfield 72, 3) := by decide +kernel
theorem dX10_sums_83 : decode cX10_sums 83 = .ok (.aload_n 0, 1) := by decide +kernel
theorem dX10_sums_84 : decode cX10_sums 84 = .ok (.dup, 1) := by decide +kernel
theorem dX10_sums_85 : decode cX10_sums 85 = .ok (.getfield 75, 3) := by decide +kernel
theorem dX10_sums_88 : decode cX10_sums 88 = .ok (.aload_n 0, 1) := by decide +kernel
theorem dX10_sums_89 : decode cX10_sums 89 = .ok (.getfield 118, 3) := by decide +kernel
theorem dX10_sums_92 : decode cX10_sums 92 = .ok (.aload_n 0, 1) := by decide +kernel
theorem dX10_sums_93 : decode cX10_sums 93 = .ok (.getfield 7, 3) := by decide +kernel
theorem dX10_sums_96 : decode cX10_sums 96 = .ok (.isub, 1) := by decide +kernel
theorem dX10_sums_97 : decode cX10_sums 97 = .ok (.iload_n 1, 1) := by decide +kernel
theorem dX10_sums_98 : decode cX10_sums 98 = .ok (.isub, 1) := by decide +kernel
theorem dX10_sums_99 : decode cX10_sums 99 = .ok (.iadd, 1) := by decide +kernel
theorem dX10_sums_100 : decode cX10_sums 100 = .ok (.putfield 75, 3) := by decide +kernel
theorem dX10_sums_103 : decode cX10_sums 103 = .ok (.aload_n 0, 1) := by decide +kernel
theorem dX10_sums_104 : decode cX10_sums 104 = .ok (.aload_n 0, 1) := by decide +kernel
theorem dX10_sums_105 : decode cX10_sums 105 = .ok (.getfield 75, 3) := by decide +kernel
theorem dX10_sums_108 : decode cX10_sums 108 = .ok (.ifCond .ge 7, 3) := by decide +kernel
theorem dX10_sums_111 : decode cX10_sums 111 = .ok (.iconst 0, 1) := by decide +kernel
theorem dX10_sums_112 : decode cX10_sums 112 = .ok (.goto 7, 3) := by decide +kernel
theorem dX10_sums_115 : decode cX10_sums 115 = .ok (.aload_n 0, 1) := by decide +kernel
theorem dX10_sums_116 : decode cX10_sums 116 = .ok (.getfield 75, 3) := by decide +kernel
theorem dX10_sums_119 : decode cX10_sums 119 = .ok (.putfield 75, 3) := by decide +kernel
theorem dX10_sums_122 : decode cX10_sums 122 = .ok (.aload_n 0, 1) := by decide +kernel
theorem dX10_sums_123 : decode cX10_sums 123 = .ok (.getfield 72, 3) := by decide +kernel
theorem dX10_sums_126 : decode cX10_sums 126 = .ok (.aload_n 0, 1) := by decide +kernel
theorem dX10_sums_127 : decode cX10_sums 127 = .ok (.getfield 13, 3) := by decide +kernel
theorem dX10_sums_130 : decode cX10_sums 130 = .ok (.if_icmp .le 7, 3) := by decide +kernel
theorem dX10_sums_133 : decode cX10_sums 133 = .ok (.iconst 1, 1) := by decide +kernel
theorem dX10_sums_134 : decode cX10_sums 134 = .ok (.goto 4, 3) := by decide +kernel
theorem dX10_sums_137 : decode cX10_sums 137 = .ok (.iconst 0, 1) := by decide +kernel
theorem dX10_sums_138 : decode cX10_sums 138 = .ok (.aload_n 0, 1) := by decide +kernel
theorem dX10_sums_139 : decode cX10_sums 139 = .ok (.getfield 75, 3) := by decide +kernel
theorem dX10_sums_142 : decode cX10_sums 142 = .ok (.aload_n 0, 1) := by decide +kernel
theorem dX10_sums_143 : decode cX10_sums 143 = .ok (.getfield 13, 3) := by decide +kernel
theorem dX10_sums_146 : decode cX10_sums 146 = .ok (.if_icmp .le 7, 3) := by decide +kernel
theorem dX10_sums_149 : decode cX10_sums 149 = .ok (.iconst 2, 1) := by decide +kernel
theorem dX10_sums_150 : decode cX10_sums 150 = .ok (.goto 4, 3) := by decide +kernel
theorem dX10_sums_153 : decode cX10_sums 153 = .ok (.iconst 0, 1) := by decide +kernel
theorem dX10_sums_154 : decode cX10_sums 154 = .ok (.iadd, 1) := by decide +kernel
theorem dX10_sums_155 : decode cX10_sums 155 = .ok (.istore_n 2, 1) := by decide +kernel
theorem dX10_sums_156 : decode cX10_sums 156 = .ok (.iload_n 2, 1) := by decide +kernel
theorem dX10_sums_157 : decode cX10_sums 157 = .ok (.iconst 1, 1) := by decide +kernel
theorem dX10_sums_158 : decode cX10_sums 158 = .ok (.iand, 1) := by decide +kernel
theorem dX10_sums_159 : decode cX10_sums 159 = .ok (.iconst 1, 1) := by decide +kernel
theorem dX10_sums_160 : decode cX10_sums 160 = .ok (.if_icmp .ne 12, 3) := by decide +kernel
theorem dX10_sums_163 : decode cX10_sums 163 = .ok (.aload_n 0, 1) := by decide +kernel
theorem dX10_sums_164 : decode cX10_sums 164 = .ok (.iconst 0, 1) := by decide +kernel
theorem dX10_sums_165 : decode cX10_sums 165 = .ok (.aload_n 0, 1) := by decide +kernel
theorem dX10_sums_166 : decode cX10_sums 166 = .ok (.getfield 121, 3) := by decide +kernel
theorem dX10_sums_169 : decode cX10_sums 169 = .ok (.invokevirtual 127, 3) := by decide +kernel
theorem dX10_sums_172 : decode cX10_sums 172 = .ok (.iload_n 2, 1) := by decide +kernel
theorem dX10_sums_173 : decode cX10_sums 173 = .ok (.iconst 1, 1) := by decide +kernel
theorem dX10_sums_174 : decode cX10_sums 174 = .ok (.if_icmp .le 12, 3) := by decide +kernel
theorem dX10_sums_177 : decode cX10_sums 177 = .ok (.aload_n 0, 1) := by decide +kernel
theorem dX10_sums_178 : decode cX10_sums 178 = .ok (.iconst 1, 1) := by decide +kernel
theorem dX10_sums_179 : decode cX10_sums 179 = .ok (.aload_n 0, 1) := by decide +kernel
theorem dX10_sums_180 : decode cX10_sums 180 = .ok (.getfield 124, 3) := by decide +kernel
theorem dX10_sums_183 : decode cX10_sums 183 = .ok (.invokevirtual 127, 3) := by decide +kernel
theorem dX10_sums_186 : decode cX10_sums 186 = .ok (.iload_n 2, 1) := by decide +kernel
theorem dX10_sums_187 : decode cX10_sums 187 = .ok (.ifCond .le 7, 3) := by decide +kernel
theorem dX10_sums_190 : decode cX10_sums 190 = .ok (.aload_n 0, 1) := by decide +kernel
theorem dX10_sums_191 : decode cX10_sums 191 = .ok (.invokevirtual 103, 3) := by decide +kernel
theorem dX10_sums_194 : decode cX10_sums 194 = .ok (.iload_n 2, 1) := by decide +kernel
theorem dX10_sums_195 : decode cX10_sums 195 = .ok (.ireturn, 1) := by decide +kernel
theorem dX10_floor_0 : decode cX10_floor 0 = .ok (.iload_n 0, 1) := by decide +kernel
theorem dX10_floor_1 : decode cX10_floor 1 = .ok (.ifCond .lt 9, 3) := by decide +kernel
theorem dX10_floor_4 : decode cX10_floor 4 = .ok (.iload_n 0, 1) := by decide +kernel
theorem dX10_floor_5 : decode cX10_floor 5 = .ok (.iload_n 1, 1) := by decide +kernel
theorem dX10_floor_6 : decode cX10_floor 6 = .ok (.idiv, 1) := by decide +kernel
theorem dX10_floor_7 : decode cX10_floor 7 = .ok (.goto 12, 3) := by decide +kernel
theorem dX10_floor_10 : decode cX10_floor 10 = .ok (.iload_n 0, 1) := by decide +kernel
theorem dX10_floor_11 : decode cX10_floor 11 = .ok (.ineg, 1) := by decide +kernel
theorem dX10_floor_12 : decode cX10_floor 12 = .ok (.iload_n 1, 1) := by decide +kernel
theorem dX10_floor_13 : decode cX10_floor 13 = .ok (.iadd, 1) := by decide +kernel
theorem dX10_floor_14 : decode cX10_floor 14 = .ok (.iconst 1, 1) := by decide +kernel
theorem dX10_floor_15 : decode cX10_floor 15 = .ok (.isub, 1) := by decide +kernel
theorem dX10_floor_16 : decode cX10_floor 16 = .ok (.iload_n 1, 1) := by decide +kernel
theorem dX10_floor_17 : decode cX10_floor 17 = .ok (.idiv, 1) := by decide +kernel
theorem dX10_floor_18 : decode cX10_floor 18 = .ok (.ineg, 1) := by decide +kernel
theorem dX10_floor_19 : decode cX10_floor 19 = .ok (.ireturn, 1) := by decide +kernel
theorem dX10_tests_0 : decode cX10_tests 0 = .ok (.aload_n 0, 1) := by decide +kernel
theorem dX10_tests_1 : decode cX10_tests 1 = .ok (.getfield 78, 3) := by decide +kernel
theorem dX10_tests_4 : decode cX10_tests 4 = .ok (.ifCond .ne 13, 3) := by decide +kernel
theorem dX10_tests_7 : decode cX10_tests 7 = .ok (.aload_n 0, 1) := by decide +kernel
theorem dX10_tests_8 : decode cX10_tests 8 = .ok (.aload_n 0, 1) := by decide +kernel
theorem dX10_tests_9 : decode cX10_tests 9 = .ok (.getfield 93, 3) := by decide +kernel
theorem dX10_tests_12 : decode cX10_tests 12 = .ok (.iconst 1, 1) := by decide +kernel
theorem dX10_tests_13 : decode cX10_tests 13 = .ok (.isub, 1) := by decide +kernel
theorem dX10_tests_14 : decode cX10_tests 14 = .ok (.putfield 90, 3) := by decide +kernel
theorem dX10_tests_17 : decode cX10_tests 17 = .ok (.aload_n 0, 1) := by decide +kernel
theorem dX10_tests_18 : decode cX10_tests 18 = .ok (.dup, 1) := by decide +kernel
theorem dX10_tests_19 : decode cX10_tests 19 = .ok (.getfield 78, 3) := by decide +kernel
theorem dX10_tests_22 : decode cX10_tests 22 = .ok (.iconst 1, 1) := by decide +kernel
theorem dX10_tests_23 : decode cX10_tests 23 = .ok (.iadd, 1) := by decide +kernel
theorem dX10_tests_24 : decode cX10_tests 24 = .ok (.putfield 78, 3) := by decide +kernel
theorem dX10_tests_27 : decode cX10_tests 27 = .ok (.aload_n 0, 1) := by decide +kernel
theorem dX10_tests_28 : decode cX10_tests 28 = .ok (.dup, 1) := by decide +kernel
theorem dX10_tests_29 : decode cX10_tests 29 = .ok (.getfield 81, 3) := by decide +kernel
theorem dX10_tests_32 : decode cX10_tests 32 = .ok (.iload_n 1, 1) := by decide +kernel
theorem dX10_tests_33 : decode cX10_tests 33 = .ok (.iadd, 1) := by decide +kernel
theorem dX10_tests_34 : decode cX10_tests 34 = .ok (.putfield 81, 3) := by decide +kernel
theorem dX10_tests_37 : decode cX10_tests 37 = .ok (.aload_n 0, 1) := by decide +kernel
theorem dX10_tests_38 : decode cX10_tests 38 = .ok (.aload_n 0, 1) := by decide +kernel
theorem dX10_tests_39 : decode cX10_tests 39 = .ok (.getfield 84, 3) := by decide +kernel
theorem dX10_tests_42 : decode cX10_tests 42 = .ok (.aload_n 0, 1) := by decide +kernel
theorem dX10_tests_43 : decode cX10_tests 43 = .ok (.getfield 19, 3) := by decide +kernel
theorem dX10_tests_46 : decode cX10_tests 46 = .ok (.imul, 1) := by decide +kernel
theorem dX10_tests_47 : decode cX10_tests 47 = .ok (.sipush 1000, 3) := by decide +kernel
theorem dX10_tests_50 : decode cX10_tests 50 = .ok (.idiv, 1) := by decide +kernel
theorem dX10_tests_51 : decode cX10_tests 51 = .ok (.iload_n 1, 1) := by decide +kernel
theorem dX10_tests_52 : decode cX10_tests 52 = .ok (.iadd, 1) := by decide +kernel
theorem dX10_tests_53 : decode cX10_tests 53 = .ok (.aload_n 0, 1) := by decide +kernel
theorem dX10_tests_54 : decode cX10_tests 54 = .ok (.getfield 81, 3) := by decide +kernel
theorem dX10_tests_57 : decode cX10_tests 57 = .ok (.aload_n 0, 1) := by decide +kernel
theorem dX10_tests_58 : decode cX10_tests 58 = .ok (.getfield 78, 3) := by decide +kernel
theorem dX10_tests_61 : decode cX10_tests 61 = .ok (.invokestatic 131, 3) := by decide +kernel
theorem dX10_tests_64 : decode cX10_tests 64 = .ok (.isub, 1) := by decide +kernel
theorem dX10_tests_65 : decode cX10_tests 65 = .ok (.aload_n 0, 1) := by decide +kernel
theorem dX10_tests_66 : decode cX10_tests 66 = .ok (.getfield 16, 3) := by decide +kernel
theorem dX10_tests_69 : decode cX10_tests 69 = .ok (.isub, 1) := by decide +kernel
theorem dX10_tests_70 : decode cX10_tests 70 = .ok (.putfield 84, 3) := by decide +kernel
theorem dX10_tests_73 : decode cX10_tests 73 = .ok (.aload_n 0, 1) := by decide +kernel
theorem dX10_tests_74 : decode cX10_tests 74 = .ok (.getfield 84, 3) := by decide +kernel
theorem dX10_tests_77 : decode cX10_tests 77 = .ok (.aload_n 0, 1) := by decide +kernel
theorem dX10_tests_78 : decode cX10_tests 78 = .ok (.getfield 87, 3) := by decide +kernel
theorem dX10_tests_81 : decode cX10_tests 81 = .ok (.if_icmp .ge 19, 3) := by decide +kernel
theorem dX10_tests_84 : decode cX10_tests 84 = .ok (.aload_n 0, 1) := by decide +kernel
theorem dX10_tests_85 : decode cX10_tests 85 = .ok (.aload_n 0, 1) := by decide +kernel
theorem dX10_tests_86 : decode cX10_tests 86 = .ok (.getfield 84, 3) := by decide +kernel
theorem dX10_tests_89 : decode cX10_tests 89 = .ok (.putfield 87, 3) := by decide +kernel
theorem dX10_tests_92 : decode cX10_tests 92 = .ok (.aload_n 0, 1) := by decide +kernel
theorem dX10_tests_93 : decode cX10_tests 93 = .ok (.aload_n 0, 1) := by decide +kernel
theorem dX10_tests_94 : decode cX10_tests 94 = .ok (.getfield 93, 3) := by decide +kernel
theorem dX10_tests_97 : decode cX10_tests 97 = .ok (.putfield 90, 3) := by decide +kernel
theorem dX10_tests_100 : decode cX10_tests 100 = .ok (.aload_n 0, 1) := by decide +kernel
theorem dX10_tests_101 : decode cX10_tests 101 = .ok (.getfield 84, 3) := by decide +kernel
theorem dX10_tests_104 : decode cX10_tests 104 = .ok (.aload_n 0, 1) := by decide +kernel
theorem dX10_tests_105 : decode cX10_tests 105 = .ok (.getfield 87, 3) := by decide +kernel
theorem dX10_tests_108 : decode cX10_tests 108 = .ok (.isub, 1) := by decide +kernel
theorem dX10_tests_109 : decode cX10_tests 109 = .ok (.aload_n 0, 1) := by decide +kernel
theorem dX10_tests_110 : decode cX10_tests 110 = .ok (.getfield 22, 3) := by decide +kernel
theorem dX10_tests_113 : decode cX10_tests 113 = .ok (.if_icmp .gt 5, 3) := by decide +kernel
theorem dX10_tests_116 : decode cX10_tests 116 = .ok (.iconst 0, 1) := by decide +kernel
theorem dX10_tests_117 : decode cX10_tests 117 = .ok (.ireturn, 1) := by decide +kernel
theorem dX10_tests_118 : decode cX10_tests 118 = .ok (.aload_n 0, 1) := by decide +kernel
theorem dX10_tests_119 : decode cX10_tests 119 = .ok (.iconst 2, 1) := by decide +kernel
theorem dX10_tests_120 : decode cX10_tests 120 = .ok (.aload_n 0, 1) := by decide +kernel
theorem dX10_tests_121 : decode cX10_tests 121 = .ok (.getfield 90, 3) := by decide +kernel
theorem dX10_tests_124 : decode cX10_tests 124 = .ok (.iconst 1, 1) := by decide +kernel
theorem dX10_tests_125 : decode cX10_tests 125 = .ok (.iadd, 1) := by decide +kernel
theorem dX10_tests_126 : decode cX10_tests 126 = .ok (.invokevirtual 127, 3) := by decide +kernel
theorem dX10_tests_129 : decode cX10_tests 129 = .ok (.aload_n 0, 1) := by decide +kernel
theorem dX10_tests_130 : decode cX10_tests 130 = .ok (.invokevirtual 106, 3) := by decide +kernel
theorem dX10_tests_133 : decode cX10_tests 133 = .ok (.iconst 4, 1) := by decide +kernel
theorem dX10_tests_134 : decode cX10_tests 134 = .ok (.ireturn, 1) := by decide +kernel
theorem dX10_puts_0 : decode cX10_puts 0 = .ok (.aload_n 0, 1) := by decide +kernel
theorem dX10_puts_1 : decode cX10_puts 1 = .ok (.getfield 28, 3) := by decide +kernel
theorem dX10_puts_4 : decode cX10_puts 4 = .ok (.aload_n 0, 1) := by decide +kernel
theorem dX10_puts_5 : decode cX10_puts 5 = .ok (.getfield 93, 3) := by decide +kernel
theorem dX10_puts_8 : decode cX10_puts 8 = .ok (.iload_n 1, 1) := by decide +kernel
theorem dX10_puts_9 : decode cX10_puts 9 = .ok (.iastore, 1) := by decide +kernel
theorem dX10_puts_10 : decode cX10_puts 10 = .ok (.aload_n 0, 1) := by decide +kernel
theorem dX10_puts_11 : decode cX10_puts 11 = .ok (.getfield 32, 3) := by decide +kernel
theorem dX10_puts_14 : decode cX10_puts 14 = .ok (.aload_n 0, 1) := by decide +kernel
theorem dX10_puts_15 : decode cX10_puts 15 = .ok (.getfield 93, 3) := by decide +kernel
theorem dX10_puts_18 : decode cX10_puts 18 = .ok (.iconst 0, 1) := by decide +kernel
theorem dX10_puts_19 : decode cX10_puts 19 = .ok (.bastore, 1) := by decide +kernel
theorem dX10_puts_20 : decode cX10_puts 20 = .ok (.aload_n 0, 1) := by decide +kernel
theorem dX10_puts_21 : decode cX10_puts 21 = .ok (.iload_n 1, 1) := by decide +kernel
theorem dX10_puts_22 : decode cX10_puts 22 = .ok (.invokevirtual 135, 3) := by decide +kernel
theorem dX10_puts_25 : decode cX10_puts 25 = .ok (.istore_n 2, 1) := by decide +kernel
theorem dX10_puts_26 : decode cX10_puts 26 = .ok (.iload_n 2, 1) := by decide +kernel
theorem dX10_puts_27 : decode cX10_puts 27 = .ok (.aload_n 0, 1) := by decide +kernel
theorem dX10_puts_28 : decode cX10_puts 28 = .ok (.iload_n 1, 1) := by decide +kernel
theorem dX10_puts_29 : decode cX10_puts 29 = .ok (.invokevirtual 139, 3) := by decide +kernel
theorem dX10_puts_32 : decode cX10_puts 32 = .ok (.iadd, 1) := by decide +kernel
theorem dX10_puts_33 : decode cX10_puts 33 = .ok (.istore_n 2, 1) := by decide +kernel
theorem dX10_puts_34 : decode cX10_puts 34 = .ok (.aload_n 0, 1) := by decide +kernel
theorem dX10_puts_35 : decode cX10_puts 35 = .ok (.dup, 1) := by decide +kernel
theorem dX10_puts_36 : decode cX10_puts 36 = .ok (.getfield 93, 3) := by decide +kernel
theorem dX10_puts_39 : decode cX10_puts 39 = .ok (.iconst 1, 1) := by decide +kernel
theorem dX10_puts_40 : decode cX10_puts 40 = .ok (.iadd, 1) := by decide +kernel
theorem dX10_puts_41 : decode cX10_puts 41 = .ok (.putfield 93, 3) := by decide +kernel
theorem dX10_puts_44 : decode cX10_puts 44 = .ok (.aload_n 0, 1) := by decide +kernel
theorem dX10_puts_45 : decode cX10_puts 45 = .ok (.iconst 0, 1) := by decide +kernel
theorem dX10_puts_46 : decode cX10_puts 46 = .ok (.putfield 99, 3) := by decide +kernel
theorem dX10_puts_49 : decode cX10_puts 49 = .ok (.iload_n 2, 1) := by decide +kernel
theorem dX10_puts_50 : decode cX10_puts 50 = .ok (.ireturn, 1) := by decide +kernel
theorem dX10_isValue_0 : decode cX10_isValue 0 = .ok (.iload_n 0, 1) := by decide +kernel
theorem dX10_isValue_1 : decode cX10_isValue 1 = .ok (.sipush (-1000), 3) := by decide +kernel
theorem dX10_isValue_4 : decode cX10_isValue 4 = .ok (.sipush 1000, 3) := by decide +kernel
theorem dX10_isValue_7 : decode cX10_isValue 7 = .ok (.invokestatic 109, 3) := by decide +kernel
theorem dX10_isValue_10 : decode cX10_isValue 10 = .ok (.ireturn, 1) := by decide +kernel
theorem dX10_add_0 : decode cX10_add 0 = .ok (.aload_n 0, 1) := by decide +kernel
theorem dX10_add_1 : decode cX10_add 1 = .ok (.iload_n 1, 1) := by decide +kernel
theorem dX10_add_2 : decode cX10_add 2 = .ok (.invokestatic 142, 3) := by decide +kernel
theorem dX10_add_5 : decode cX10_add 5 = .ok (.ifCond .ne 7, 3) := by decide +kernel
theorem dX10_add_8 : decode cX10_add 8 = .ok (.iconst 1, 1) := by decide +kernel
theorem dX10_add_9 : decode cX10_add 9 = .ok (.goto 17, 3) := by decide +kernel
theorem dX10_add_12 : decode cX10_add 12 = .ok (.aload_n 0, 1) := by decide +kernel
theorem dX10_add_13 : decode cX10_add 13 = .ok (.getfield 93, 3) := by decide +kernel
theorem dX10_add_16 : decode cX10_add 16 = .ok (.bipush 120, 2) := by decide +kernel
theorem dX10_add_18 : decode cX10_add 18 = .ok (.if_icmp .ne 7, 3) := by decide +kernel
theorem dX10_add_21 : decode cX10_add 21 = .ok (.iconst 2, 1) := by decide +kernel
theorem dX10_add_22 : decode cX10_add 22 = .ok (.goto 4, 3) := by decide +kernel
theorem dX10_add_25 : decode cX10_add 25 = .ok (.iconst 0, 1) := by decide +kernel
theorem dX10_add_26 : decode cX10_add 26 = .ok (.invokevirtual 114, 3) := by decide +kernel
theorem dX10_add_29 : decode cX10_add 29 = .ok (.ifCond .eq 7, 3) := by decide +kernel
theorem dX10_add_32 : decode cX10_add 32 = .ok (.iconst 0, 1) := by decide +kernel
theorem dX10_add_33 : decode cX10_add 33 = .ok (.goto 8, 3) := by decide +kernel
theorem dX10_add_36 : decode cX10_add 36 = .ok (.aload_n 0, 1) := by decide +kernel
theorem dX10_add_37 : decode cX10_add 37 = .ok (.iload_n 1, 1) := by decide +kernel
theorem dX10_add_38 : decode cX10_add 38 = .ok (.invokevirtual 145, 3) := by decide +kernel
theorem dX10_add_41 : decode cX10_add 41 = .ok (.ireturn, 1) := by decide +kernel
theorem dX10_addRun_0 : decode cX10_addRun 0 = .ok (.iload_n 2, 1) := by decide +kernel
theorem dX10_addRun_1 : decode cX10_addRun 1 = .ok (.sipush (-1000), 3) := by decide +kernel
theorem dX10_addRun_4 : decode cX10_addRun 4 = .ok (.sipush 1000, 3) := by decide +kernel
theorem dX10_addRun_7 : decode cX10_addRun 7 = .ok (.invokestatic 109, 3) := by decide +kernel
theorem dX10_addRun_10 : decode cX10_addRun 10 = .ok (.ifCond .eq 37, 3) := by decide +kernel
theorem dX10_addRun_13 : decode cX10_addRun 13 = .ok (.iload_n 3, 1) := by decide +kernel
theorem dX10_addRun_14 : decode cX10_addRun 14 = .ok (.iconst 1, 1) := by decide +kernel
theorem dX10_addRun_15 : decode cX10_addRun 15 = .ok (.bipush 40, 2) := by decide +kernel
theorem dX10_addRun_17 : decode cX10_addRun 17 = .ok (.invokestatic 109, 3) := by decide +kernel
theorem dX10_addRun_20 : decode cX10_addRun 20 = .ok (.ifCond .eq 27, 3) := by decide +kernel
theorem dX10_addRun_23 : decode cX10_addRun 23 = .ok (.iload_n 1, 1) := by decide +kernel
theorem dX10_addRun_24 : decode cX10_addRun 24 = .ok (.invokestatic 142, 3) := by decide +kernel
theorem dX10_addRun_27 : decode cX10_addRun 27 = .ok (.ifCond .eq 20, 3) := by decide +kernel
theorem dX10_addRun_30 : decode cX10_addRun 30 = .ok (.iload_n 1, 1) := by decide +kernel
theorem dX10_addRun_31 : decode cX10_addRun 31 = .ok (.iload_n 2, 1) := by decide +kernel
theorem dX10_addRun_32 : decode cX10_addRun 32 = .ok (.iload_n 3, 1) := by decide +kernel
theorem dX10_addRun_33 : decode cX10_addRun 33 = .ok (.iconst 1, 1) := by decide +kernel
theorem dX10_addRun_34 : decode cX10_addRun 34 = .ok (.isub, 1) := by decide +kernel
theorem dX10_addRun_35 : decode cX10_addRun 35 = .ok (.imul, 1) := by decide +kernel
theorem dX10_addRun_36 : decode cX10_addRun 36 = .ok (.iadd, 1) := by decide +kernel
theorem dX10_addRun_37 : decode cX10_addRun 37 = .ok (.invokestatic 142, 3) := by decide +kernel
theorem dX10_addRun_40 : decode cX10_addRun 40 = .ok (.ifCond .eq 7, 3) := by decide +kernel
theorem dX10_addRun_43 : decode cX10_addRun 43 = .ok (.iconst 1, 1) := by decide +kernel
theorem dX10_addRun_44 : decode cX10_addRun 44 = .ok (.goto 4, 3) := by decide +kernel
theorem dX10_addRun_47 : decode cX10_addRun 47 = .ok (.iconst 0, 1) := by decide +kernel
theorem dX10_addRun_48 : decode cX10_addRun 48 = .ok (.istore 4, 2) := by decide +kernel
theorem dX10_addRun_50 : decode cX10_addRun 50 = .ok (.aload_n 0, 1) := by decide +kernel
theorem dX10_addRun_51 : decode cX10_addRun 51 = .ok (.iload 4, 2) := by decide +kernel
theorem dX10_addRun_53 : decode cX10_addRun 53 = .ok (.ifCond .ne 7, 3) := by decide +kernel
theorem dX10_addRun_56 : decode cX10_addRun 56 = .ok (.iconst 1, 1) := by decide +kernel
theorem dX10_addRun_57 : decode cX10_addRun 57 = .ok (.goto 19, 3) := by decide +kernel
theorem dX10_addRun_60 : decode cX10_addRun 60 = .ok (.aload_n 0, 1) := by decide +kernel
theorem dX10_addRun_61 : decode cX10_addRun 61 = .ok (.getfield 93, 3) := by decide +kernel
theorem dX10_addRun_64 : decode cX10_addRun 64 = .ok (.iload_n 3, 1) := by decide +kernel
theorem dX10_addRun_65 : decode cX10_addRun 65 = .ok (.iadd, 1) := by decide +kernel
theorem dX10_addRun_66 : decode cX10_addRun 66 = .ok (.bipush 120, 2) := by decide +kernel
theorem dX10_addRun_68 : decode cX10_addRun 68 = .ok (.if_icmp .le 7, 3) := by decide +kernel
