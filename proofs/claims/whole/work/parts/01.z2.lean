theorem dX10_addRun_71 : decode cX10_addRun 71 = .ok (.iconst 2, 1) := by decide +kernel
theorem dX10_addRun_72 : decode cX10_addRun 72 = .ok (.goto 4, 3) := by decide +kernel
theorem dX10_addRun_75 : decode cX10_addRun 75 = .ok (.iconst 0, 1) := by decide +kernel
theorem dX10_addRun_76 : decode cX10_addRun 76 = .ok (.invokevirtual 114, 3) := by decide +kernel
theorem dX10_addRun_79 : decode cX10_addRun 79 = .ok (.ifCond .eq 5, 3) := by decide +kernel
theorem dX10_addRun_82 : decode cX10_addRun 82 = .ok (.iconst 0, 1) := by decide +kernel
theorem dX10_addRun_83 : decode cX10_addRun 83 = .ok (.ireturn, 1) := by decide +kernel
theorem dX10_addRun_84 : decode cX10_addRun 84 = .ok (.aload_n 0, 1) := by decide +kernel
theorem dX10_addRun_85 : decode cX10_addRun 85 = .ok (.getfield 96, 3) := by decide +kernel
theorem dX10_addRun_88 : decode cX10_addRun 88 = .ok (.istore 5, 2) := by decide +kernel
theorem dX10_addRun_90 : decode cX10_addRun 90 = .ok (.iconst 0, 1) := by decide +kernel
theorem dX10_addRun_91 : decode cX10_addRun 91 = .ok (.istore 6, 2) := by decide +kernel
theorem dX10_addRun_93 : decode cX10_addRun 93 = .ok (.iload 6, 2) := by decide +kernel
theorem dX10_addRun_95 : decode cX10_addRun 95 = .ok (.iload_n 3, 1) := by decide +kernel
theorem dX10_addRun_96 : decode cX10_addRun 96 = .ok (.if_icmp .ge 20, 3) := by decide +kernel
theorem dX10_addRun_99 : decode cX10_addRun 99 = .ok (.aload_n 0, 1) := by decide +kernel
theorem dX10_addRun_100 : decode cX10_addRun 100 = .ok (.iload_n 1, 1) := by decide +kernel
theorem dX10_addRun_101 : decode cX10_addRun 101 = .ok (.iload 6, 2) := by decide +kernel
theorem dX10_addRun_103 : decode cX10_addRun 103 = .ok (.iload_n 2, 1) := by decide +kernel
theorem dX10_addRun_104 : decode cX10_addRun 104 = .ok (.imul, 1) := by decide +kernel
theorem dX10_addRun_105 : decode cX10_addRun 105 = .ok (.iadd, 1) := by decide +kernel
theorem dX10_addRun_106 : decode cX10_addRun 106 = .ok (.invokevirtual 145, 3) := by decide +kernel
theorem dX10_addRun_109 : decode cX10_addRun 109 = .ok (.pop, 1) := by decide +kernel
theorem dX10_addRun_110 : decode cX10_addRun 110 = .ok (.iinc 6 1, 3) := by decide +kernel
theorem dX10_addRun_113 : decode cX10_addRun 113 = .ok (.goto (-20), 3) := by decide +kernel
theorem dX10_addRun_116 : decode cX10_addRun 116 = .ok (.aload_n 0, 1) := by decide +kernel
theorem dX10_addRun_117 : decode cX10_addRun 117 = .ok (.getfield 96, 3) := by decide +kernel
theorem dX10_addRun_120 : decode cX10_addRun 120 = .ok (.iload 5, 2) := by decide +kernel
theorem dX10_addRun_122 : decode cX10_addRun 122 = .ok (.isub, 1) := by decide +kernel
theorem dX10_addRun_123 : decode cX10_addRun 123 = .ok (.ireturn, 1) := by decide +kernel
theorem dX10_size_0 : decode cX10_size 0 = .ok (.aload_n 0, 1) := by decide +kernel
theorem dX10_size_1 : decode cX10_size 1 = .ok (.aload_n 0, 1) := by decide +kernel
theorem dX10_size_2 : decode cX10_size 2 = .ok (.getfield 93, 3) := by decide +kernel
theorem dX10_size_5 : decode cX10_size 5 = .ok (.invokevirtual 148, 3) := by decide +kernel
theorem dX10_size_8 : decode cX10_size 8 = .ok (.ireturn, 1) := by decide +kernel
theorem dX10_value_0 : decode cX10_value 0 = .ok (.aload_n 0, 1) := by decide +kernel
theorem dX10_value_1 : decode cX10_value 1 = .ok (.iload_n 1, 1) := by decide +kernel
theorem dX10_value_2 : decode cX10_value 2 = .ok (.iconst 0, 1) := by decide +kernel
theorem dX10_value_3 : decode cX10_value 3 = .ok (.aload_n 0, 1) := by decide +kernel
theorem dX10_value_4 : decode cX10_value 4 = .ok (.getfield 93, 3) := by decide +kernel
theorem dX10_value_7 : decode cX10_value 7 = .ok (.iconst 1, 1) := by decide +kernel
theorem dX10_value_8 : decode cX10_value 8 = .ok (.isub, 1) := by decide +kernel
theorem dX10_value_9 : decode cX10_value 9 = .ok (.invokestatic 109, 3) := by decide +kernel
theorem dX10_value_12 : decode cX10_value 12 = .ok (.ifCond .eq 7, 3) := by decide +kernel
theorem dX10_value_15 : decode cX10_value 15 = .ok (.iconst 0, 1) := by decide +kernel
theorem dX10_value_16 : decode cX10_value 16 = .ok (.goto 4, 3) := by decide +kernel
theorem dX10_value_19 : decode cX10_value 19 = .ok (.iconst 1, 1) := by decide +kernel
theorem dX10_value_20 : decode cX10_value 20 = .ok (.invokevirtual 114, 3) := by decide +kernel
theorem dX10_value_23 : decode cX10_value 23 = .ok (.ifCond .eq 7, 3) := by decide +kernel
theorem dX10_value_26 : decode cX10_value 26 = .ok (.iconst 0, 1) := by decide +kernel
theorem dX10_value_27 : decode cX10_value 27 = .ok (.goto 9, 3) := by decide +kernel
theorem dX10_value_30 : decode cX10_value 30 = .ok (.aload_n 0, 1) := by decide +kernel
theorem dX10_value_31 : decode cX10_value 31 = .ok (.getfield 28, 3) := by decide +kernel
theorem dX10_value_34 : decode cX10_value 34 = .ok (.iload_n 1, 1) := by decide +kernel
theorem dX10_value_35 : decode cX10_value 35 = .ok (.iaload, 1) := by decide +kernel
theorem dX10_value_36 : decode cX10_value 36 = .ok (.ireturn, 1) := by decide +kernel
theorem dX10_highSum_0 : decode cX10_highSum 0 = .ok (.aload_n 0, 1) := by decide +kernel
theorem dX10_highSum_1 : decode cX10_highSum 1 = .ok (.aload_n 0, 1) := by decide +kernel
theorem dX10_highSum_2 : decode cX10_highSum 2 = .ok (.getfield 72, 3) := by decide +kernel
theorem dX10_highSum_5 : decode cX10_highSum 5 = .ok (.invokevirtual 148, 3) := by decide +kernel
theorem dX10_highSum_8 : decode cX10_highSum 8 = .ok (.ireturn, 1) := by decide +kernel
theorem dX10_lowSum_0 : decode cX10_lowSum 0 = .ok (.aload_n 0, 1) := by decide +kernel
theorem dX10_lowSum_1 : decode cX10_lowSum 1 = .ok (.aload_n 0, 1) := by decide +kernel
theorem dX10_lowSum_2 : decode cX10_lowSum 2 = .ok (.getfield 75, 3) := by decide +kernel
theorem dX10_lowSum_5 : decode cX10_lowSum 5 = .ok (.invokevirtual 148, 3) := by decide +kernel
theorem dX10_lowSum_8 : decode cX10_lowSum 8 = .ok (.ireturn, 1) := by decide +kernel
theorem dX10_testSum_0 : decode cX10_testSum 0 = .ok (.aload_n 0, 1) := by decide +kernel
theorem dX10_testSum_1 : decode cX10_testSum 1 = .ok (.aload_n 0, 1) := by decide +kernel
theorem dX10_testSum_2 : decode cX10_testSum 2 = .ok (.getfield 84, 3) := by decide +kernel
theorem dX10_testSum_5 : decode cX10_testSum 5 = .ok (.aload_n 0, 1) := by decide +kernel
theorem dX10_testSum_6 : decode cX10_testSum 6 = .ok (.getfield 87, 3) := by decide +kernel
theorem dX10_testSum_9 : decode cX10_testSum 9 = .ok (.isub, 1) := by decide +kernel
theorem dX10_testSum_10 : decode cX10_testSum 10 = .ok (.invokevirtual 148, 3) := by decide +kernel
theorem dX10_testSum_13 : decode cX10_testSum 13 = .ok (.ireturn, 1) := by decide +kernel
theorem dX10_alarms_0 : decode cX10_alarms 0 = .ok (.aload_n 0, 1) := by decide +kernel
theorem dX10_alarms_1 : decode cX10_alarms 1 = .ok (.aload_n 0, 1) := by decide +kernel
theorem dX10_alarms_2 : decode cX10_alarms 2 = .ok (.getfield 96, 3) := by decide +kernel
theorem dX10_alarms_5 : decode cX10_alarms 5 = .ok (.invokevirtual 148, 3) := by decide +kernel
theorem dX10_alarms_8 : decode cX10_alarms 8 = .ok (.ireturn, 1) := by decide +kernel
theorem dX10_ofAlarm_0 : decode cX10_ofAlarm 0 = .ok (.aload_n 0, 1) := by decide +kernel
theorem dX10_ofAlarm_1 : decode cX10_ofAlarm 1 = .ok (.iload_n 2, 1) := by decide +kernel
theorem dX10_ofAlarm_2 : decode cX10_ofAlarm 2 = .ok (.iconst 0, 1) := by decide +kernel
theorem dX10_ofAlarm_3 : decode cX10_ofAlarm 3 = .ok (.aload_n 0, 1) := by decide +kernel
theorem dX10_ofAlarm_4 : decode cX10_ofAlarm 4 = .ok (.getfield 96, 3) := by decide +kernel
theorem dX10_ofAlarm_7 : decode cX10_ofAlarm 7 = .ok (.iconst 1, 1) := by decide +kernel
theorem dX10_ofAlarm_8 : decode cX10_ofAlarm 8 = .ok (.isub, 1) := by decide +kernel
theorem dX10_ofAlarm_9 : decode cX10_ofAlarm 9 = .ok (.invokestatic 109, 3) := by decide +kernel
theorem dX10_ofAlarm_12 : decode cX10_ofAlarm 12 = .ok (.ifCond .eq 7, 3) := by decide +kernel
theorem dX10_ofAlarm_15 : decode cX10_ofAlarm 15 = .ok (.iconst 0, 1) := by decide +kernel
theorem dX10_ofAlarm_16 : decode cX10_ofAlarm 16 = .ok (.goto 4, 3) := by decide +kernel
theorem dX10_ofAlarm_19 : decode cX10_ofAlarm 19 = .ok (.iconst 1, 1) := by decide +kernel
theorem dX10_ofAlarm_20 : decode cX10_ofAlarm 20 = .ok (.invokevirtual 114, 3) := by decide +kernel
theorem dX10_ofAlarm_23 : decode cX10_ofAlarm 23 = .ok (.ifCond .eq 7, 3) := by decide +kernel
theorem dX10_ofAlarm_26 : decode cX10_ofAlarm 26 = .ok (.iconst 0, 1) := by decide +kernel
theorem dX10_ofAlarm_27 : decode cX10_ofAlarm 27 = .ok (.goto 6, 3) := by decide +kernel
theorem dX10_ofAlarm_30 : decode cX10_ofAlarm 30 = .ok (.aload_n 1, 1) := by decide +kernel
theorem dX10_ofAlarm_31 : decode cX10_ofAlarm 31 = .ok (.iload_n 2, 1) := by decide +kernel
theorem dX10_ofAlarm_32 : decode cX10_ofAlarm 32 = .ok (.iaload, 1) := by decide +kernel
theorem dX10_ofAlarm_33 : decode cX10_ofAlarm 33 = .ok (.ireturn, 1) := by decide +kernel
theorem dX10_alarmKind_0 : decode cX10_alarmKind 0 = .ok (.aload_n 0, 1) := by decide +kernel
theorem dX10_alarmKind_1 : decode cX10_alarmKind 1 = .ok (.aload_n 0, 1) := by decide +kernel
theorem dX10_alarmKind_2 : decode cX10_alarmKind 2 = .ok (.getfield 36, 3) := by decide +kernel
theorem dX10_alarmKind_5 : decode cX10_alarmKind 5 = .ok (.iload_n 1, 1) := by decide +kernel
theorem dX10_alarmKind_6 : decode cX10_alarmKind 6 = .ok (.invokevirtual 151, 3) := by decide +kernel
theorem dX10_alarmKind_9 : decode cX10_alarmKind 9 = .ok (.ireturn, 1) := by decide +kernel
theorem dX10_alarmNumber_0 : decode cX10_alarmNumber 0 = .ok (.aload_n 0, 1) := by decide +kernel
theorem dX10_alarmNumber_1 : decode cX10_alarmNumber 1 = .ok (.aload_n 0, 1) := by decide +kernel
theorem dX10_alarmNumber_2 : decode cX10_alarmNumber 2 = .ok (.getfield 39, 3) := by decide +kernel
theorem dX10_alarmNumber_5 : decode cX10_alarmNumber 5 = .ok (.iload_n 1, 1) := by decide +kernel
theorem dX10_alarmNumber_6 : decode cX10_alarmNumber 6 = .ok (.invokevirtual 151, 3) := by decide +kernel
theorem dX10_alarmNumber_9 : decode cX10_alarmNumber 9 = .ok (.ireturn, 1) := by decide +kernel
theorem dX10_alarmStart_0 : decode cX10_alarmStart 0 = .ok (.aload_n 0, 1) := by decide +kernel
theorem dX10_alarmStart_1 : decode cX10_alarmStart 1 = .ok (.aload_n 0, 1) := by decide +kernel
theorem dX10_alarmStart_2 : decode cX10_alarmStart 2 = .ok (.getfield 42, 3) := by decide +kernel
theorem dX10_alarmStart_5 : decode cX10_alarmStart 5 = .ok (.iload_n 1, 1) := by decide +kernel
theorem dX10_alarmStart_6 : decode cX10_alarmStart 6 = .ok (.invokevirtual 151, 3) := by decide +kernel
theorem dX10_alarmStart_9 : decode cX10_alarmStart 9 = .ok (.ireturn, 1) := by decide +kernel
theorem dX10_sorts_0 : decode cX10_sorts 0 = .ok (.iload_n 2, 1) := by decide +kernel
theorem dX10_sorts_1 : decode cX10_sorts 1 = .ok (.istore_n 3, 1) := by decide +kernel
theorem dX10_sorts_2 : decode cX10_sorts 2 = .ok (.iload_n 3, 1) := by decide +kernel
theorem dX10_sorts_3 : decode cX10_sorts 3 = .ok (.ifCond .le 35, 3) := by decide +kernel
theorem dX10_sorts_6 : decode cX10_sorts 6 = .ok (.aload_n 0, 1) := by decide +kernel
theorem dX10_sorts_7 : decode cX10_sorts 7 = .ok (.getfield 48, 3) := by decide +kernel
theorem dX10_sorts_10 : decode cX10_sorts 10 = .ok (.iload_n 3, 1) := by decide +kernel
theorem dX10_sorts_11 : decode cX10_sorts 11 = .ok (.iconst 1, 1) := by decide +kernel
theorem dX10_sorts_12 : decode cX10_sorts 12 = .ok (.isub, 1) := by decide +kernel
theorem dX10_sorts_13 : decode cX10_sorts 13 = .ok (.iaload, 1) := by decide +kernel
theorem dX10_sorts_14 : decode cX10_sorts 14 = .ok (.iload_n 1, 1) := by decide +kernel
theorem dX10_sorts_15 : decode cX10_sorts 15 = .ok (.if_icmp .le 23, 3) := by decide +kernel
theorem dX10_sorts_18 : decode cX10_sorts 18 = .ok (.aload_n 0, 1) := by decide +kernel
theorem dX10_sorts_19 : decode cX10_sorts 19 = .ok (.getfield 48, 3) := by decide +kernel
theorem dX10_sorts_22 : decode cX10_sorts 22 = .ok (.iload_n 3, 1) := by decide +kernel
theorem dX10_sorts_23 : decode cX10_sorts 23 = .ok (.aload_n 0, 1) := by decide +kernel
theorem dX10_sorts_24 : decode cX10_sorts 24 = .ok (.getfield 48, 3) := by decide +kernel
theorem dX10_sorts_27 : decode cX10_sorts 27 = .ok (.iload_n 3, 1) := by decide +kernel
theorem dX10_sorts_28 : decode cX10_sorts 28 = .ok (.iconst 1, 1) := by decide +kernel
theorem dX10_sorts_29 : decode cX10_sorts 29 = .ok (.isub, 1) := by decide +kernel
theorem dX10_sorts_30 : decode cX10_sorts 30 = .ok (.iaload, 1) := by decide +kernel
theorem dX10_sorts_31 : decode cX10_sorts 31 = .ok (.iastore, 1) := by decide +kernel
theorem dX10_sorts_32 : decode cX10_sorts 32 = .ok (.iinc 3 (-1), 3) := by decide +kernel
theorem dX10_sorts_35 : decode cX10_sorts 35 = .ok (.goto (-33), 3) := by decide +kernel
theorem dX10_sorts_38 : decode cX10_sorts 38 = .ok (.aload_n 0, 1) := by decide +kernel
theorem dX10_sorts_39 : decode cX10_sorts 39 = .ok (.getfield 48, 3) := by decide +kernel
theorem dX10_sorts_42 : decode cX10_sorts 42 = .ok (.iload_n 3, 1) := by decide +kernel
theorem dX10_sorts_43 : decode cX10_sorts 43 = .ok (.iload_n 1, 1) := by decide +kernel
theorem dX10_sorts_44 : decode cX10_sorts 44 = .ok (.iastore, 1) := by decide +kernel
theorem dX10_sorts_45 : decode cX10_sorts 45 = .ok (.return_, 1) := by decide +kernel
theorem dX10_weighs_0 : decode cX10_weighs 0 = .ok (.iconst 0, 1) := by decide +kernel
theorem dX10_weighs_1 : decode cX10_weighs 1 = .ok (.istore_n 1, 1) := by decide +kernel
theorem dX10_weighs_2 : decode cX10_weighs 2 = .ok (.iload_n 1, 1) := by decide +kernel
theorem dX10_weighs_3 : decode cX10_weighs 3 = .ok (.aload_n 0, 1) := by decide +kernel
theorem dX10_weighs_4 : decode cX10_weighs 4 = .ok (.getfield 93, 3) := by decide +kernel
theorem dX10_weighs_7 : decode cX10_weighs 7 = .ok (.if_icmp .ge 136, 3) := by decide +kernel
theorem dX10_weighs_10 : decode cX10_weighs 10 = .ok (.aload_n 0, 1) := by decide +kernel
theorem dX10_weighs_11 : decode cX10_weighs 11 = .ok (.getfield 99, 3) := by decide +kernel
theorem dX10_weighs_14 : decode cX10_weighs 14 = .ok (.ifCond .ne 129, 3) := by decide +kernel
theorem dX10_weighs_17 : decode cX10_weighs 17 = .ok (.iload_n 1, 1) := by decide +kernel
theorem dX10_weighs_18 : decode cX10_weighs 18 = .ok (.iconst 1, 1) := by decide +kernel
theorem dX10_weighs_19 : decode cX10_weighs 19 = .ok (.iadd, 1) := by decide +kernel
theorem dX10_weighs_20 : decode cX10_weighs 20 = .ok (.istore_n 2, 1) := by decide +kernel
theorem dX10_weighs_21 : decode cX10_weighs 21 = .ok (.iload_n 2, 1) := by decide +kernel
theorem dX10_weighs_22 : decode cX10_weighs 22 = .ok (.aload_n 0, 1) := by decide +kernel
theorem dX10_weighs_23 : decode cX10_weighs 23 = .ok (.getfield 93, 3) := by decide +kernel
theorem dX10_weighs_26 : decode cX10_weighs 26 = .ok (.if_icmp .gt 111, 3) := by decide +kernel
theorem dX10_weighs_29 : decode cX10_weighs 29 = .ok (.iload_n 2, 1) := by decide +kernel
theorem dX10_weighs_30 : decode cX10_weighs 30 = .ok (.iload_n 1, 1) := by decide +kernel
theorem dX10_weighs_31 : decode cX10_weighs 31 = .ok (.isub, 1) := by decide +kernel
theorem dX10_weighs_32 : decode cX10_weighs 32 = .ok (.istore_n 3, 1) := by decide +kernel
theorem dX10_weighs_33 : decode cX10_weighs 33 = .ok (.aload_n 0, 1) := by decide +kernel
theorem dX10_weighs_34 : decode cX10_weighs 34 = .ok (.aload_n 0, 1) := by decide +kernel
theorem dX10_weighs_35 : decode cX10_weighs 35 = .ok (.getfield 28, 3) := by decide +kernel
theorem dX10_weighs_38 : decode cX10_weighs 38 = .ok (.iload_n 2, 1) := by decide +kernel
theorem dX10_weighs_39 : decode cX10_weighs 39 = .ok (.iconst 1, 1) := by decide +kernel
theorem dX10_weighs_40 : decode cX10_weighs 40 = .ok (.isub, 1) := by decide +kernel
theorem dX10_weighs_41 : decode cX10_weighs 41 = .ok (.iaload, 1) := by decide +kernel
theorem dX10_weighs_42 : decode cX10_weighs 42 = .ok (.iload_n 3, 1) := by decide +kernel
theorem dX10_weighs_43 : decode cX10_weighs 43 = .ok (.iconst 1, 1) := by decide +kernel
theorem dX10_weighs_44 : decode cX10_weighs 44 = .ok (.isub, 1) := by decide +kernel
theorem dX10_weighs_45 : decode cX10_weighs 45 = .ok (.invokevirtual 155, 3) := by decide +kernel
theorem dX10_weighs_48 : decode cX10_weighs 48 = .ok (.aload_n 0, 1) := by decide +kernel
theorem dX10_weighs_49 : decode cX10_weighs 49 = .ok (.getfield 48, 3) := by decide +kernel
theorem dX10_weighs_52 : decode cX10_weighs 52 = .ok (.iload_n 3, 1) := by decide +kernel
theorem dX10_weighs_53 : decode cX10_weighs 53 = .ok (.iconst 1, 1) := by decide +kernel
theorem dX10_weighs_54 : decode cX10_weighs 54 = .ok (.isub, 1) := by decide +kernel
theorem dX10_weighs_55 : decode cX10_weighs 55 = .ok (.iconst 2, 1) := by decide +kernel
theorem dX10_weighs_56 : decode cX10_weighs 56 = .ok (.idiv, 1) := by decide +kernel
theorem dX10_weighs_57 : decode cX10_weighs 57 = .ok (.iaload, 1) := by decide +kernel
theorem dX10_weighs_58 : decode cX10_weighs 58 = .ok (.istore 4, 2) := by decide +kernel
theorem dX10_weighs_60 : decode cX10_weighs 60 = .ok (.iconst 0, 1) := by decide +kernel
theorem dX10_weighs_61 : decode cX10_weighs 61 = .ok (.istore 5, 2) := by decide +kernel
theorem dX10_weighs_63 : decode cX10_weighs 63 = .ok (.iconst 0, 1) := by decide +kernel
theorem dX10_weighs_64 : decode cX10_weighs 64 = .ok (.istore 6, 2) := by decide +kernel
theorem dX10_weighs_66 : decode cX10_weighs 66 = .ok (.iload 6, 2) := by decide +kernel
theorem dX10_weighs_68 : decode cX10_weighs 68 = .ok (.iload_n 3, 1) := by decide +kernel
theorem dX10_weighs_69 : decode cX10_weighs 69 = .ok (.if_icmp .ge 49, 3) := by decide +kernel
theorem dX10_weighs_72 : decode cX10_weighs 72 = .ok (.iload 5, 2) := by decide +kernel
theorem dX10_weighs_74 : decode cX10_weighs 74 = .ok (.aload_n 0, 1) := by decide +kernel
theorem dX10_weighs_75 : decode cX10_weighs 75 = .ok (.getfield 48, 3) := by decide +kernel
theorem dX10_weighs_78 : decode cX10_weighs 78 = .ok (.iload 6, 2) := by decide +kernel
theorem dX10_weighs_80 : decode cX10_weighs 80 = .ok (.iaload, 1) := by decide +kernel
theorem dX10_weighs_81 : decode cX10_weighs 81 = .ok (.iload 4, 2) := by decide +kernel
theorem dX10_weighs_83 : decode cX10_weighs 83 = .ok (.if_icmp .ge 16, 3) := by decide +kernel
theorem dX10_weighs_86 : decode cX10_weighs 86 = .ok (.iload 4, 2) := by decide +kernel
theorem dX10_weighs_88 : decode cX10_weighs 88 = .ok (.aload_n 0, 1) := by decide +kernel
theorem dX10_weighs_89 : decode cX10_weighs 89 = .ok (.getfield 48, 3) := by decide +kernel
theorem dX10_weighs_92 : decode cX10_weighs 92 = .ok (.iload 6, 2) := by decide +kernel
theorem dX10_weighs_94 : decode cX10_weighs 94 = .ok (.iaload, 1) := by decide +kernel
theorem dX10_weighs_95 : decode cX10_weighs 95 = .ok (.isub, 1) := by decide +kernel
theorem dX10_weighs_96 : decode cX10_weighs 96 = .ok (.goto 13, 3) := by decide +kernel
theorem dX10_weighs_99 : decode cX10_weighs 99 = .ok (.aload_n 0, 1) := by decide +kernel
theorem dX10_weighs_100 : decode cX10_weighs 100 = .ok (.getfield 48, 3) := by decide +kernel
theorem dX10_weighs_103 : decode cX10_weighs 103 = .ok (.iload 6, 2) := by decide +kernel
theorem dX10_weighs_105 : decode cX10_weighs 105 = .ok (.iaload, 1) := by decide +kernel
theorem dX10_weighs_106 : decode cX10_weighs 106 = .ok (.iload 4, 2) := by decide +kernel
theorem dX10_weighs_108 : decode cX10_weighs 108 = .ok (.isub, 1) := by decide +kernel
theorem dX10_weighs_109 : decode cX10_weighs 109 = .ok (.iadd, 1) := by decide +kernel
theorem dX10_weighs_110 : decode cX10_weighs 110 = .ok (.istore 5, 2) := by decide +kernel
theorem dX10_weighs_112 : decode cX10_weighs 112 = .ok (.iinc 6 1, 3) := by decide +kernel
theorem dX10_weighs_115 : decode cX10_weighs 115 = .ok (.goto (-49), 3) := by decide +kernel
theorem dX10_weighs_118 : decode cX10_weighs 118 = .ok (.aload_n 0, 1) := by decide +kernel
theorem dX10_weighs_119 : decode cX10_weighs 119 = .ok (.getfield 45, 3) := by decide +kernel
theorem dX10_weighs_122 : decode cX10_weighs 122 = .ok (.bipush 121, 2) := by decide +kernel
theorem dX10_weighs_124 : decode cX10_weighs 124 = .ok (.iload_n 1, 1) := by decide +kernel
theorem dX10_weighs_125 : decode cX10_weighs 125 = .ok (.imul, 1) := by decide +kernel
theorem dX10_weighs_126 : decode cX10_weighs 126 = .ok (.iload_n 2, 1) := by decide +kernel
theorem dX10_weighs_127 : decode cX10_weighs 127 = .ok (.iadd, 1) := by decide +kernel
theorem dX10_weighs_128 : decode cX10_weighs 128 = .ok (.iload 5, 2) := by decide +kernel
theorem dX10_weighs_130 : decode cX10_weighs 130 = .ok (.iastore, 1) := by decide +kernel
theorem dX10_weighs_131 : decode cX10_weighs 131 = .ok (.iinc 2 1, 3) := by decide +kernel
theorem dX10_weighs_134 : decode cX10_weighs 134 = .ok (.goto (-113), 3) := by decide +kernel
theorem dX10_weighs_137 : decode cX10_weighs 137 = .ok (.iinc 1 1, 3) := by decide +kernel
theorem dX10_weighs_140 : decode cX10_weighs 140 = .ok (.goto (-138), 3) := by decide +kernel
theorem dX10_weighs_143 : decode cX10_weighs 143 = .ok (.aload_n 0, 1) := by decide +kernel
theorem dX10_weighs_144 : decode cX10_weighs 144 = .ok (.iconst 1, 1) := by decide +kernel
theorem dX10_weighs_145 : decode cX10_weighs 145 = .ok (.putfield 99, 3) := by decide +kernel
theorem dX10_weighs_148 : decode cX10_weighs 148 = .ok (.return_, 1) := by decide +kernel
theorem dX10_of_0 : decode cX10_of 0 = .ok (.aload_n 0, 1) := by decide +kernel
theorem dX10_of_1 : decode cX10_of 1 = .ok (.getfield 45, 3) := by decide +kernel
theorem dX10_of_4 : decode cX10_of 4 = .ok (.bipush 121, 2) := by decide +kernel
theorem dX10_of_6 : decode cX10_of 6 = .ok (.iload_n 1, 1) := by decide +kernel
theorem dX10_of_7 : decode cX10_of 7 = .ok (.imul, 1) := by decide +kernel
theorem dX10_of_8 : decode cX10_of 8 = .ok (.iload_n 2, 1) := by decide +kernel
theorem dX10_of_9 : decode cX10_of 9 = .ok (.iadd, 1) := by decide +kernel
theorem dX10_of_10 : decode cX10_of 10 = .ok (.iaload, 1) := by decide +kernel
theorem dX10_of_11 : decode cX10_of 11 = .ok (.ireturn, 1) := by decide +kernel
theorem dX10_isSegment_0 : decode cX10_isSegment 0 = .ok (.iload_n 1, 1) := by decide +kernel
theorem dX10_isSegment_1 : decode cX10_isSegment 1 = .ok (.ifCond .lt 20, 3) := by decide +kernel
theorem dX10_isSegment_4 : decode cX10_isSegment 4 = .ok (.iload_n 1, 1) := by decide +kernel
theorem dX10_isSegment_5 : decode cX10_isSegment 5 = .ok (.iload_n 2, 1) := by decide +kernel
theorem dX10_isSegment_6 : decode cX10_isSegment 6 = .ok (.if_icmp .ge 15, 3) := by decide +kernel
theorem dX10_isSegment_9 : decode cX10_isSegment 9 = .ok (.iload_n 2, 1) := by decide +kernel
theorem dX10_isSegment_10 : decode cX10_isSegment 10 = .ok (.aload_n 0, 1) := by decide +kernel
theorem dX10_isSegment_11 : decode cX10_isSegment 11 = .ok (.getfield 93, 3) := by decide +kernel
theorem dX10_isSegment_14 : decode cX10_isSegment 14 = .ok (.if_icmp .gt 7, 3) := by decide +kernel
theorem dX10_isSegment_17 : decode cX10_isSegment 17 = .ok (.iconst 1, 1) := by decide +kernel
theorem dX10_isSegment_18 : decode cX10_isSegment 18 = .ok (.goto 4, 3) := by decide +kernel
theorem dX10_isSegment_21 : decode cX10_isSegment 21 = .ok (.iconst 0, 1) := by decide +kernel
theorem dX10_isSegment_22 : decode cX10_isSegment 22 = .ok (.ireturn, 1) := by decide +kernel
theorem dX10_cost_0 : decode cX10_cost 0 = .ok (.aload_n 0, 1) := by decide +kernel
theorem dX10_cost_1 : decode cX10_cost 1 = .ok (.aload_n 0, 1) := by decide +kernel
theorem dX10_cost_2 : decode cX10_cost 2 = .ok (.iload_n 1, 1) := by decide +kernel
theorem dX10_cost_3 : decode cX10_cost 3 = .ok (.iload_n 2, 1) := by decide +kernel
theorem dX10_cost_4 : decode cX10_cost 4 = .ok (.invokevirtual 158, 3) := by decide +kernel
theorem dX10_cost_7 : decode cX10_cost 7 = .ok (.ifCond .eq 7, 3) := by decide +kernel
theorem dX10_cost_10 : decode cX10_cost 10 = .ok (.iconst 0, 1) := by decide +kernel
theorem dX10_cost_11 : decode cX10_cost 11 = .ok (.goto 4, 3) := by decide +kernel
theorem dX10_cost_14 : decode cX10_cost 14 = .ok (.iconst 1, 1) := by decide +kernel
theorem dX10_cost_15 : decode cX10_cost 15 = .ok (.invokevirtual 114, 3) := by decide +kernel
theorem dX10_cost_18 : decode cX10_cost 18 = .ok (.ifCond .eq 5, 3) := by decide +kernel
theorem dX10_cost_21 : decode cX10_cost 21 = .ok (.iconst 0, 1) := by decide +kernel
theorem dX10_cost_22 : decode cX10_cost 22 = .ok (.ireturn, 1) := by decide +kernel
theorem dX10_cost_23 : decode cX10_cost 23 = .ok (.aload_n 0, 1) := by decide +kernel
theorem dX10_cost_24 : decode cX10_cost 24 = .ok (.invokevirtual 162, 3) := by decide +kernel
theorem dX10_cost_27 : decode cX10_cost 27 = .ok (.aload_n 0, 1) := by decide +kernel
theorem dX10_cost_28 : decode cX10_cost 28 = .ok (.iload_n 1, 1) := by decide +kernel
theorem dX10_cost_29 : decode cX10_cost 29 = .ok (.iload_n 2, 1) := by decide +kernel
theorem dX10_cost_30 : decode cX10_cost 30 = .ok (.invokevirtual 165, 3) := by decide +kernel
theorem dX10_cost_33 : decode cX10_cost 33 = .ok (.ireturn, 1) := by decide +kernel
theorem dX10_middle_0 : decode cX10_middle 0 = .ok (.aload_n 0, 1) := by decide +kernel
theorem dX10_middle_1 : decode cX10_middle 1 = .ok (.aload_n 0, 1) := by decide +kernel
theorem dX10_middle_2 : decode cX10_middle 2 = .ok (.iload_n 1, 1) := by decide +kernel
theorem dX10_middle_3 : decode cX10_middle 3 = .ok (.iload_n 2, 1) := by decide +kernel
theorem dX10_middle_4 : decode cX10_middle 4 = .ok (.invokevirtual 158, 3) := by decide +kernel
theorem dX10_middle_7 : decode cX10_middle 7 = .ok (.ifCond .eq 7, 3) := by decide +kernel
theorem dX10_middle_10 : decode cX10_middle 10 = .ok (.iconst 0, 1) := by decide +kernel
theorem dX10_middle_11 : decode cX10_middle 11 = .ok (.goto 4, 3) := by decide +kernel
theorem dX10_middle_14 : decode cX10_middle 14 = .ok (.iconst 1, 1) := by decide +kernel
theorem dX10_middle_15 : decode cX10_middle 15 = .ok (.invokevirtual 114, 3) := by decide +kernel
theorem dX10_middle_18 : decode cX10_middle 18 = .ok (.ifCond .eq 5, 3) := by decide +kernel
theorem dX10_middle_21 : decode cX10_middle 21 = .ok (.iconst 0, 1) := by decide +kernel
theorem dX10_middle_22 : decode cX10_middle 22 = .ok (.ireturn, 1) := by decide +kernel
theorem dX10_middle_23 : decode cX10_middle 23 = .ok (.iload_n 1, 1) := by decide +kernel
theorem dX10_middle_24 : decode cX10_middle 24 = .ok (.istore_n 3, 1) := by decide +kernel
theorem dX10_middle_25 : decode cX10_middle 25 = .ok (.iload_n 3, 1) := by decide +kernel
theorem dX10_middle_26 : decode cX10_middle 26 = .ok (.iload_n 2, 1) := by decide +kernel
theorem dX10_middle_27 : decode cX10_middle 27 = .ok (.if_icmp .ge 22, 3) := by decide +kernel
theorem dX10_middle_30 : decode cX10_middle 30 = .ok (.aload_n 0, 1) := by decide +kernel
theorem dX10_middle_31 : decode cX10_middle 31 = .ok (.aload_n 0, 1) := by decide +kernel
theorem dX10_middle_32 : decode cX10_middle 32 = .ok (.getfield 28, 3) := by decide +kernel
theorem dX10_middle_35 : decode cX10_middle 35 = .ok (.iload_n 3, 1) := by decide +kernel
theorem dX10_middle_36 : decode cX10_middle 36 = .ok (.iaload, 1) := by decide +kernel
theorem dX10_middle_37 : decode cX10_middle 37 = .ok (.iload_n 3, 1) := by decide +kernel
theorem dX10_middle_38 : decode cX10_middle 38 = .ok (.iload_n 1, 1) := by decide +kernel
theorem dX10_middle_39 : decode cX10_middle 39 = .ok (.isub, 1) := by decide +kernel
theorem dX10_middle_40 : decode cX10_middle 40 = .ok (.invokevirtual 155, 3) := by decide +kernel
theorem dX10_middle_43 : decode cX10_middle 43 = .ok (.iinc 3 1, 3) := by decide +kernel
theorem dX10_middle_46 : decode cX10_middle 46 = .ok (.goto (-21), 3) := by decide +kernel
theorem dX10_middle_49 : decode cX10_middle 49 = .ok (.aload_n 0, 1) := by decide +kernel
theorem dX10_middle_50 : decode cX10_middle 50 = .ok (.getfield 48, 3) := by decide +kernel
theorem dX10_middle_53 : decode cX10_middle 53 = .ok (.iload_n 2, 1) := by decide +kernel
theorem dX10_middle_54 : decode cX10_middle 54 = .ok (.iload_n 1, 1) := by decide +kernel
theorem dX10_middle_55 : decode cX10_middle 55 = .ok (.isub, 1) := by decide +kernel
theorem dX10_middle_56 : decode cX10_middle 56 = .ok (.iconst 1, 1) := by decide +kernel
theorem dX10_middle_57 : decode cX10_middle 57 = .ok (.isub, 1) := by decide +kernel
theorem dX10_middle_58 : decode cX10_middle 58 = .ok (.iconst 2, 1) := by decide +kernel
theorem dX10_middle_59 : decode cX10_middle 59 = .ok (.idiv, 1) := by decide +kernel
theorem dX10_middle_60 : decode cX10_middle 60 = .ok (.iaload, 1) := by decide +kernel
theorem dX10_middle_61 : decode cX10_middle 61 = .ok (.ireturn, 1) := by decide +kernel
theorem dX10_cuts_0 : decode cX10_cuts 0 = .ok (.aload_n 0, 1) := by decide +kernel
theorem dX10_cuts_1 : decode cX10_cuts 1 = .ok (.invokevirtual 162, 3) := by decide +kernel
theorem dX10_cuts_4 : decode cX10_cuts 4 = .ok (.aload_n 0, 1) := by decide +kernel
theorem dX10_cuts_5 : decode cX10_cuts 5 = .ok (.getfield 51, 3) := by decide +kernel
theorem dX10_cuts_8 : decode cX10_cuts 8 = .ok (.aload_n 0, 1) := by decide +kernel
theorem dX10_cuts_9 : decode cX10_cuts 9 = .ok (.getfield 93, 3) := by decide +kernel
theorem dX10_cuts_12 : decode cX10_cuts 12 = .ok (.iconst 0, 1) := by decide +kernel
theorem dX10_cuts_13 : decode cX10_cuts 13 = .ok (.iastore, 1) := by decide +kernel
theorem dX10_cuts_14 : decode cX10_cuts 14 = .ok (.aload_n 0, 1) := by decide +kernel
theorem dX10_cuts_15 : decode cX10_cuts 15 = .ok (.getfield 54, 3) := by decide +kernel
theorem dX10_cuts_18 : decode cX10_cuts 18 = .ok (.aload_n 0, 1) := by decide +kernel
theorem dX10_cuts_19 : decode cX10_cuts 19 = .ok (.getfield 93, 3) := by decide +kernel
theorem dX10_cuts_22 : decode cX10_cuts 22 = .ok (.iconst (-1), 1) := by decide +kernel
theorem dX10_cuts_23 : decode cX10_cuts 23 = .ok (.iastore, 1) := by decide +kernel
theorem dX10_cuts_24 : decode cX10_cuts 24 = .ok (.aload_n 0, 1) := by decide +kernel
theorem dX10_cuts_25 : decode cX10_cuts 25 = .ok (.getfield 93, 3) := by decide +kernel
theorem dX10_cuts_28 : decode cX10_cuts 28 = .ok (.iconst 1, 1) := by decide +kernel
theorem dX10_cuts_29 : decode cX10_cuts 29 = .ok (.isub, 1) := by decide +kernel
theorem dX10_cuts_30 : decode cX10_cuts 30 = .ok (.istore_n 1, 1) := by decide +kernel
theorem dX10_cuts_31 : decode cX10_cuts 31 = .ok (.iload_n 1, 1) := by decide +kernel
theorem dX10_cuts_32 : decode cX10_cuts 32 = .ok (.ifCond .lt 161, 3) := by decide +kernel
theorem dX10_cuts_35 : decode cX10_cuts 35 = .ok (.aload_n 0, 1) := by decide +kernel
theorem dX10_cuts_36 : decode cX10_cuts 36 = .ok (.getfield 51, 3) := by decide +kernel
theorem dX10_cuts_39 : decode cX10_cuts 39 = .ok (.iload_n 1, 1) := by decide +kernel
theorem dX10_cuts_40 : decode cX10_cuts 40 = .ok (.aload_n 0, 1) := by decide +kernel
theorem dX10_cuts_41 : decode cX10_cuts 41 = .ok (.iload_n 1, 1) := by decide +kernel
theorem dX10_cuts_42 : decode cX10_cuts 42 = .ok (.aload_n 0, 1) := by decide +kernel
theorem dX10_cuts_43 : decode cX10_cuts 43 = .ok (.getfield 93, 3) := by decide +kernel
theorem dX10_cuts_46 : decode cX10_cuts 46 = .ok (.invokevirtual 165, 3) := by decide +kernel
theorem dX10_cuts_49 : decode cX10_cuts 49 = .ok (.iastore, 1) := by decide +kernel
theorem dX10_cuts_50 : decode cX10_cuts 50 = .ok (.aload_n 0, 1) := by decide +kernel
theorem dX10_cuts_51 : decode cX10_cuts 51 = .ok (.getfield 54, 3) := by decide +kernel
theorem dX10_cuts_54 : decode cX10_cuts 54 = .ok (.iload_n 1, 1) := by decide +kernel
theorem dX10_cuts_55 : decode cX10_cuts 55 = .ok (.iconst 0, 1) := by decide +kernel
theorem dX10_cuts_56 : decode cX10_cuts 56 = .ok (.iastore, 1) := by decide +kernel
theorem dX10_cuts_57 : decode cX10_cuts 57 = .ok (.iload_n 1, 1) := by decide +kernel
theorem dX10_cuts_58 : decode cX10_cuts 58 = .ok (.iconst 1, 1) := by decide +kernel
theorem dX10_cuts_59 : decode cX10_cuts 59 = .ok (.iadd, 1) := by decide +kernel
theorem dX10_cuts_60 : decode cX10_cuts 60 = .ok (.istore_n 2, 1) := by decide +kernel
theorem dX10_cuts_61 : decode cX10_cuts 61 = .ok (.iload_n 2, 1) := by decide +kernel
theorem dX10_cuts_62 : decode cX10_cuts 62 = .ok (.aload_n 0, 1) := by decide +kernel
theorem dX10_cuts_63 : decode cX10_cuts 63 = .ok (.getfield 93, 3) := by decide +kernel
theorem dX10_cuts_66 : decode cX10_cuts 66 = .ok (.if_icmp .ge 121, 3) := by decide +kernel
theorem dX10_cuts_69 : decode cX10_cuts 69 = .ok (.aload_n 0, 1) := by decide +kernel
theorem dX10_cuts_70 : decode cX10_cuts 70 = .ok (.iload_n 1, 1) := by decide +kernel
theorem dX10_cuts_71 : decode cX10_cuts 71 = .ok (.iload_n 2, 1) := by decide +kernel
theorem dX10_cuts_72 : decode cX10_cuts 72 = .ok (.invokevirtual 165, 3) := by decide +kernel
theorem dX10_cuts_75 : decode cX10_cuts 75 = .ok (.aload_n 0, 1) := by decide +kernel
theorem dX10_cuts_76 : decode cX10_cuts 76 = .ok (.getfield 25, 3) := by decide +kernel
theorem dX10_cuts_79 : decode cX10_cuts 79 = .ok (.iadd, 1) := by decide +kernel
theorem dX10_cuts_80 : decode cX10_cuts 80 = .ok (.aload_n 0, 1) := by decide +kernel
theorem dX10_cuts_81 : decode cX10_cuts 81 = .ok (.getfield 51, 3) := by decide +kernel
theorem dX10_cuts_84 : decode cX10_cuts 84 = .ok (.iload_n 2, 1) := by decide +kernel
theorem dX10_cuts_85 : decode cX10_cuts 85 = .ok (.iaload, 1) := by decide +kernel
theorem dX10_cuts_86 : decode cX10_cuts 86 = .ok (.iadd, 1) := by decide +kernel
theorem dX10_cuts_87 : decode cX10_cuts 87 = .ok (.istore_n 3, 1) := by decide +kernel
theorem dX10_cuts_88 : decode cX10_cuts 88 = .ok (.iload_n 3, 1) := by decide +kernel
theorem dX10_cuts_89 : decode cX10_cuts 89 = .ok (.aload_n 0, 1) := by decide +kernel
theorem dX10_cuts_90 : decode cX10_cuts 90 = .ok (.getfield 51, 3) := by decide +kernel
theorem dX10_cuts_93 : decode cX10_cuts 93 = .ok (.iload_n 1, 1) := by decide +kernel
theorem dX10_cuts_94 : decode cX10_cuts 94 = .ok (.iaload, 1) := by decide +kernel
theorem dX10_cuts_95 : decode cX10_cuts 95 = .ok (.if_icmp .lt 30, 3) := by decide +kernel
theorem dX10_cuts_98 : decode cX10_cuts 98 = .ok (.iload_n 3, 1) := by decide +kernel
theorem dX10_cuts_99 : decode cX10_cuts 99 = .ok (.aload_n 0, 1) := by decide +kernel
theorem dX10_cuts_100 : decode cX10_cuts 100 = .ok (.getfield 51, 3) := by decide +kernel
theorem dX10_cuts_103 : decode cX10_cuts 103 = .ok (.iload_n 1, 1) := by decide +kernel
theorem dX10_cuts_104 : decode cX10_cuts 104 = .ok (.iaload, 1) := by decide +kernel
theorem dX10_cuts_105 : decode cX10_cuts 105 = .ok (.if_icmp .ne 24, 3) := by decide +kernel
theorem dX10_cuts_108 : decode cX10_cuts 108 = .ok (.aload_n 0, 1) := by decide +kernel
theorem dX10_cuts_109 : decode cX10_cuts 109 = .ok (.getfield 54, 3) := by decide +kernel
theorem dX10_cuts_112 : decode cX10_cuts 112 = .ok (.iload_n 2, 1) := by decide +kernel
theorem dX10_cuts_113 : decode cX10_cuts 113 = .ok (.iaload, 1) := by decide +kernel
theorem dX10_cuts_114 : decode cX10_cuts 114 = .ok (.iconst 1, 1) := by decide +kernel
theorem dX10_cuts_115 : decode cX10_cuts 115 = .ok (.iadd, 1) := by decide +kernel
theorem dX10_cuts_116 : decode cX10_cuts 116 = .ok (.aload_n 0, 1) := by decide +kernel
theorem dX10_cuts_117 : decode cX10_cuts 117 = .ok (.getfield 54, 3) := by decide +kernel
theorem dX10_cuts_120 : decode cX10_cuts 120 = .ok (.iload_n 1, 1) := by decide +kernel
theorem dX10_cuts_121 : decode cX10_cuts 121 = .ok (.iaload, 1) := by decide +kernel
theorem dX10_cuts_122 : decode cX10_cuts 122 = .ok (.if_icmp .ge 7, 3) := by decide +kernel
theorem dX10_cuts_125 : decode cX10_cuts 125 = .ok (.iconst 1, 1) := by decide +kernel
theorem dX10_cuts_126 : decode cX10_cuts 126 = .ok (.goto 4, 3) := by decide +kernel
theorem dX10_cuts_129 : decode cX10_cuts 129 = .ok (.iconst 0, 1) := by decide +kernel
theorem dX10_cuts_130 : decode cX10_cuts 130 = .ok (.istore 4, 2) := by decide +kernel
theorem dX10_cuts_132 : decode cX10_cuts 132 = .ok (.aload_n 0, 1) := by decide +kernel
theorem dX10_cuts_133 : decode cX10_cuts 133 = .ok (.getfield 51, 3) := by decide +kernel
theorem dX10_cuts_136 : decode cX10_cuts 136 = .ok (.iload_n 1, 1) := by decide +kernel
theorem dX10_cuts_137 : decode cX10_cuts 137 = .ok (.iload 4, 2) := by decide +kernel
theorem dX10_cuts_139 : decode cX10_cuts 139 = .ok (.ifCond .eq 7, 3) := by decide +kernel
theorem dX10_cuts_142 : decode cX10_cuts 142 = .ok (.iload_n 3, 1) := by decide +kernel
theorem dX10_cuts_143 : decode cX10_cuts 143 = .ok (.goto 9, 3) := by decide +kernel
theorem dX10_cuts_146 : decode cX10_cuts 146 = .ok (.aload_n 0, 1) := by decide +kernel
theorem dX10_cuts_147 : decode cX10_cuts 147 = .ok (.getfield 51, 3) := by decide +kernel
theorem dX10_cuts_150 : decode cX10_cuts 150 = .ok (.iload_n 1, 1) := by decide +kernel
theorem dX10_cuts_151 : decode cX10_cuts 151 = .ok (.iaload, 1) := by decide +kernel
theorem dX10_cuts_152 : decode cX10_cuts 152 = .ok (.iastore, 1) := by decide +kernel
theorem dX10_cuts_153 : decode cX10_cuts 153 = .ok (.aload_n 0, 1) := by decide +kernel
theorem dX10_cuts_154 : decode cX10_cuts 154 = .ok (.getfield 54, 3) := by decide +kernel
theorem dX10_cuts_157 : decode cX10_cuts 157 = .ok (.iload_n 1, 1) := by decide +kernel
theorem dX10_cuts_158 : decode cX10_cuts 158 = .ok (.iload 4, 2) := by decide +kernel
theorem dX10_cuts_160 : decode cX10_cuts 160 = .ok (.ifCond .eq 14, 3) := by decide +kernel
theorem dX10_cuts_163 : decode cX10_cuts 163 = .ok (.aload_n 0, 1) := by decide +kernel
theorem dX10_cuts_164 : decode cX10_cuts 164 = .ok (.getfield 54, 3) := by decide +kernel
theorem dX10_cuts_167 : decode cX10_cuts 167 = .ok (.iload_n 2, 1) := by decide +kernel
theorem dX10_cuts_168 : decode cX10_cuts 168 = .ok (.iaload, 1) := by decide +kernel
theorem dX10_cuts_169 : decode cX10_cuts 169 = .ok (.iconst 1, 1) := by decide +kernel
theorem dX10_cuts_170 : decode cX10_cuts 170 = .ok (.iadd, 1) := by decide +kernel
theorem dX10_cuts_171 : decode cX10_cuts 171 = .ok (.goto 9, 3) := by decide +kernel
theorem dX10_cuts_174 : decode cX10_cuts 174 = .ok (.aload_n 0, 1) := by decide +kernel
theorem dX10_cuts_175 : decode cX10_cuts 175 = .ok (.getfield 54, 3) := by decide +kernel
theorem dX10_cuts_178 : decode cX10_cuts 178 = .ok (.iload_n 1, 1) := by decide +kernel
theorem dX10_cuts_179 : decode cX10_cuts 179 = .ok (.iaload, 1) := by decide +kernel
theorem dX10_cuts_180 : decode cX10_cuts 180 = .ok (.iastore, 1) := by decide +kernel
theorem dX10_cuts_181 : decode cX10_cuts 181 = .ok (.iinc 2 1, 3) := by decide +kernel
theorem dX10_cuts_184 : decode cX10_cuts 184 = .ok (.goto (-123), 3) := by decide +kernel
theorem dX10_cuts_187 : decode cX10_cuts 187 = .ok (.iinc 1 (-1), 3) := by decide +kernel
theorem dX10_cuts_190 : decode cX10_cuts 190 = .ok (.goto (-159), 3) := by decide +kernel
theorem dX10_cuts_193 : decode cX10_cuts 193 = .ok (.return_, 1) := by decide +kernel
theorem dX10_next_0 : decode cX10_next 0 = .ok (.aload_n 0, 1) := by decide +kernel
theorem dX10_next_1 : decode cX10_next 1 = .ok (.getfield 54, 3) := by decide +kernel
theorem dX10_next_4 : decode cX10_next 4 = .ok (.iload_n 1, 1) := by decide +kernel
theorem dX10_next_5 : decode cX10_next 5 = .ok (.iaload, 1) := by decide +kernel
theorem dX10_next_6 : decode cX10_next 6 = .ok (.ifCond .ne 10, 3) := by decide +kernel
theorem dX10_next_9 : decode cX10_next 9 = .ok (.aload_n 0, 1) := by decide +kernel
theorem dX10_next_10 : decode cX10_next 10 = .ok (.getfield 93, 3) := by decide +kernel
theorem dX10_next_13 : decode cX10_next 13 = .ok (.goto 4, 3) := by decide +kernel
theorem dX10_next_16 : decode cX10_next 16 = .ok (.iconst (-1), 1) := by decide +kernel
theorem dX10_next_17 : decode cX10_next 17 = .ok (.istore_n 2, 1) := by decide +kernel
theorem dX10_next_18 : decode cX10_next 18 = .ok (.aload_n 0, 1) := by decide +kernel
theorem dX10_next_19 : decode cX10_next 19 = .ok (.getfield 93, 3) := by decide +kernel
theorem dX10_next_22 : decode cX10_next 22 = .ok (.iconst 1, 1) := by decide +kernel
theorem dX10_next_23 : decode cX10_next 23 = .ok (.isub, 1) := by decide +kernel
theorem dX10_next_24 : decode cX10_next 24 = .ok (.istore_n 3, 1) := by decide +kernel
theorem dX10_next_25 : decode cX10_next 25 = .ok (.iload_n 3, 1) := by decide +kernel
theorem dX10_next_26 : decode cX10_next 26 = .ok (.iload_n 1, 1) := by decide +kernel
theorem dX10_next_27 : decode cX10_next 27 = .ok (.if_icmp .le 80, 3) := by decide +kernel
theorem dX10_next_30 : decode cX10_next 30 = .ok (.aload_n 0, 1) := by decide +kernel
theorem dX10_next_31 : decode cX10_next 31 = .ok (.getfield 54, 3) := by decide +kernel
theorem dX10_next_34 : decode cX10_next 34 = .ok (.iload_n 1, 1) := by decide +kernel
theorem dX10_next_35 : decode cX10_next 35 = .ok (.iaload, 1) := by decide +kernel
theorem dX10_next_36 : decode cX10_next 36 = .ok (.ifCond .le 71, 3) := by decide +kernel
theorem dX10_next_39 : decode cX10_next 39 = .ok (.aload_n 0, 1) := by decide +kernel
theorem dX10_next_40 : decode cX10_next 40 = .ok (.iload_n 1, 1) := by decide +kernel
theorem dX10_next_41 : decode cX10_next 41 = .ok (.iload_n 3, 1) := by decide +kernel
theorem dX10_next_42 : decode cX10_next 42 = .ok (.invokevirtual 165, 3) := by decide +kernel
theorem dX10_next_45 : decode cX10_next 45 = .ok (.aload_n 0, 1) := by decide +kernel
theorem dX10_next_46 : decode cX10_next 46 = .ok (.getfield 25, 3) := by decide +kernel
theorem dX10_next_49 : decode cX10_next 49 = .ok (.iadd, 1) := by decide +kernel
theorem dX10_next_50 : decode cX10_next 50 = .ok (.aload_n 0, 1) := by decide +kernel
theorem dX10_next_51 : decode cX10_next 51 = .ok (.getfield 51, 3) := by decide +kernel
theorem dX10_next_54 : decode cX10_next 54 = .ok (.iload_n 3, 1) := by decide +kernel
theorem dX10_next_55 : decode cX10_next 55 = .ok (.iaload, 1) := by decide +kernel
theorem dX10_next_56 : decode cX10_next 56 = .ok (.iadd, 1) := by decide +kernel
theorem dX10_next_57 : decode cX10_next 57 = .ok (.aload_n 0, 1) := by decide +kernel
theorem dX10_next_58 : decode cX10_next 58 = .ok (.getfield 51, 3) := by decide +kernel
theorem dX10_next_61 : decode cX10_next 61 = .ok (.iload_n 1, 1) := by decide +kernel
theorem dX10_next_62 : decode cX10_next 62 = .ok (.iaload, 1) := by decide +kernel
theorem dX10_next_63 : decode cX10_next 63 = .ok (.if_icmp .ne 24, 3) := by decide +kernel
theorem dX10_next_66 : decode cX10_next 66 = .ok (.aload_n 0, 1) := by decide +kernel
theorem dX10_next_67 : decode cX10_next 67 = .ok (.getfield 54, 3) := by decide +kernel
theorem dX10_next_70 : decode cX10_next 70 = .ok (.iload_n 3, 1) := by decide +kernel
theorem dX10_next_71 : decode cX10_next 71 = .ok (.iaload, 1) := by decide +kernel
theorem dX10_next_72 : decode cX10_next 72 = .ok (.iconst 1, 1) := by decide +kernel
theorem dX10_next_73 : decode cX10_next 73 = .ok (.iadd, 1) := by decide +kernel
theorem dX10_next_74 : decode cX10_next 74 = .ok (.aload_n 0, 1) := by decide +kernel
theorem dX10_next_75 : decode cX10_next 75 = .ok (.getfield 54, 3) := by decide +kernel
theorem dX10_next_78 : decode cX10_next 78 = .ok (.iload_n 1, 1) := by decide +kernel
theorem dX10_next_79 : decode cX10_next 79 = .ok (.iaload, 1) := by decide +kernel
theorem dX10_next_80 : decode cX10_next 80 = .ok (.if_icmp .ne 7, 3) := by decide +kernel
theorem dX10_next_83 : decode cX10_next 83 = .ok (.iconst 1, 1) := by decide +kernel
theorem dX10_next_84 : decode cX10_next 84 = .ok (.goto 4, 3) := by decide +kernel
theorem dX10_next_87 : decode cX10_next 87 = .ok (.iconst 0, 1) := by decide +kernel
theorem dX10_next_88 : decode cX10_next 88 = .ok (.istore 4, 2) := by decide +kernel
theorem dX10_next_90 : decode cX10_next 90 = .ok (.iload 4, 2) := by decide +kernel
theorem dX10_next_92 : decode cX10_next 92 = .ok (.ifCond .eq 7, 3) := by decide +kernel
theorem dX10_next_95 : decode cX10_next 95 = .ok (.iload_n 3, 1) := by decide +kernel
theorem dX10_next_96 : decode cX10_next 96 = .ok (.goto 4, 3) := by decide +kernel
theorem dX10_next_99 : decode cX10_next 99 = .ok (.iload_n 2, 1) := by decide +kernel
theorem dX10_next_100 : decode cX10_next 100 = .ok (.istore_n 2, 1) := by decide +kernel
theorem dX10_next_101 : decode cX10_next 101 = .ok (.iinc 3 (-1), 3) := by decide +kernel
theorem dX10_next_104 : decode cX10_next 104 = .ok (.goto (-79), 3) := by decide +kernel
theorem dX10_next_107 : decode cX10_next 107 = .ok (.iload_n 2, 1) := by decide +kernel
theorem dX10_next_108 : decode cX10_next 108 = .ok (.ireturn, 1) := by decide +kernel
theorem dX10_changes_0 : decode cX10_changes 0 = .ok (.aload_n 0, 1) := by decide +kernel
theorem dX10_changes_1 : decode cX10_changes 1 = .ok (.invokevirtual 168, 3) := by decide +kernel
theorem dX10_changes_4 : decode cX10_changes 4 = .ok (.aload_n 0, 1) := by decide +kernel
theorem dX10_changes_5 : decode cX10_changes 5 = .ok (.aload_n 0, 1) := by decide +kernel
theorem dX10_changes_6 : decode cX10_changes 6 = .ok (.getfield 93, 3) := by decide +kernel
theorem dX10_changes_9 : decode cX10_changes 9 = .ok (.ifCond .ne 7, 3) := by decide +kernel
theorem dX10_changes_12 : decode cX10_changes 12 = .ok (.iconst 0, 1) := by decide +kernel
theorem dX10_changes_13 : decode cX10_changes 13 = .ok (.goto 9, 3) := by decide +kernel
theorem dX10_changes_16 : decode cX10_changes 16 = .ok (.aload_n 0, 1) := by decide +kernel
theorem dX10_changes_17 : decode cX10_changes 17 = .ok (.getfield 54, 3) := by decide +kernel
theorem dX10_changes_20 : decode cX10_changes 20 = .ok (.iconst 0, 1) := by decide +kernel
theorem dX10_changes_21 : decode cX10_changes 21 = .ok (.iaload, 1) := by decide +kernel
theorem dX10_changes_22 : decode cX10_changes 22 = .ok (.invokevirtual 148, 3) := by decide +kernel
theorem dX10_changes_25 : decode cX10_changes 25 = .ok (.ireturn, 1) := by decide +kernel
theorem dX10_change_0 : decode cX10_change 0 = .ok (.aload_n 0, 1) := by decide +kernel
theorem dX10_change_1 : decode cX10_change 1 = .ok (.invokevirtual 168, 3) := by decide +kernel
theorem dX10_change_4 : decode cX10_change 4 = .ok (.aload_n 0, 1) := by decide +kernel
theorem dX10_change_5 : decode cX10_change 5 = .ok (.aload_n 0, 1) := by decide +kernel
theorem dX10_change_6 : decode cX10_change 6 = .ok (.getfield 93, 3) := by decide +kernel
theorem dX10_change_9 : decode cX10_change 9 = .ok (.ifCond .le 21, 3) := by decide +kernel
theorem dX10_change_12 : decode cX10_change 12 = .ok (.iload_n 1, 1) := by decide +kernel
theorem dX10_change_13 : decode cX10_change 13 = .ok (.ifCond .lt 17, 3) := by decide +kernel
theorem dX10_change_16 : decode cX10_change 16 = .ok (.iload_n 1, 1) := by decide +kernel
theorem dX10_change_17 : decode cX10_change 17 = .ok (.aload_n 0, 1) := by decide +kernel
theorem dX10_change_18 : decode cX10_change 18 = .ok (.getfield 54, 3) := by decide +kernel
theorem dX10_change_21 : decode cX10_change 21 = .ok (.iconst 0, 1) := by decide +kernel
theorem dX10_change_22 : decode cX10_change 22 = .ok (.iaload, 1) := by decide +kernel
theorem dX10_change_23 : decode cX10_change 23 = .ok (.if_icmp .ge 7, 3) := by decide +kernel
theorem dX10_change_26 : decode cX10_change 26 = .ok (.iconst 0, 1) := by decide +kernel
theorem dX10_change_27 : decode cX10_change 27 = .ok (.goto 4, 3) := by decide +kernel
theorem dX10_change_30 : decode cX10_change 30 = .ok (.iconst 1, 1) := by decide +kernel
theorem dX10_change_31 : decode cX10_change 31 = .ok (.invokevirtual 114, 3) := by decide +kernel
theorem dX10_change_34 : decode cX10_change 34 = .ok (.ifCond .eq 5, 3) := by decide +kernel
theorem dX10_change_37 : decode cX10_change 37 = .ok (.iconst 0, 1) := by decide +kernel
theorem dX10_change_38 : decode cX10_change 38 = .ok (.ireturn, 1) := by decide +kernel
theorem dX10_change_39 : decode cX10_change 39 = .ok (.aload_n 0, 1) := by decide +kernel
theorem dX10_change_40 : decode cX10_change 40 = .ok (.iconst 0, 1) := by decide +kernel
theorem dX10_change_41 : decode cX10_change 41 = .ok (.invokevirtual 171, 3) := by decide +kernel
theorem dX10_change_44 : decode cX10_change 44 = .ok (.istore_n 2, 1) := by decide +kernel
theorem dX10_change_45 : decode cX10_change 45 = .ok (.iconst 0, 1) := by decide +kernel
theorem dX10_change_46 : decode cX10_change 46 = .ok (.istore_n 3, 1) := by decide +kernel
theorem dX10_change_47 : decode cX10_change 47 = .ok (.iload_n 3, 1) := by decide +kernel
theorem dX10_change_48 : decode cX10_change 48 = .ok (.iload_n 1, 1) := by decide +kernel
theorem dX10_change_49 : decode cX10_change 49 = .ok (.if_icmp .ge 15, 3) := by decide +kernel
theorem dX10_change_52 : decode cX10_change 52 = .ok (.aload_n 0, 1) := by decide +kernel
theorem dX10_change_53 : decode cX10_change 53 = .ok (.iload_n 2, 1) := by decide +kernel
theorem dX10_change_54 : decode cX10_change 54 = .ok (.invokevirtual 171, 3) := by decide +kernel
theorem dX10_change_57 : decode cX10_change 57 = .ok (.istore_n 2, 1) := by decide +kernel
theorem dX10_change_58 : decode cX10_change 58 = .ok (.iinc 3 1, 3) := by decide +kernel
theorem dX10_change_61 : decode cX10_change 61 = .ok (.goto (-14), 3) := by decide +kernel
theorem dX10_change_64 : decode cX10_change 64 = .ok (.iload_n 2, 1) := by decide +kernel
theorem dX10_change_65 : decode cX10_change 65 = .ok (.ireturn, 1) := by decide +kernel
theorem dX10_bestCost_0 : decode cX10_bestCost 0 = .ok (.aload_n 0, 1) := by decide +kernel
theorem dX10_bestCost_1 : decode cX10_bestCost 1 = .ok (.invokevirtual 168, 3) := by decide +kernel
theorem dX10_bestCost_4 : decode cX10_bestCost 4 = .ok (.aload_n 0, 1) := by decide +kernel
theorem dX10_bestCost_5 : decode cX10_bestCost 5 = .ok (.aload_n 0, 1) := by decide +kernel
theorem dX10_bestCost_6 : decode cX10_bestCost 6 = .ok (.getfield 51, 3) := by decide +kernel
theorem dX10_bestCost_9 : decode cX10_bestCost 9 = .ok (.iconst 0, 1) := by decide +kernel
theorem dX10_bestCost_10 : decode cX10_bestCost 10 = .ok (.iaload, 1) := by decide +kernel
theorem dX10_bestCost_11 : decode cX10_bestCost 11 = .ok (.invokevirtual 148, 3) := by decide +kernel
theorem dX10_bestCost_14 : decode cX10_bestCost 14 = .ok (.ireturn, 1) := by decide +kernel
theorem dX10_leastCost_0 : decode cX10_leastCost 0 = .ok (.aload_n 0, 1) := by decide +kernel
theorem dX10_leastCost_1 : decode cX10_leastCost 1 = .ok (.iload_n 1, 1) := by decide +kernel
theorem dX10_leastCost_2 : decode cX10_leastCost 2 = .ok (.iconst 0, 1) := by decide +kernel
theorem dX10_leastCost_3 : decode cX10_leastCost 3 = .ok (.bipush 119, 2) := by decide +kernel
theorem dX10_leastCost_5 : decode cX10_leastCost 5 = .ok (.invokestatic 109, 3) := by decide +kernel
theorem dX10_leastCost_8 : decode cX10_leastCost 8 = .ok (.ifCond .ne 7, 3) := by decide +kernel
theorem dX10_leastCost_11 : decode cX10_leastCost 11 = .ok (.iconst 1, 1) := by decide +kernel
theorem dX10_leastCost_12 : decode cX10_leastCost 12 = .ok (.goto 16, 3) := by decide +kernel
theorem dX10_leastCost_15 : decode cX10_leastCost 15 = .ok (.iload_n 1, 1) := by decide +kernel
theorem dX10_leastCost_16 : decode cX10_leastCost 16 = .ok (.aload_n 0, 1) := by decide +kernel
theorem dX10_leastCost_17 : decode cX10_leastCost 17 = .ok (.getfield 93, 3) := by decide +kernel
theorem dX10_leastCost_20 : decode cX10_leastCost 20 = .ok (.if_icmp .ge 7, 3) := by decide +kernel
theorem dX10_leastCost_23 : decode cX10_leastCost 23 = .ok (.iconst 0, 1) := by decide +kernel
theorem dX10_leastCost_24 : decode cX10_leastCost 24 = .ok (.goto 4, 3) := by decide +kernel
theorem dX10_leastCost_27 : decode cX10_leastCost 27 = .ok (.iconst 2, 1) := by decide +kernel
theorem dX10_leastCost_28 : decode cX10_leastCost 28 = .ok (.invokevirtual 114, 3) := by decide +kernel
theorem dX10_leastCost_31 : decode cX10_leastCost 31 = .ok (.ifCond .eq 5, 3) := by decide +kernel
theorem dX10_leastCost_34 : decode cX10_leastCost 34 = .ok (.iconst 0, 1) := by decide +kernel
theorem dX10_leastCost_35 : decode cX10_leastCost 35 = .ok (.ireturn, 1) := by decide +kernel
theorem dX10_leastCost_36 : decode cX10_leastCost 36 = .ok (.aload_n 0, 1) := by decide +kernel
theorem dX10_leastCost_37 : decode cX10_leastCost 37 = .ok (.invokevirtual 162, 3) := by decide +kernel
theorem dX10_leastCost_40 : decode cX10_leastCost 40 = .ok (.iconst 1, 1) := by decide +kernel
theorem dX10_leastCost_41 : decode cX10_leastCost 41 = .ok (.istore_n 2, 1) := by decide +kernel
theorem dX10_leastCost_42 : decode cX10_leastCost 42 = .ok (.iload_n 2, 1) := by decide +kernel
theorem dX10_leastCost_43 : decode cX10_leastCost 43 = .ok (.aload_n 0, 1) := by decide +kernel
theorem dX10_leastCost_44 : decode cX10_leastCost 44 = .ok (.getfield 93, 3) := by decide +kernel
theorem dX10_leastCost_47 : decode cX10_leastCost 47 = .ok (.if_icmp .gt 21, 3) := by decide +kernel
theorem dX10_leastCost_50 : decode cX10_leastCost 50 = .ok (.aload_n 0, 1) := by decide +kernel
theorem dX10_leastCost_51 : decode cX10_leastCost 51 = .ok (.getfield 57, 3) := by decide +kernel
theorem dX10_leastCost_54 : decode cX10_leastCost 54 = .ok (.iload_n 2, 1) := by decide +kernel
theorem dX10_leastCost_55 : decode cX10_leastCost 55 = .ok (.aload_n 0, 1) := by decide +kernel
theorem dX10_leastCost_56 : decode cX10_leastCost 56 = .ok (.iconst 0, 1) := by decide +kernel
theorem dX10_leastCost_57 : decode cX10_leastCost 57 = .ok (.iload_n 2, 1) := by decide +kernel
theorem dX10_leastCost_58 : decode cX10_leastCost 58 = .ok (.invokevirtual 165, 3) := by decide +kernel
theorem dX10_leastCost_61 : decode cX10_leastCost 61 = .ok (.iastore, 1) := by decide +kernel
theorem dX10_leastCost_62 : decode cX10_leastCost 62 = .ok (.iinc 2 1, 3) := by decide +kernel
theorem dX10_leastCost_65 : decode cX10_leastCost 65 = .ok (.goto (-23), 3) := by decide +kernel
theorem dX10_leastCost_68 : decode cX10_leastCost 68 = .ok (.iconst 0, 1) := by decide +kernel
theorem dX10_leastCost_69 : decode cX10_leastCost 69 = .ok (.istore_n 2, 1) := by decide +kernel
theorem dX10_leastCost_70 : decode cX10_leastCost 70 = .ok (.iload_n 2, 1) := by decide +kernel
theorem dX10_leastCost_71 : decode cX10_leastCost 71 = .ok (.iload_n 1, 1) := by decide +kernel
theorem dX10_leastCost_72 : decode cX10_leastCost 72 = .ok (.if_icmp .ge 148, 3) := by decide +kernel
theorem dX10_leastCost_75 : decode cX10_leastCost 75 = .ok (.iconst 1, 1) := by decide +kernel
theorem dX10_leastCost_76 : decode cX10_leastCost 76 = .ok (.istore_n 3, 1) := by decide +kernel
theorem dX10_leastCost_77 : decode cX10_leastCost 77 = .ok (.iload_n 3, 1) := by decide +kernel
theorem dX10_leastCost_78 : decode cX10_leastCost 78 = .ok (.aload_n 0, 1) := by decide +kernel
theorem dX10_leastCost_79 : decode cX10_leastCost 79 = .ok (.getfield 93, 3) := by decide +kernel
theorem dX10_leastCost_82 : decode cX10_leastCost 82 = .ok (.if_icmp .gt 104, 3) := by decide +kernel
theorem dX10_leastCost_85 : decode cX10_leastCost 85 = .ok (.aload_n 0, 1) := by decide +kernel
theorem dX10_leastCost_86 : decode cX10_leastCost 86 = .ok (.getfield 60, 3) := by decide +kernel
theorem dX10_leastCost_89 : decode cX10_leastCost 89 = .ok (.iload_n 3, 1) := by decide +kernel
theorem dX10_leastCost_90 : decode cX10_leastCost 90 = .ok (.iconst (-1), 1) := by decide +kernel
theorem dX10_leastCost_91 : decode cX10_leastCost 91 = .ok (.iastore, 1) := by decide +kernel
theorem dX10_leastCost_92 : decode cX10_leastCost 92 = .ok (.iconst 1, 1) := by decide +kernel
theorem dX10_leastCost_93 : decode cX10_leastCost 93 = .ok (.istore 4, 2) := by decide +kernel
theorem dX10_leastCost_95 : decode cX10_leastCost 95 = .ok (.iload 4, 2) := by decide +kernel
theorem dX10_leastCost_97 : decode cX10_leastCost 97 = .ok (.iload_n 3, 1) := by decide +kernel
theorem dX10_leastCost_98 : decode cX10_leastCost 98 = .ok (.if_icmp .ge 82, 3) := by decide +kernel
theorem dX10_leastCost_101 : decode cX10_leastCost 101 = .ok (.aload_n 0, 1) := by decide +kernel
theorem dX10_leastCost_102 : decode cX10_leastCost 102 = .ok (.getfield 57, 3) := by decide +kernel
theorem dX10_leastCost_105 : decode cX10_leastCost 105 = .ok (.iload 4, 2) := by decide +kernel
theorem dX10_leastCost_107 : decode cX10_leastCost 107 = .ok (.iaload, 1) := by decide +kernel
theorem dX10_leastCost_108 : decode cX10_leastCost 108 = .ok (.ifCond .ge 7, 3) := by decide +kernel
theorem dX10_leastCost_111 : decode cX10_leastCost 111 = .ok (.iconst (-1), 1) := by decide +kernel
theorem dX10_leastCost_112 : decode cX10_leastCost 112 = .ok (.goto 18, 3) := by decide +kernel
theorem dX10_leastCost_115 : decode cX10_leastCost 115 = .ok (.aload_n 0, 1) := by decide +kernel
theorem dX10_leastCost_116 : decode cX10_leastCost 116 = .ok (.getfield 57, 3) := by decide +kernel
theorem dX10_leastCost_119 : decode cX10_leastCost 119 = .ok (.iload 4, 2) := by decide +kernel
theorem dX10_leastCost_121 : decode cX10_leastCost 121 = .ok (.iaload, 1) := by decide +kernel
theorem dX10_leastCost_122 : decode cX10_leastCost 122 = .ok (.aload_n 0, 1) := by decide +kernel
theorem dX10_leastCost_123 : decode cX10_leastCost 123 = .ok (.iload 4, 2) := by decide +kernel
theorem dX10_leastCost_125 : decode cX10_leastCost 125 = .ok (.iload_n 3, 1) := by decide +kernel
theorem dX10_leastCost_126 : decode cX10_leastCost 126 = .ok (.invokevirtual 165, 3) := by decide +kernel
theorem dX10_leastCost_129 : decode cX10_leastCost 129 = .ok (.iadd, 1) := by decide +kernel
theorem dX10_leastCost_130 : decode cX10_leastCost 130 = .ok (.istore 5, 2) := by decide +kernel
theorem dX10_leastCost_132 : decode cX10_leastCost 132 = .ok (.aload_n 0, 1) := by decide +kernel
theorem dX10_leastCost_133 : decode cX10_leastCost 133 = .ok (.getfield 60, 3) := by decide +kernel
theorem dX10_leastCost_136 : decode cX10_leastCost 136 = .ok (.iload_n 3, 1) := by decide +kernel
theorem dX10_leastCost_137 : decode cX10_leastCost 137 = .ok (.iload 5, 2) := by decide +kernel
theorem dX10_leastCost_139 : decode cX10_leastCost 139 = .ok (.ifCond .lt 28, 3) := by decide +kernel
theorem dX10_leastCost_142 : decode cX10_leastCost 142 = .ok (.aload_n 0, 1) := by decide +kernel
theorem dX10_leastCost_143 : decode cX10_leastCost 143 = .ok (.getfield 60, 3) := by decide +kernel
theorem dX10_leastCost_146 : decode cX10_leastCost 146 = .ok (.iload_n 3, 1) := by decide +kernel
theorem dX10_leastCost_147 : decode cX10_leastCost 147 = .ok (.iaload, 1) := by decide +kernel
theorem dX10_leastCost_148 : decode cX10_leastCost 148 = .ok (.ifCond .lt 14, 3) := by decide +kernel
theorem dX10_leastCost_151 : decode cX10_leastCost 151 = .ok (.iload 5, 2) := by decide +kernel
theorem dX10_leastCost_153 : decode cX10_leastCost 153 = .ok (.aload_n 0, 1) := by decide +kernel
theorem dX10_leastCost_154 : decode cX10_leastCost 154 = .ok (.getfield 60, 3) := by decide +kernel
theorem dX10_leastCost_157 : decode cX10_leastCost 157 = .ok (.iload_n 3, 1) := by decide +kernel
theorem dX10_leastCost_158 : decode cX10_leastCost 158 = .ok (.iaload, 1) := by decide +kernel
theorem dX10_leastCost_159 : decode cX10_leastCost 159 = .ok (.if_icmp .ge 8, 3) := by decide +kernel
theorem dX10_leastCost_162 : decode cX10_leastCost 162 = .ok (.iload 5, 2) := by decide +kernel
theorem dX10_leastCost_164 : decode cX10_leastCost 164 = .ok (.goto 9, 3) := by decide +kernel
theorem dX10_leastCost_167 : decode cX10_leastCost 167 = .ok (.aload_n 0, 1) := by decide +kernel
theorem dX10_leastCost_168 : decode cX10_leastCost 168 = .ok (.getfield 60, 3) := by decide +kernel
theorem dX10_leastCost_171 : decode cX10_leastCost 171 = .ok (.iload_n 3, 1) := by decide +kernel
theorem dX10_leastCost_172 : decode cX10_leastCost 172 = .ok (.iaload, 1) := by decide +kernel
theorem dX10_leastCost_173 : decode cX10_leastCost 173 = .ok (.iastore, 1) := by decide +kernel
theorem dX10_leastCost_174 : decode cX10_leastCost 174 = .ok (.iinc 4 1, 3) := by decide +kernel
theorem dX10_leastCost_177 : decode cX10_leastCost 177 = .ok (.goto (-82), 3) := by decide +kernel
theorem dX10_leastCost_180 : decode cX10_leastCost 180 = .ok (.iinc 3 1, 3) := by decide +kernel
theorem dX10_leastCost_183 : decode cX10_leastCost 183 = .ok (.goto (-106), 3) := by decide +kernel
theorem dX10_leastCost_186 : decode cX10_leastCost 186 = .ok (.iconst 1, 1) := by decide +kernel
theorem dX10_leastCost_187 : decode cX10_leastCost 187 = .ok (.istore_n 3, 1) := by decide +kernel
theorem dX10_leastCost_188 : decode cX10_leastCost 188 = .ok (.iload_n 3, 1) := by decide +kernel
theorem dX10_leastCost_189 : decode cX10_leastCost 189 = .ok (.aload_n 0, 1) := by decide +kernel
theorem dX10_leastCost_190 : decode cX10_leastCost 190 = .ok (.getfield 93, 3) := by decide +kernel
theorem dX10_leastCost_193 : decode cX10_leastCost 193 = .ok (.if_icmp .gt 21, 3) := by decide +kernel
theorem dX10_leastCost_196 : decode cX10_leastCost 196 = .ok (.aload_n 0, 1) := by decide +kernel
theorem dX10_leastCost_197 : decode cX10_leastCost 197 = .ok (.getfield 57, 3) := by decide +kernel
theorem dX10_leastCost_200 : decode cX10_leastCost 200 = .ok (.iload_n 3, 1) := by decide +kernel
theorem dX10_leastCost_201 : decode cX10_leastCost 201 = .ok (.aload_n 0, 1) := by decide +kernel
theorem dX10_leastCost_202 : decode cX10_leastCost 202 = .ok (.getfield 60, 3) := by decide +kernel
theorem dX10_leastCost_205 : decode cX10_leastCost 205 = .ok (.iload_n 3, 1) := by decide +kernel
theorem dX10_leastCost_206 : decode cX10_leastCost 206 = .ok (.iaload, 1) := by decide +kernel
theorem dX10_leastCost_207 : decode cX10_leastCost 207 = .ok (.iastore, 1) := by decide +kernel
theorem dX10_leastCost_208 : decode cX10_leastCost 208 = .ok (.iinc 3 1, 3) := by decide +kernel
theorem dX10_leastCost_211 : decode cX10_leastCost 211 = .ok (.goto (-23), 3) := by decide +kernel
theorem dX10_leastCost_214 : decode cX10_leastCost 214 = .ok (.iinc 2 1, 3) := by decide +kernel
theorem dX10_leastCost_217 : decode cX10_leastCost 217 = .ok (.goto (-147), 3) := by decide +kernel
theorem dX10_leastCost_220 : decode cX10_leastCost 220 = .ok (.aload_n 0, 1) := by decide +kernel
theorem dX10_leastCost_221 : decode cX10_leastCost 221 = .ok (.getfield 57, 3) := by decide +kernel
theorem dX10_leastCost_224 : decode cX10_leastCost 224 = .ok (.aload_n 0, 1) := by decide +kernel
theorem dX10_leastCost_225 : decode cX10_leastCost 225 = .ok (.getfield 93, 3) := by decide +kernel
theorem dX10_leastCost_228 : decode cX10_leastCost 228 = .ok (.iaload, 1) := by decide +kernel
theorem dX10_leastCost_229 : decode cX10_leastCost 229 = .ok (.ireturn, 1) := by decide +kernel
theorem dX10_cutsGreedily_0 : decode cX10_cutsGreedily 0 = .ok (.aload_n 0, 1) := by decide +kernel
theorem dX10_cutsGreedily_1 : decode cX10_cutsGreedily 1 = .ok (.invokevirtual 162, 3) := by decide +kernel
theorem dX10_cutsGreedily_4 : decode cX10_cutsGreedily 4 = .ok (.iconst 0, 1) := by decide +kernel
theorem dX10_cutsGreedily_5 : decode cX10_cutsGreedily 5 = .ok (.istore_n 1, 1) := by decide +kernel
theorem dX10_cutsGreedily_6 : decode cX10_cutsGreedily 6 = .ok (.iload_n 1, 1) := by decide +kernel
theorem dX10_cutsGreedily_7 : decode cX10_cutsGreedily 7 = .ok (.bipush 120, 2) := by decide +kernel
theorem dX10_cutsGreedily_9 : decode cX10_cutsGreedily 9 = .ok (.if_icmp .gt 16, 3) := by decide +kernel
theorem dX10_cutsGreedily_12 : decode cX10_cutsGreedily 12 = .ok (.aload_n 0, 1) := by decide +kernel
theorem dX10_cutsGreedily_13 : decode cX10_cutsGreedily 13 = .ok (.getfield 63, 3) := by decide +kernel
theorem dX10_cutsGreedily_16 : decode cX10_cutsGreedily 16 = .ok (.iload_n 1, 1) := by decide +kernel
theorem dX10_cutsGreedily_17 : decode cX10_cutsGreedily 17 = .ok (.iconst 0, 1) := by decide +kernel
theorem dX10_cutsGreedily_18 : decode cX10_cutsGreedily 18 = .ok (.bastore, 1) := by decide +kernel
theorem dX10_cutsGreedily_19 : decode cX10_cutsGreedily 19 = .ok (.iinc 1 1, 3) := by decide +kernel
theorem dX10_cutsGreedily_22 : decode cX10_cutsGreedily 22 = .ok (.goto (-16), 3) := by decide +kernel
theorem dX10_cutsGreedily_25 : decode cX10_cutsGreedily 25 = .ok (.aload_n 0, 1) := by decide +kernel
theorem dX10_cutsGreedily_26 : decode cX10_cutsGreedily 26 = .ok (.getfield 93, 3) := by decide +kernel
theorem dX10_cutsGreedily_29 : decode cX10_cutsGreedily 29 = .ok (.ifCond .ne 7, 3) := by decide +kernel
theorem dX10_cutsGreedily_32 : decode cX10_cutsGreedily 32 = .ok (.iconst 0, 1) := by decide +kernel
theorem dX10_cutsGreedily_33 : decode cX10_cutsGreedily 33 = .ok (.goto 12, 3) := by decide +kernel
theorem dX10_cutsGreedily_36 : decode cX10_cutsGreedily 36 = .ok (.aload_n 0, 1) := by decide +kernel
theorem dX10_cutsGreedily_37 : decode cX10_cutsGreedily 37 = .ok (.iconst 0, 1) := by decide +kernel
theorem dX10_cutsGreedily_38 : decode cX10_cutsGreedily 38 = .ok (.aload_n 0, 1) := by decide +kernel
theorem dX10_cutsGreedily_39 : decode cX10_cutsGreedily 39 = .ok (.getfield 93, 3) := by decide +kernel
theorem dX10_cutsGreedily_42 : decode cX10_cutsGreedily 42 = .ok (.invokevirtual 165, 3) := by decide +kernel
theorem dX10_cutsGreedily_45 : decode cX10_cutsGreedily 45 = .ok (.istore_n 1, 1) := by decide +kernel
theorem dX10_cutsGreedily_46 : decode cX10_cutsGreedily 46 = .ok (.aload_n 0, 1) := by decide +kernel
theorem dX10_cutsGreedily_47 : decode cX10_cutsGreedily 47 = .ok (.getfield 93, 3) := by decide +kernel
theorem dX10_cutsGreedily_50 : decode cX10_cutsGreedily 50 = .ok (.ifCond .le 7, 3) := by decide +kernel
theorem dX10_cutsGreedily_53 : decode cX10_cutsGreedily 53 = .ok (.iconst 1, 1) := by decide +kernel
theorem dX10_cutsGreedily_54 : decode cX10_cutsGreedily 54 = .ok (.goto 4, 3) := by decide +kernel
theorem dX10_cutsGreedily_57 : decode cX10_cutsGreedily 57 = .ok (.iconst 0, 1) := by decide +kernel
theorem dX10_cutsGreedily_58 : decode cX10_cutsGreedily 58 = .ok (.istore_n 2, 1) := by decide +kernel
theorem dX10_cutsGreedily_59 : decode cX10_cutsGreedily 59 = .ok (.iload_n 2, 1) := by decide +kernel
theorem dX10_cutsGreedily_60 : decode cX10_cutsGreedily 60 = .ok (.ifCond .eq 215, 3) := by decide +kernel
theorem dX10_cutsGreedily_63 : decode cX10_cutsGreedily 63 = .ok (.iconst 0, 1) := by decide +kernel
theorem dX10_cutsGreedily_64 : decode cX10_cutsGreedily 64 = .ok (.istore_n 3, 1) := by decide +kernel
theorem dX10_cutsGreedily_65 : decode cX10_cutsGreedily 65 = .ok (.iconst (-1), 1) := by decide +kernel
theorem dX10_cutsGreedily_66 : decode cX10_cutsGreedily 66 = .ok (.istore 4, 2) := by decide +kernel
theorem dX10_cutsGreedily_68 : decode cX10_cutsGreedily 68 = .ok (.iconst 1, 1) := by decide +kernel
theorem dX10_cutsGreedily_69 : decode cX10_cutsGreedily 69 = .ok (.istore 5, 2) := by decide +kernel
theorem dX10_cutsGreedily_71 : decode cX10_cutsGreedily 71 = .ok (.iload 5, 2) := by decide +kernel
theorem dX10_cutsGreedily_73 : decode cX10_cutsGreedily 73 = .ok (.aload_n 0, 1) := by decide +kernel
theorem dX10_cutsGreedily_74 : decode cX10_cutsGreedily 74 = .ok (.getfield 93, 3) := by decide +kernel
theorem dX10_cutsGreedily_77 : decode cX10_cutsGreedily 77 = .ok (.if_icmp .ge 154, 3) := by decide +kernel
theorem dX10_cutsGreedily_80 : decode cX10_cutsGreedily 80 = .ok (.iload 5, 2) := by decide +kernel
theorem dX10_cutsGreedily_82 : decode cX10_cutsGreedily 82 = .ok (.iconst 1, 1) := by decide +kernel
theorem dX10_cutsGreedily_83 : decode cX10_cutsGreedily 83 = .ok (.isub, 1) := by decide +kernel
theorem dX10_cutsGreedily_84 : decode cX10_cutsGreedily 84 = .ok (.istore 6, 2) := by decide +kernel
theorem dX10_cutsGreedily_86 : decode cX10_cutsGreedily 86 = .ok (.iload 5, 2) := by decide +kernel
theorem dX10_cutsGreedily_88 : decode cX10_cutsGreedily 88 = .ok (.iconst 1, 1) := by decide +kernel
theorem dX10_cutsGreedily_89 : decode cX10_cutsGreedily 89 = .ok (.iadd, 1) := by decide +kernel
theorem dX10_cutsGreedily_90 : decode cX10_cutsGreedily 90 = .ok (.istore 7, 2) := by decide +kernel
theorem dX10_cutsGreedily_92 : decode cX10_cutsGreedily 92 = .ok (.iload 6, 2) := by decide +kernel
theorem dX10_cutsGreedily_94 : decode cX10_cutsGreedily 94 = .ok (.ifCond .le 19, 3) := by decide +kernel
theorem dX10_cutsGreedily_97 : decode cX10_cutsGreedily 97 = .ok (.aload_n 0, 1) := by decide +kernel
theorem dX10_cutsGreedily_98 : decode cX10_cutsGreedily 98 = .ok (.getfield 63, 3) := by decide +kernel
theorem dX10_cutsGreedily_101 : decode cX10_cutsGreedily 101 = .ok (.iload 6, 2) := by decide +kernel
theorem dX10_cutsGreedily_103 : decode cX10_cutsGreedily 103 = .ok (.baload, 1) := by decide +kernel
theorem dX10_cutsGreedily_104 : decode cX10_cutsGreedily 104 = .ok (.ifCond .ne 9, 3) := by decide +kernel
theorem dX10_cutsGreedily_107 : decode cX10_cutsGreedily 107 = .ok (.iinc 6 (-1), 3) := by decide +kernel
theorem dX10_cutsGreedily_110 : decode cX10_cutsGreedily 110 = .ok (.goto (-18), 3) := by decide +kernel
theorem dX10_cutsGreedily_113 : decode cX10_cutsGreedily 113 = .ok (.iload 7, 2) := by decide +kernel
theorem dX10_cutsGreedily_115 : decode cX10_cutsGreedily 115 = .ok (.aload_n 0, 1) := by decide +kernel
theorem dX10_cutsGreedily_116 : decode cX10_cutsGreedily 116 = .ok (.getfield 93, 3) := by decide +kernel
theorem dX10_cutsGreedily_119 : decode cX10_cutsGreedily 119 = .ok (.if_icmp .ge 19, 3) := by decide +kernel
theorem dX10_cutsGreedily_122 : decode cX10_cutsGreedily 122 = .ok (.aload_n 0, 1) := by decide +kernel
theorem dX10_cutsGreedily_123 : decode cX10_cutsGreedily 123 = .ok (.getfield 63, 3) := by decide +kernel
theorem dX10_cutsGreedily_126 : decode cX10_cutsGreedily 126 = .ok (.iload 7, 2) := by decide +kernel
theorem dX10_cutsGreedily_128 : decode cX10_cutsGreedily 128 = .ok (.baload, 1) := by decide +kernel
theorem dX10_cutsGreedily_129 : decode cX10_cutsGreedily 129 = .ok (.ifCond .ne 9, 3) := by decide +kernel
theorem dX10_cutsGreedily_132 : decode cX10_cutsGreedily 132 = .ok (.iinc 7 1, 3) := by decide +kernel
theorem dX10_cutsGreedily_135 : decode cX10_cutsGreedily 135 = .ok (.goto (-22), 3) := by decide +kernel
theorem dX10_cutsGreedily_138 : decode cX10_cutsGreedily 138 = .ok (.aload_n 0, 1) := by decide +kernel
theorem dX10_cutsGreedily_139 : decode cX10_cutsGreedily 139 = .ok (.getfield 63, 3) := by decide +kernel
theorem dX10_cutsGreedily_142 : decode cX10_cutsGreedily 142 = .ok (.iload 5, 2) := by decide +kernel
theorem dX10_cutsGreedily_144 : decode cX10_cutsGreedily 144 = .ok (.baload, 1) := by decide +kernel
theorem dX10_cutsGreedily_145 : decode cX10_cutsGreedily 145 = .ok (.ifCond .eq 7, 3) := by decide +kernel
theorem dX10_cutsGreedily_148 : decode cX10_cutsGreedily 148 = .ok (.iconst (-1), 1) := by decide +kernel
theorem dX10_cutsGreedily_149 : decode cX10_cutsGreedily 149 = .ok (.goto 29, 3) := by decide +kernel
theorem dX10_cutsGreedily_152 : decode cX10_cutsGreedily 152 = .ok (.aload_n 0, 1) := by decide +kernel
theorem dX10_cutsGreedily_153 : decode cX10_cutsGreedily 153 = .ok (.iload 6, 2) := by decide +kernel
theorem dX10_cutsGreedily_155 : decode cX10_cutsGreedily 155 = .ok (.iload 7, 2) := by decide +kernel
theorem dX10_cutsGreedily_157 : decode cX10_cutsGreedily 157 = .ok (.invokevirtual 165, 3) := by decide +kernel
theorem dX10_cutsGreedily_160 : decode cX10_cutsGreedily 160 = .ok (.aload_n 0, 1) := by decide +kernel
theorem dX10_cutsGreedily_161 : decode cX10_cutsGreedily 161 = .ok (.iload 6, 2) := by decide +kernel
theorem dX10_cutsGreedily_163 : decode cX10_cutsGreedily 163 = .ok (.iload 5, 2) := by decide +kernel
theorem dX10_cutsGreedily_165 : decode cX10_cutsGreedily 165 = .ok (.invokevirtual 165, 3) := by decide +kernel
theorem dX10_cutsGreedily_168 : decode cX10_cutsGreedily 168 = .ok (.isub, 1) := by decide +kernel
theorem dX10_cutsGreedily_169 : decode cX10_cutsGreedily 169 = .ok (.aload_n 0, 1) := by decide +kernel
theorem dX10_cutsGreedily_170 : decode cX10_cutsGreedily 170 = .ok (.iload 5, 2) := by decide +kernel
theorem dX10_cutsGreedily_172 : decode cX10_cutsGreedily 172 = .ok (.iload 7, 2) := by decide +kernel
theorem dX10_cutsGreedily_174 : decode cX10_cutsGreedily 174 = .ok (.invokevirtual 165, 3) := by decide +kernel
theorem dX10_cutsGreedily_177 : decode cX10_cutsGreedily 177 = .ok (.isub, 1) := by decide +kernel
theorem dX10_cutsGreedily_178 : decode cX10_cutsGreedily 178 = .ok (.istore 8, 2) := by decide +kernel
theorem dX10_cutsGreedily_180 : decode cX10_cutsGreedily 180 = .ok (.aload_n 0, 1) := by decide +kernel
theorem dX10_cutsGreedily_181 : decode cX10_cutsGreedily 181 = .ok (.getfield 63, 3) := by decide +kernel
theorem dX10_cutsGreedily_184 : decode cX10_cutsGreedily 184 = .ok (.iload 5, 2) := by decide +kernel
theorem dX10_cutsGreedily_186 : decode cX10_cutsGreedily 186 = .ok (.baload, 1) := by decide +kernel
theorem dX10_cutsGreedily_187 : decode cX10_cutsGreedily 187 = .ok (.ifCond .ne 20, 3) := by decide +kernel
theorem dX10_cutsGreedily_190 : decode cX10_cutsGreedily 190 = .ok (.iload 4, 2) := by decide +kernel
theorem dX10_cutsGreedily_192 : decode cX10_cutsGreedily 192 = .ok (.iconst (-1), 1) := by decide +kernel
theorem dX10_cutsGreedily_193 : decode cX10_cutsGreedily 193 = .ok (.if_icmp .eq 9, 3) := by decide +kernel
theorem dX10_cutsGreedily_196 : decode cX10_cutsGreedily 196 = .ok (.iload 8, 2) := by decide +kernel
theorem dX10_cutsGreedily_198 : decode cX10_cutsGreedily 198 = .ok (.iload_n 3, 1) := by decide +kernel
theorem dX10_cutsGreedily_199 : decode cX10_cutsGreedily 199 = .ok (.if_icmp .le 8, 3) := by decide +kernel
theorem dX10_cutsGreedily_202 : decode cX10_cutsGreedily 202 = .ok (.iload 5, 2) := by decide +kernel
theorem dX10_cutsGreedily_204 : decode cX10_cutsGreedily 204 = .ok (.goto 5, 3) := by decide +kernel
theorem dX10_cutsGreedily_207 : decode cX10_cutsGreedily 207 = .ok (.iload 4, 2) := by decide +kernel
theorem dX10_cutsGreedily_209 : decode cX10_cutsGreedily 209 = .ok (.istore 4, 2) := by decide +kernel
theorem dX10_cutsGreedily_211 : decode cX10_cutsGreedily 211 = .ok (.iload 4, 2) := by decide +kernel
theorem dX10_cutsGreedily_213 : decode cX10_cutsGreedily 213 = .ok (.iload 5, 2) := by decide +kernel
theorem dX10_cutsGreedily_215 : decode cX10_cutsGreedily 215 = .ok (.if_icmp .ne 8, 3) := by decide +kernel
theorem dX10_cutsGreedily_218 : decode cX10_cutsGreedily 218 = .ok (.iload 8, 2) := by decide +kernel
theorem dX10_cutsGreedily_220 : decode cX10_cutsGreedily 220 = .ok (.goto 4, 3) := by decide +kernel
theorem dX10_cutsGreedily_223 : decode cX10_cutsGreedily 223 = .ok (.iload_n 3, 1) := by decide +kernel
theorem dX10_cutsGreedily_224 : decode cX10_cutsGreedily 224 = .ok (.istore_n 3, 1) := by decide +kernel
theorem dX10_cutsGreedily_225 : decode cX10_cutsGreedily 225 = .ok (.iinc 5 1, 3) := by decide +kernel
theorem dX10_cutsGreedily_228 : decode cX10_cutsGreedily 228 = .ok (.goto (-157), 3) := by decide +kernel
theorem dX10_cutsGreedily_231 : decode cX10_cutsGreedily 231 = .ok (.iload 4, 2) := by decide +kernel
theorem dX10_cutsGreedily_233 : decode cX10_cutsGreedily 233 = .ok (.iconst (-1), 1) := by decide +kernel
theorem dX10_cutsGreedily_234 : decode cX10_cutsGreedily 234 = .ok (.if_icmp .eq 15, 3) := by decide +kernel
theorem dX10_cutsGreedily_237 : decode cX10_cutsGreedily 237 = .ok (.iload_n 3, 1) := by decide +kernel
theorem dX10_cutsGreedily_238 : decode cX10_cutsGreedily 238 = .ok (.aload_n 0, 1) := by decide +kernel
theorem dX10_cutsGreedily_239 : decode cX10_cutsGreedily 239 = .ok (.getfield 25, 3) := by decide +kernel
theorem dX10_cutsGreedily_242 : decode cX10_cutsGreedily 242 = .ok (.if_icmp .le 7, 3) := by decide +kernel
theorem dX10_cutsGreedily_245 : decode cX10_cutsGreedily 245 = .ok (.iconst 1, 1) := by decide +kernel
theorem dX10_cutsGreedily_246 : decode cX10_cutsGreedily 246 = .ok (.goto 4, 3) := by decide +kernel
theorem dX10_cutsGreedily_249 : decode cX10_cutsGreedily 249 = .ok (.iconst 0, 1) := by decide +kernel
theorem dX10_cutsGreedily_250 : decode cX10_cutsGreedily 250 = .ok (.istore_n 2, 1) := by decide +kernel
theorem dX10_cutsGreedily_251 : decode cX10_cutsGreedily 251 = .ok (.iload_n 2, 1) := by decide +kernel
theorem dX10_cutsGreedily_252 : decode cX10_cutsGreedily 252 = .ok (.ifCond .eq 20, 3) := by decide +kernel
theorem dX10_cutsGreedily_255 : decode cX10_cutsGreedily 255 = .ok (.aload_n 0, 1) := by decide +kernel
theorem dX10_cutsGreedily_256 : decode cX10_cutsGreedily 256 = .ok (.getfield 63, 3) := by decide +kernel
theorem dX10_cutsGreedily_259 : decode cX10_cutsGreedily 259 = .ok (.iload 4, 2) := by decide +kernel
theorem dX10_cutsGreedily_261 : decode cX10_cutsGreedily 261 = .ok (.iconst 1, 1) := by decide +kernel
theorem dX10_cutsGreedily_262 : decode cX10_cutsGreedily 262 = .ok (.bastore, 1) := by decide +kernel
theorem dX10_cutsGreedily_263 : decode cX10_cutsGreedily 263 = .ok (.iload_n 1, 1) := by decide +kernel
theorem dX10_cutsGreedily_264 : decode cX10_cutsGreedily 264 = .ok (.aload_n 0, 1) := by decide +kernel
theorem dX10_cutsGreedily_265 : decode cX10_cutsGreedily 265 = .ok (.getfield 25, 3) := by decide +kernel
theorem dX10_cutsGreedily_268 : decode cX10_cutsGreedily 268 = .ok (.iload_n 3, 1) := by decide +kernel
theorem dX10_cutsGreedily_269 : decode cX10_cutsGreedily 269 = .ok (.isub, 1) := by decide +kernel
theorem dX10_cutsGreedily_270 : decode cX10_cutsGreedily 270 = .ok (.iadd, 1) := by decide +kernel
theorem dX10_cutsGreedily_271 : decode cX10_cutsGreedily 271 = .ok (.istore_n 1, 1) := by decide +kernel
theorem dX10_cutsGreedily_272 : decode cX10_cutsGreedily 272 = .ok (.goto (-213), 3) := by decide +kernel
theorem dX10_cutsGreedily_275 : decode cX10_cutsGreedily 275 = .ok (.iload_n 1, 1) := by decide +kernel
theorem dX10_cutsGreedily_276 : decode cX10_cutsGreedily 276 = .ok (.ireturn, 1) := by decide +kernel
theorem dX10_cut_0 : decode cX10_cut 0 = .ok (.iconst 0, 1) := by decide +kernel
theorem dX10_cut_1 : decode cX10_cut 1 = .ok (.istore_n 2, 1) := by decide +kernel
theorem dX10_cut_2 : decode cX10_cut 2 = .ok (.iconst 1, 1) := by decide +kernel
theorem dX10_cut_3 : decode cX10_cut 3 = .ok (.istore_n 3, 1) := by decide +kernel
theorem dX10_cut_4 : decode cX10_cut 4 = .ok (.iload_n 3, 1) := by decide +kernel
theorem dX10_cut_5 : decode cX10_cut 5 = .ok (.aload_n 0, 1) := by decide +kernel
theorem dX10_cut_6 : decode cX10_cut 6 = .ok (.getfield 93, 3) := by decide +kernel
theorem dX10_cut_9 : decode cX10_cut 9 = .ok (.if_icmp .ge 28, 3) := by decide +kernel
theorem dX10_cut_12 : decode cX10_cut 12 = .ok (.aload_n 0, 1) := by decide +kernel
theorem dX10_cut_13 : decode cX10_cut 13 = .ok (.getfield 63, 3) := by decide +kernel
theorem dX10_cut_16 : decode cX10_cut 16 = .ok (.iload_n 3, 1) := by decide +kernel
theorem dX10_cut_17 : decode cX10_cut 17 = .ok (.baload, 1) := by decide +kernel
theorem dX10_cut_18 : decode cX10_cut 18 = .ok (.ifCond .eq 13, 3) := by decide +kernel
theorem dX10_cut_21 : decode cX10_cut 21 = .ok (.iload_n 2, 1) := by decide +kernel
theorem dX10_cut_22 : decode cX10_cut 22 = .ok (.iload_n 1, 1) := by decide +kernel
theorem dX10_cut_23 : decode cX10_cut 23 = .ok (.if_icmp .ne 5, 3) := by decide +kernel
theorem dX10_cut_26 : decode cX10_cut 26 = .ok (.iload_n 3, 1) := by decide +kernel
theorem dX10_cut_27 : decode cX10_cut 27 = .ok (.ireturn, 1) := by decide +kernel
theorem dX10_cut_28 : decode cX10_cut 28 = .ok (.iinc 2 1, 3) := by decide +kernel
theorem dX10_cut_31 : decode cX10_cut 31 = .ok (.iinc 3 1, 3) := by decide +kernel
theorem dX10_cut_34 : decode cX10_cut 34 = .ok (.goto (-30), 3) := by decide +kernel
theorem dX10_cut_37 : decode cX10_cut 37 = .ok (.iconst (-1), 1) := by decide +kernel
theorem dX10_cut_38 : decode cX10_cut 38 = .ok (.iload_n 2, 1) := by decide +kernel
theorem dX10_cut_39 : decode cX10_cut 39 = .ok (.isub, 1) := by decide +kernel
theorem dX10_cut_40 : decode cX10_cut 40 = .ok (.ireturn, 1) := by decide +kernel
theorem dX10_greedyChanges_0 : decode cX10_greedyChanges 0 = .ok (.aload_n 0, 1) := by decide +kernel
theorem dX10_greedyChanges_1 : decode cX10_greedyChanges 1 = .ok (.invokevirtual 174, 3) := by decide +kernel
theorem dX10_greedyChanges_4 : decode cX10_greedyChanges 4 = .ok (.pop, 1) := by decide +kernel
theorem dX10_greedyChanges_5 : decode cX10_greedyChanges 5 = .ok (.aload_n 0, 1) := by decide +kernel
theorem dX10_greedyChanges_6 : decode cX10_greedyChanges 6 = .ok (.iconst (-1), 1) := by decide +kernel
theorem dX10_greedyChanges_7 : decode cX10_greedyChanges 7 = .ok (.aload_n 0, 1) := by decide +kernel
theorem dX10_greedyChanges_8 : decode cX10_greedyChanges 8 = .ok (.iconst (-1), 1) := by decide +kernel
theorem dX10_greedyChanges_9 : decode cX10_greedyChanges 9 = .ok (.invokevirtual 178, 3) := by decide +kernel
theorem dX10_greedyChanges_12 : decode cX10_greedyChanges 12 = .ok (.isub, 1) := by decide +kernel
theorem dX10_greedyChanges_13 : decode cX10_greedyChanges 13 = .ok (.invokevirtual 148, 3) := by decide +kernel
theorem dX10_greedyChanges_16 : decode cX10_greedyChanges 16 = .ok (.ireturn, 1) := by decide +kernel
theorem dX10_greedyChange_0 : decode cX10_greedyChange 0 = .ok (.aload_n 0, 1) := by decide +kernel
theorem dX10_greedyChange_1 : decode cX10_greedyChange 1 = .ok (.invokevirtual 174, 3) := by decide +kernel
theorem dX10_greedyChange_4 : decode cX10_greedyChange 4 = .ok (.pop, 1) := by decide +kernel
theorem dX10_greedyChange_5 : decode cX10_greedyChange 5 = .ok (.iload_n 1, 1) := by decide +kernel
theorem dX10_greedyChange_6 : decode cX10_greedyChange 6 = .ok (.ifCond .ge 7, 3) := by decide +kernel
theorem dX10_greedyChange_9 : decode cX10_greedyChange 9 = .ok (.iconst (-1), 1) := by decide +kernel
theorem dX10_greedyChange_10 : decode cX10_greedyChange 10 = .ok (.goto 8, 3) := by decide +kernel
theorem dX10_greedyChange_13 : decode cX10_greedyChange 13 = .ok (.aload_n 0, 1) := by decide +kernel
theorem dX10_greedyChange_14 : decode cX10_greedyChange 14 = .ok (.iload_n 1, 1) := by decide +kernel
theorem dX10_greedyChange_15 : decode cX10_greedyChange 15 = .ok (.invokevirtual 178, 3) := by decide +kernel
theorem dX10_greedyChange_18 : decode cX10_greedyChange 18 = .ok (.istore_n 2, 1) := by decide +kernel
theorem dX10_greedyChange_19 : decode cX10_greedyChange 19 = .ok (.aload_n 0, 1) := by decide +kernel
theorem dX10_greedyChange_20 : decode cX10_greedyChange 20 = .ok (.iload_n 2, 1) := by decide +kernel
theorem dX10_greedyChange_21 : decode cX10_greedyChange 21 = .ok (.ifCond .ge 7, 3) := by decide +kernel
theorem dX10_greedyChange_24 : decode cX10_greedyChange 24 = .ok (.iconst 1, 1) := by decide +kernel
theorem dX10_greedyChange_25 : decode cX10_greedyChange 25 = .ok (.goto 4, 3) := by decide +kernel
theorem dX10_greedyChange_28 : decode cX10_greedyChange 28 = .ok (.iconst 0, 1) := by decide +kernel
theorem dX10_greedyChange_29 : decode cX10_greedyChange 29 = .ok (.invokevirtual 114, 3) := by decide +kernel
theorem dX10_greedyChange_32 : decode cX10_greedyChange 32 = .ok (.ifCond .eq 7, 3) := by decide +kernel
theorem dX10_greedyChange_35 : decode cX10_greedyChange 35 = .ok (.iconst 0, 1) := by decide +kernel
theorem dX10_greedyChange_36 : decode cX10_greedyChange 36 = .ok (.goto 4, 3) := by decide +kernel
theorem dX10_greedyChange_39 : decode cX10_greedyChange 39 = .ok (.iload_n 2, 1) := by decide +kernel
theorem dX10_greedyChange_40 : decode cX10_greedyChange 40 = .ok (.ireturn, 1) := by decide +kernel
theorem dX10_greedyCost_0 : decode cX10_greedyCost 0 = .ok (.aload_n 0, 1) := by decide +kernel
theorem dX10_greedyCost_1 : decode cX10_greedyCost 1 = .ok (.aload_n 0, 1) := by decide +kernel
theorem dX10_greedyCost_2 : decode cX10_greedyCost 2 = .ok (.invokevirtual 174, 3) := by decide +kernel
theorem dX10_greedyCost_5 : decode cX10_greedyCost 5 = .ok (.invokevirtual 148, 3) := by decide +kernel
theorem dX10_greedyCost_8 : decode cX10_greedyCost 8 = .ok (.ireturn, 1) := by decide +kernel
theorem dX10_toggleTruth_0 : decode cX10_toggleTruth 0 = .ok (.aload_n 0, 1) := by decide +kernel
theorem dX10_toggleTruth_1 : decode cX10_toggleTruth 1 = .ok (.iload_n 1, 1) := by decide +kernel
theorem dX10_toggleTruth_2 : decode cX10_toggleTruth 2 = .ok (.iconst 0, 1) := by decide +kernel
theorem dX10_toggleTruth_3 : decode cX10_toggleTruth 3 = .ok (.aload_n 0, 1) := by decide +kernel
theorem dX10_toggleTruth_4 : decode cX10_toggleTruth 4 = .ok (.getfield 93, 3) := by decide +kernel
theorem dX10_toggleTruth_7 : decode cX10_toggleTruth 7 = .ok (.iconst 1, 1) := by decide +kernel
theorem dX10_toggleTruth_8 : decode cX10_toggleTruth 8 = .ok (.isub, 1) := by decide +kernel
theorem dX10_toggleTruth_9 : decode cX10_toggleTruth 9 = .ok (.invokestatic 109, 3) := by decide +kernel
theorem dX10_toggleTruth_12 : decode cX10_toggleTruth 12 = .ok (.ifCond .eq 7, 3) := by decide +kernel
theorem dX10_toggleTruth_15 : decode cX10_toggleTruth 15 = .ok (.iconst 0, 1) := by decide +kernel
theorem dX10_toggleTruth_16 : decode cX10_toggleTruth 16 = .ok (.goto 4, 3) := by decide +kernel
theorem dX10_toggleTruth_19 : decode cX10_toggleTruth 19 = .ok (.iconst 1, 1) := by decide +kernel
theorem dX10_toggleTruth_20 : decode cX10_toggleTruth 20 = .ok (.invokevirtual 114, 3) := by decide +kernel
theorem dX10_toggleTruth_23 : decode cX10_toggleTruth 23 = .ok (.ifCond .eq 5, 3) := by decide +kernel
theorem dX10_toggleTruth_26 : decode cX10_toggleTruth 26 = .ok (.iconst 0, 1) := by decide +kernel
theorem dX10_toggleTruth_27 : decode cX10_toggleTruth 27 = .ok (.ireturn, 1) := by decide +kernel
theorem dX10_toggleTruth_28 : decode cX10_toggleTruth 28 = .ok (.aload_n 0, 1) := by decide +kernel
theorem dX10_toggleTruth_29 : decode cX10_toggleTruth 29 = .ok (.getfield 32, 3) := by decide +kernel
theorem dX10_toggleTruth_32 : decode cX10_toggleTruth 32 = .ok (.iload_n 1, 1) := by decide +kernel
theorem dX10_toggleTruth_33 : decode cX10_toggleTruth 33 = .ok (.aload_n 0, 1) := by decide +kernel
theorem dX10_toggleTruth_34 : decode cX10_toggleTruth 34 = .ok (.getfield 32, 3) := by decide +kernel
theorem dX10_toggleTruth_37 : decode cX10_toggleTruth 37 = .ok (.iload_n 1, 1) := by decide +kernel
theorem dX10_toggleTruth_38 : decode cX10_toggleTruth 38 = .ok (.baload, 1) := by decide +kernel
theorem dX10_toggleTruth_39 : decode cX10_toggleTruth 39 = .ok (.ifCond .ne 7, 3) := by decide +kernel
theorem dX10_toggleTruth_42 : decode cX10_toggleTruth 42 = .ok (.iconst 1, 1) := by decide +kernel
theorem dX10_toggleTruth_43 : decode cX10_toggleTruth 43 = .ok (.goto 4, 3) := by decide +kernel
theorem dX10_toggleTruth_46 : decode cX10_toggleTruth 46 = .ok (.iconst 0, 1) := by decide +kernel
theorem dX10_toggleTruth_47 : decode cX10_toggleTruth 47 = .ok (.bastore, 1) := by decide +kernel
theorem dX10_toggleTruth_48 : decode cX10_toggleTruth 48 = .ok (.aload_n 0, 1) := by decide +kernel
theorem dX10_toggleTruth_49 : decode cX10_toggleTruth 49 = .ok (.getfield 32, 3) := by decide +kernel
theorem dX10_toggleTruth_52 : decode cX10_toggleTruth 52 = .ok (.iload_n 1, 1) := by decide +kernel
theorem dX10_toggleTruth_53 : decode cX10_toggleTruth 53 = .ok (.baload, 1) := by decide +kernel
theorem dX10_toggleTruth_54 : decode cX10_toggleTruth 54 = .ok (.ireturn, 1) := by decide +kernel
theorem dX10_matches_0 : decode cX10_matches 0 = .ok (.aload_n 0, 1) := by decide +kernel
theorem dX10_matches_1 : decode cX10_matches 1 = .ok (.iconst 0, 1) := by decide +kernel
theorem dX10_matches_2 : decode cX10_matches 2 = .ok (.putfield 181, 3) := by decide +kernel
theorem dX10_matches_5 : decode cX10_matches 5 = .ok (.iconst 0, 1) := by decide +kernel
theorem dX10_matches_6 : decode cX10_matches 6 = .ok (.istore_n 3, 1) := by decide +kernel
theorem dX10_matches_7 : decode cX10_matches 7 = .ok (.iconst 0, 1) := by decide +kernel
theorem dX10_matches_8 : decode cX10_matches 8 = .ok (.istore 4, 2) := by decide +kernel
theorem dX10_matches_10 : decode cX10_matches 10 = .ok (.iload 4, 2) := by decide +kernel
theorem dX10_matches_12 : decode cX10_matches 12 = .ok (.bipush 120, 2) := by decide +kernel
theorem dX10_matches_14 : decode cX10_matches 14 = .ok (.if_icmp .ge 17, 3) := by decide +kernel
theorem dX10_matches_17 : decode cX10_matches 17 = .ok (.aload_n 0, 1) := by decide +kernel
theorem dX10_matches_18 : decode cX10_matches 18 = .ok (.getfield 66, 3) := by decide +kernel
theorem dX10_matches_21 : decode cX10_matches 21 = .ok (.iload 4, 2) := by decide +kernel
theorem dX10_matches_23 : decode cX10_matches 23 = .ok (.iconst 0, 1) := by decide +kernel
theorem dX10_matches_24 : decode cX10_matches 24 = .ok (.bastore, 1) := by decide +kernel
theorem dX10_matches_25 : decode cX10_matches 25 = .ok (.iinc 4 1, 3) := by decide +kernel
theorem dX10_matches_28 : decode cX10_matches 28 = .ok (.goto (-18), 3) := by decide +kernel
theorem dX10_matches_31 : decode cX10_matches 31 = .ok (.iconst 0, 1) := by decide +kernel
theorem dX10_matches_32 : decode cX10_matches 32 = .ok (.istore 4, 2) := by decide +kernel
theorem dX10_matches_34 : decode cX10_matches 34 = .ok (.iload 4, 2) := by decide +kernel
theorem dX10_matches_36 : decode cX10_matches 36 = .ok (.aload_n 0, 1) := by decide +kernel
theorem dX10_matches_37 : decode cX10_matches 37 = .ok (.getfield 96, 3) := by decide +kernel
theorem dX10_matches_40 : decode cX10_matches 40 = .ok (.if_icmp .ge 135, 3) := by decide +kernel
theorem dX10_matches_43 : decode cX10_matches 43 = .ok (.aload_n 0, 1) := by decide +kernel
theorem dX10_matches_44 : decode cX10_matches 44 = .ok (.getfield 39, 3) := by decide +kernel
theorem dX10_matches_47 : decode cX10_matches 47 = .ok (.iload 4, 2) := by decide +kernel
theorem dX10_matches_49 : decode cX10_matches 49 = .ok (.iaload, 1) := by decide +kernel
theorem dX10_matches_50 : decode cX10_matches 50 = .ok (.istore 5, 2) := by decide +kernel
theorem dX10_matches_52 : decode cX10_matches 52 = .ok (.iload 5, 2) := by decide +kernel
theorem dX10_matches_54 : decode cX10_matches 54 = .ok (.ifCond .lt 43, 3) := by decide +kernel
theorem dX10_matches_57 : decode cX10_matches 57 = .ok (.iload 5, 2) := by decide +kernel
theorem dX10_matches_59 : decode cX10_matches 59 = .ok (.aload_n 0, 1) := by decide +kernel
theorem dX10_matches_60 : decode cX10_matches 60 = .ok (.getfield 39, 3) := by decide +kernel
theorem dX10_matches_63 : decode cX10_matches 63 = .ok (.iload 4, 2) := by decide +kernel
theorem dX10_matches_65 : decode cX10_matches 65 = .ok (.iaload, 1) := by decide +kernel
theorem dX10_matches_66 : decode cX10_matches 66 = .ok (.iload_n 2, 1) := by decide +kernel
theorem dX10_matches_67 : decode cX10_matches 67 = .ok (.isub, 1) := by decide +kernel
theorem dX10_matches_68 : decode cX10_matches 68 = .ok (.if_icmp .lt 29, 3) := by decide +kernel
theorem dX10_matches_71 : decode cX10_matches 71 = .ok (.aload_n 0, 1) := by decide +kernel
theorem dX10_matches_72 : decode cX10_matches 72 = .ok (.getfield 32, 3) := by decide +kernel
theorem dX10_matches_75 : decode cX10_matches 75 = .ok (.iload 5, 2) := by decide +kernel
theorem dX10_matches_77 : decode cX10_matches 77 = .ok (.baload, 1) := by decide +kernel
theorem dX10_matches_78 : decode cX10_matches 78 = .ok (.ifCond .eq 13, 3) := by decide +kernel
theorem dX10_matches_81 : decode cX10_matches 81 = .ok (.aload_n 0, 1) := by decide +kernel
theorem dX10_matches_82 : decode cX10_matches 82 = .ok (.getfield 66, 3) := by decide +kernel
theorem dX10_matches_85 : decode cX10_matches 85 = .ok (.iload 5, 2) := by decide +kernel
theorem dX10_matches_87 : decode cX10_matches 87 = .ok (.baload, 1) := by decide +kernel
theorem dX10_matches_88 : decode cX10_matches 88 = .ok (.ifCond .eq 9, 3) := by decide +kernel
theorem dX10_matches_91 : decode cX10_matches 91 = .ok (.iinc 5 (-1), 3) := by decide +kernel
theorem dX10_matches_94 : decode cX10_matches 94 = .ok (.goto (-42), 3) := by decide +kernel
theorem dX10_matches_97 : decode cX10_matches 97 = .ok (.aload_n 0, 1) := by decide +kernel
theorem dX10_matches_98 : decode cX10_matches 98 = .ok (.getfield 36, 3) := by decide +kernel
theorem dX10_matches_101 : decode cX10_matches 101 = .ok (.iload 4, 2) := by decide +kernel
theorem dX10_matches_103 : decode cX10_matches 103 = .ok (.iaload, 1) := by decide +kernel
theorem dX10_matches_104 : decode cX10_matches 104 = .ok (.iload_n 1, 1) := by decide +kernel
theorem dX10_matches_105 : decode cX10_matches 105 = .ok (.if_icmp .ne 26, 3) := by decide +kernel
theorem dX10_matches_108 : decode cX10_matches 108 = .ok (.iload 5, 2) := by decide +kernel
theorem dX10_matches_110 : decode cX10_matches 110 = .ok (.ifCond .lt 21, 3) := by decide +kernel
theorem dX10_matches_113 : decode cX10_matches 113 = .ok (.iload 5, 2) := by decide +kernel
theorem dX10_matches_115 : decode cX10_matches 115 = .ok (.aload_n 0, 1) := by decide +kernel
theorem dX10_matches_116 : decode cX10_matches 116 = .ok (.getfield 39, 3) := by decide +kernel
theorem dX10_matches_119 : decode cX10_matches 119 = .ok (.iload 4, 2) := by decide +kernel
theorem dX10_matches_121 : decode cX10_matches 121 = .ok (.iaload, 1) := by decide +kernel
theorem dX10_matches_122 : decode cX10_matches 122 = .ok (.iload_n 2, 1) := by decide +kernel
theorem dX10_matches_123 : decode cX10_matches 123 = .ok (.isub, 1) := by decide +kernel
theorem dX10_matches_124 : decode cX10_matches 124 = .ok (.if_icmp .lt 7, 3) := by decide +kernel
theorem dX10_matches_127 : decode cX10_matches 127 = .ok (.iconst 1, 1) := by decide +kernel
theorem dX10_matches_128 : decode cX10_matches 128 = .ok (.goto 4, 3) := by decide +kernel
theorem dX10_matches_131 : decode cX10_matches 131 = .ok (.iconst 0, 1) := by decide +kernel
theorem dX10_matches_132 : decode cX10_matches 132 = .ok (.istore 6, 2) := by decide +kernel
theorem dX10_matches_134 : decode cX10_matches 134 = .ok (.iload 6, 2) := by decide +kernel
theorem dX10_matches_136 : decode cX10_matches 136 = .ok (.ifCond .eq 33, 3) := by decide +kernel
theorem dX10_matches_139 : decode cX10_matches 139 = .ok (.aload_n 0, 1) := by decide +kernel
theorem dX10_matches_140 : decode cX10_matches 140 = .ok (.getfield 66, 3) := by decide +kernel
theorem dX10_matches_143 : decode cX10_matches 143 = .ok (.iload 5, 2) := by decide +kernel
theorem dX10_matches_145 : decode cX10_matches 145 = .ok (.iconst 1, 1) := by decide +kernel
theorem dX10_matches_146 : decode cX10_matches 146 = .ok (.bastore, 1) := by decide +kernel
theorem dX10_matches_147 : decode cX10_matches 147 = .ok (.aload_n 0, 1) := by decide +kernel
theorem dX10_matches_148 : decode cX10_matches 148 = .ok (.dup, 1) := by decide +kernel
theorem dX10_matches_149 : decode cX10_matches 149 = .ok (.getfield 181, 3) := by decide +kernel
theorem dX10_matches_152 : decode cX10_matches 152 = .ok (.aload_n 0, 1) := by decide +kernel
theorem dX10_matches_153 : decode cX10_matches 153 = .ok (.getfield 39, 3) := by decide +kernel
theorem dX10_matches_156 : decode cX10_matches 156 = .ok (.iload 4, 2) := by decide +kernel
theorem dX10_matches_158 : decode cX10_matches 158 = .ok (.iaload, 1) := by decide +kernel
theorem dX10_matches_159 : decode cX10_matches 159 = .ok (.iload 5, 2) := by decide +kernel
theorem dX10_matches_161 : decode cX10_matches 161 = .ok (.isub, 1) := by decide +kernel
theorem dX10_matches_162 : decode cX10_matches 162 = .ok (.iadd, 1) := by decide +kernel
theorem dX10_matches_163 : decode cX10_matches 163 = .ok (.putfield 181, 3) := by decide +kernel
theorem dX10_matches_166 : decode cX10_matches 166 = .ok (.iinc 3 1, 3) := by decide +kernel
theorem dX10_matches_169 : decode cX10_matches 169 = .ok (.iinc 4 1, 3) := by decide +kernel
theorem dX10_matches_172 : decode cX10_matches 172 = .ok (.goto (-138), 3) := by decide +kernel
theorem dX10_matches_175 : decode cX10_matches 175 = .ok (.iload_n 3, 1) := by decide +kernel
theorem dX10_matches_176 : decode cX10_matches 176 = .ok (.ireturn, 1) := by decide +kernel
theorem dX10_isNoWindow_0 : decode cX10_isNoWindow 0 = .ok (.aload_n 0, 1) := by decide +kernel
theorem dX10_isNoWindow_1 : decode cX10_isNoWindow 1 = .ok (.iload_n 1, 1) := by decide +kernel
theorem dX10_isNoWindow_2 : decode cX10_isNoWindow 2 = .ok (.iconst 0, 1) := by decide +kernel
theorem dX10_isNoWindow_3 : decode cX10_isNoWindow 3 = .ok (.iconst 2, 1) := by decide +kernel
theorem dX10_isNoWindow_4 : decode cX10_isNoWindow 4 = .ok (.invokestatic 109, 3) := by decide +kernel
theorem dX10_isNoWindow_7 : decode cX10_isNoWindow 7 = .ok (.ifCond .eq 17, 3) := by decide +kernel
theorem dX10_isNoWindow_10 : decode cX10_isNoWindow 10 = .ok (.iload_n 2, 1) := by decide +kernel
theorem dX10_isNoWindow_11 : decode cX10_isNoWindow 11 = .ok (.iconst 0, 1) := by decide +kernel
theorem dX10_isNoWindow_12 : decode cX10_isNoWindow 12 = .ok (.bipush 120, 2) := by decide +kernel
theorem dX10_isNoWindow_14 : decode cX10_isNoWindow 14 = .ok (.invokestatic 109, 3) := by decide +kernel
theorem dX10_isNoWindow_17 : decode cX10_isNoWindow 17 = .ok (.ifCond .eq 7, 3) := by decide +kernel
theorem dX10_isNoWindow_20 : decode cX10_isNoWindow 20 = .ok (.iconst 0, 1) := by decide +kernel
theorem dX10_isNoWindow_21 : decode cX10_isNoWindow 21 = .ok (.goto 4, 3) := by decide +kernel
theorem dX10_isNoWindow_24 : decode cX10_isNoWindow 24 = .ok (.iconst 1, 1) := by decide +kernel
theorem dX10_isNoWindow_25 : decode cX10_isNoWindow 25 = .ok (.invokevirtual 114, 3) := by decide +kernel
theorem dX10_isNoWindow_28 : decode cX10_isNoWindow 28 = .ok (.ireturn, 1) := by decide +kernel
theorem dX10_matched_0 : decode cX10_matched 0 = .ok (.aload_n 0, 1) := by decide +kernel
theorem dX10_matched_1 : decode cX10_matched 1 = .ok (.iload_n 1, 1) := by decide +kernel
theorem dX10_matched_2 : decode cX10_matched 2 = .ok (.iload_n 2, 1) := by decide +kernel
theorem dX10_matched_3 : decode cX10_matched 3 = .ok (.invokevirtual 184, 3) := by decide +kernel
theorem dX10_matched_6 : decode cX10_matched 6 = .ok (.ifCond .eq 7, 3) := by decide +kernel
theorem dX10_matched_9 : decode cX10_matched 9 = .ok (.iconst 0, 1) := by decide +kernel
theorem dX10_matched_10 : decode cX10_matched 10 = .ok (.goto 9, 3) := by decide +kernel
theorem dX10_matched_13 : decode cX10_matched 13 = .ok (.aload_n 0, 1) := by decide +kernel
theorem dX10_matched_14 : decode cX10_matched 14 = .ok (.iload_n 1, 1) := by decide +kernel
theorem dX10_matched_15 : decode cX10_matched 15 = .ok (.iload_n 2, 1) := by decide +kernel
theorem dX10_matched_16 : decode cX10_matched 16 = .ok (.invokevirtual 187, 3) := by decide +kernel
theorem dX10_matched_19 : decode cX10_matched 19 = .ok (.ireturn, 1) := by decide +kernel
theorem dX10_falseAlarms_0 : decode cX10_falseAlarms 0 = .ok (.aload_n 0, 1) := by decide +kernel
theorem dX10_falseAlarms_1 : decode cX10_falseAlarms 1 = .ok (.iload_n 1, 1) := by decide +kernel
theorem dX10_falseAlarms_2 : decode cX10_falseAlarms 2 = .ok (.iload_n 2, 1) := by decide +kernel
theorem dX10_falseAlarms_3 : decode cX10_falseAlarms 3 = .ok (.invokevirtual 184, 3) := by decide +kernel
theorem dX10_falseAlarms_6 : decode cX10_falseAlarms 6 = .ok (.ifCond .eq 5, 3) := by decide +kernel
theorem dX10_falseAlarms_9 : decode cX10_falseAlarms 9 = .ok (.iconst 0, 1) := by decide +kernel
theorem dX10_falseAlarms_10 : decode cX10_falseAlarms 10 = .ok (.ireturn, 1) := by decide +kernel
theorem dX10_falseAlarms_11 : decode cX10_falseAlarms 11 = .ok (.aload_n 0, 1) := by decide +kernel
theorem dX10_falseAlarms_12 : decode cX10_falseAlarms 12 = .ok (.iload_n 1, 1) := by decide +kernel
theorem dX10_falseAlarms_13 : decode cX10_falseAlarms 13 = .ok (.iload_n 2, 1) := by decide +kernel
theorem dX10_falseAlarms_14 : decode cX10_falseAlarms 14 = .ok (.invokevirtual 187, 3) := by decide +kernel
theorem dX10_falseAlarms_17 : decode cX10_falseAlarms 17 = .ok (.ineg, 1) := by decide +kernel
theorem dX10_falseAlarms_18 : decode cX10_falseAlarms 18 = .ok (.istore_n 3, 1) := by decide +kernel
theorem dX10_falseAlarms_19 : decode cX10_falseAlarms 19 = .ok (.iconst 0, 1) := by decide +kernel
theorem dX10_falseAlarms_20 : decode cX10_falseAlarms 20 = .ok (.istore 4, 2) := by decide +kernel
theorem dX10_falseAlarms_22 : decode cX10_falseAlarms 22 = .ok (.iload 4, 2) := by decide +kernel
theorem dX10_falseAlarms_24 : decode cX10_falseAlarms 24 = .ok (.aload_n 0, 1) := by decide +kernel
theorem dX10_falseAlarms_25 : decode cX10_falseAlarms 25 = .ok (.getfield 96, 3) := by decide +kernel
theorem dX10_falseAlarms_28 : decode cX10_falseAlarms 28 = .ok (.if_icmp .ge 28, 3) := by decide +kernel
theorem dX10_falseAlarms_31 : decode cX10_falseAlarms 31 = .ok (.iload_n 3, 1) := by decide +kernel
theorem dX10_falseAlarms_32 : decode cX10_falseAlarms 32 = .ok (.aload_n 0, 1) := by decide +kernel
theorem dX10_falseAlarms_33 : decode cX10_falseAlarms 33 = .ok (.getfield 36, 3) := by decide +kernel
theorem dX10_falseAlarms_36 : decode cX10_falseAlarms 36 = .ok (.iload 4, 2) := by decide +kernel
theorem dX10_falseAlarms_38 : decode cX10_falseAlarms 38 = .ok (.iaload, 1) := by decide +kernel
theorem dX10_falseAlarms_39 : decode cX10_falseAlarms 39 = .ok (.iload_n 1, 1) := by decide +kernel
theorem dX10_falseAlarms_40 : decode cX10_falseAlarms 40 = .ok (.if_icmp .ne 7, 3) := by decide +kernel
theorem dX10_falseAlarms_43 : decode cX10_falseAlarms 43 = .ok (.iconst 1, 1) := by decide +kernel
theorem dX10_falseAlarms_44 : decode cX10_falseAlarms 44 = .ok (.goto 4, 3) := by decide +kernel
theorem dX10_falseAlarms_47 : decode cX10_falseAlarms 47 = .ok (.iconst 0, 1) := by decide +kernel
theorem dX10_falseAlarms_48 : decode cX10_falseAlarms 48 = .ok (.iadd, 1) := by decide +kernel
theorem dX10_falseAlarms_49 : decode cX10_falseAlarms 49 = .ok (.istore_n 3, 1) := by decide +kernel
theorem dX10_falseAlarms_50 : decode cX10_falseAlarms 50 = .ok (.iinc 4 1, 3) := by decide +kernel
theorem dX10_falseAlarms_53 : decode cX10_falseAlarms 53 = .ok (.goto (-31), 3) := by decide +kernel
theorem dX10_falseAlarms_56 : decode cX10_falseAlarms 56 = .ok (.iload_n 3, 1) := by decide +kernel
theorem dX10_falseAlarms_57 : decode cX10_falseAlarms 57 = .ok (.ireturn, 1) := by decide +kernel
theorem dX10_averageDelay_0 : decode cX10_averageDelay 0 = .ok (.aload_n 0, 1) := by decide +kernel
theorem dX10_averageDelay_1 : decode cX10_averageDelay 1 = .ok (.iload_n 1, 1) := by decide +kernel
theorem dX10_averageDelay_2 : decode cX10_averageDelay 2 = .ok (.iload_n 2, 1) := by decide +kernel
theorem dX10_averageDelay_3 : decode cX10_averageDelay 3 = .ok (.invokevirtual 184, 3) := by decide +kernel
theorem dX10_averageDelay_6 : decode cX10_averageDelay 6 = .ok (.ifCond .eq 5, 3) := by decide +kernel
theorem dX10_averageDelay_9 : decode cX10_averageDelay 9 = .ok (.fconst 0, 1) := by decide +kernel
theorem dX10_averageDelay_10 : decode cX10_averageDelay 10 = .ok (.freturn, 1) := by decide +kernel
theorem dX10_averageDelay_11 : decode cX10_averageDelay 11 = .ok (.aload_n 0, 1) := by decide +kernel
theorem dX10_averageDelay_12 : decode cX10_averageDelay 12 = .ok (.iload_n 1, 1) := by decide +kernel
theorem dX10_averageDelay_13 : decode cX10_averageDelay 13 = .ok (.iload_n 2, 1) := by decide +kernel
theorem dX10_averageDelay_14 : decode cX10_averageDelay 14 = .ok (.invokevirtual 187, 3) := by decide +kernel
theorem dX10_averageDelay_17 : decode cX10_averageDelay 17 = .ok (.istore_n 3, 1) := by decide +kernel
theorem dX10_averageDelay_18 : decode cX10_averageDelay 18 = .ok (.aload_n 0, 1) := by decide +kernel
theorem dX10_averageDelay_19 : decode cX10_averageDelay 19 = .ok (.iload_n 3, 1) := by decide +kernel
theorem dX10_averageDelay_20 : decode cX10_averageDelay 20 = .ok (.ifCond .ne 7, 3) := by decide +kernel
theorem dX10_averageDelay_23 : decode cX10_averageDelay 23 = .ok (.iconst 2, 1) := by decide +kernel
theorem dX10_averageDelay_24 : decode cX10_averageDelay 24 = .ok (.goto 4, 3) := by decide +kernel
theorem dX10_averageDelay_27 : decode cX10_averageDelay 27 = .ok (.iconst 0, 1) := by decide +kernel
theorem dX10_averageDelay_28 : decode cX10_averageDelay 28 = .ok (.invokevirtual 114, 3) := by decide +kernel
theorem dX10_averageDelay_31 : decode cX10_averageDelay 31 = .ok (.ifCond .eq 7, 3) := by decide +kernel
theorem dX10_averageDelay_34 : decode cX10_averageDelay 34 = .ok (.fconst 0, 1) := by decide +kernel
theorem dX10_averageDelay_35 : decode cX10_averageDelay 35 = .ok (.goto 11, 3) := by decide +kernel
theorem dX10_averageDelay_38 : decode cX10_averageDelay 38 = .ok (.aload_n 0, 1) := by decide +kernel
theorem dX10_averageDelay_39 : decode cX10_averageDelay 39 = .ok (.getfield 181, 3) := by decide +kernel
theorem dX10_averageDelay_42 : decode cX10_averageDelay 42 = .ok (.i2f, 1) := by decide +kernel
theorem dX10_averageDelay_43 : decode cX10_averageDelay 43 = .ok (.iload_n 3, 1) := by decide +kernel
theorem dX10_averageDelay_44 : decode cX10_averageDelay 44 = .ok (.i2f, 1) := by decide +kernel
theorem dX10_averageDelay_45 : decode cX10_averageDelay 45 = .ok (.fdiv, 1) := by decide +kernel
theorem dX10_averageDelay_46 : decode cX10_averageDelay 46 = .ok (.freturn, 1) := by decide +kernel
theorem dJ9_floorDiv_7cf53_0 : decode cJ9_floorDiv_7cf53 0 = .ok (.iload_n 0, 1) := by decide +kernel
