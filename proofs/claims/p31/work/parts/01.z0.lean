theorem dX0_init_0 : decode cX0_init 0 = .ok (.aload_n 0, 1) := by decide +kernel
theorem dX0_init_1 : decode cX0_init 1 = .ok (.invokespecial 3, 3) := by decide +kernel
theorem dX0_init_4 : decode cX0_init 4 = .ok (.aload_n 0, 1) := by decide +kernel
theorem dX0_init_5 : decode cX0_init 5 = .ok (.sipush 360, 3) := by decide +kernel
theorem dX0_init_8 : decode cX0_init 8 = .ok (.newarray .int, 2) := by decide +kernel
theorem dX0_init_10 : decode cX0_init 10 = .ok (.putfield 11, 3) := by decide +kernel
theorem dX0_init_13 : decode cX0_init 13 = .ok (.aload_n 0, 1) := by decide +kernel
theorem dX0_init_14 : decode cX0_init 14 = .ok (.sipush 360, 3) := by decide +kernel
theorem dX0_init_17 : decode cX0_init 17 = .ok (.newarray .int, 2) := by decide +kernel
theorem dX0_init_19 : decode cX0_init 19 = .ok (.putfield 15, 3) := by decide +kernel
theorem dX0_init_22 : decode cX0_init 22 = .ok (.aload_n 0, 1) := by decide +kernel
theorem dX0_init_23 : decode cX0_init 23 = .ok (.sipush 360, 3) := by decide +kernel
theorem dX0_init_26 : decode cX0_init 26 = .ok (.newarray .int, 2) := by decide +kernel
theorem dX0_init_28 : decode cX0_init 28 = .ok (.putfield 18, 3) := by decide +kernel
theorem dX0_init_31 : decode cX0_init 31 = .ok (.aload_n 0, 1) := by decide +kernel
theorem dX0_init_32 : decode cX0_init 32 = .ok (.iconst 0, 1) := by decide +kernel
theorem dX0_init_33 : decode cX0_init 33 = .ok (.putfield 21, 3) := by decide +kernel
theorem dX0_init_36 : decode cX0_init 36 = .ok (.return_, 1) := by decide +kernel
theorem dX0_raise_0 : decode cX0_raise 0 = .ok (.aload_n 0, 1) := by decide +kernel
theorem dX0_raise_1 : decode cX0_raise 1 = .ok (.getfield 21, 3) := by decide +kernel
theorem dX0_raise_4 : decode cX0_raise 4 = .ok (.sipush 360, 3) := by decide +kernel
theorem dX0_raise_7 : decode cX0_raise 7 = .ok (.if_icmp .ge 43, 3) := by decide +kernel
theorem dX0_raise_10 : decode cX0_raise 10 = .ok (.aload_n 0, 1) := by decide +kernel
theorem dX0_raise_11 : decode cX0_raise 11 = .ok (.getfield 11, 3) := by decide +kernel
theorem dX0_raise_14 : decode cX0_raise 14 = .ok (.aload_n 0, 1) := by decide +kernel
theorem dX0_raise_15 : decode cX0_raise 15 = .ok (.getfield 21, 3) := by decide +kernel
theorem dX0_raise_18 : decode cX0_raise 18 = .ok (.iload_n 1, 1) := by decide +kernel
theorem dX0_raise_19 : decode cX0_raise 19 = .ok (.iastore, 1) := by decide +kernel
theorem dX0_raise_20 : decode cX0_raise 20 = .ok (.aload_n 0, 1) := by decide +kernel
theorem dX0_raise_21 : decode cX0_raise 21 = .ok (.getfield 15, 3) := by decide +kernel
theorem dX0_raise_24 : decode cX0_raise 24 = .ok (.aload_n 0, 1) := by decide +kernel
theorem dX0_raise_25 : decode cX0_raise 25 = .ok (.getfield 21, 3) := by decide +kernel
theorem dX0_raise_28 : decode cX0_raise 28 = .ok (.iload_n 2, 1) := by decide +kernel
theorem dX0_raise_29 : decode cX0_raise 29 = .ok (.iastore, 1) := by decide +kernel
theorem dX0_raise_30 : decode cX0_raise 30 = .ok (.aload_n 0, 1) := by decide +kernel
theorem dX0_raise_31 : decode cX0_raise 31 = .ok (.getfield 18, 3) := by decide +kernel
theorem dX0_raise_34 : decode cX0_raise 34 = .ok (.aload_n 0, 1) := by decide +kernel
theorem dX0_raise_35 : decode cX0_raise 35 = .ok (.getfield 21, 3) := by decide +kernel
theorem dX0_raise_38 : decode cX0_raise 38 = .ok (.iload_n 3, 1) := by decide +kernel
theorem dX0_raise_39 : decode cX0_raise 39 = .ok (.iastore, 1) := by decide +kernel
theorem dX0_raise_40 : decode cX0_raise 40 = .ok (.aload_n 0, 1) := by decide +kernel
theorem dX0_raise_41 : decode cX0_raise 41 = .ok (.dup, 1) := by decide +kernel
theorem dX0_raise_42 : decode cX0_raise 42 = .ok (.getfield 21, 3) := by decide +kernel
theorem dX0_raise_45 : decode cX0_raise 45 = .ok (.iconst 1, 1) := by decide +kernel
theorem dX0_raise_46 : decode cX0_raise 46 = .ok (.iadd, 1) := by decide +kernel
theorem dX0_raise_47 : decode cX0_raise 47 = .ok (.putfield 21, 3) := by decide +kernel
theorem dX0_raise_50 : decode cX0_raise 50 = .ok (.return_, 1) := by decide +kernel
theorem dX0_has_0 : decode cX0_has 0 = .ok (.iload_n 1, 1) := by decide +kernel
theorem dX0_has_1 : decode cX0_has 1 = .ok (.ifCond .lt 15, 3) := by decide +kernel
theorem dX0_has_4 : decode cX0_has 4 = .ok (.iload_n 1, 1) := by decide +kernel
theorem dX0_has_5 : decode cX0_has 5 = .ok (.aload_n 0, 1) := by decide +kernel
theorem dX0_has_6 : decode cX0_has 6 = .ok (.getfield 21, 3) := by decide +kernel
theorem dX0_has_9 : decode cX0_has 9 = .ok (.if_icmp .ge 7, 3) := by decide +kernel
theorem dX0_has_12 : decode cX0_has 12 = .ok (.iconst 1, 1) := by decide +kernel
theorem dX0_has_13 : decode cX0_has 13 = .ok (.goto 4, 3) := by decide +kernel
theorem dX0_has_16 : decode cX0_has 16 = .ok (.iconst 0, 1) := by decide +kernel
theorem dX0_has_17 : decode cX0_has 17 = .ok (.ireturn, 1) := by decide +kernel
theorem dX0_removeAll_0 : decode cX0_removeAll 0 = .ok (.aload_n 0, 1) := by decide +kernel
theorem dX0_removeAll_1 : decode cX0_removeAll 1 = .ok (.iconst 0, 1) := by decide +kernel
theorem dX0_removeAll_2 : decode cX0_removeAll 2 = .ok (.putfield 21, 3) := by decide +kernel
theorem dX0_removeAll_5 : decode cX0_removeAll 5 = .ok (.return_, 1) := by decide +kernel
theorem dX1_init_0 : decode cX1_init 0 = .ok (.aload_n 0, 1) := by decide +kernel
theorem dX1_init_1 : decode cX1_init 1 = .ok (.invokespecial 3, 3) := by decide +kernel
theorem dX1_init_4 : decode cX1_init 4 = .ok (.aload_n 0, 1) := by decide +kernel
theorem dX1_init_5 : decode cX1_init 5 = .ok (.bipush 120, 2) := by decide +kernel
theorem dX1_init_7 : decode cX1_init 7 = .ok (.newarray .int, 2) := by decide +kernel
theorem dX1_init_9 : decode cX1_init 9 = .ok (.putfield 9, 3) := by decide +kernel
theorem dX1_init_12 : decode cX1_init 12 = .ok (.aload_n 0, 1) := by decide +kernel
theorem dX1_init_13 : decode cX1_init 13 = .ok (.bipush 120, 2) := by decide +kernel
theorem dX1_init_15 : decode cX1_init 15 = .ok (.newarray .int, 2) := by decide +kernel
theorem dX1_init_17 : decode cX1_init 17 = .ok (.putfield 15, 3) := by decide +kernel
theorem dX1_init_20 : decode cX1_init 20 = .ok (.aload_n 0, 1) := by decide +kernel
theorem dX1_init_21 : decode cX1_init 21 = .ok (.bipush 120, 2) := by decide +kernel
theorem dX1_init_23 : decode cX1_init 23 = .ok (.newarray .int, 2) := by decide +kernel
theorem dX1_init_25 : decode cX1_init 25 = .ok (.putfield 18, 3) := by decide +kernel
theorem dX1_init_28 : decode cX1_init 28 = .ok (.return_, 1) := by decide +kernel
theorem dX1_find_0 : decode cX1_find 0 = .ok (.iload_n 2, 1) := by decide +kernel
theorem dX1_find_1 : decode cX1_find 1 = .ok (.iconst 1, 1) := by decide +kernel
theorem dX1_find_2 : decode cX1_find 2 = .ok (.isub, 1) := by decide +kernel
theorem dX1_find_3 : decode cX1_find 3 = .ok (.istore 5, 2) := by decide +kernel
theorem dX1_find_5 : decode cX1_find 5 = .ok (.iload 5, 2) := by decide +kernel
theorem dX1_find_7 : decode cX1_find 7 = .ok (.ifCond .lt 18, 3) := by decide +kernel
theorem dX1_find_10 : decode cX1_find 10 = .ok (.aload_n 0, 1) := by decide +kernel
theorem dX1_find_11 : decode cX1_find 11 = .ok (.aload_n 1, 1) := by decide +kernel
theorem dX1_find_12 : decode cX1_find 12 = .ok (.iload 5, 2) := by decide +kernel
theorem dX1_find_14 : decode cX1_find 14 = .ok (.iload_n 2, 1) := by decide +kernel
theorem dX1_find_15 : decode cX1_find 15 = .ok (.iload_n 3, 1) := by decide +kernel
theorem dX1_find_16 : decode cX1_find 16 = .ok (.invokevirtual 21, 3) := by decide +kernel
theorem dX1_find_19 : decode cX1_find 19 = .ok (.iinc 5 (-1), 3) := by decide +kernel
theorem dX1_find_22 : decode cX1_find 22 = .ok (.goto (-17), 3) := by decide +kernel
theorem dX1_find_25 : decode cX1_find 25 = .ok (.aload 4, 2) := by decide +kernel
theorem dX1_find_27 : decode cX1_find 27 = .ok (.invokevirtual 25, 3) := by decide +kernel
theorem dX1_find_30 : decode cX1_find 30 = .ok (.iload_n 2, 1) := by decide +kernel
theorem dX1_find_31 : decode cX1_find 31 = .ok (.ifCond .le 12, 3) := by decide +kernel
theorem dX1_find_34 : decode cX1_find 34 = .ok (.aload_n 0, 1) := by decide +kernel
theorem dX1_find_35 : decode cX1_find 35 = .ok (.getfield 18, 3) := by decide +kernel
theorem dX1_find_38 : decode cX1_find 38 = .ok (.iconst 0, 1) := by decide +kernel
theorem dX1_find_39 : decode cX1_find 39 = .ok (.iaload, 1) := by decide +kernel
theorem dX1_find_40 : decode cX1_find 40 = .ok (.goto 4, 3) := by decide +kernel
theorem dX1_find_43 : decode cX1_find 43 = .ok (.iconst 0, 1) := by decide +kernel
theorem dX1_find_44 : decode cX1_find 44 = .ok (.istore 5, 2) := by decide +kernel
theorem dX1_find_46 : decode cX1_find 46 = .ok (.iconst 1, 1) := by decide +kernel
theorem dX1_find_47 : decode cX1_find 47 = .ok (.istore 6, 2) := by decide +kernel
theorem dX1_find_49 : decode cX1_find 49 = .ok (.iload 6, 2) := by decide +kernel
theorem dX1_find_51 : decode cX1_find 51 = .ok (.iload_n 2, 1) := by decide +kernel
theorem dX1_find_52 : decode cX1_find 52 = .ok (.if_icmp .ge 32, 3) := by decide +kernel
theorem dX1_find_55 : decode cX1_find 55 = .ok (.iload 6, 2) := by decide +kernel
theorem dX1_find_57 : decode cX1_find 57 = .ok (.iload 5, 2) := by decide +kernel
theorem dX1_find_59 : decode cX1_find 59 = .ok (.if_icmp .ne 19, 3) := by decide +kernel
theorem dX1_find_62 : decode cX1_find 62 = .ok (.aload 4, 2) := by decide +kernel
theorem dX1_find_64 : decode cX1_find 64 = .ok (.iload 6, 2) := by decide +kernel
theorem dX1_find_66 : decode cX1_find 66 = .ok (.invokevirtual 30, 3) := by decide +kernel
theorem dX1_find_69 : decode cX1_find 69 = .ok (.aload_n 0, 1) := by decide +kernel
theorem dX1_find_70 : decode cX1_find 70 = .ok (.getfield 18, 3) := by decide +kernel
theorem dX1_find_73 : decode cX1_find 73 = .ok (.iload 6, 2) := by decide +kernel
theorem dX1_find_75 : decode cX1_find 75 = .ok (.iaload, 1) := by decide +kernel
theorem dX1_find_76 : decode cX1_find 76 = .ok (.istore 5, 2) := by decide +kernel
theorem dX1_find_78 : decode cX1_find 78 = .ok (.iinc 6 1, 3) := by decide +kernel
theorem dX1_find_81 : decode cX1_find 81 = .ok (.goto (-32), 3) := by decide +kernel
theorem dX1_find_84 : decode cX1_find 84 = .ok (.return_, 1) := by decide +kernel
theorem dX1_findFrom_0 : decode cX1_findFrom 0 = .ok (.aload_n 1, 1) := by decide +kernel
theorem dX1_findFrom_1 : decode cX1_findFrom 1 = .ok (.iload_n 2, 1) := by decide +kernel
theorem dX1_findFrom_2 : decode cX1_findFrom 2 = .ok (.iload_n 3, 1) := by decide +kernel
theorem dX1_findFrom_3 : decode cX1_findFrom 3 = .ok (.invokevirtual 34, 3) := by decide +kernel
theorem dX1_findFrom_6 : decode cX1_findFrom 6 = .ok (.istore 5, 2) := by decide +kernel
theorem dX1_findFrom_8 : decode cX1_findFrom 8 = .ok (.iconst 0, 1) := by decide +kernel
theorem dX1_findFrom_9 : decode cX1_findFrom 9 = .ok (.istore 6, 2) := by decide +kernel
theorem dX1_findFrom_11 : decode cX1_findFrom 11 = .ok (.iload_n 3, 1) := by decide +kernel
theorem dX1_findFrom_12 : decode cX1_findFrom 12 = .ok (.istore 7, 2) := by decide +kernel
theorem dX1_findFrom_14 : decode cX1_findFrom 14 = .ok (.iload_n 2, 1) := by decide +kernel
theorem dX1_findFrom_15 : decode cX1_findFrom 15 = .ok (.iconst 1, 1) := by decide +kernel
theorem dX1_findFrom_16 : decode cX1_findFrom 16 = .ok (.iadd, 1) := by decide +kernel
theorem dX1_findFrom_17 : decode cX1_findFrom 17 = .ok (.istore 8, 2) := by decide +kernel
theorem dX1_findFrom_19 : decode cX1_findFrom 19 = .ok (.iload 8, 2) := by decide +kernel
theorem dX1_findFrom_21 : decode cX1_findFrom 21 = .ok (.iload_n 3, 1) := by decide +kernel
theorem dX1_findFrom_22 : decode cX1_findFrom 22 = .ok (.if_icmp .ge 73, 3) := by decide +kernel
theorem dX1_findFrom_25 : decode cX1_findFrom 25 = .ok (.aload_n 1, 1) := by decide +kernel
theorem dX1_findFrom_26 : decode cX1_findFrom 26 = .ok (.iload_n 2, 1) := by decide +kernel
theorem dX1_findFrom_27 : decode cX1_findFrom 27 = .ok (.iload 8, 2) := by decide +kernel
theorem dX1_findFrom_29 : decode cX1_findFrom 29 = .ok (.invokevirtual 34, 3) := by decide +kernel
theorem dX1_findFrom_32 : decode cX1_findFrom 32 = .ok (.iload 4, 2) := by decide +kernel
theorem dX1_findFrom_34 : decode cX1_findFrom 34 = .ok (.iadd, 1) := by decide +kernel
theorem dX1_findFrom_35 : decode cX1_findFrom 35 = .ok (.aload_n 0, 1) := by decide +kernel
theorem dX1_findFrom_36 : decode cX1_findFrom 36 = .ok (.getfield 9, 3) := by decide +kernel
theorem dX1_findFrom_39 : decode cX1_findFrom 39 = .ok (.iload 8, 2) := by decide +kernel
theorem dX1_findFrom_41 : decode cX1_findFrom 41 = .ok (.iaload, 1) := by decide +kernel
theorem dX1_findFrom_42 : decode cX1_findFrom 42 = .ok (.iadd, 1) := by decide +kernel
theorem dX1_findFrom_43 : decode cX1_findFrom 43 = .ok (.istore 9, 2) := by decide +kernel
theorem dX1_findFrom_45 : decode cX1_findFrom 45 = .ok (.iconst 1, 1) := by decide +kernel
theorem dX1_findFrom_46 : decode cX1_findFrom 46 = .ok (.aload_n 0, 1) := by decide +kernel
theorem dX1_findFrom_47 : decode cX1_findFrom 47 = .ok (.getfield 15, 3) := by decide +kernel
theorem dX1_findFrom_50 : decode cX1_findFrom 50 = .ok (.iload 8, 2) := by decide +kernel
theorem dX1_findFrom_52 : decode cX1_findFrom 52 = .ok (.iaload, 1) := by decide +kernel
theorem dX1_findFrom_53 : decode cX1_findFrom 53 = .ok (.iadd, 1) := by decide +kernel
theorem dX1_findFrom_54 : decode cX1_findFrom 54 = .ok (.istore 10, 2) := by decide +kernel
theorem dX1_findFrom_56 : decode cX1_findFrom 56 = .ok (.iload 9, 2) := by decide +kernel
theorem dX1_findFrom_58 : decode cX1_findFrom 58 = .ok (.iload 5, 2) := by decide +kernel
theorem dX1_findFrom_60 : decode cX1_findFrom 60 = .ok (.if_icmp .lt 17, 3) := by decide +kernel
theorem dX1_findFrom_63 : decode cX1_findFrom 63 = .ok (.iload 9, 2) := by decide +kernel
theorem dX1_findFrom_65 : decode cX1_findFrom 65 = .ok (.iload 5, 2) := by decide +kernel
theorem dX1_findFrom_67 : decode cX1_findFrom 67 = .ok (.if_icmp .ne 22, 3) := by decide +kernel
theorem dX1_findFrom_70 : decode cX1_findFrom 70 = .ok (.iload 10, 2) := by decide +kernel
theorem dX1_findFrom_72 : decode cX1_findFrom 72 = .ok (.iload 6, 2) := by decide +kernel
theorem dX1_findFrom_74 : decode cX1_findFrom 74 = .ok (.if_icmp .ge 15, 3) := by decide +kernel
theorem dX1_findFrom_77 : decode cX1_findFrom 77 = .ok (.iload 9, 2) := by decide +kernel
theorem dX1_findFrom_79 : decode cX1_findFrom 79 = .ok (.istore 5, 2) := by decide +kernel
theorem dX1_findFrom_81 : decode cX1_findFrom 81 = .ok (.iload 10, 2) := by decide +kernel
theorem dX1_findFrom_83 : decode cX1_findFrom 83 = .ok (.istore 6, 2) := by decide +kernel
theorem dX1_findFrom_85 : decode cX1_findFrom 85 = .ok (.iload 8, 2) := by decide +kernel
theorem dX1_findFrom_87 : decode cX1_findFrom 87 = .ok (.istore 7, 2) := by decide +kernel
theorem dX1_findFrom_89 : decode cX1_findFrom 89 = .ok (.iinc 8 1, 3) := by decide +kernel
theorem dX1_findFrom_92 : decode cX1_findFrom 92 = .ok (.goto (-73), 3) := by decide +kernel
theorem dX1_findFrom_95 : decode cX1_findFrom 95 = .ok (.aload_n 0, 1) := by decide +kernel
theorem dX1_findFrom_96 : decode cX1_findFrom 96 = .ok (.getfield 9, 3) := by decide +kernel
theorem dX1_findFrom_99 : decode cX1_findFrom 99 = .ok (.iload_n 2, 1) := by decide +kernel
theorem dX1_findFrom_100 : decode cX1_findFrom 100 = .ok (.iload 5, 2) := by decide +kernel
theorem dX1_findFrom_102 : decode cX1_findFrom 102 = .ok (.iastore, 1) := by decide +kernel
theorem dX1_findFrom_103 : decode cX1_findFrom 103 = .ok (.aload_n 0, 1) := by decide +kernel
theorem dX1_findFrom_104 : decode cX1_findFrom 104 = .ok (.getfield 15, 3) := by decide +kernel
theorem dX1_findFrom_107 : decode cX1_findFrom 107 = .ok (.iload_n 2, 1) := by decide +kernel
theorem dX1_findFrom_108 : decode cX1_findFrom 108 = .ok (.iload 6, 2) := by decide +kernel
theorem dX1_findFrom_110 : decode cX1_findFrom 110 = .ok (.iastore, 1) := by decide +kernel
theorem dX1_findFrom_111 : decode cX1_findFrom 111 = .ok (.aload_n 0, 1) := by decide +kernel
theorem dX1_findFrom_112 : decode cX1_findFrom 112 = .ok (.getfield 18, 3) := by decide +kernel
theorem dX1_findFrom_115 : decode cX1_findFrom 115 = .ok (.iload_n 2, 1) := by decide +kernel
theorem dX1_findFrom_116 : decode cX1_findFrom 116 = .ok (.iload 7, 2) := by decide +kernel
theorem dX1_findFrom_118 : decode cX1_findFrom 118 = .ok (.iastore, 1) := by decide +kernel
theorem dX1_findFrom_119 : decode cX1_findFrom 119 = .ok (.return_, 1) := by decide +kernel
theorem dX2_init_0 : decode cX2_init 0 = .ok (.aload_n 0, 1) := by decide +kernel
theorem dX2_init_1 : decode cX2_init 1 = .ok (.invokespecial 3, 3) := by decide +kernel
theorem dX2_init_4 : decode cX2_init 4 = .ok (.aload_n 0, 1) := by decide +kernel
theorem dX2_init_5 : decode cX2_init 5 = .ok (.iconst 0, 1) := by decide +kernel
theorem dX2_init_6 : decode cX2_init 6 = .ok (.iconst 5, 1) := by decide +kernel
theorem dX2_init_7 : decode cX2_init 7 = .ok (.bipush 50, 2) := by decide +kernel
theorem dX2_init_9 : decode cX2_init 9 = .ok (.invokevirtual 9, 3) := by decide +kernel
theorem dX2_init_12 : decode cX2_init 12 = .ok (.return_, 1) := by decide +kernel
theorem dX2_setUp_0 : decode cX2_setUp 0 = .ok (.aload_n 0, 1) := by decide +kernel
theorem dX2_setUp_1 : decode cX2_setUp 1 = .ok (.iload_n 1, 1) := by decide +kernel
theorem dX2_setUp_2 : decode cX2_setUp 2 = .ok (.putfield 15, 3) := by decide +kernel
theorem dX2_setUp_5 : decode cX2_setUp 5 = .ok (.aload_n 0, 1) := by decide +kernel
theorem dX2_setUp_6 : decode cX2_setUp 6 = .ok (.iload_n 2, 1) := by decide +kernel
theorem dX2_setUp_7 : decode cX2_setUp 7 = .ok (.putfield 19, 3) := by decide +kernel
theorem dX2_setUp_10 : decode cX2_setUp 10 = .ok (.aload_n 0, 1) := by decide +kernel
theorem dX2_setUp_11 : decode cX2_setUp 11 = .ok (.iload_n 3, 1) := by decide +kernel
theorem dX2_setUp_12 : decode cX2_setUp 12 = .ok (.putfield 22, 3) := by decide +kernel
theorem dX2_setUp_15 : decode cX2_setUp 15 = .ok (.aload_n 0, 1) := by decide +kernel
theorem dX2_setUp_16 : decode cX2_setUp 16 = .ok (.invokevirtual 25, 3) := by decide +kernel
theorem dX2_setUp_19 : decode cX2_setUp 19 = .ok (.return_, 1) := by decide +kernel
theorem dX2_beginAnew_0 : decode cX2_beginAnew 0 = .ok (.aload_n 0, 1) := by decide +kernel
theorem dX2_beginAnew_1 : decode cX2_beginAnew 1 = .ok (.iconst 0, 1) := by decide +kernel
theorem dX2_beginAnew_2 : decode cX2_beginAnew 2 = .ok (.putfield 28, 3) := by decide +kernel
theorem dX2_beginAnew_5 : decode cX2_beginAnew 5 = .ok (.aload_n 0, 1) := by decide +kernel
theorem dX2_beginAnew_6 : decode cX2_beginAnew 6 = .ok (.iconst 0, 1) := by decide +kernel
theorem dX2_beginAnew_7 : decode cX2_beginAnew 7 = .ok (.putfield 31, 3) := by decide +kernel
theorem dX2_beginAnew_10 : decode cX2_beginAnew 10 = .ok (.return_, 1) := by decide +kernel
theorem dX2_watch_0 : decode cX2_watch 0 = .ok (.aload_n 0, 1) := by decide +kernel
theorem dX2_watch_1 : decode cX2_watch 1 = .ok (.iload_n 1, 1) := by decide +kernel
theorem dX2_watch_2 : decode cX2_watch 2 = .ok (.iload_n 2, 1) := by decide +kernel
theorem dX2_watch_3 : decode cX2_watch 3 = .ok (.invokevirtual 34, 3) := by decide +kernel
theorem dX2_watch_6 : decode cX2_watch 6 = .ok (.iconst 0, 1) := by decide +kernel
theorem dX2_watch_7 : decode cX2_watch 7 = .ok (.istore 4, 2) := by decide +kernel
theorem dX2_watch_9 : decode cX2_watch 9 = .ok (.aload_n 0, 1) := by decide +kernel
theorem dX2_watch_10 : decode cX2_watch 10 = .ok (.getfield 28, 3) := by decide +kernel
theorem dX2_watch_13 : decode cX2_watch 13 = .ok (.aload_n 0, 1) := by decide +kernel
theorem dX2_watch_14 : decode cX2_watch 14 = .ok (.getfield 22, 3) := by decide +kernel
theorem dX2_watch_17 : decode cX2_watch 17 = .ok (.if_icmp .le 19, 3) := by decide +kernel
theorem dX2_watch_20 : decode cX2_watch 20 = .ok (.aload_n 3, 1) := by decide +kernel
theorem dX2_watch_21 : decode cX2_watch 21 = .ok (.iconst 0, 1) := by decide +kernel
theorem dX2_watch_22 : decode cX2_watch 22 = .ok (.iload_n 2, 1) := by decide +kernel
theorem dX2_watch_23 : decode cX2_watch 23 = .ok (.aload_n 0, 1) := by decide +kernel
theorem dX2_watch_24 : decode cX2_watch 24 = .ok (.getfield 38, 3) := by decide +kernel
theorem dX2_watch_27 : decode cX2_watch 27 = .ok (.invokevirtual 41, 3) := by decide +kernel
theorem dX2_watch_30 : decode cX2_watch 30 = .ok (.iload 4, 2) := by decide +kernel
theorem dX2_watch_32 : decode cX2_watch 32 = .ok (.iconst 1, 1) := by decide +kernel
theorem dX2_watch_33 : decode cX2_watch 33 = .ok (.ior, 1) := by decide +kernel
theorem dX2_watch_34 : decode cX2_watch 34 = .ok (.istore 4, 2) := by decide +kernel
theorem dX2_watch_36 : decode cX2_watch 36 = .ok (.aload_n 0, 1) := by decide +kernel
theorem dX2_watch_37 : decode cX2_watch 37 = .ok (.getfield 31, 3) := by decide +kernel
theorem dX2_watch_40 : decode cX2_watch 40 = .ok (.aload_n 0, 1) := by decide +kernel
theorem dX2_watch_41 : decode cX2_watch 41 = .ok (.getfield 22, 3) := by decide +kernel
theorem dX2_watch_44 : decode cX2_watch 44 = .ok (.if_icmp .le 19, 3) := by decide +kernel
theorem dX2_watch_47 : decode cX2_watch 47 = .ok (.aload_n 3, 1) := by decide +kernel
theorem dX2_watch_48 : decode cX2_watch 48 = .ok (.iconst 1, 1) := by decide +kernel
theorem dX2_watch_49 : decode cX2_watch 49 = .ok (.iload_n 2, 1) := by decide +kernel
theorem dX2_watch_50 : decode cX2_watch 50 = .ok (.aload_n 0, 1) := by decide +kernel
theorem dX2_watch_51 : decode cX2_watch 51 = .ok (.getfield 46, 3) := by decide +kernel
theorem dX2_watch_54 : decode cX2_watch 54 = .ok (.invokevirtual 41, 3) := by decide +kernel
theorem dX2_watch_57 : decode cX2_watch 57 = .ok (.iload 4, 2) := by decide +kernel
theorem dX2_watch_59 : decode cX2_watch 59 = .ok (.iconst 2, 1) := by decide +kernel
theorem dX2_watch_60 : decode cX2_watch 60 = .ok (.ior, 1) := by decide +kernel
theorem dX2_watch_61 : decode cX2_watch 61 = .ok (.istore 4, 2) := by decide +kernel
theorem dX2_watch_63 : decode cX2_watch 63 = .ok (.iload 4, 2) := by decide +kernel
theorem dX2_watch_65 : decode cX2_watch 65 = .ok (.ifCond .eq 7, 3) := by decide +kernel
theorem dX2_watch_68 : decode cX2_watch 68 = .ok (.aload_n 0, 1) := by decide +kernel
theorem dX2_watch_69 : decode cX2_watch 69 = .ok (.invokevirtual 25, 3) := by decide +kernel
theorem dX2_watch_72 : decode cX2_watch 72 = .ok (.iload 4, 2) := by decide +kernel
theorem dX2_watch_74 : decode cX2_watch 74 = .ok (.ireturn, 1) := by decide +kernel
theorem dX2_moveSums_0 : decode cX2_moveSums 0 = .ok (.aload_n 0, 1) := by decide +kernel
theorem dX2_moveSums_1 : decode cX2_moveSums 1 = .ok (.getfield 28, 3) := by decide +kernel
theorem dX2_moveSums_4 : decode cX2_moveSums 4 = .ok (.ifCond .ne 8, 3) := by decide +kernel
theorem dX2_moveSums_7 : decode cX2_moveSums 7 = .ok (.aload_n 0, 1) := by decide +kernel
theorem dX2_moveSums_8 : decode cX2_moveSums 8 = .ok (.iload_n 2, 1) := by decide +kernel
theorem dX2_moveSums_9 : decode cX2_moveSums 9 = .ok (.putfield 38, 3) := by decide +kernel
theorem dX2_moveSums_12 : decode cX2_moveSums 12 = .ok (.aload_n 0, 1) := by decide +kernel
theorem dX2_moveSums_13 : decode cX2_moveSums 13 = .ok (.getfield 31, 3) := by decide +kernel
theorem dX2_moveSums_16 : decode cX2_moveSums 16 = .ok (.ifCond .ne 8, 3) := by decide +kernel
theorem dX2_moveSums_19 : decode cX2_moveSums 19 = .ok (.aload_n 0, 1) := by decide +kernel
theorem dX2_moveSums_20 : decode cX2_moveSums 20 = .ok (.iload_n 2, 1) := by decide +kernel
theorem dX2_moveSums_21 : decode cX2_moveSums 21 = .ok (.putfield 46, 3) := by decide +kernel
theorem dX2_moveSums_24 : decode cX2_moveSums 24 = .ok (.aload_n 0, 1) := by decide +kernel
theorem dX2_moveSums_25 : decode cX2_moveSums 25 = .ok (.iconst 0, 1) := by decide +kernel
theorem dX2_moveSums_26 : decode cX2_moveSums 26 = .ok (.aload_n 0, 1) := by decide +kernel
theorem dX2_moveSums_27 : decode cX2_moveSums 27 = .ok (.getfield 28, 3) := by decide +kernel
theorem dX2_moveSums_30 : decode cX2_moveSums 30 = .ok (.iload_n 1, 1) := by decide +kernel
theorem dX2_moveSums_31 : decode cX2_moveSums 31 = .ok (.iadd, 1) := by decide +kernel
theorem dX2_moveSums_32 : decode cX2_moveSums 32 = .ok (.aload_n 0, 1) := by decide +kernel
theorem dX2_moveSums_33 : decode cX2_moveSums 33 = .ok (.getfield 15, 3) := by decide +kernel
theorem dX2_moveSums_36 : decode cX2_moveSums 36 = .ok (.isub, 1) := by decide +kernel
theorem dX2_moveSums_37 : decode cX2_moveSums 37 = .ok (.aload_n 0, 1) := by decide +kernel
theorem dX2_moveSums_38 : decode cX2_moveSums 38 = .ok (.getfield 19, 3) := by decide +kernel
theorem dX2_moveSums_41 : decode cX2_moveSums 41 = .ok (.isub, 1) := by decide +kernel
theorem dX2_moveSums_42 : decode cX2_moveSums 42 = .ok (.invokestatic 49, 3) := by decide +kernel
theorem dX2_moveSums_45 : decode cX2_moveSums 45 = .ok (.putfield 28, 3) := by decide +kernel
theorem dX2_moveSums_48 : decode cX2_moveSums 48 = .ok (.aload_n 0, 1) := by decide +kernel
theorem dX2_moveSums_49 : decode cX2_moveSums 49 = .ok (.iconst 0, 1) := by decide +kernel
theorem dX2_moveSums_50 : decode cX2_moveSums 50 = .ok (.aload_n 0, 1) := by decide +kernel
theorem dX2_moveSums_51 : decode cX2_moveSums 51 = .ok (.getfield 31, 3) := by decide +kernel
theorem dX2_moveSums_54 : decode cX2_moveSums 54 = .ok (.aload_n 0, 1) := by decide +kernel
theorem dX2_moveSums_55 : decode cX2_moveSums 55 = .ok (.getfield 15, 3) := by decide +kernel
theorem dX2_moveSums_58 : decode cX2_moveSums 58 = .ok (.iadd, 1) := by decide +kernel
theorem dX2_moveSums_59 : decode cX2_moveSums 59 = .ok (.aload_n 0, 1) := by decide +kernel
theorem dX2_moveSums_60 : decode cX2_moveSums 60 = .ok (.getfield 19, 3) := by decide +kernel
theorem dX2_moveSums_63 : decode cX2_moveSums 63 = .ok (.isub, 1) := by decide +kernel
theorem dX2_moveSums_64 : decode cX2_moveSums 64 = .ok (.iload_n 1, 1) := by decide +kernel
theorem dX2_moveSums_65 : decode cX2_moveSums 65 = .ok (.isub, 1) := by decide +kernel
theorem dX2_moveSums_66 : decode cX2_moveSums 66 = .ok (.invokestatic 49, 3) := by decide +kernel
theorem dX2_moveSums_69 : decode cX2_moveSums 69 = .ok (.putfield 31, 3) := by decide +kernel
theorem dX2_moveSums_72 : decode cX2_moveSums 72 = .ok (.return_, 1) := by decide +kernel
theorem dX3_init_0 : decode cX3_init 0 = .ok (.aload_n 0, 1) := by decide +kernel
theorem dX3_init_1 : decode cX3_init 1 = .ok (.invokespecial 3, 3) := by decide +kernel
theorem dX3_init_4 : decode cX3_init 4 = .ok (.aload_n 0, 1) := by decide +kernel
theorem dX3_init_5 : decode cX3_init 5 = .ok (.bipush 120, 2) := by decide +kernel
theorem dX3_init_7 : decode cX3_init 7 = .ok (.newarray .boolean, 2) := by decide +kernel
theorem dX3_init_9 : decode cX3_init 9 = .ok (.putfield 9, 3) := by decide +kernel
theorem dX3_init_12 : decode cX3_init 12 = .ok (.aload_n 0, 1) := by decide +kernel
theorem dX3_init_13 : decode cX3_init 13 = .ok (.iconst 0, 1) := by decide +kernel
theorem dX3_init_14 : decode cX3_init 14 = .ok (.putfield 15, 3) := by decide +kernel
theorem dX3_init_17 : decode cX3_init 17 = .ok (.aload_n 0, 1) := by decide +kernel
theorem dX3_init_18 : decode cX3_init 18 = .ok (.iconst 0, 1) := by decide +kernel
theorem dX3_init_19 : decode cX3_init 19 = .ok (.putfield 19, 3) := by decide +kernel
theorem dX3_init_22 : decode cX3_init 22 = .ok (.aload_n 0, 1) := by decide +kernel
theorem dX3_init_23 : decode cX3_init 23 = .ok (.iconst 0, 1) := by decide +kernel
theorem dX3_init_24 : decode cX3_init 24 = .ok (.putfield 22, 3) := by decide +kernel
theorem dX3_init_27 : decode cX3_init 27 = .ok (.return_, 1) := by decide +kernel
theorem dX3_join_0 : decode cX3_join 0 = .ok (.iconst 0, 1) := by decide +kernel
theorem dX3_join_1 : decode cX3_join 1 = .ok (.istore_n 1, 1) := by decide +kernel
theorem dX3_join_2 : decode cX3_join 2 = .ok (.iload_n 1, 1) := by decide +kernel
theorem dX3_join_3 : decode cX3_join 3 = .ok (.bipush 120, 2) := by decide +kernel
theorem dX3_join_5 : decode cX3_join 5 = .ok (.if_icmp .ge 16, 3) := by decide +kernel
theorem dX3_join_8 : decode cX3_join 8 = .ok (.aload_n 0, 1) := by decide +kernel
theorem dX3_join_9 : decode cX3_join 9 = .ok (.getfield 9, 3) := by decide +kernel
theorem dX3_join_12 : decode cX3_join 12 = .ok (.iload_n 1, 1) := by decide +kernel
theorem dX3_join_13 : decode cX3_join 13 = .ok (.iconst 0, 1) := by decide +kernel
theorem dX3_join_14 : decode cX3_join 14 = .ok (.bastore, 1) := by decide +kernel
theorem dX3_join_15 : decode cX3_join 15 = .ok (.iinc 1 1, 3) := by decide +kernel
theorem dX3_join_18 : decode cX3_join 18 = .ok (.goto (-16), 3) := by decide +kernel
theorem dX3_join_21 : decode cX3_join 21 = .ok (.aload_n 0, 1) := by decide +kernel
theorem dX3_join_22 : decode cX3_join 22 = .ok (.iconst 0, 1) := by decide +kernel
theorem dX3_join_23 : decode cX3_join 23 = .ok (.putfield 15, 3) := by decide +kernel
theorem dX3_join_26 : decode cX3_join 26 = .ok (.return_, 1) := by decide +kernel
theorem dX3_cut_0 : decode cX3_cut 0 = .ok (.aload_n 0, 1) := by decide +kernel
theorem dX3_cut_1 : decode cX3_cut 1 = .ok (.getfield 9, 3) := by decide +kernel
theorem dX3_cut_4 : decode cX3_cut 4 = .ok (.iload_n 1, 1) := by decide +kernel
theorem dX3_cut_5 : decode cX3_cut 5 = .ok (.iconst 1, 1) := by decide +kernel
theorem dX3_cut_6 : decode cX3_cut 6 = .ok (.bastore, 1) := by decide +kernel
theorem dX3_cut_7 : decode cX3_cut 7 = .ok (.aload_n 0, 1) := by decide +kernel
theorem dX3_cut_8 : decode cX3_cut 8 = .ok (.dup, 1) := by decide +kernel
theorem dX3_cut_9 : decode cX3_cut 9 = .ok (.getfield 15, 3) := by decide +kernel
theorem dX3_cut_12 : decode cX3_cut 12 = .ok (.iconst 1, 1) := by decide +kernel
theorem dX3_cut_13 : decode cX3_cut 13 = .ok (.iadd, 1) := by decide +kernel
theorem dX3_cut_14 : decode cX3_cut 14 = .ok (.putfield 15, 3) := by decide +kernel
theorem dX3_cut_17 : decode cX3_cut 17 = .ok (.return_, 1) := by decide +kernel
theorem dX3_settle_0 : decode cX3_settle 0 = .ok (.aload_n 0, 1) := by decide +kernel
theorem dX3_settle_1 : decode cX3_settle 1 = .ok (.aload_n 0, 1) := by decide +kernel
theorem dX3_settle_2 : decode cX3_settle 2 = .ok (.getfield 15, 3) := by decide +kernel
theorem dX3_settle_5 : decode cX3_settle 5 = .ok (.iload_n 3, 1) := by decide +kernel
theorem dX3_settle_6 : decode cX3_settle 6 = .ok (.imul, 1) := by decide +kernel
theorem dX3_settle_7 : decode cX3_settle 7 = .ok (.putfield 19, 3) := by decide +kernel
theorem dX3_settle_10 : decode cX3_settle 10 = .ok (.iconst 0, 1) := by decide +kernel
theorem dX3_settle_11 : decode cX3_settle 11 = .ok (.istore 4, 2) := by decide +kernel
theorem dX3_settle_13 : decode cX3_settle 13 = .ok (.iconst 1, 1) := by decide +kernel
theorem dX3_settle_14 : decode cX3_settle 14 = .ok (.istore 5, 2) := by decide +kernel
theorem dX3_settle_16 : decode cX3_settle 16 = .ok (.iload 5, 2) := by decide +kernel
theorem dX3_settle_18 : decode cX3_settle 18 = .ok (.iload_n 2, 1) := by decide +kernel
theorem dX3_settle_19 : decode cX3_settle 19 = .ok (.if_icmp .gt 46, 3) := by decide +kernel
theorem dX3_settle_22 : decode cX3_settle 22 = .ok (.iload 5, 2) := by decide +kernel
theorem dX3_settle_24 : decode cX3_settle 24 = .ok (.iload_n 2, 1) := by decide +kernel
theorem dX3_settle_25 : decode cX3_settle 25 = .ok (.if_icmp .eq 13, 3) := by decide +kernel
theorem dX3_settle_28 : decode cX3_settle 28 = .ok (.aload_n 0, 1) := by decide +kernel
theorem dX3_settle_29 : decode cX3_settle 29 = .ok (.getfield 9, 3) := by decide +kernel
theorem dX3_settle_32 : decode cX3_settle 32 = .ok (.iload 5, 2) := by decide +kernel
theorem dX3_settle_34 : decode cX3_settle 34 = .ok (.baload, 1) := by decide +kernel
theorem dX3_settle_35 : decode cX3_settle 35 = .ok (.ifCond .eq 24, 3) := by decide +kernel
theorem dX3_settle_38 : decode cX3_settle 38 = .ok (.aload_n 0, 1) := by decide +kernel
theorem dX3_settle_39 : decode cX3_settle 39 = .ok (.dup, 1) := by decide +kernel
theorem dX3_settle_40 : decode cX3_settle 40 = .ok (.getfield 19, 3) := by decide +kernel
theorem dX3_settle_43 : decode cX3_settle 43 = .ok (.aload_n 1, 1) := by decide +kernel
theorem dX3_settle_44 : decode cX3_settle 44 = .ok (.iload 4, 2) := by decide +kernel
theorem dX3_settle_46 : decode cX3_settle 46 = .ok (.iload 5, 2) := by decide +kernel
theorem dX3_settle_48 : decode cX3_settle 48 = .ok (.invokevirtual 26, 3) := by decide +kernel
theorem dX3_settle_51 : decode cX3_settle 51 = .ok (.iadd, 1) := by decide +kernel
theorem dX3_settle_52 : decode cX3_settle 52 = .ok (.putfield 19, 3) := by decide +kernel
theorem dX3_settle_55 : decode cX3_settle 55 = .ok (.iload 5, 2) := by decide +kernel
theorem dX3_settle_57 : decode cX3_settle 57 = .ok (.istore 4, 2) := by decide +kernel
theorem dX3_settle_59 : decode cX3_settle 59 = .ok (.iinc 5 1, 3) := by decide +kernel
theorem dX3_settle_62 : decode cX3_settle 62 = .ok (.goto (-46), 3) := by decide +kernel
theorem dX3_settle_65 : decode cX3_settle 65 = .ok (.aload_n 0, 1) := by decide +kernel
theorem dX3_settle_66 : decode cX3_settle 66 = .ok (.iconst 1, 1) := by decide +kernel
theorem dX3_settle_67 : decode cX3_settle 67 = .ok (.putfield 22, 3) := by decide +kernel
theorem dX3_settle_70 : decode cX3_settle 70 = .ok (.return_, 1) := by decide +kernel
theorem dX3_endOfSegment_0 : decode cX3_endOfSegment 0 = .ok (.iload_n 1, 1) := by decide +kernel
theorem dX3_endOfSegment_1 : decode cX3_endOfSegment 1 = .ok (.iconst 1, 1) := by decide +kernel
theorem dX3_endOfSegment_2 : decode cX3_endOfSegment 2 = .ok (.iadd, 1) := by decide +kernel
theorem dX3_endOfSegment_3 : decode cX3_endOfSegment 3 = .ok (.istore_n 3, 1) := by decide +kernel
theorem dX3_endOfSegment_4 : decode cX3_endOfSegment 4 = .ok (.iload_n 3, 1) := by decide +kernel
theorem dX3_endOfSegment_5 : decode cX3_endOfSegment 5 = .ok (.iload_n 2, 1) := by decide +kernel
theorem dX3_endOfSegment_6 : decode cX3_endOfSegment 6 = .ok (.if_icmp .ge 20, 3) := by decide +kernel
theorem dX3_endOfSegment_9 : decode cX3_endOfSegment 9 = .ok (.aload_n 0, 1) := by decide +kernel
theorem dX3_endOfSegment_10 : decode cX3_endOfSegment 10 = .ok (.getfield 9, 3) := by decide +kernel
theorem dX3_endOfSegment_13 : decode cX3_endOfSegment 13 = .ok (.iload_n 3, 1) := by decide +kernel
theorem dX3_endOfSegment_14 : decode cX3_endOfSegment 14 = .ok (.baload, 1) := by decide +kernel
theorem dX3_endOfSegment_15 : decode cX3_endOfSegment 15 = .ok (.ifCond .eq 5, 3) := by decide +kernel
theorem dX3_endOfSegment_18 : decode cX3_endOfSegment 18 = .ok (.iload_n 3, 1) := by decide +kernel
theorem dX3_endOfSegment_19 : decode cX3_endOfSegment 19 = .ok (.ireturn, 1) := by decide +kernel
theorem dX3_endOfSegment_20 : decode cX3_endOfSegment 20 = .ok (.iinc 3 1, 3) := by decide +kernel
theorem dX3_endOfSegment_23 : decode cX3_endOfSegment 23 = .ok (.goto (-19), 3) := by decide +kernel
theorem dX3_endOfSegment_26 : decode cX3_endOfSegment 26 = .ok (.iload_n 2, 1) := by decide +kernel
theorem dX3_endOfSegment_27 : decode cX3_endOfSegment 27 = .ok (.ireturn, 1) := by decide +kernel
theorem dX3_has_0 : decode cX3_has 0 = .ok (.iload_n 1, 1) := by decide +kernel
theorem dX3_has_1 : decode cX3_has 1 = .ok (.ifCond .lt 15, 3) := by decide +kernel
theorem dX3_has_4 : decode cX3_has 4 = .ok (.iload_n 1, 1) := by decide +kernel
theorem dX3_has_5 : decode cX3_has 5 = .ok (.aload_n 0, 1) := by decide +kernel
theorem dX3_has_6 : decode cX3_has 6 = .ok (.getfield 15, 3) := by decide +kernel
theorem dX3_has_9 : decode cX3_has 9 = .ok (.if_icmp .ge 7, 3) := by decide +kernel
theorem dX3_has_12 : decode cX3_has 12 = .ok (.iconst 1, 1) := by decide +kernel
theorem dX3_has_13 : decode cX3_has 13 = .ok (.goto 4, 3) := by decide +kernel
theorem dX3_has_16 : decode cX3_has 16 = .ok (.iconst 0, 1) := by decide +kernel
theorem dX3_has_17 : decode cX3_has 17 = .ok (.ireturn, 1) := by decide +kernel
theorem dX3_numberAt_0 : decode cX3_numberAt 0 = .ok (.iconst 0, 1) := by decide +kernel
theorem dX3_numberAt_1 : decode cX3_numberAt 1 = .ok (.istore_n 2, 1) := by decide +kernel
theorem dX3_numberAt_2 : decode cX3_numberAt 2 = .ok (.iconst 0, 1) := by decide +kernel
theorem dX3_numberAt_3 : decode cX3_numberAt 3 = .ok (.istore_n 3, 1) := by decide +kernel
theorem dX3_numberAt_4 : decode cX3_numberAt 4 = .ok (.iload_n 3, 1) := by decide +kernel
theorem dX3_numberAt_5 : decode cX3_numberAt 5 = .ok (.bipush 120, 2) := by decide +kernel
theorem dX3_numberAt_7 : decode cX3_numberAt 7 = .ok (.if_icmp .ge 28, 3) := by decide +kernel
theorem dX3_numberAt_10 : decode cX3_numberAt 10 = .ok (.aload_n 0, 1) := by decide +kernel
theorem dX3_numberAt_11 : decode cX3_numberAt 11 = .ok (.getfield 9, 3) := by decide +kernel
theorem dX3_numberAt_14 : decode cX3_numberAt 14 = .ok (.iload_n 3, 1) := by decide +kernel
theorem dX3_numberAt_15 : decode cX3_numberAt 15 = .ok (.baload, 1) := by decide +kernel
theorem dX3_numberAt_16 : decode cX3_numberAt 16 = .ok (.ifCond .eq 13, 3) := by decide +kernel
theorem dX3_numberAt_19 : decode cX3_numberAt 19 = .ok (.iload_n 2, 1) := by decide +kernel
theorem dX3_numberAt_20 : decode cX3_numberAt 20 = .ok (.iload_n 1, 1) := by decide +kernel
theorem dX3_numberAt_21 : decode cX3_numberAt 21 = .ok (.if_icmp .ne 5, 3) := by decide +kernel
theorem dX3_numberAt_24 : decode cX3_numberAt 24 = .ok (.iload_n 3, 1) := by decide +kernel
theorem dX3_numberAt_25 : decode cX3_numberAt 25 = .ok (.ireturn, 1) := by decide +kernel
theorem dX3_numberAt_26 : decode cX3_numberAt 26 = .ok (.iinc 2 1, 3) := by decide +kernel
theorem dX3_numberAt_29 : decode cX3_numberAt 29 = .ok (.iinc 3 1, 3) := by decide +kernel
theorem dX3_numberAt_32 : decode cX3_numberAt 32 = .ok (.goto (-28), 3) := by decide +kernel
theorem dX3_numberAt_35 : decode cX3_numberAt 35 = .ok (.iconst 0, 1) := by decide +kernel
theorem dX3_numberAt_36 : decode cX3_numberAt 36 = .ok (.ireturn, 1) := by decide +kernel
theorem dX4_find_0 : decode cX4_find 0 = .ok (.aload_n 3, 1) := by decide +kernel
theorem dX4_find_1 : decode cX4_find 1 = .ok (.invokevirtual 7, 3) := by decide +kernel
theorem dX4_find_4 : decode cX4_find 4 = .ok (.iconst 1, 1) := by decide +kernel
theorem dX4_find_5 : decode cX4_find 5 = .ok (.istore 4, 2) := by decide +kernel
theorem dX4_find_7 : decode cX4_find 7 = .ok (.iload 4, 2) := by decide +kernel
theorem dX4_find_9 : decode cX4_find 9 = .ok (.iload_n 1, 1) := by decide +kernel
theorem dX4_find_10 : decode cX4_find 10 = .ok (.if_icmp .ge 30, 3) := by decide +kernel
theorem dX4_find_13 : decode cX4_find 13 = .ok (.aload_n 0, 1) := by decide +kernel
theorem dX4_find_14 : decode cX4_find 14 = .ok (.iload_n 1, 1) := by decide +kernel
theorem dX4_find_15 : decode cX4_find 15 = .ok (.iload_n 2, 1) := by decide +kernel
theorem dX4_find_16 : decode cX4_find 16 = .ok (.aload_n 3, 1) := by decide +kernel
theorem dX4_find_17 : decode cX4_find 17 = .ok (.invokestatic 12, 3) := by decide +kernel
theorem dX4_find_20 : decode cX4_find 20 = .ok (.istore 5, 2) := by decide +kernel
theorem dX4_find_22 : decode cX4_find 22 = .ok (.iload 5, 2) := by decide +kernel
theorem dX4_find_24 : decode cX4_find 24 = .ok (.ifCond .ne 4, 3) := by decide +kernel
theorem dX4_find_27 : decode cX4_find 27 = .ok (.return_, 1) := by decide +kernel
theorem dX4_find_28 : decode cX4_find 28 = .ok (.aload_n 3, 1) := by decide +kernel
theorem dX4_find_29 : decode cX4_find 29 = .ok (.iload 5, 2) := by decide +kernel
theorem dX4_find_31 : decode cX4_find 31 = .ok (.invokevirtual 18, 3) := by decide +kernel
theorem dX4_find_34 : decode cX4_find 34 = .ok (.iinc 4 1, 3) := by decide +kernel
theorem dX4_find_37 : decode cX4_find 37 = .ok (.goto (-30), 3) := by decide +kernel
theorem dX4_find_40 : decode cX4_find 40 = .ok (.return_, 1) := by decide +kernel
theorem dX4_numberOfGreatestGain_0 : decode cX4_numberOfGreatestGain 0 = .ok (.iload_n 2, 1) := by decide +kernel
theorem dX4_numberOfGreatestGain_1 : decode cX4_numberOfGreatestGain 1 = .ok (.istore 4, 2) := by decide +kernel
theorem dX4_numberOfGreatestGain_3 : decode cX4_numberOfGreatestGain 3 = .ok (.iconst 0, 1) := by decide +kernel
theorem dX4_numberOfGreatestGain_4 : decode cX4_numberOfGreatestGain 4 = .ok (.istore 5, 2) := by decide +kernel
theorem dX4_numberOfGreatestGain_6 : decode cX4_numberOfGreatestGain 6 = .ok (.iconst 0, 1) := by decide +kernel
theorem dX4_numberOfGreatestGain_7 : decode cX4_numberOfGreatestGain 7 = .ok (.istore 6, 2) := by decide +kernel
theorem dX4_numberOfGreatestGain_9 : decode cX4_numberOfGreatestGain 9 = .ok (.aload_n 3, 1) := by decide +kernel
theorem dX4_numberOfGreatestGain_10 : decode cX4_numberOfGreatestGain 10 = .ok (.iconst 0, 1) := by decide +kernel
theorem dX4_numberOfGreatestGain_11 : decode cX4_numberOfGreatestGain 11 = .ok (.iload_n 1, 1) := by decide +kernel
theorem dX4_numberOfGreatestGain_12 : decode cX4_numberOfGreatestGain 12 = .ok (.invokevirtual 22, 3) := by decide +kernel
theorem dX4_numberOfGreatestGain_15 : decode cX4_numberOfGreatestGain 15 = .ok (.istore 7, 2) := by decide +kernel
theorem dX4_numberOfGreatestGain_17 : decode cX4_numberOfGreatestGain 17 = .ok (.iconst 1, 1) := by decide +kernel
theorem dX4_numberOfGreatestGain_18 : decode cX4_numberOfGreatestGain 18 = .ok (.istore 8, 2) := by decide +kernel
theorem dX4_numberOfGreatestGain_20 : decode cX4_numberOfGreatestGain 20 = .ok (.iload 8, 2) := by decide +kernel
theorem dX4_numberOfGreatestGain_22 : decode cX4_numberOfGreatestGain 22 = .ok (.iload_n 1, 1) := by decide +kernel
theorem dX4_numberOfGreatestGain_23 : decode cX4_numberOfGreatestGain 23 = .ok (.if_icmp .ge 75, 3) := by decide +kernel
theorem dX4_numberOfGreatestGain_26 : decode cX4_numberOfGreatestGain 26 = .ok (.iload 8, 2) := by decide +kernel
theorem dX4_numberOfGreatestGain_28 : decode cX4_numberOfGreatestGain 28 = .ok (.iload 7, 2) := by decide +kernel
theorem dX4_numberOfGreatestGain_30 : decode cX4_numberOfGreatestGain 30 = .ok (.if_icmp .ne 19, 3) := by decide +kernel
theorem dX4_numberOfGreatestGain_33 : decode cX4_numberOfGreatestGain 33 = .ok (.iload 8, 2) := by decide +kernel
theorem dX4_numberOfGreatestGain_35 : decode cX4_numberOfGreatestGain 35 = .ok (.istore 6, 2) := by decide +kernel
theorem dX4_numberOfGreatestGain_37 : decode cX4_numberOfGreatestGain 37 = .ok (.aload_n 3, 1) := by decide +kernel
theorem dX4_numberOfGreatestGain_38 : decode cX4_numberOfGreatestGain 38 = .ok (.iload 8, 2) := by decide +kernel
theorem dX4_numberOfGreatestGain_40 : decode cX4_numberOfGreatestGain 40 = .ok (.iload_n 1, 1) := by decide +kernel
theorem dX4_numberOfGreatestGain_41 : decode cX4_numberOfGreatestGain 41 = .ok (.invokevirtual 22, 3) := by decide +kernel
theorem dX4_numberOfGreatestGain_44 : decode cX4_numberOfGreatestGain 44 = .ok (.istore 7, 2) := by decide +kernel
theorem dX4_numberOfGreatestGain_46 : decode cX4_numberOfGreatestGain 46 = .ok (.goto 46, 3) := by decide +kernel
theorem dX4_numberOfGreatestGain_49 : decode cX4_numberOfGreatestGain 49 = .ok (.aload_n 0, 1) := by decide +kernel
theorem dX4_numberOfGreatestGain_50 : decode cX4_numberOfGreatestGain 50 = .ok (.iload 6, 2) := by decide +kernel
theorem dX4_numberOfGreatestGain_52 : decode cX4_numberOfGreatestGain 52 = .ok (.iload 7, 2) := by decide +kernel
theorem dX4_numberOfGreatestGain_54 : decode cX4_numberOfGreatestGain 54 = .ok (.invokevirtual 26, 3) := by decide +kernel
theorem dX4_numberOfGreatestGain_57 : decode cX4_numberOfGreatestGain 57 = .ok (.aload_n 0, 1) := by decide +kernel
theorem dX4_numberOfGreatestGain_58 : decode cX4_numberOfGreatestGain 58 = .ok (.iload 6, 2) := by decide +kernel
theorem dX4_numberOfGreatestGain_60 : decode cX4_numberOfGreatestGain 60 = .ok (.iload 8, 2) := by decide +kernel
theorem dX4_numberOfGreatestGain_62 : decode cX4_numberOfGreatestGain 62 = .ok (.invokevirtual 26, 3) := by decide +kernel
theorem dX4_numberOfGreatestGain_65 : decode cX4_numberOfGreatestGain 65 = .ok (.isub, 1) := by decide +kernel
theorem dX4_numberOfGreatestGain_66 : decode cX4_numberOfGreatestGain 66 = .ok (.aload_n 0, 1) := by decide +kernel
theorem dX4_numberOfGreatestGain_67 : decode cX4_numberOfGreatestGain 67 = .ok (.iload 8, 2) := by decide +kernel
theorem dX4_numberOfGreatestGain_69 : decode cX4_numberOfGreatestGain 69 = .ok (.iload 7, 2) := by decide +kernel
theorem dX4_numberOfGreatestGain_71 : decode cX4_numberOfGreatestGain 71 = .ok (.invokevirtual 26, 3) := by decide +kernel
theorem dX4_numberOfGreatestGain_74 : decode cX4_numberOfGreatestGain 74 = .ok (.isub, 1) := by decide +kernel
theorem dX4_numberOfGreatestGain_75 : decode cX4_numberOfGreatestGain 75 = .ok (.istore 9, 2) := by decide +kernel
theorem dX4_numberOfGreatestGain_77 : decode cX4_numberOfGreatestGain 77 = .ok (.iload 9, 2) := by decide +kernel
theorem dX4_numberOfGreatestGain_79 : decode cX4_numberOfGreatestGain 79 = .ok (.iload 4, 2) := by decide +kernel
theorem dX4_numberOfGreatestGain_81 : decode cX4_numberOfGreatestGain 81 = .ok (.if_icmp .le 11, 3) := by decide +kernel
theorem dX4_numberOfGreatestGain_84 : decode cX4_numberOfGreatestGain 84 = .ok (.iload 9, 2) := by decide +kernel
theorem dX4_numberOfGreatestGain_86 : decode cX4_numberOfGreatestGain 86 = .ok (.istore 4, 2) := by decide +kernel
theorem dX4_numberOfGreatestGain_88 : decode cX4_numberOfGreatestGain 88 = .ok (.iload 8, 2) := by decide +kernel
theorem dX4_numberOfGreatestGain_90 : decode cX4_numberOfGreatestGain 90 = .ok (.istore 5, 2) := by decide +kernel
theorem dX4_numberOfGreatestGain_92 : decode cX4_numberOfGreatestGain 92 = .ok (.iinc 8 1, 3) := by decide +kernel
theorem dX4_numberOfGreatestGain_95 : decode cX4_numberOfGreatestGain 95 = .ok (.goto (-75), 3) := by decide +kernel
theorem dX4_numberOfGreatestGain_98 : decode cX4_numberOfGreatestGain 98 = .ok (.iload 5, 2) := by decide +kernel
theorem dX4_numberOfGreatestGain_100 : decode cX4_numberOfGreatestGain 100 = .ok (.ireturn, 1) := by decide +kernel
theorem dX5_init_0 : decode cX5_init 0 = .ok (.aload_n 0, 1) := by decide +kernel
theorem dX5_init_1 : decode cX5_init 1 = .ok (.invokespecial 3, 3) := by decide +kernel
theorem dX5_init_4 : decode cX5_init 4 = .ok (.aload_n 0, 1) := by decide +kernel
theorem dX5_init_5 : decode cX5_init 5 = .ok (.bipush 120, 2) := by decide +kernel
theorem dX5_init_7 : decode cX5_init 7 = .ok (.invokestatic 9, 3) := by decide +kernel
theorem dX5_init_10 : decode cX5_init 10 = .ok (.newarray .int, 2) := by decide +kernel
theorem dX5_init_12 : decode cX5_init 12 = .ok (.putfield 15, 3) := by decide +kernel
theorem dX5_init_15 : decode cX5_init 15 = .ok (.aload_n 0, 1) := by decide +kernel
theorem dX5_init_16 : decode cX5_init 16 = .ok (.iconst 0, 1) := by decide +kernel
theorem dX5_init_17 : decode cX5_init 17 = .ok (.putfield 21, 3) := by decide +kernel
theorem dX5_init_20 : decode cX5_init 20 = .ok (.return_, 1) := by decide +kernel
theorem dX5_forget_0 : decode cX5_forget 0 = .ok (.aload_n 0, 1) := by decide +kernel
theorem dX5_forget_1 : decode cX5_forget 1 = .ok (.iconst 0, 1) := by decide +kernel
theorem dX5_forget_2 : decode cX5_forget 2 = .ok (.putfield 21, 3) := by decide +kernel
theorem dX5_forget_5 : decode cX5_forget 5 = .ok (.return_, 1) := by decide +kernel
theorem dX5_learn_0 : decode cX5_learn 0 = .ok (.aload_n 0, 1) := by decide +kernel
theorem dX5_learn_1 : decode cX5_learn 1 = .ok (.getfield 21, 3) := by decide +kernel
theorem dX5_learn_4 : decode cX5_learn 4 = .ok (.iconst 1, 1) := by decide +kernel
theorem dX5_learn_5 : decode cX5_learn 5 = .ok (.iadd, 1) := by decide +kernel
theorem dX5_learn_6 : decode cX5_learn 6 = .ok (.istore_n 3, 1) := by decide +kernel
theorem dX5_learn_7 : decode cX5_learn 7 = .ok (.iload_n 3, 1) := by decide +kernel
theorem dX5_learn_8 : decode cX5_learn 8 = .ok (.iload_n 2, 1) := by decide +kernel
theorem dX5_learn_9 : decode cX5_learn 9 = .ok (.if_icmp .gt 20, 3) := by decide +kernel
theorem dX5_learn_12 : decode cX5_learn 12 = .ok (.aload_n 0, 1) := by decide +kernel
theorem dX5_learn_13 : decode cX5_learn 13 = .ok (.aload_n 1, 1) := by decide +kernel
theorem dX5_learn_14 : decode cX5_learn 14 = .ok (.iload_n 3, 1) := by decide +kernel
theorem dX5_learn_15 : decode cX5_learn 15 = .ok (.invokevirtual 25, 3) := by decide +kernel
theorem dX5_learn_18 : decode cX5_learn 18 = .ok (.aload_n 0, 1) := by decide +kernel
theorem dX5_learn_19 : decode cX5_learn 19 = .ok (.iload_n 3, 1) := by decide +kernel
theorem dX5_learn_20 : decode cX5_learn 20 = .ok (.putfield 21, 3) := by decide +kernel
theorem dX5_learn_23 : decode cX5_learn 23 = .ok (.iinc 3 1, 3) := by decide +kernel
theorem dX5_learn_26 : decode cX5_learn 26 = .ok (.goto (-19), 3) := by decide +kernel
theorem dX5_learn_29 : decode cX5_learn 29 = .ok (.return_, 1) := by decide +kernel
theorem dX5_of_0 : decode cX5_of 0 = .ok (.aload_n 0, 1) := by decide +kernel
theorem dX5_of_1 : decode cX5_of 1 = .ok (.getfield 15, 3) := by decide +kernel
theorem dX5_of_4 : decode cX5_of 4 = .ok (.iload_n 2, 1) := by decide +kernel
theorem dX5_of_5 : decode cX5_of 5 = .ok (.iconst 1, 1) := by decide +kernel
theorem dX5_of_6 : decode cX5_of 6 = .ok (.isub, 1) := by decide +kernel
theorem dX5_of_7 : decode cX5_of 7 = .ok (.invokestatic 9, 3) := by decide +kernel
theorem dX5_of_10 : decode cX5_of 10 = .ok (.iload_n 1, 1) := by decide +kernel
theorem dX5_of_11 : decode cX5_of 11 = .ok (.iadd, 1) := by decide +kernel
theorem dX5_of_12 : decode cX5_of 12 = .ok (.iaload, 1) := by decide +kernel
theorem dX5_of_13 : decode cX5_of 13 = .ok (.ireturn, 1) := by decide +kernel
theorem dX5_learnCuttingsTo_0 : decode cX5_learnCuttingsTo 0 = .ok (.iload_n 2, 1) := by decide +kernel
theorem dX5_learnCuttingsTo_1 : decode cX5_learnCuttingsTo 1 = .ok (.iconst 1, 1) := by decide +kernel
theorem dX5_learnCuttingsTo_2 : decode cX5_learnCuttingsTo 2 = .ok (.isub, 1) := by decide +kernel
theorem dX5_learnCuttingsTo_3 : decode cX5_learnCuttingsTo 3 = .ok (.invokestatic 9, 3) := by decide +kernel
theorem dX5_learnCuttingsTo_6 : decode cX5_learnCuttingsTo 6 = .ok (.istore_n 3, 1) := by decide +kernel
theorem dX5_learnCuttingsTo_7 : decode cX5_learnCuttingsTo 7 = .ok (.aload_n 0, 1) := by decide +kernel
theorem dX5_learnCuttingsTo_8 : decode cX5_learnCuttingsTo 8 = .ok (.getfield 15, 3) := by decide +kernel
theorem dX5_learnCuttingsTo_11 : decode cX5_learnCuttingsTo 11 = .ok (.iload_n 3, 1) := by decide +kernel
theorem dX5_learnCuttingsTo_12 : decode cX5_learnCuttingsTo 12 = .ok (.aload_n 1, 1) := by decide +kernel
theorem dX5_learnCuttingsTo_13 : decode cX5_learnCuttingsTo 13 = .ok (.iconst 0, 1) := by decide +kernel
theorem dX5_learnCuttingsTo_14 : decode cX5_learnCuttingsTo 14 = .ok (.iload_n 2, 1) := by decide +kernel
theorem dX5_learnCuttingsTo_15 : decode cX5_learnCuttingsTo 15 = .ok (.invokevirtual 29, 3) := by decide +kernel
theorem dX5_learnCuttingsTo_18 : decode cX5_learnCuttingsTo 18 = .ok (.iastore, 1) := by decide +kernel
theorem dX5_learnCuttingsTo_19 : decode cX5_learnCuttingsTo 19 = .ok (.iconst 1, 1) := by decide +kernel
theorem dX5_learnCuttingsTo_20 : decode cX5_learnCuttingsTo 20 = .ok (.istore 4, 2) := by decide +kernel
theorem dX5_learnCuttingsTo_22 : decode cX5_learnCuttingsTo 22 = .ok (.iload 4, 2) := by decide +kernel
theorem dX5_learnCuttingsTo_24 : decode cX5_learnCuttingsTo 24 = .ok (.iload_n 2, 1) := by decide +kernel
theorem dX5_learnCuttingsTo_25 : decode cX5_learnCuttingsTo 25 = .ok (.if_icmp .ge 26, 3) := by decide +kernel
theorem dX5_learnCuttingsTo_28 : decode cX5_learnCuttingsTo 28 = .ok (.aload_n 0, 1) := by decide +kernel
theorem dX5_learnCuttingsTo_29 : decode cX5_learnCuttingsTo 29 = .ok (.getfield 15, 3) := by decide +kernel
theorem dX5_learnCuttingsTo_32 : decode cX5_learnCuttingsTo 32 = .ok (.iload_n 3, 1) := by decide +kernel
theorem dX5_learnCuttingsTo_33 : decode cX5_learnCuttingsTo 33 = .ok (.iload 4, 2) := by decide +kernel
theorem dX5_learnCuttingsTo_35 : decode cX5_learnCuttingsTo 35 = .ok (.iadd, 1) := by decide +kernel
theorem dX5_learnCuttingsTo_36 : decode cX5_learnCuttingsTo 36 = .ok (.aload_n 0, 1) := by decide +kernel
theorem dX5_learnCuttingsTo_37 : decode cX5_learnCuttingsTo 37 = .ok (.aload_n 1, 1) := by decide +kernel
theorem dX5_learnCuttingsTo_38 : decode cX5_learnCuttingsTo 38 = .ok (.iload 4, 2) := by decide +kernel
theorem dX5_learnCuttingsTo_40 : decode cX5_learnCuttingsTo 40 = .ok (.iload_n 2, 1) := by decide +kernel
theorem dX5_learnCuttingsTo_41 : decode cX5_learnCuttingsTo 41 = .ok (.invokevirtual 33, 3) := by decide +kernel
theorem dX5_learnCuttingsTo_44 : decode cX5_learnCuttingsTo 44 = .ok (.iastore, 1) := by decide +kernel
theorem dX5_learnCuttingsTo_45 : decode cX5_learnCuttingsTo 45 = .ok (.iinc 4 1, 3) := by decide +kernel
theorem dX5_learnCuttingsTo_48 : decode cX5_learnCuttingsTo 48 = .ok (.goto (-26), 3) := by decide +kernel
theorem dX5_learnCuttingsTo_51 : decode cX5_learnCuttingsTo 51 = .ok (.return_, 1) := by decide +kernel
theorem dX5_leastWithLastSegment_0 : decode cX5_leastWithLastSegment 0 = .ok (.ldc 39, 2) := by decide +kernel
theorem dX5_leastWithLastSegment_2 : decode cX5_leastWithLastSegment 2 = .ok (.istore 4, 2) := by decide +kernel
theorem dX5_leastWithLastSegment_4 : decode cX5_leastWithLastSegment 4 = .ok (.iload_n 2, 1) := by decide +kernel
theorem dX5_leastWithLastSegment_5 : decode cX5_leastWithLastSegment 5 = .ok (.istore 5, 2) := by decide +kernel
theorem dX5_leastWithLastSegment_7 : decode cX5_leastWithLastSegment 7 = .ok (.iload 5, 2) := by decide +kernel
theorem dX5_leastWithLastSegment_9 : decode cX5_leastWithLastSegment 9 = .ok (.iload_n 3, 1) := by decide +kernel
theorem dX5_leastWithLastSegment_10 : decode cX5_leastWithLastSegment 10 = .ok (.if_icmp .ge 33, 3) := by decide +kernel
theorem dX5_leastWithLastSegment_13 : decode cX5_leastWithLastSegment 13 = .ok (.iload 4, 2) := by decide +kernel
theorem dX5_leastWithLastSegment_15 : decode cX5_leastWithLastSegment 15 = .ok (.aload_n 0, 1) := by decide +kernel
theorem dX5_leastWithLastSegment_16 : decode cX5_leastWithLastSegment 16 = .ok (.iload_n 2, 1) := by decide +kernel
theorem dX5_leastWithLastSegment_17 : decode cX5_leastWithLastSegment 17 = .ok (.iconst 1, 1) := by decide +kernel
theorem dX5_leastWithLastSegment_18 : decode cX5_leastWithLastSegment 18 = .ok (.isub, 1) := by decide +kernel
theorem dX5_leastWithLastSegment_19 : decode cX5_leastWithLastSegment 19 = .ok (.iload 5, 2) := by decide +kernel
theorem dX5_leastWithLastSegment_21 : decode cX5_leastWithLastSegment 21 = .ok (.invokevirtual 40, 3) := by decide +kernel
theorem dX5_leastWithLastSegment_24 : decode cX5_leastWithLastSegment 24 = .ok (.aload_n 1, 1) := by decide +kernel
theorem dX5_leastWithLastSegment_25 : decode cX5_leastWithLastSegment 25 = .ok (.iload 5, 2) := by decide +kernel
theorem dX5_leastWithLastSegment_27 : decode cX5_leastWithLastSegment 27 = .ok (.iload_n 3, 1) := by decide +kernel
theorem dX5_leastWithLastSegment_28 : decode cX5_leastWithLastSegment 28 = .ok (.invokevirtual 29, 3) := by decide +kernel
theorem dX5_leastWithLastSegment_31 : decode cX5_leastWithLastSegment 31 = .ok (.iadd, 1) := by decide +kernel
theorem dX5_leastWithLastSegment_32 : decode cX5_leastWithLastSegment 32 = .ok (.invokestatic 41, 3) := by decide +kernel
theorem dX5_leastWithLastSegment_35 : decode cX5_leastWithLastSegment 35 = .ok (.istore 4, 2) := by decide +kernel
theorem dX5_leastWithLastSegment_37 : decode cX5_leastWithLastSegment 37 = .ok (.iinc 5 1, 3) := by decide +kernel
theorem dX5_leastWithLastSegment_40 : decode cX5_leastWithLastSegment 40 = .ok (.goto (-33), 3) := by decide +kernel
theorem dX5_leastWithLastSegment_43 : decode cX5_leastWithLastSegment 43 = .ok (.iload 4, 2) := by decide +kernel
theorem dX5_leastWithLastSegment_45 : decode cX5_leastWithLastSegment 45 = .ok (.ireturn, 1) := by decide +kernel
theorem dX6_init_0 : decode cX6_init 0 = .ok (.aload_n 0, 1) := by decide +kernel
theorem dX6_init_1 : decode cX6_init 1 = .ok (.invokespecial 3, 3) := by decide +kernel
theorem dX6_init_4 : decode cX6_init 4 = .ok (.aload_n 0, 1) := by decide +kernel
theorem dX6_init_5 : decode cX6_init 5 = .ok (.iconst 5, 1) := by decide +kernel
theorem dX6_init_6 : decode cX6_init 6 = .ok (.sipush 1000, 3) := by decide +kernel
theorem dX6_init_9 : decode cX6_init 9 = .ok (.bipush 50, 2) := by decide +kernel
theorem dX6_init_11 : decode cX6_init 11 = .ok (.invokevirtual 11, 3) := by decide +kernel
theorem dX6_init_14 : decode cX6_init 14 = .ok (.return_, 1) := by decide +kernel
theorem dX6_setUp_0 : decode cX6_setUp 0 = .ok (.aload_n 0, 1) := by decide +kernel
theorem dX6_setUp_1 : decode cX6_setUp 1 = .ok (.iload_n 1, 1) := by decide +kernel
theorem dX6_setUp_2 : decode cX6_setUp 2 = .ok (.putfield 15, 3) := by decide +kernel
theorem dX6_setUp_5 : decode cX6_setUp 5 = .ok (.aload_n 0, 1) := by decide +kernel
theorem dX6_setUp_6 : decode cX6_setUp 6 = .ok (.iload_n 2, 1) := by decide +kernel
theorem dX6_setUp_7 : decode cX6_setUp 7 = .ok (.putfield 19, 3) := by decide +kernel
theorem dX6_setUp_10 : decode cX6_setUp 10 = .ok (.aload_n 0, 1) := by decide +kernel
theorem dX6_setUp_11 : decode cX6_setUp 11 = .ok (.iload_n 3, 1) := by decide +kernel
theorem dX6_setUp_12 : decode cX6_setUp 12 = .ok (.putfield 22, 3) := by decide +kernel
theorem dX6_setUp_15 : decode cX6_setUp 15 = .ok (.aload_n 0, 1) := by decide +kernel
theorem dX6_setUp_16 : decode cX6_setUp 16 = .ok (.invokevirtual 25, 3) := by decide +kernel
theorem dX6_setUp_19 : decode cX6_setUp 19 = .ok (.return_, 1) := by decide +kernel
theorem dX6_beginAnew_0 : decode cX6_beginAnew 0 = .ok (.aload_n 0, 1) := by decide +kernel
theorem dX6_beginAnew_1 : decode cX6_beginAnew 1 = .ok (.iconst 0, 1) := by decide +kernel
theorem dX6_beginAnew_2 : decode cX6_beginAnew 2 = .ok (.putfield 28, 3) := by decide +kernel
theorem dX6_beginAnew_5 : decode cX6_beginAnew 5 = .ok (.aload_n 0, 1) := by decide +kernel
theorem dX6_beginAnew_6 : decode cX6_beginAnew 6 = .ok (.iconst 0, 1) := by decide +kernel
theorem dX6_beginAnew_7 : decode cX6_beginAnew 7 = .ok (.putfield 31, 3) := by decide +kernel
theorem dX6_beginAnew_10 : decode cX6_beginAnew 10 = .ok (.aload_n 0, 1) := by decide +kernel
theorem dX6_beginAnew_11 : decode cX6_beginAnew 11 = .ok (.iconst 0, 1) := by decide +kernel
theorem dX6_beginAnew_12 : decode cX6_beginAnew 12 = .ok (.putfield 34, 3) := by decide +kernel
theorem dX6_beginAnew_15 : decode cX6_beginAnew 15 = .ok (.aload_n 0, 1) := by decide +kernel
theorem dX6_beginAnew_16 : decode cX6_beginAnew 16 = .ok (.iconst 0, 1) := by decide +kernel
theorem dX6_beginAnew_17 : decode cX6_beginAnew 17 = .ok (.putfield 37, 3) := by decide +kernel
theorem dX6_beginAnew_20 : decode cX6_beginAnew 20 = .ok (.aload_n 0, 1) := by decide +kernel
theorem dX6_beginAnew_21 : decode cX6_beginAnew 21 = .ok (.iconst 0, 1) := by decide +kernel
theorem dX6_beginAnew_22 : decode cX6_beginAnew 22 = .ok (.putfield 40, 3) := by decide +kernel
theorem dX6_beginAnew_25 : decode cX6_beginAnew 25 = .ok (.return_, 1) := by decide +kernel
theorem dX6_watch_0 : decode cX6_watch 0 = .ok (.aload_n 0, 1) := by decide +kernel
theorem dX6_watch_1 : decode cX6_watch 1 = .ok (.iload_n 1, 1) := by decide +kernel
theorem dX6_watch_2 : decode cX6_watch 2 = .ok (.iload_n 2, 1) := by decide +kernel
theorem dX6_watch_3 : decode cX6_watch 3 = .ok (.invokevirtual 43, 3) := by decide +kernel
theorem dX6_watch_6 : decode cX6_watch 6 = .ok (.aload_n 0, 1) := by decide +kernel
theorem dX6_watch_7 : decode cX6_watch 7 = .ok (.getfield 34, 3) := by decide +kernel
theorem dX6_watch_10 : decode cX6_watch 10 = .ok (.aload_n 0, 1) := by decide +kernel
theorem dX6_watch_11 : decode cX6_watch 11 = .ok (.getfield 37, 3) := by decide +kernel
theorem dX6_watch_14 : decode cX6_watch 14 = .ok (.isub, 1) := by decide +kernel
theorem dX6_watch_15 : decode cX6_watch 15 = .ok (.aload_n 0, 1) := by decide +kernel
theorem dX6_watch_16 : decode cX6_watch 16 = .ok (.getfield 22, 3) := by decide +kernel
theorem dX6_watch_19 : decode cX6_watch 19 = .ok (.if_icmp .gt 5, 3) := by decide +kernel
theorem dX6_watch_22 : decode cX6_watch 22 = .ok (.iconst 0, 1) := by decide +kernel
theorem dX6_watch_23 : decode cX6_watch 23 = .ok (.ireturn, 1) := by decide +kernel
theorem dX6_watch_24 : decode cX6_watch 24 = .ok (.aload_n 3, 1) := by decide +kernel
theorem dX6_watch_25 : decode cX6_watch 25 = .ok (.iconst 2, 1) := by decide +kernel
theorem dX6_watch_26 : decode cX6_watch 26 = .ok (.iload_n 2, 1) := by decide +kernel
theorem dX6_watch_27 : decode cX6_watch 27 = .ok (.aload_n 0, 1) := by decide +kernel
theorem dX6_watch_28 : decode cX6_watch 28 = .ok (.iload_n 2, 1) := by decide +kernel
theorem dX6_watch_29 : decode cX6_watch 29 = .ok (.invokevirtual 47, 3) := by decide +kernel
theorem dX6_watch_32 : decode cX6_watch 32 = .ok (.invokevirtual 51, 3) := by decide +kernel
theorem dX6_watch_35 : decode cX6_watch 35 = .ok (.aload_n 0, 1) := by decide +kernel
theorem dX6_watch_36 : decode cX6_watch 36 = .ok (.invokevirtual 25, 3) := by decide +kernel
theorem dX6_watch_39 : decode cX6_watch 39 = .ok (.iconst 4, 1) := by decide +kernel
theorem dX6_watch_40 : decode cX6_watch 40 = .ok (.ireturn, 1) := by decide +kernel
theorem dX6_moveSum_0 : decode cX6_moveSum 0 = .ok (.aload_n 0, 1) := by decide +kernel
theorem dX6_moveSum_1 : decode cX6_moveSum 1 = .ok (.dup, 1) := by decide +kernel
theorem dX6_moveSum_2 : decode cX6_moveSum 2 = .ok (.getfield 28, 3) := by decide +kernel
theorem dX6_moveSum_5 : decode cX6_moveSum 5 = .ok (.iconst 1, 1) := by decide +kernel
theorem dX6_moveSum_6 : decode cX6_moveSum 6 = .ok (.iadd, 1) := by decide +kernel
theorem dX6_moveSum_7 : decode cX6_moveSum 7 = .ok (.putfield 28, 3) := by decide +kernel
theorem dX6_moveSum_10 : decode cX6_moveSum 10 = .ok (.aload_n 0, 1) := by decide +kernel
theorem dX6_moveSum_11 : decode cX6_moveSum 11 = .ok (.dup, 1) := by decide +kernel
theorem dX6_moveSum_12 : decode cX6_moveSum 12 = .ok (.getfield 31, 3) := by decide +kernel
theorem dX6_moveSum_15 : decode cX6_moveSum 15 = .ok (.iload_n 1, 1) := by decide +kernel
theorem dX6_moveSum_16 : decode cX6_moveSum 16 = .ok (.iadd, 1) := by decide +kernel
theorem dX6_moveSum_17 : decode cX6_moveSum 17 = .ok (.putfield 31, 3) := by decide +kernel
theorem dX6_moveSum_20 : decode cX6_moveSum 20 = .ok (.aload_n 0, 1) := by decide +kernel
theorem dX6_moveSum_21 : decode cX6_moveSum 21 = .ok (.aload_n 0, 1) := by decide +kernel
theorem dX6_moveSum_22 : decode cX6_moveSum 22 = .ok (.getfield 34, 3) := by decide +kernel
theorem dX6_moveSum_25 : decode cX6_moveSum 25 = .ok (.aload_n 0, 1) := by decide +kernel
theorem dX6_moveSum_26 : decode cX6_moveSum 26 = .ok (.getfield 19, 3) := by decide +kernel
theorem dX6_moveSum_29 : decode cX6_moveSum 29 = .ok (.imul, 1) := by decide +kernel
theorem dX6_moveSum_30 : decode cX6_moveSum 30 = .ok (.sipush 1000, 3) := by decide +kernel
theorem dX6_moveSum_33 : decode cX6_moveSum 33 = .ok (.idiv, 1) := by decide +kernel
theorem dX6_moveSum_34 : decode cX6_moveSum 34 = .ok (.iload_n 1, 1) := by decide +kernel
theorem dX6_moveSum_35 : decode cX6_moveSum 35 = .ok (.iadd, 1) := by decide +kernel
theorem dX6_moveSum_36 : decode cX6_moveSum 36 = .ok (.aload_n 0, 1) := by decide +kernel
theorem dX6_moveSum_37 : decode cX6_moveSum 37 = .ok (.invokevirtual 56, 3) := by decide +kernel
theorem dX6_moveSum_40 : decode cX6_moveSum 40 = .ok (.isub, 1) := by decide +kernel
theorem dX6_moveSum_41 : decode cX6_moveSum 41 = .ok (.aload_n 0, 1) := by decide +kernel
theorem dX6_moveSum_42 : decode cX6_moveSum 42 = .ok (.getfield 15, 3) := by decide +kernel
theorem dX6_moveSum_45 : decode cX6_moveSum 45 = .ok (.isub, 1) := by decide +kernel
theorem dX6_moveSum_46 : decode cX6_moveSum 46 = .ok (.putfield 34, 3) := by decide +kernel
theorem dX6_moveSum_49 : decode cX6_moveSum 49 = .ok (.aload_n 0, 1) := by decide +kernel
theorem dX6_moveSum_50 : decode cX6_moveSum 50 = .ok (.getfield 34, 3) := by decide +kernel
theorem dX6_moveSum_53 : decode cX6_moveSum 53 = .ok (.aload_n 0, 1) := by decide +kernel
theorem dX6_moveSum_54 : decode cX6_moveSum 54 = .ok (.getfield 37, 3) := by decide +kernel
theorem dX6_moveSum_57 : decode cX6_moveSum 57 = .ok (.if_icmp .ge 16, 3) := by decide +kernel
theorem dX6_moveSum_60 : decode cX6_moveSum 60 = .ok (.aload_n 0, 1) := by decide +kernel
theorem dX6_moveSum_61 : decode cX6_moveSum 61 = .ok (.aload_n 0, 1) := by decide +kernel
theorem dX6_moveSum_62 : decode cX6_moveSum 62 = .ok (.getfield 34, 3) := by decide +kernel
theorem dX6_moveSum_65 : decode cX6_moveSum 65 = .ok (.putfield 37, 3) := by decide +kernel
theorem dX6_moveSum_68 : decode cX6_moveSum 68 = .ok (.aload_n 0, 1) := by decide +kernel
theorem dX6_moveSum_69 : decode cX6_moveSum 69 = .ok (.iload_n 2, 1) := by decide +kernel
theorem dX6_moveSum_70 : decode cX6_moveSum 70 = .ok (.putfield 40, 3) := by decide +kernel
theorem dX6_moveSum_73 : decode cX6_moveSum 73 = .ok (.return_, 1) := by decide +kernel
theorem dX6_mean_0 : decode cX6_mean 0 = .ok (.aload_n 0, 1) := by decide +kernel
theorem dX6_mean_1 : decode cX6_mean 1 = .ok (.getfield 28, 3) := by decide +kernel
theorem dX6_mean_4 : decode cX6_mean 4 = .ok (.ifCond .le 17, 3) := by decide +kernel
theorem dX6_mean_7 : decode cX6_mean 7 = .ok (.aload_n 0, 1) := by decide +kernel
theorem dX6_mean_8 : decode cX6_mean 8 = .ok (.getfield 31, 3) := by decide +kernel
theorem dX6_mean_11 : decode cX6_mean 11 = .ok (.aload_n 0, 1) := by decide +kernel
theorem dX6_mean_12 : decode cX6_mean 12 = .ok (.getfield 28, 3) := by decide +kernel
theorem dX6_mean_15 : decode cX6_mean 15 = .ok (.invokestatic 60, 3) := by decide +kernel
theorem dX6_mean_18 : decode cX6_mean 18 = .ok (.goto 4, 3) := by decide +kernel
theorem dX6_mean_21 : decode cX6_mean 21 = .ok (.iconst 0, 1) := by decide +kernel
theorem dX6_mean_22 : decode cX6_mean 22 = .ok (.ireturn, 1) := by decide +kernel
theorem dX6_startOfGrowth_0 : decode cX6_startOfGrowth 0 = .ok (.aload_n 0, 1) := by decide +kernel
theorem dX6_startOfGrowth_1 : decode cX6_startOfGrowth 1 = .ok (.getfield 37, 3) := by decide +kernel
theorem dX6_startOfGrowth_4 : decode cX6_startOfGrowth 4 = .ok (.ifCond .ge 12, 3) := by decide +kernel
theorem dX6_startOfGrowth_7 : decode cX6_startOfGrowth 7 = .ok (.aload_n 0, 1) := by decide +kernel
theorem dX6_startOfGrowth_8 : decode cX6_startOfGrowth 8 = .ok (.getfield 40, 3) := by decide +kernel
theorem dX6_startOfGrowth_11 : decode cX6_startOfGrowth 11 = .ok (.iconst 1, 1) := by decide +kernel
theorem dX6_startOfGrowth_12 : decode cX6_startOfGrowth 12 = .ok (.iadd, 1) := by decide +kernel
theorem dX6_startOfGrowth_13 : decode cX6_startOfGrowth 13 = .ok (.goto 11, 3) := by decide +kernel
theorem dX6_startOfGrowth_16 : decode cX6_startOfGrowth 16 = .ok (.iload_n 1, 1) := by decide +kernel
theorem dX6_startOfGrowth_17 : decode cX6_startOfGrowth 17 = .ok (.aload_n 0, 1) := by decide +kernel
theorem dX6_startOfGrowth_18 : decode cX6_startOfGrowth 18 = .ok (.getfield 28, 3) := by decide +kernel
theorem dX6_startOfGrowth_21 : decode cX6_startOfGrowth 21 = .ok (.isub, 1) := by decide +kernel
theorem dX6_startOfGrowth_22 : decode cX6_startOfGrowth 22 = .ok (.iconst 1, 1) := by decide +kernel
theorem dX6_startOfGrowth_23 : decode cX6_startOfGrowth 23 = .ok (.iadd, 1) := by decide +kernel
theorem dX6_startOfGrowth_24 : decode cX6_startOfGrowth 24 = .ok (.ireturn, 1) := by decide +kernel
theorem dX7_init_0 : decode cX7_init 0 = .ok (.aload_n 0, 1) := by decide +kernel
theorem dX7_init_1 : decode cX7_init 1 = .ok (.invokespecial 3, 3) := by decide +kernel
theorem dX7_init_4 : decode cX7_init 4 = .ok (.aload_n 0, 1) := by decide +kernel
theorem dX7_init_5 : decode cX7_init 5 = .ok (.bipush 120, 2) := by decide +kernel
theorem dX7_init_7 : decode cX7_init 7 = .ok (.invokestatic 9, 3) := by decide +kernel
theorem dX7_init_10 : decode cX7_init 10 = .ok (.newarray .int, 2) := by decide +kernel
theorem dX7_init_12 : decode cX7_init 12 = .ok (.putfield 15, 3) := by decide +kernel
theorem dX7_init_15 : decode cX7_init 15 = .ok (.aload_n 0, 1) := by decide +kernel
theorem dX7_init_16 : decode cX7_init 16 = .ok (.bipush 120, 2) := by decide +kernel
theorem dX7_init_18 : decode cX7_init 18 = .ok (.newarray .int, 2) := by decide +kernel
theorem dX7_init_20 : decode cX7_init 20 = .ok (.putfield 19, 3) := by decide +kernel
theorem dX7_init_23 : decode cX7_init 23 = .ok (.aload_n 0, 1) := by decide +kernel
theorem dX7_init_24 : decode cX7_init 24 = .ok (.iconst 0, 1) := by decide +kernel
theorem dX7_init_25 : decode cX7_init 25 = .ok (.putfield 22, 3) := by decide +kernel
theorem dX7_init_28 : decode cX7_init 28 = .ok (.return_, 1) := by decide +kernel
theorem dX7_triangle_0 : decode cX7_triangle 0 = .ok (.iload_n 0, 1) := by decide +kernel
theorem dX7_triangle_1 : decode cX7_triangle 1 = .ok (.iload_n 0, 1) := by decide +kernel
theorem dX7_triangle_2 : decode cX7_triangle 2 = .ok (.iconst 1, 1) := by decide +kernel
theorem dX7_triangle_3 : decode cX7_triangle 3 = .ok (.iadd, 1) := by decide +kernel
theorem dX7_triangle_4 : decode cX7_triangle 4 = .ok (.imul, 1) := by decide +kernel
theorem dX7_triangle_5 : decode cX7_triangle 5 = .ok (.iconst 2, 1) := by decide +kernel
theorem dX7_triangle_6 : decode cX7_triangle 6 = .ok (.idiv, 1) := by decide +kernel
theorem dX7_triangle_7 : decode cX7_triangle 7 = .ok (.ireturn, 1) := by decide +kernel
theorem dX7_forget_0 : decode cX7_forget 0 = .ok (.aload_n 0, 1) := by decide +kernel
theorem dX7_forget_1 : decode cX7_forget 1 = .ok (.iconst 0, 1) := by decide +kernel
theorem dX7_forget_2 : decode cX7_forget 2 = .ok (.putfield 22, 3) := by decide +kernel
theorem dX7_forget_5 : decode cX7_forget 5 = .ok (.return_, 1) := by decide +kernel
theorem dX7_learn_0 : decode cX7_learn 0 = .ok (.aload_n 0, 1) := by decide +kernel
theorem dX7_learn_1 : decode cX7_learn 1 = .ok (.getfield 22, 3) := by decide +kernel
theorem dX7_learn_4 : decode cX7_learn 4 = .ok (.iconst 1, 1) := by decide +kernel
theorem dX7_learn_5 : decode cX7_learn 5 = .ok (.iadd, 1) := by decide +kernel
theorem dX7_learn_6 : decode cX7_learn 6 = .ok (.istore_n 3, 1) := by decide +kernel
theorem dX7_learn_7 : decode cX7_learn 7 = .ok (.iload_n 3, 1) := by decide +kernel
theorem dX7_learn_8 : decode cX7_learn 8 = .ok (.iload_n 2, 1) := by decide +kernel
theorem dX7_learn_9 : decode cX7_learn 9 = .ok (.if_icmp .gt 20, 3) := by decide +kernel
theorem dX7_learn_12 : decode cX7_learn 12 = .ok (.aload_n 0, 1) := by decide +kernel
theorem dX7_learn_13 : decode cX7_learn 13 = .ok (.aload_n 1, 1) := by decide +kernel
theorem dX7_learn_14 : decode cX7_learn 14 = .ok (.iload_n 3, 1) := by decide +kernel
theorem dX7_learn_15 : decode cX7_learn 15 = .ok (.invokevirtual 26, 3) := by decide +kernel
theorem dX7_learn_18 : decode cX7_learn 18 = .ok (.aload_n 0, 1) := by decide +kernel
theorem dX7_learn_19 : decode cX7_learn 19 = .ok (.iload_n 3, 1) := by decide +kernel
theorem dX7_learn_20 : decode cX7_learn 20 = .ok (.putfield 22, 3) := by decide +kernel
theorem dX7_learn_23 : decode cX7_learn 23 = .ok (.iinc 3 1, 3) := by decide +kernel
theorem dX7_learn_26 : decode cX7_learn 26 = .ok (.goto (-19), 3) := by decide +kernel
theorem dX7_learn_29 : decode cX7_learn 29 = .ok (.return_, 1) := by decide +kernel
theorem dX7_of_0 : decode cX7_of 0 = .ok (.aload_n 0, 1) := by decide +kernel
theorem dX7_of_1 : decode cX7_of 1 = .ok (.getfield 15, 3) := by decide +kernel
theorem dX7_of_4 : decode cX7_of 4 = .ok (.iload_n 2, 1) := by decide +kernel
theorem dX7_of_5 : decode cX7_of 5 = .ok (.iconst 1, 1) := by decide +kernel
theorem dX7_of_6 : decode cX7_of 6 = .ok (.isub, 1) := by decide +kernel
theorem dX7_of_7 : decode cX7_of 7 = .ok (.invokestatic 9, 3) := by decide +kernel
theorem dX7_of_10 : decode cX7_of 10 = .ok (.iload_n 1, 1) := by decide +kernel
theorem dX7_of_11 : decode cX7_of 11 = .ok (.iadd, 1) := by decide +kernel
theorem dX7_of_12 : decode cX7_of 12 = .ok (.iaload, 1) := by decide +kernel
theorem dX7_of_13 : decode cX7_of 13 = .ok (.ireturn, 1) := by decide +kernel
theorem dX7_middleOf_0 : decode cX7_middleOf 0 = .ok (.iload_n 2, 1) := by decide +kernel
theorem dX7_middleOf_1 : decode cX7_middleOf 1 = .ok (.istore 4, 2) := by decide +kernel
theorem dX7_middleOf_3 : decode cX7_middleOf 3 = .ok (.iload 4, 2) := by decide +kernel
theorem dX7_middleOf_5 : decode cX7_middleOf 5 = .ok (.iload_n 3, 1) := by decide +kernel
theorem dX7_middleOf_6 : decode cX7_middleOf 6 = .ok (.if_icmp .ge 21, 3) := by decide +kernel
theorem dX7_middleOf_9 : decode cX7_middleOf 9 = .ok (.aload_n 0, 1) := by decide +kernel
theorem dX7_middleOf_10 : decode cX7_middleOf 10 = .ok (.aload_n 1, 1) := by decide +kernel
theorem dX7_middleOf_11 : decode cX7_middleOf 11 = .ok (.iload 4, 2) := by decide +kernel
theorem dX7_middleOf_13 : decode cX7_middleOf 13 = .ok (.iaload, 1) := by decide +kernel
theorem dX7_middleOf_14 : decode cX7_middleOf 14 = .ok (.iload 4, 2) := by decide +kernel
theorem dX7_middleOf_16 : decode cX7_middleOf 16 = .ok (.iload_n 2, 1) := by decide +kernel
theorem dX7_middleOf_17 : decode cX7_middleOf 17 = .ok (.isub, 1) := by decide +kernel
