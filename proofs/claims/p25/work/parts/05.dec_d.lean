theorem dX10_wayOf_0 : decode cX10_wayOf 0 = .ok (.aload_n 0, 1) := by decide +kernel
theorem dX10_wayOf_1 : decode cX10_wayOf 1 = .ok (.getfield 22, 3) := by decide +kernel
theorem dX10_wayOf_4 : decode cX10_wayOf 4 = .ok (.iconst 4, 1) := by decide +kernel
theorem dX10_wayOf_5 : decode cX10_wayOf 5 = .ok (.iload_n 1, 1) := by decide +kernel
theorem dX10_wayOf_6 : decode cX10_wayOf 6 = .ok (.imul, 1) := by decide +kernel
theorem dX10_wayOf_7 : decode cX10_wayOf 7 = .ok (.iaload, 1) := by decide +kernel
theorem dX10_wayOf_8 : decode cX10_wayOf 8 = .ok (.istore_n 2, 1) := by decide +kernel
theorem dX10_wayOf_9 : decode cX10_wayOf 9 = .ok (.iload_n 2, 1) := by decide +kernel
theorem dX10_wayOf_10 : decode cX10_wayOf 10 = .ok (.i2l, 1) := by decide +kernel
theorem dX10_wayOf_11 : decode cX10_wayOf 11 = .ok (.ldc2_w 99, 3) := by decide +kernel
theorem dX10_wayOf_14 : decode cX10_wayOf 14 = .ok (.ldc2_w 239, 3) := by decide +kernel
theorem dX10_wayOf_17 : decode cX10_wayOf 17 = .ok (.invokestatic 86, 3) := by decide +kernel
theorem dX10_wayOf_20 : decode cX10_wayOf 20 = .ok (.ifCond .eq 10, 3) := by decide +kernel
theorem dX10_wayOf_23 : decode cX10_wayOf 23 = .ok (.aload_n 0, 1) := by decide +kernel
theorem dX10_wayOf_24 : decode cX10_wayOf 24 = .ok (.getfield 191, 3) := by decide +kernel
theorem dX10_wayOf_27 : decode cX10_wayOf 27 = .ok (.goto 31, 3) := by decide +kernel
theorem dX10_wayOf_30 : decode cX10_wayOf 30 = .ok (.iload_n 2, 1) := by decide +kernel
theorem dX10_wayOf_31 : decode cX10_wayOf 31 = .ok (.bipush 6, 2) := by decide +kernel
theorem dX10_wayOf_33 : decode cX10_wayOf 33 = .ok (.if_icmp .eq 9, 3) := by decide +kernel
theorem dX10_wayOf_36 : decode cX10_wayOf 36 = .ok (.iload_n 2, 1) := by decide +kernel
theorem dX10_wayOf_37 : decode cX10_wayOf 37 = .ok (.bipush 8, 2) := by decide +kernel
theorem dX10_wayOf_39 : decode cX10_wayOf 39 = .ok (.if_icmp .ne 18, 3) := by decide +kernel
theorem dX10_wayOf_42 : decode cX10_wayOf 42 = .ok (.aload_n 0, 1) := by decide +kernel
theorem dX10_wayOf_43 : decode cX10_wayOf 43 = .ok (.getfield 218, 3) := by decide +kernel
theorem dX10_wayOf_46 : decode cX10_wayOf 46 = .ok (.ifCond .eq 7, 3) := by decide +kernel
theorem dX10_wayOf_49 : decode cX10_wayOf 49 = .ok (.iconst 1, 1) := by decide +kernel
theorem dX10_wayOf_50 : decode cX10_wayOf 50 = .ok (.goto 8, 3) := by decide +kernel
theorem dX10_wayOf_53 : decode cX10_wayOf 53 = .ok (.iconst 0, 1) := by decide +kernel
theorem dX10_wayOf_54 : decode cX10_wayOf 54 = .ok (.goto 4, 3) := by decide +kernel
theorem dX10_wayOf_57 : decode cX10_wayOf 57 = .ok (.iconst 0, 1) := by decide +kernel
theorem dX10_wayOf_58 : decode cX10_wayOf 58 = .ok (.ireturn, 1) := by decide +kernel
theorem dX10_writesOut_0 : decode cX10_writesOut 0 = .ok (.iload_n 0, 1) := by decide +kernel
theorem dX10_writesOut_1 : decode cX10_writesOut 1 = .ok (.bipush 6, 2) := by decide +kernel
theorem dX10_writesOut_3 : decode cX10_writesOut 3 = .ok (.if_icmp .ge 7, 3) := by decide +kernel
theorem dX10_writesOut_6 : decode cX10_writesOut 6 = .ok (.iconst 1, 1) := by decide +kernel
theorem dX10_writesOut_7 : decode cX10_writesOut 7 = .ok (.goto 4, 3) := by decide +kernel
theorem dX10_writesOut_10 : decode cX10_writesOut 10 = .ok (.iconst 0, 1) := by decide +kernel
theorem dX10_writesOut_11 : decode cX10_writesOut 11 = .ok (.ireturn, 1) := by decide +kernel
theorem dX10_applies_0 : decode cX10_applies 0 = .ok (.aload_n 0, 1) := by decide +kernel
theorem dX10_applies_1 : decode cX10_applies 1 = .ok (.getfield 241, 3) := by decide +kernel
theorem dX10_applies_4 : decode cX10_applies 4 = .ok (.istore_n 1, 1) := by decide +kernel
theorem dX10_applies_5 : decode cX10_applies 5 = .ok (.aload_n 0, 1) := by decide +kernel
theorem dX10_applies_6 : decode cX10_applies 6 = .ok (.getfield 22, 3) := by decide +kernel
theorem dX10_applies_9 : decode cX10_applies 9 = .ok (.iconst 4, 1) := by decide +kernel
theorem dX10_applies_10 : decode cX10_applies 10 = .ok (.iload_n 1, 1) := by decide +kernel
theorem dX10_applies_11 : decode cX10_applies 11 = .ok (.imul, 1) := by decide +kernel
theorem dX10_applies_12 : decode cX10_applies 12 = .ok (.iaload, 1) := by decide +kernel
theorem dX10_applies_13 : decode cX10_applies 13 = .ok (.istore_n 2, 1) := by decide +kernel
theorem dX10_applies_14 : decode cX10_applies 14 = .ok (.iload_n 2, 1) := by decide +kernel
theorem dX10_applies_15 : decode cX10_applies 15 = .ok (.invokestatic 244, 3) := by decide +kernel
theorem dX10_applies_18 : decode cX10_applies 18 = .ok (.ifCond .eq 31, 3) := by decide +kernel
theorem dX10_applies_21 : decode cX10_applies 21 = .ok (.aload_n 0, 1) := by decide +kernel
theorem dX10_applies_22 : decode cX10_applies 22 = .ok (.getfield 31, 3) := by decide +kernel
theorem dX10_applies_25 : decode cX10_applies 25 = .ok (.aload_n 0, 1) := by decide +kernel
theorem dX10_applies_26 : decode cX10_applies 26 = .ok (.iload_n 1, 1) := by decide +kernel
theorem dX10_applies_27 : decode cX10_applies 27 = .ok (.invokevirtual 247, 3) := by decide +kernel
theorem dX10_applies_30 : decode cX10_applies 30 = .ok (.aload_n 0, 1) := by decide +kernel
theorem dX10_applies_31 : decode cX10_applies 31 = .ok (.getfield 191, 3) := by decide +kernel
theorem dX10_applies_34 : decode cX10_applies 34 = .ok (.iastore, 1) := by decide +kernel
theorem dX10_applies_35 : decode cX10_applies 35 = .ok (.aload_n 0, 1) := by decide +kernel
theorem dX10_applies_36 : decode cX10_applies 36 = .ok (.getfield 34, 3) := by decide +kernel
theorem dX10_applies_39 : decode cX10_applies 39 = .ok (.aload_n 0, 1) := by decide +kernel
theorem dX10_applies_40 : decode cX10_applies 40 = .ok (.iload_n 1, 1) := by decide +kernel
theorem dX10_applies_41 : decode cX10_applies 41 = .ok (.invokevirtual 247, 3) := by decide +kernel
theorem dX10_applies_44 : decode cX10_applies 44 = .ok (.aload_n 0, 1) := by decide +kernel
theorem dX10_applies_45 : decode cX10_applies 45 = .ok (.getfield 194, 3) := by decide +kernel
theorem dX10_applies_48 : decode cX10_applies 48 = .ok (.iastore, 1) := by decide +kernel
theorem dX10_applies_49 : decode cX10_applies 49 = .ok (.aload_n 0, 1) := by decide +kernel
theorem dX10_applies_50 : decode cX10_applies 50 = .ok (.aload_n 0, 1) := by decide +kernel
theorem dX10_applies_51 : decode cX10_applies 51 = .ok (.getfield 218, 3) := by decide +kernel
theorem dX10_applies_54 : decode cX10_applies 54 = .ok (.ifCond .eq 16, 3) := by decide +kernel
theorem dX10_applies_57 : decode cX10_applies 57 = .ok (.aload_n 0, 1) := by decide +kernel
theorem dX10_applies_58 : decode cX10_applies 58 = .ok (.getfield 22, 3) := by decide +kernel
theorem dX10_applies_61 : decode cX10_applies 61 = .ok (.iconst 4, 1) := by decide +kernel
theorem dX10_applies_62 : decode cX10_applies 62 = .ok (.iload_n 1, 1) := by decide +kernel
theorem dX10_applies_63 : decode cX10_applies 63 = .ok (.imul, 1) := by decide +kernel
theorem dX10_applies_64 : decode cX10_applies 64 = .ok (.iconst 1, 1) := by decide +kernel
theorem dX10_applies_65 : decode cX10_applies 65 = .ok (.iadd, 1) := by decide +kernel
theorem dX10_applies_66 : decode cX10_applies 66 = .ok (.iaload, 1) := by decide +kernel
theorem dX10_applies_67 : decode cX10_applies 67 = .ok (.goto 16, 3) := by decide +kernel
theorem dX10_applies_70 : decode cX10_applies 70 = .ok (.iload_n 2, 1) := by decide +kernel
theorem dX10_applies_71 : decode cX10_applies 71 = .ok (.bipush 9, 2) := by decide +kernel
theorem dX10_applies_73 : decode cX10_applies 73 = .ok (.if_icmp .ne 7, 3) := by decide +kernel
theorem dX10_applies_76 : decode cX10_applies 76 = .ok (.iload_n 1, 1) := by decide +kernel
theorem dX10_applies_77 : decode cX10_applies 77 = .ok (.goto 6, 3) := by decide +kernel
theorem dX10_applies_80 : decode cX10_applies 80 = .ok (.iload_n 1, 1) := by decide +kernel
theorem dX10_applies_81 : decode cX10_applies 81 = .ok (.iconst 1, 1) := by decide +kernel
theorem dX10_applies_82 : decode cX10_applies 82 = .ok (.iadd, 1) := by decide +kernel
theorem dX10_applies_83 : decode cX10_applies 83 = .ok (.putfield 241, 3) := by decide +kernel
theorem dX10_applies_86 : decode cX10_applies 86 = .ok (.aload_n 0, 1) := by decide +kernel
theorem dX10_applies_87 : decode cX10_applies 87 = .ok (.dup, 1) := by decide +kernel
theorem dX10_applies_88 : decode cX10_applies 88 = .ok (.getfield 250, 3) := by decide +kernel
theorem dX10_applies_91 : decode cX10_applies 91 = .ok (.iconst 1, 1) := by decide +kernel
theorem dX10_applies_92 : decode cX10_applies 92 = .ok (.iadd, 1) := by decide +kernel
theorem dX10_applies_93 : decode cX10_applies 93 = .ok (.putfield 250, 3) := by decide +kernel
theorem dX10_applies_96 : decode cX10_applies 96 = .ok (.return_, 1) := by decide +kernel
theorem dX10_rootOf_0 : decode cX10_rootOf 0 = .ok (.iconst (-1), 1) := by decide +kernel
theorem dX10_rootOf_1 : decode cX10_rootOf 1 = .ok (.istore_n 2, 1) := by decide +kernel
theorem dX10_rootOf_2 : decode cX10_rootOf 2 = .ok (.iconst 0, 1) := by decide +kernel
theorem dX10_rootOf_3 : decode cX10_rootOf 3 = .ok (.istore_n 3, 1) := by decide +kernel
theorem dX10_rootOf_4 : decode cX10_rootOf 4 = .ok (.iload_n 3, 1) := by decide +kernel
theorem dX10_rootOf_5 : decode cX10_rootOf 5 = .ok (.aload_n 0, 1) := by decide +kernel
theorem dX10_rootOf_6 : decode cX10_rootOf 6 = .ok (.getfield 253, 3) := by decide +kernel
theorem dX10_rootOf_9 : decode cX10_rootOf 9 = .ok (.if_icmp .ge 35, 3) := by decide +kernel
theorem dX10_rootOf_12 : decode cX10_rootOf 12 = .ok (.aload_n 0, 1) := by decide +kernel
theorem dX10_rootOf_13 : decode cX10_rootOf 13 = .ok (.getfield 43, 3) := by decide +kernel
theorem dX10_rootOf_16 : decode cX10_rootOf 16 = .ok (.iload_n 3, 1) := by decide +kernel
theorem dX10_rootOf_17 : decode cX10_rootOf 17 = .ok (.iaload, 1) := by decide +kernel
theorem dX10_rootOf_18 : decode cX10_rootOf 18 = .ok (.iload_n 1, 1) := by decide +kernel
theorem dX10_rootOf_19 : decode cX10_rootOf 19 = .ok (.if_icmp .ne 17, 3) := by decide +kernel
theorem dX10_rootOf_22 : decode cX10_rootOf 22 = .ok (.aload_n 0, 1) := by decide +kernel
theorem dX10_rootOf_23 : decode cX10_rootOf 23 = .ok (.getfield 46, 3) := by decide +kernel
theorem dX10_rootOf_26 : decode cX10_rootOf 26 = .ok (.iload_n 3, 1) := by decide +kernel
theorem dX10_rootOf_27 : decode cX10_rootOf 27 = .ok (.iaload, 1) := by decide +kernel
theorem dX10_rootOf_28 : decode cX10_rootOf 28 = .ok (.iconst (-1), 1) := by decide +kernel
theorem dX10_rootOf_29 : decode cX10_rootOf 29 = .ok (.if_icmp .ne 7, 3) := by decide +kernel
theorem dX10_rootOf_32 : decode cX10_rootOf 32 = .ok (.iload_n 3, 1) := by decide +kernel
theorem dX10_rootOf_33 : decode cX10_rootOf 33 = .ok (.goto 4, 3) := by decide +kernel
theorem dX10_rootOf_36 : decode cX10_rootOf 36 = .ok (.iload_n 2, 1) := by decide +kernel
theorem dX10_rootOf_37 : decode cX10_rootOf 37 = .ok (.istore_n 2, 1) := by decide +kernel
theorem dX10_rootOf_38 : decode cX10_rootOf 38 = .ok (.iinc 3 1, 3) := by decide +kernel
theorem dX10_rootOf_41 : decode cX10_rootOf 41 = .ok (.goto (-37), 3) := by decide +kernel
theorem dX10_rootOf_44 : decode cX10_rootOf 44 = .ok (.iload_n 2, 1) := by decide +kernel
theorem dX10_rootOf_45 : decode cX10_rootOf 45 = .ok (.ireturn, 1) := by decide +kernel
theorem dX10_begins_0 : decode cX10_begins 0 = .ok (.aload_n 0, 1) := by decide +kernel
theorem dX10_begins_1 : decode cX10_begins 1 = .ok (.iconst 1, 1) := by decide +kernel
theorem dX10_begins_2 : decode cX10_begins 2 = .ok (.putfield 256, 3) := by decide +kernel
theorem dX10_begins_5 : decode cX10_begins 5 = .ok (.aload_n 0, 1) := by decide +kernel
theorem dX10_begins_6 : decode cX10_begins 6 = .ok (.iload_n 1, 1) := by decide +kernel
theorem dX10_begins_7 : decode cX10_begins 7 = .ok (.putfield 259, 3) := by decide +kernel
theorem dX10_begins_10 : decode cX10_begins 10 = .ok (.aload_n 0, 1) := by decide +kernel
theorem dX10_begins_11 : decode cX10_begins 11 = .ok (.iload_n 2, 1) := by decide +kernel
theorem dX10_begins_12 : decode cX10_begins 12 = .ok (.putfield 262, 3) := by decide +kernel
theorem dX10_begins_15 : decode cX10_begins 15 = .ok (.aload_n 0, 1) := by decide +kernel
theorem dX10_begins_16 : decode cX10_begins 16 = .ok (.iload_n 3, 1) := by decide +kernel
theorem dX10_begins_17 : decode cX10_begins 17 = .ok (.putfield 265, 3) := by decide +kernel
theorem dX10_begins_20 : decode cX10_begins 20 = .ok (.aload_n 0, 1) := by decide +kernel
theorem dX10_begins_21 : decode cX10_begins 21 = .ok (.iconst 0, 1) := by decide +kernel
theorem dX10_begins_22 : decode cX10_begins 22 = .ok (.putfield 268, 3) := by decide +kernel
theorem dX10_begins_25 : decode cX10_begins 25 = .ok (.return_, 1) := by decide +kernel
theorem dX10_lets_0 : decode cX10_lets 0 = .ok (.aload_n 0, 1) := by decide +kernel
theorem dX10_lets_1 : decode cX10_lets 1 = .ok (.iconst 0, 1) := by decide +kernel
theorem dX10_lets_2 : decode cX10_lets 2 = .ok (.putfield 256, 3) := by decide +kernel
theorem dX10_lets_5 : decode cX10_lets 5 = .ok (.aload_n 0, 1) := by decide +kernel
theorem dX10_lets_6 : decode cX10_lets 6 = .ok (.dup, 1) := by decide +kernel
theorem dX10_lets_7 : decode cX10_lets 7 = .ok (.getfield 271, 3) := by decide +kernel
theorem dX10_lets_10 : decode cX10_lets 10 = .ok (.iconst 1, 1) := by decide +kernel
theorem dX10_lets_11 : decode cX10_lets 11 = .ok (.iadd, 1) := by decide +kernel
theorem dX10_lets_12 : decode cX10_lets 12 = .ok (.putfield 271, 3) := by decide +kernel
theorem dX10_lets_15 : decode cX10_lets 15 = .ok (.aload_n 0, 1) := by decide +kernel
theorem dX10_lets_16 : decode cX10_lets 16 = .ok (.getfield 37, 3) := by decide +kernel
theorem dX10_lets_19 : decode cX10_lets 19 = .ok (.aload_n 0, 1) := by decide +kernel
theorem dX10_lets_20 : decode cX10_lets 20 = .ok (.getfield 259, 3) := by decide +kernel
theorem dX10_lets_23 : decode cX10_lets 23 = .ok (.iconst 0, 1) := by decide +kernel
theorem dX10_lets_24 : decode cX10_lets 24 = .ok (.iastore, 1) := by decide +kernel
theorem dX10_lets_25 : decode cX10_lets 25 = .ok (.aload_n 0, 1) := by decide +kernel
theorem dX10_lets_26 : decode cX10_lets 26 = .ok (.getfield 40, 3) := by decide +kernel
theorem dX10_lets_29 : decode cX10_lets 29 = .ok (.aload_n 0, 1) := by decide +kernel
theorem dX10_lets_30 : decode cX10_lets 30 = .ok (.getfield 259, 3) := by decide +kernel
theorem dX10_lets_33 : decode cX10_lets 33 = .ok (.dup2, 1) := by decide +kernel
theorem dX10_lets_34 : decode cX10_lets 34 = .ok (.iaload, 1) := by decide +kernel
theorem dX10_lets_35 : decode cX10_lets 35 = .ok (.iconst 1, 1) := by decide +kernel
theorem dX10_lets_36 : decode cX10_lets 36 = .ok (.iadd, 1) := by decide +kernel
theorem dX10_lets_37 : decode cX10_lets 37 = .ok (.iastore, 1) := by decide +kernel
theorem dX10_lets_38 : decode cX10_lets 38 = .ok (.return_, 1) := by decide +kernel
theorem dX10_closes_0 : decode cX10_closes 0 = .ok (.aload_n 0, 1) := by decide +kernel
theorem dX10_closes_1 : decode cX10_closes 1 = .ok (.iconst 0, 1) := by decide +kernel
theorem dX10_closes_2 : decode cX10_closes 2 = .ok (.putfield 256, 3) := by decide +kernel
theorem dX10_closes_5 : decode cX10_closes 5 = .ok (.aload_n 0, 1) := by decide +kernel
theorem dX10_closes_6 : decode cX10_closes 6 = .ok (.getfield 43, 3) := by decide +kernel
theorem dX10_closes_9 : decode cX10_closes 9 = .ok (.aload_n 0, 1) := by decide +kernel
theorem dX10_closes_10 : decode cX10_closes 10 = .ok (.getfield 253, 3) := by decide +kernel
theorem dX10_closes_13 : decode cX10_closes 13 = .ok (.aload_n 0, 1) := by decide +kernel
theorem dX10_closes_14 : decode cX10_closes 14 = .ok (.getfield 259, 3) := by decide +kernel
theorem dX10_closes_17 : decode cX10_closes 17 = .ok (.iastore, 1) := by decide +kernel
theorem dX10_closes_18 : decode cX10_closes 18 = .ok (.aload_n 0, 1) := by decide +kernel
theorem dX10_closes_19 : decode cX10_closes 19 = .ok (.getfield 46, 3) := by decide +kernel
theorem dX10_closes_22 : decode cX10_closes 22 = .ok (.aload_n 0, 1) := by decide +kernel
theorem dX10_closes_23 : decode cX10_closes 23 = .ok (.getfield 253, 3) := by decide +kernel
theorem dX10_closes_26 : decode cX10_closes 26 = .ok (.aload_n 0, 1) := by decide +kernel
theorem dX10_closes_27 : decode cX10_closes 27 = .ok (.getfield 262, 3) := by decide +kernel
theorem dX10_closes_30 : decode cX10_closes 30 = .ok (.iastore, 1) := by decide +kernel
theorem dX10_closes_31 : decode cX10_closes 31 = .ok (.aload_n 0, 1) := by decide +kernel
theorem dX10_closes_32 : decode cX10_closes 32 = .ok (.getfield 49, 3) := by decide +kernel
theorem dX10_closes_35 : decode cX10_closes 35 = .ok (.aload_n 0, 1) := by decide +kernel
theorem dX10_closes_36 : decode cX10_closes 36 = .ok (.getfield 253, 3) := by decide +kernel
theorem dX10_closes_39 : decode cX10_closes 39 = .ok (.aload_n 0, 1) := by decide +kernel
theorem dX10_closes_40 : decode cX10_closes 40 = .ok (.getfield 265, 3) := by decide +kernel
theorem dX10_closes_43 : decode cX10_closes 43 = .ok (.iastore, 1) := by decide +kernel
theorem dX10_closes_44 : decode cX10_closes 44 = .ok (.aload_n 0, 1) := by decide +kernel
theorem dX10_closes_45 : decode cX10_closes 45 = .ok (.getfield 52, 3) := by decide +kernel
theorem dX10_closes_48 : decode cX10_closes 48 = .ok (.aload_n 0, 1) := by decide +kernel
theorem dX10_closes_49 : decode cX10_closes 49 = .ok (.getfield 253, 3) := by decide +kernel
theorem dX10_closes_52 : decode cX10_closes 52 = .ok (.aload_n 0, 1) := by decide +kernel
theorem dX10_closes_53 : decode cX10_closes 53 = .ok (.getfield 268, 3) := by decide +kernel
theorem dX10_closes_56 : decode cX10_closes 56 = .ok (.iastore, 1) := by decide +kernel
theorem dX10_closes_57 : decode cX10_closes 57 = .ok (.aload_n 0, 1) := by decide +kernel
theorem dX10_closes_58 : decode cX10_closes 58 = .ok (.getfield 55, 3) := by decide +kernel
theorem dX10_closes_61 : decode cX10_closes 61 = .ok (.aload_n 0, 1) := by decide +kernel
theorem dX10_closes_62 : decode cX10_closes 62 = .ok (.getfield 253, 3) := by decide +kernel
theorem dX10_closes_65 : decode cX10_closes 65 = .ok (.iconst 0, 1) := by decide +kernel
theorem dX10_closes_66 : decode cX10_closes 66 = .ok (.iastore, 1) := by decide +kernel
theorem dX10_closes_67 : decode cX10_closes 67 = .ok (.aload_n 0, 1) := by decide +kernel
theorem dX10_closes_68 : decode cX10_closes 68 = .ok (.getfield 262, 3) := by decide +kernel
theorem dX10_closes_71 : decode cX10_closes 71 = .ok (.iconst (-1), 1) := by decide +kernel
theorem dX10_closes_72 : decode cX10_closes 72 = .ok (.if_icmp .eq 24, 3) := by decide +kernel
theorem dX10_closes_75 : decode cX10_closes 75 = .ok (.aload_n 0, 1) := by decide +kernel
theorem dX10_closes_76 : decode cX10_closes 76 = .ok (.getfield 73, 3) := by decide +kernel
theorem dX10_closes_79 : decode cX10_closes 79 = .ok (.bipush 16, 2) := by decide +kernel
theorem dX10_closes_81 : decode cX10_closes 81 = .ok (.aload_n 0, 1) := by decide +kernel
theorem dX10_closes_82 : decode cX10_closes 82 = .ok (.getfield 262, 3) := by decide +kernel
theorem dX10_closes_85 : decode cX10_closes 85 = .ok (.imul, 1) := by decide +kernel
theorem dX10_closes_86 : decode cX10_closes 86 = .ok (.aload_n 0, 1) := by decide +kernel
theorem dX10_closes_87 : decode cX10_closes 87 = .ok (.getfield 265, 3) := by decide +kernel
theorem dX10_closes_90 : decode cX10_closes 90 = .ok (.iadd, 1) := by decide +kernel
theorem dX10_closes_91 : decode cX10_closes 91 = .ok (.aload_n 0, 1) := by decide +kernel
theorem dX10_closes_92 : decode cX10_closes 92 = .ok (.getfield 253, 3) := by decide +kernel
theorem dX10_closes_95 : decode cX10_closes 95 = .ok (.iastore, 1) := by decide +kernel
theorem dX10_closes_96 : decode cX10_closes 96 = .ok (.aload_n 0, 1) := by decide +kernel
theorem dX10_closes_97 : decode cX10_closes 97 = .ok (.dup, 1) := by decide +kernel
theorem dX10_closes_98 : decode cX10_closes 98 = .ok (.getfield 253, 3) := by decide +kernel
theorem dX10_closes_101 : decode cX10_closes 101 = .ok (.iconst 1, 1) := by decide +kernel
theorem dX10_closes_102 : decode cX10_closes 102 = .ok (.iadd, 1) := by decide +kernel
theorem dX10_closes_103 : decode cX10_closes 103 = .ok (.putfield 253, 3) := by decide +kernel
theorem dX10_closes_106 : decode cX10_closes 106 = .ok (.return_, 1) := by decide +kernel
theorem dX10_aheadOfStep_0 : decode cX10_aheadOfStep 0 = .ok (.aload_n 0, 1) := by decide +kernel
theorem dX10_aheadOfStep_1 : decode cX10_aheadOfStep 1 = .ok (.getfield 241, 3) := by decide +kernel
theorem dX10_aheadOfStep_4 : decode cX10_aheadOfStep 4 = .ok (.aload_n 0, 1) := by decide +kernel
theorem dX10_aheadOfStep_5 : decode cX10_aheadOfStep 5 = .ok (.getfield 259, 3) := by decide +kernel
theorem dX10_aheadOfStep_8 : decode cX10_aheadOfStep 8 = .ok (.if_icmp .ne 17, 3) := by decide +kernel
theorem dX10_aheadOfStep_11 : decode cX10_aheadOfStep 11 = .ok (.aload_n 0, 1) := by decide +kernel
theorem dX10_aheadOfStep_12 : decode cX10_aheadOfStep 12 = .ok (.getfield 268, 3) := by decide +kernel
theorem dX10_aheadOfStep_15 : decode cX10_aheadOfStep 15 = .ok (.ifCond .le 10, 3) := by decide +kernel
theorem dX10_aheadOfStep_18 : decode cX10_aheadOfStep 18 = .ok (.aload_n 0, 1) := by decide +kernel
theorem dX10_aheadOfStep_19 : decode cX10_aheadOfStep 19 = .ok (.invokevirtual 274, 3) := by decide +kernel
theorem dX10_aheadOfStep_22 : decode cX10_aheadOfStep 22 = .ok (.goto 39, 3) := by decide +kernel
theorem dX10_aheadOfStep_25 : decode cX10_aheadOfStep 25 = .ok (.aload_n 0, 1) := by decide +kernel
theorem dX10_aheadOfStep_26 : decode cX10_aheadOfStep 26 = .ok (.getfield 268, 3) := by decide +kernel
theorem dX10_aheadOfStep_29 : decode cX10_aheadOfStep 29 = .ok (.bipush 16, 2) := by decide +kernel
theorem dX10_aheadOfStep_31 : decode cX10_aheadOfStep 31 = .ok (.if_icmp .eq 26, 3) := by decide +kernel
theorem dX10_aheadOfStep_34 : decode cX10_aheadOfStep 34 = .ok (.aload_n 0, 1) := by decide +kernel
theorem dX10_aheadOfStep_35 : decode cX10_aheadOfStep 35 = .ok (.getfield 241, 3) := by decide +kernel
theorem dX10_aheadOfStep_38 : decode cX10_aheadOfStep 38 = .ok (.aload_n 0, 1) := by decide +kernel
theorem dX10_aheadOfStep_39 : decode cX10_aheadOfStep 39 = .ok (.getfield 259, 3) := by decide +kernel
theorem dX10_aheadOfStep_42 : decode cX10_aheadOfStep 42 = .ok (.if_icmp .eq 19, 3) := by decide +kernel
theorem dX10_aheadOfStep_45 : decode cX10_aheadOfStep 45 = .ok (.aload_n 0, 1) := by decide +kernel
theorem dX10_aheadOfStep_46 : decode cX10_aheadOfStep 46 = .ok (.aload_n 0, 1) := by decide +kernel
theorem dX10_aheadOfStep_47 : decode cX10_aheadOfStep 47 = .ok (.getfield 241, 3) := by decide +kernel
theorem dX10_aheadOfStep_50 : decode cX10_aheadOfStep 50 = .ok (.invokevirtual 277, 3) := by decide +kernel
theorem dX10_aheadOfStep_53 : decode cX10_aheadOfStep 53 = .ok (.iconst (-1), 1) := by decide +kernel
theorem dX10_aheadOfStep_54 : decode cX10_aheadOfStep 54 = .ok (.if_icmp .eq 7, 3) := by decide +kernel
theorem dX10_aheadOfStep_57 : decode cX10_aheadOfStep 57 = .ok (.aload_n 0, 1) := by decide +kernel
theorem dX10_aheadOfStep_58 : decode cX10_aheadOfStep 58 = .ok (.invokevirtual 280, 3) := by decide +kernel
theorem dX10_aheadOfStep_61 : decode cX10_aheadOfStep 61 = .ok (.return_, 1) := by decide +kernel
theorem dX10_notes_0 : decode cX10_notes 0 = .ok (.bipush 16, 2) := by decide +kernel
theorem dX10_notes_2 : decode cX10_notes 2 = .ok (.aload_n 0, 1) := by decide +kernel
theorem dX10_notes_3 : decode cX10_notes 3 = .ok (.getfield 253, 3) := by decide +kernel
theorem dX10_notes_6 : decode cX10_notes 6 = .ok (.imul, 1) := by decide +kernel
theorem dX10_notes_7 : decode cX10_notes 7 = .ok (.aload_n 0, 1) := by decide +kernel
theorem dX10_notes_8 : decode cX10_notes 8 = .ok (.getfield 268, 3) := by decide +kernel
theorem dX10_notes_11 : decode cX10_notes 11 = .ok (.iadd, 1) := by decide +kernel
theorem dX10_notes_12 : decode cX10_notes 12 = .ok (.istore_n 1, 1) := by decide +kernel
theorem dX10_notes_13 : decode cX10_notes 13 = .ok (.aload_n 0, 1) := by decide +kernel
theorem dX10_notes_14 : decode cX10_notes 14 = .ok (.getfield 58, 3) := by decide +kernel
theorem dX10_notes_17 : decode cX10_notes 17 = .ok (.iload_n 1, 1) := by decide +kernel
theorem dX10_notes_18 : decode cX10_notes 18 = .ok (.aload_n 0, 1) := by decide +kernel
theorem dX10_notes_19 : decode cX10_notes 19 = .ok (.getfield 241, 3) := by decide +kernel
theorem dX10_notes_22 : decode cX10_notes 22 = .ok (.iastore, 1) := by decide +kernel
theorem dX10_notes_23 : decode cX10_notes 23 = .ok (.aload_n 0, 1) := by decide +kernel
theorem dX10_notes_24 : decode cX10_notes 24 = .ok (.getfield 61, 3) := by decide +kernel
theorem dX10_notes_27 : decode cX10_notes 27 = .ok (.iload_n 1, 1) := by decide +kernel
theorem dX10_notes_28 : decode cX10_notes 28 = .ok (.aload_n 0, 1) := by decide +kernel
theorem dX10_notes_29 : decode cX10_notes 29 = .ok (.getfield 31, 3) := by decide +kernel
theorem dX10_notes_32 : decode cX10_notes 32 = .ok (.aload_n 0, 1) := by decide +kernel
theorem dX10_notes_33 : decode cX10_notes 33 = .ok (.aload_n 0, 1) := by decide +kernel
theorem dX10_notes_34 : decode cX10_notes 34 = .ok (.getfield 241, 3) := by decide +kernel
theorem dX10_notes_37 : decode cX10_notes 37 = .ok (.invokevirtual 225, 3) := by decide +kernel
theorem dX10_notes_40 : decode cX10_notes 40 = .ok (.iaload, 1) := by decide +kernel
theorem dX10_notes_41 : decode cX10_notes 41 = .ok (.iastore, 1) := by decide +kernel
theorem dX10_notes_42 : decode cX10_notes 42 = .ok (.aload_n 0, 1) := by decide +kernel
theorem dX10_notes_43 : decode cX10_notes 43 = .ok (.getfield 64, 3) := by decide +kernel
theorem dX10_notes_46 : decode cX10_notes 46 = .ok (.iload_n 1, 1) := by decide +kernel
theorem dX10_notes_47 : decode cX10_notes 47 = .ok (.aload_n 0, 1) := by decide +kernel
theorem dX10_notes_48 : decode cX10_notes 48 = .ok (.getfield 31, 3) := by decide +kernel
theorem dX10_notes_51 : decode cX10_notes 51 = .ok (.aload_n 0, 1) := by decide +kernel
theorem dX10_notes_52 : decode cX10_notes 52 = .ok (.aload_n 0, 1) := by decide +kernel
theorem dX10_notes_53 : decode cX10_notes 53 = .ok (.getfield 241, 3) := by decide +kernel
theorem dX10_notes_56 : decode cX10_notes 56 = .ok (.invokevirtual 222, 3) := by decide +kernel
theorem dX10_notes_59 : decode cX10_notes 59 = .ok (.iaload, 1) := by decide +kernel
theorem dX10_notes_60 : decode cX10_notes 60 = .ok (.iastore, 1) := by decide +kernel
theorem dX10_notes_61 : decode cX10_notes 61 = .ok (.aload_n 0, 1) := by decide +kernel
theorem dX10_notes_62 : decode cX10_notes 62 = .ok (.getfield 67, 3) := by decide +kernel
theorem dX10_notes_65 : decode cX10_notes 65 = .ok (.iload_n 1, 1) := by decide +kernel
theorem dX10_notes_66 : decode cX10_notes 66 = .ok (.aload_n 0, 1) := by decide +kernel
theorem dX10_notes_67 : decode cX10_notes 67 = .ok (.aload_n 0, 1) := by decide +kernel
theorem dX10_notes_68 : decode cX10_notes 68 = .ok (.getfield 241, 3) := by decide +kernel
theorem dX10_notes_71 : decode cX10_notes 71 = .ok (.invokevirtual 283, 3) := by decide +kernel
theorem dX10_notes_74 : decode cX10_notes 74 = .ok (.iastore, 1) := by decide +kernel
theorem dX10_notes_75 : decode cX10_notes 75 = .ok (.aload_n 0, 1) := by decide +kernel
theorem dX10_notes_76 : decode cX10_notes 76 = .ok (.getfield 70, 3) := by decide +kernel
theorem dX10_notes_79 : decode cX10_notes 79 = .ok (.iload_n 1, 1) := by decide +kernel
theorem dX10_notes_80 : decode cX10_notes 80 = .ok (.iconst 0, 1) := by decide +kernel
theorem dX10_notes_81 : decode cX10_notes 81 = .ok (.iastore, 1) := by decide +kernel
theorem dX10_notes_82 : decode cX10_notes 82 = .ok (.aload_n 0, 1) := by decide +kernel
theorem dX10_notes_83 : decode cX10_notes 83 = .ok (.getfield 73, 3) := by decide +kernel
theorem dX10_notes_86 : decode cX10_notes 86 = .ok (.iload_n 1, 1) := by decide +kernel
theorem dX10_notes_87 : decode cX10_notes 87 = .ok (.iconst (-1), 1) := by decide +kernel
theorem dX10_notes_88 : decode cX10_notes 88 = .ok (.iastore, 1) := by decide +kernel
theorem dX10_notes_89 : decode cX10_notes 89 = .ok (.aload_n 0, 1) := by decide +kernel
theorem dX10_notes_90 : decode cX10_notes 90 = .ok (.dup, 1) := by decide +kernel
theorem dX10_notes_91 : decode cX10_notes 91 = .ok (.getfield 268, 3) := by decide +kernel
theorem dX10_notes_94 : decode cX10_notes 94 = .ok (.iconst 1, 1) := by decide +kernel
theorem dX10_notes_95 : decode cX10_notes 95 = .ok (.iadd, 1) := by decide +kernel
theorem dX10_notes_96 : decode cX10_notes 96 = .ok (.putfield 268, 3) := by decide +kernel
theorem dX10_notes_99 : decode cX10_notes 99 = .ok (.return_, 1) := by decide +kernel
theorem dX10_enters_0 : decode cX10_enters 0 = .ok (.aload_n 0, 1) := by decide +kernel
theorem dX10_enters_1 : decode cX10_enters 1 = .ok (.iload_n 1, 1) := by decide +kernel
theorem dX10_enters_2 : decode cX10_enters 2 = .ok (.putfield 286, 3) := by decide +kernel
theorem dX10_enters_5 : decode cX10_enters 5 = .ok (.aload_n 0, 1) := by decide +kernel
theorem dX10_enters_6 : decode cX10_enters 6 = .ok (.iconst 0, 1) := by decide +kernel
theorem dX10_enters_7 : decode cX10_enters 7 = .ok (.putfield 289, 3) := by decide +kernel
theorem dX10_enters_10 : decode cX10_enters 10 = .ok (.aload_n 0, 1) := by decide +kernel
theorem dX10_enters_11 : decode cX10_enters 11 = .ok (.getfield 55, 3) := by decide +kernel
theorem dX10_enters_14 : decode cX10_enters 14 = .ok (.iload_n 1, 1) := by decide +kernel
theorem dX10_enters_15 : decode cX10_enters 15 = .ok (.dup2, 1) := by decide +kernel
theorem dX10_enters_16 : decode cX10_enters 16 = .ok (.iaload, 1) := by decide +kernel
theorem dX10_enters_17 : decode cX10_enters 17 = .ok (.iconst 1, 1) := by decide +kernel
theorem dX10_enters_18 : decode cX10_enters 18 = .ok (.iadd, 1) := by decide +kernel
theorem dX10_enters_19 : decode cX10_enters 19 = .ok (.iastore, 1) := by decide +kernel
theorem dX10_enters_20 : decode cX10_enters 20 = .ok (.return_, 1) := by decide +kernel
theorem dX10_fails_0 : decode cX10_fails 0 = .ok (.bipush 16, 2) := by decide +kernel
theorem dX10_fails_2 : decode cX10_fails 2 = .ok (.aload_n 0, 1) := by decide +kernel
theorem dX10_fails_3 : decode cX10_fails 3 = .ok (.getfield 286, 3) := by decide +kernel
theorem dX10_fails_6 : decode cX10_fails 6 = .ok (.imul, 1) := by decide +kernel
theorem dX10_fails_7 : decode cX10_fails 7 = .ok (.aload_n 0, 1) := by decide +kernel
theorem dX10_fails_8 : decode cX10_fails 8 = .ok (.getfield 289, 3) := by decide +kernel
theorem dX10_fails_11 : decode cX10_fails 11 = .ok (.iadd, 1) := by decide +kernel
theorem dX10_fails_12 : decode cX10_fails 12 = .ok (.istore_n 1, 1) := by decide +kernel
theorem dX10_fails_13 : decode cX10_fails 13 = .ok (.aload_n 0, 1) := by decide +kernel
theorem dX10_fails_14 : decode cX10_fails 14 = .ok (.getfield 22, 3) := by decide +kernel
theorem dX10_fails_17 : decode cX10_fails 17 = .ok (.iconst 4, 1) := by decide +kernel
theorem dX10_fails_18 : decode cX10_fails 18 = .ok (.aload_n 0, 1) := by decide +kernel
theorem dX10_fails_19 : decode cX10_fails 19 = .ok (.getfield 241, 3) := by decide +kernel
theorem dX10_fails_22 : decode cX10_fails 22 = .ok (.imul, 1) := by decide +kernel
theorem dX10_fails_23 : decode cX10_fails 23 = .ok (.iaload, 1) := by decide +kernel
theorem dX10_fails_24 : decode cX10_fails 24 = .ok (.istore_n 2, 1) := by decide +kernel
theorem dX10_fails_25 : decode cX10_fails 25 = .ok (.iload_n 2, 1) := by decide +kernel
theorem dX10_fails_26 : decode cX10_fails 26 = .ok (.iconst 2, 1) := by decide +kernel
theorem dX10_fails_27 : decode cX10_fails 27 = .ok (.if_icmp .eq 19, 3) := by decide +kernel
theorem dX10_fails_30 : decode cX10_fails 30 = .ok (.iload_n 2, 1) := by decide +kernel
theorem dX10_fails_31 : decode cX10_fails 31 = .ok (.iconst 3, 1) := by decide +kernel
theorem dX10_fails_32 : decode cX10_fails 32 = .ok (.if_icmp .eq 14, 3) := by decide +kernel
theorem dX10_fails_35 : decode cX10_fails 35 = .ok (.iload_n 2, 1) := by decide +kernel
theorem dX10_fails_36 : decode cX10_fails 36 = .ok (.iconst 4, 1) := by decide +kernel
theorem dX10_fails_37 : decode cX10_fails 37 = .ok (.if_icmp .eq 9, 3) := by decide +kernel
theorem dX10_fails_40 : decode cX10_fails 40 = .ok (.iload_n 2, 1) := by decide +kernel
theorem dX10_fails_41 : decode cX10_fails 41 = .ok (.bipush 6, 2) := by decide +kernel
theorem dX10_fails_43 : decode cX10_fails 43 = .ok (.if_icmp .ne 7, 3) := by decide +kernel
theorem dX10_fails_46 : decode cX10_fails 46 = .ok (.iconst 1, 1) := by decide +kernel
theorem dX10_fails_47 : decode cX10_fails 47 = .ok (.goto 4, 3) := by decide +kernel
theorem dX10_fails_50 : decode cX10_fails 50 = .ok (.iconst 0, 1) := by decide +kernel
theorem dX10_fails_51 : decode cX10_fails 51 = .ok (.istore_n 3, 1) := by decide +kernel
theorem dX10_fails_52 : decode cX10_fails 52 = .ok (.iload_n 3, 1) := by decide +kernel
theorem dX10_fails_53 : decode cX10_fails 53 = .ok (.ifCond .ne 19, 3) := by decide +kernel
theorem dX10_fails_56 : decode cX10_fails 56 = .ok (.iload_n 2, 1) := by decide +kernel
theorem dX10_fails_57 : decode cX10_fails 57 = .ok (.iconst 1, 1) := by decide +kernel
theorem dX10_fails_58 : decode cX10_fails 58 = .ok (.if_icmp .eq 14, 3) := by decide +kernel
theorem dX10_fails_61 : decode cX10_fails 61 = .ok (.iload_n 2, 1) := by decide +kernel
theorem dX10_fails_62 : decode cX10_fails 62 = .ok (.iconst 5, 1) := by decide +kernel
theorem dX10_fails_63 : decode cX10_fails 63 = .ok (.if_icmp .eq 9, 3) := by decide +kernel
theorem dX10_fails_66 : decode cX10_fails 66 = .ok (.iload_n 2, 1) := by decide +kernel
theorem dX10_fails_67 : decode cX10_fails 67 = .ok (.bipush 8, 2) := by decide +kernel
theorem dX10_fails_69 : decode cX10_fails 69 = .ok (.if_icmp .ne 7, 3) := by decide +kernel
theorem dX10_fails_72 : decode cX10_fails 72 = .ok (.iconst 1, 1) := by decide +kernel
theorem dX10_fails_73 : decode cX10_fails 73 = .ok (.goto 4, 3) := by decide +kernel
theorem dX10_fails_76 : decode cX10_fails 76 = .ok (.iconst 0, 1) := by decide +kernel
theorem dX10_fails_77 : decode cX10_fails 77 = .ok (.istore 4, 2) := by decide +kernel
theorem dX10_fails_79 : decode cX10_fails 79 = .ok (.iload_n 3, 1) := by decide +kernel
theorem dX10_fails_80 : decode cX10_fails 80 = .ok (.ifCond .eq 25, 3) := by decide +kernel
theorem dX10_fails_83 : decode cX10_fails 83 = .ok (.aload_n 0, 1) := by decide +kernel
theorem dX10_fails_84 : decode cX10_fails 84 = .ok (.getfield 61, 3) := by decide +kernel
theorem dX10_fails_87 : decode cX10_fails 87 = .ok (.iload_n 1, 1) := by decide +kernel
theorem dX10_fails_88 : decode cX10_fails 88 = .ok (.iaload, 1) := by decide +kernel
theorem dX10_fails_89 : decode cX10_fails 89 = .ok (.aload_n 0, 1) := by decide +kernel
theorem dX10_fails_90 : decode cX10_fails 90 = .ok (.getfield 31, 3) := by decide +kernel
theorem dX10_fails_93 : decode cX10_fails 93 = .ok (.aload_n 0, 1) := by decide +kernel
theorem dX10_fails_94 : decode cX10_fails 94 = .ok (.aload_n 0, 1) := by decide +kernel
theorem dX10_fails_95 : decode cX10_fails 95 = .ok (.getfield 241, 3) := by decide +kernel
theorem dX10_fails_98 : decode cX10_fails 98 = .ok (.invokevirtual 225, 3) := by decide +kernel
theorem dX10_fails_101 : decode cX10_fails 101 = .ok (.iaload, 1) := by decide +kernel
theorem dX10_fails_102 : decode cX10_fails 102 = .ok (.if_icmp .ne 47, 3) := by decide +kernel
theorem dX10_fails_105 : decode cX10_fails 105 = .ok (.iload 4, 2) := by decide +kernel
theorem dX10_fails_107 : decode cX10_fails 107 = .ok (.ifCond .eq 25, 3) := by decide +kernel
theorem dX10_fails_110 : decode cX10_fails 110 = .ok (.aload_n 0, 1) := by decide +kernel
theorem dX10_fails_111 : decode cX10_fails 111 = .ok (.getfield 64, 3) := by decide +kernel
theorem dX10_fails_114 : decode cX10_fails 114 = .ok (.iload_n 1, 1) := by decide +kernel
theorem dX10_fails_115 : decode cX10_fails 115 = .ok (.iaload, 1) := by decide +kernel
theorem dX10_fails_116 : decode cX10_fails 116 = .ok (.aload_n 0, 1) := by decide +kernel
theorem dX10_fails_117 : decode cX10_fails 117 = .ok (.getfield 31, 3) := by decide +kernel
theorem dX10_fails_120 : decode cX10_fails 120 = .ok (.aload_n 0, 1) := by decide +kernel
theorem dX10_fails_121 : decode cX10_fails 121 = .ok (.aload_n 0, 1) := by decide +kernel
theorem dX10_fails_122 : decode cX10_fails 122 = .ok (.getfield 241, 3) := by decide +kernel
theorem dX10_fails_125 : decode cX10_fails 125 = .ok (.invokevirtual 222, 3) := by decide +kernel
theorem dX10_fails_128 : decode cX10_fails 128 = .ok (.iaload, 1) := by decide +kernel
theorem dX10_fails_129 : decode cX10_fails 129 = .ok (.if_icmp .ne 20, 3) := by decide +kernel
theorem dX10_fails_132 : decode cX10_fails 132 = .ok (.aload_n 0, 1) := by decide +kernel
theorem dX10_fails_133 : decode cX10_fails 133 = .ok (.getfield 67, 3) := by decide +kernel
theorem dX10_fails_136 : decode cX10_fails 136 = .ok (.iload_n 1, 1) := by decide +kernel
theorem dX10_fails_137 : decode cX10_fails 137 = .ok (.iaload, 1) := by decide +kernel
theorem dX10_fails_138 : decode cX10_fails 138 = .ok (.aload_n 0, 1) := by decide +kernel
theorem dX10_fails_139 : decode cX10_fails 139 = .ok (.aload_n 0, 1) := by decide +kernel
theorem dX10_fails_140 : decode cX10_fails 140 = .ok (.getfield 241, 3) := by decide +kernel
theorem dX10_fails_143 : decode cX10_fails 143 = .ok (.invokevirtual 283, 3) := by decide +kernel
theorem dX10_fails_146 : decode cX10_fails 146 = .ok (.if_icmp .eq 7, 3) := by decide +kernel
theorem dX10_fails_149 : decode cX10_fails 149 = .ok (.iconst 1, 1) := by decide +kernel
theorem dX10_fails_150 : decode cX10_fails 150 = .ok (.goto 4, 3) := by decide +kernel
theorem dX10_fails_153 : decode cX10_fails 153 = .ok (.iconst 0, 1) := by decide +kernel
theorem dX10_fails_154 : decode cX10_fails 154 = .ok (.ireturn, 1) := by decide +kernel
theorem dX10_leaves_0 : decode cX10_leaves 0 = .ok (.bipush 16, 2) := by decide +kernel
theorem dX10_leaves_2 : decode cX10_leaves 2 = .ok (.aload_n 0, 1) := by decide +kernel
theorem dX10_leaves_3 : decode cX10_leaves 3 = .ok (.getfield 286, 3) := by decide +kernel
theorem dX10_leaves_6 : decode cX10_leaves 6 = .ok (.imul, 1) := by decide +kernel
theorem dX10_leaves_7 : decode cX10_leaves 7 = .ok (.aload_n 0, 1) := by decide +kernel
theorem dX10_leaves_8 : decode cX10_leaves 8 = .ok (.getfield 289, 3) := by decide +kernel
theorem dX10_leaves_11 : decode cX10_leaves 11 = .ok (.iadd, 1) := by decide +kernel
theorem dX10_leaves_12 : decode cX10_leaves 12 = .ok (.istore_n 2, 1) := by decide +kernel
theorem dX10_leaves_13 : decode cX10_leaves 13 = .ok (.aload_n 0, 1) := by decide +kernel
theorem dX10_leaves_14 : decode cX10_leaves 14 = .ok (.getfield 43, 3) := by decide +kernel
theorem dX10_leaves_17 : decode cX10_leaves 17 = .ok (.aload_n 0, 1) := by decide +kernel
theorem dX10_leaves_18 : decode cX10_leaves 18 = .ok (.getfield 286, 3) := by decide +kernel
theorem dX10_leaves_21 : decode cX10_leaves 21 = .ok (.iaload, 1) := by decide +kernel
theorem dX10_leaves_22 : decode cX10_leaves 22 = .ok (.istore_n 3, 1) := by decide +kernel
theorem dX10_leaves_23 : decode cX10_leaves 23 = .ok (.aload_n 0, 1) := by decide +kernel
theorem dX10_leaves_24 : decode cX10_leaves 24 = .ok (.dup, 1) := by decide +kernel
theorem dX10_leaves_25 : decode cX10_leaves 25 = .ok (.getfield 292, 3) := by decide +kernel
theorem dX10_leaves_28 : decode cX10_leaves 28 = .ok (.iconst 1, 1) := by decide +kernel
theorem dX10_leaves_29 : decode cX10_leaves 29 = .ok (.iadd, 1) := by decide +kernel
theorem dX10_leaves_30 : decode cX10_leaves 30 = .ok (.putfield 292, 3) := by decide +kernel
theorem dX10_leaves_33 : decode cX10_leaves 33 = .ok (.aload_n 0, 1) := by decide +kernel
theorem dX10_leaves_34 : decode cX10_leaves 34 = .ok (.getfield 70, 3) := by decide +kernel
theorem dX10_leaves_37 : decode cX10_leaves 37 = .ok (.iload_n 2, 1) := by decide +kernel
theorem dX10_leaves_38 : decode cX10_leaves 38 = .ok (.dup2, 1) := by decide +kernel
theorem dX10_leaves_39 : decode cX10_leaves 39 = .ok (.iaload, 1) := by decide +kernel
theorem dX10_leaves_40 : decode cX10_leaves 40 = .ok (.iconst 1, 1) := by decide +kernel
theorem dX10_leaves_41 : decode cX10_leaves 41 = .ok (.iadd, 1) := by decide +kernel
theorem dX10_leaves_42 : decode cX10_leaves 42 = .ok (.iastore, 1) := by decide +kernel
theorem dX10_leaves_43 : decode cX10_leaves 43 = .ok (.aload_n 0, 1) := by decide +kernel
theorem dX10_leaves_44 : decode cX10_leaves 44 = .ok (.getfield 73, 3) := by decide +kernel
theorem dX10_leaves_47 : decode cX10_leaves 47 = .ok (.iload_n 2, 1) := by decide +kernel
theorem dX10_leaves_48 : decode cX10_leaves 48 = .ok (.iaload, 1) := by decide +kernel
theorem dX10_leaves_49 : decode cX10_leaves 49 = .ok (.iconst (-1), 1) := by decide +kernel
theorem dX10_leaves_50 : decode cX10_leaves 50 = .ok (.if_icmp .eq 14, 3) := by decide +kernel
theorem dX10_leaves_53 : decode cX10_leaves 53 = .ok (.aload_n 0, 1) := by decide +kernel
theorem dX10_leaves_54 : decode cX10_leaves 54 = .ok (.aload_n 0, 1) := by decide +kernel
theorem dX10_leaves_55 : decode cX10_leaves 55 = .ok (.getfield 73, 3) := by decide +kernel
theorem dX10_leaves_58 : decode cX10_leaves 58 = .ok (.iload_n 2, 1) := by decide +kernel
theorem dX10_leaves_59 : decode cX10_leaves 59 = .ok (.iaload, 1) := by decide +kernel
theorem dX10_leaves_60 : decode cX10_leaves 60 = .ok (.invokevirtual 295, 3) := by decide +kernel
theorem dX10_leaves_63 : decode cX10_leaves 63 = .ok (.return_, 1) := by decide +kernel
theorem dX10_leaves_64 : decode cX10_leaves 64 = .ok (.aload_n 0, 1) := by decide +kernel
theorem dX10_leaves_65 : decode cX10_leaves 65 = .ok (.getfield 70, 3) := by decide +kernel
theorem dX10_leaves_68 : decode cX10_leaves 68 = .ok (.iload_n 2, 1) := by decide +kernel
theorem dX10_leaves_69 : decode cX10_leaves 69 = .ok (.iaload, 1) := by decide +kernel
theorem dX10_leaves_70 : decode cX10_leaves 70 = .ok (.iload_n 1, 1) := by decide +kernel
theorem dX10_leaves_71 : decode cX10_leaves 71 = .ok (.if_icmp .ne 38, 3) := by decide +kernel
theorem dX10_leaves_74 : decode cX10_leaves 74 = .ok (.aload_n 0, 1) := by decide +kernel
theorem dX10_leaves_75 : decode cX10_leaves 75 = .ok (.getfield 40, 3) := by decide +kernel
theorem dX10_leaves_78 : decode cX10_leaves 78 = .ok (.iload_n 3, 1) := by decide +kernel
theorem dX10_leaves_79 : decode cX10_leaves 79 = .ok (.iaload, 1) := by decide +kernel
theorem dX10_leaves_80 : decode cX10_leaves 80 = .ok (.iconst 2, 1) := by decide +kernel
theorem dX10_leaves_81 : decode cX10_leaves 81 = .ok (.if_icmp .ge 28, 3) := by decide +kernel
theorem dX10_leaves_84 : decode cX10_leaves 84 = .ok (.aload_n 0, 1) := by decide +kernel
theorem dX10_leaves_85 : decode cX10_leaves 85 = .ok (.getfield 253, 3) := by decide +kernel
theorem dX10_leaves_88 : decode cX10_leaves 88 = .ok (.bipush 8, 2) := by decide +kernel
theorem dX10_leaves_90 : decode cX10_leaves 90 = .ok (.if_icmp .ge 19, 3) := by decide +kernel
theorem dX10_leaves_93 : decode cX10_leaves 93 = .ok (.aload_n 0, 1) := by decide +kernel
theorem dX10_leaves_94 : decode cX10_leaves 94 = .ok (.iload_n 3, 1) := by decide +kernel
theorem dX10_leaves_95 : decode cX10_leaves 95 = .ok (.aload_n 0, 1) := by decide +kernel
theorem dX10_leaves_96 : decode cX10_leaves 96 = .ok (.getfield 286, 3) := by decide +kernel
theorem dX10_leaves_99 : decode cX10_leaves 99 = .ok (.aload_n 0, 1) := by decide +kernel
theorem dX10_leaves_100 : decode cX10_leaves 100 = .ok (.getfield 289, 3) := by decide +kernel
theorem dX10_leaves_103 : decode cX10_leaves 103 = .ok (.invokevirtual 298, 3) := by decide +kernel
theorem dX10_leaves_106 : decode cX10_leaves 106 = .ok (.goto 8, 3) := by decide +kernel
theorem dX10_leaves_109 : decode cX10_leaves 109 = .ok (.aload_n 0, 1) := by decide +kernel
theorem dX10_leaves_110 : decode cX10_leaves 110 = .ok (.iconst 1, 1) := by decide +kernel
theorem dX10_leaves_111 : decode cX10_leaves 111 = .ok (.putfield 301, 3) := by decide +kernel
theorem dX10_leaves_114 : decode cX10_leaves 114 = .ok (.aload_n 0, 1) := by decide +kernel
theorem dX10_leaves_115 : decode cX10_leaves 115 = .ok (.iconst (-1), 1) := by decide +kernel
theorem dX10_leaves_116 : decode cX10_leaves 116 = .ok (.putfield 286, 3) := by decide +kernel
theorem dX10_leaves_119 : decode cX10_leaves 119 = .ok (.return_, 1) := by decide +kernel
theorem dX10_goesCompiled_0 : decode cX10_goesCompiled 0 = .ok (.aload_n 0, 1) := by decide +kernel
theorem dX10_goesCompiled_1 : decode cX10_goesCompiled 1 = .ok (.invokevirtual 304, 3) := by decide +kernel
theorem dX10_goesCompiled_4 : decode cX10_goesCompiled 4 = .ok (.aload_n 0, 1) := by decide +kernel
theorem dX10_goesCompiled_5 : decode cX10_goesCompiled 5 = .ok (.dup, 1) := by decide +kernel
theorem dX10_goesCompiled_6 : decode cX10_goesCompiled 6 = .ok (.getfield 307, 3) := by decide +kernel
theorem dX10_goesCompiled_9 : decode cX10_goesCompiled 9 = .ok (.iconst 1, 1) := by decide +kernel
theorem dX10_goesCompiled_10 : decode cX10_goesCompiled 10 = .ok (.iadd, 1) := by decide +kernel
theorem dX10_goesCompiled_11 : decode cX10_goesCompiled 11 = .ok (.putfield 307, 3) := by decide +kernel
theorem dX10_goesCompiled_14 : decode cX10_goesCompiled 14 = .ok (.aload_n 0, 1) := by decide +kernel
theorem dX10_goesCompiled_15 : decode cX10_goesCompiled 15 = .ok (.dup, 1) := by decide +kernel
theorem dX10_goesCompiled_16 : decode cX10_goesCompiled 16 = .ok (.getfield 289, 3) := by decide +kernel
theorem dX10_goesCompiled_19 : decode cX10_goesCompiled 19 = .ok (.iconst 1, 1) := by decide +kernel
theorem dX10_goesCompiled_20 : decode cX10_goesCompiled 20 = .ok (.iadd, 1) := by decide +kernel
theorem dX10_goesCompiled_21 : decode cX10_goesCompiled 21 = .ok (.putfield 289, 3) := by decide +kernel
theorem dX10_goesCompiled_24 : decode cX10_goesCompiled 24 = .ok (.aload_n 0, 1) := by decide +kernel
theorem dX10_goesCompiled_25 : decode cX10_goesCompiled 25 = .ok (.getfield 289, 3) := by decide +kernel
theorem dX10_goesCompiled_28 : decode cX10_goesCompiled 28 = .ok (.aload_n 0, 1) := by decide +kernel
theorem dX10_goesCompiled_29 : decode cX10_goesCompiled 29 = .ok (.getfield 52, 3) := by decide +kernel
theorem dX10_goesCompiled_32 : decode cX10_goesCompiled 32 = .ok (.aload_n 0, 1) := by decide +kernel
theorem dX10_goesCompiled_33 : decode cX10_goesCompiled 33 = .ok (.getfield 286, 3) := by decide +kernel
theorem dX10_goesCompiled_36 : decode cX10_goesCompiled 36 = .ok (.iaload, 1) := by decide +kernel
theorem dX10_goesCompiled_37 : decode cX10_goesCompiled 37 = .ok (.if_icmp .ne 20, 3) := by decide +kernel
theorem dX10_goesCompiled_40 : decode cX10_goesCompiled 40 = .ok (.aload_n 0, 1) := by decide +kernel
theorem dX10_goesCompiled_41 : decode cX10_goesCompiled 41 = .ok (.aload_n 0, 1) := by decide +kernel
theorem dX10_goesCompiled_42 : decode cX10_goesCompiled 42 = .ok (.aload_n 0, 1) := by decide +kernel
theorem dX10_goesCompiled_43 : decode cX10_goesCompiled 43 = .ok (.getfield 43, 3) := by decide +kernel
theorem dX10_goesCompiled_46 : decode cX10_goesCompiled 46 = .ok (.aload_n 0, 1) := by decide +kernel
theorem dX10_goesCompiled_47 : decode cX10_goesCompiled 47 = .ok (.getfield 286, 3) := by decide +kernel
theorem dX10_goesCompiled_50 : decode cX10_goesCompiled 50 = .ok (.iaload, 1) := by decide +kernel
theorem dX10_goesCompiled_51 : decode cX10_goesCompiled 51 = .ok (.invokevirtual 277, 3) := by decide +kernel
theorem dX10_goesCompiled_54 : decode cX10_goesCompiled 54 = .ok (.invokevirtual 295, 3) := by decide +kernel
theorem dX10_goesCompiled_57 : decode cX10_goesCompiled 57 = .ok (.return_, 1) := by decide +kernel
theorem dX10_goesPlain_0 : decode cX10_goesPlain 0 = .ok (.aload_n 0, 1) := by decide +kernel
theorem dX10_goesPlain_1 : decode cX10_goesPlain 1 = .ok (.getfield 241, 3) := by decide +kernel
theorem dX10_goesPlain_4 : decode cX10_goesPlain 4 = .ok (.istore_n 2, 1) := by decide +kernel
theorem dX10_goesPlain_5 : decode cX10_goesPlain 5 = .ok (.aload_n 0, 1) := by decide +kernel
theorem dX10_goesPlain_6 : decode cX10_goesPlain 6 = .ok (.iload_n 2, 1) := by decide +kernel
theorem dX10_goesPlain_7 : decode cX10_goesPlain 7 = .ok (.invokevirtual 310, 3) := by decide +kernel
theorem dX10_goesPlain_10 : decode cX10_goesPlain 10 = .ok (.aload_n 0, 1) := by decide +kernel
theorem dX10_goesPlain_11 : decode cX10_goesPlain 11 = .ok (.getfield 256, 3) := by decide +kernel
theorem dX10_goesPlain_14 : decode cX10_goesPlain 14 = .ok (.ifCond .eq 7, 3) := by decide +kernel
theorem dX10_goesPlain_17 : decode cX10_goesPlain 17 = .ok (.aload_n 0, 1) := by decide +kernel
theorem dX10_goesPlain_18 : decode cX10_goesPlain 18 = .ok (.invokevirtual 313, 3) := by decide +kernel
theorem dX10_goesPlain_21 : decode cX10_goesPlain 21 = .ok (.aload_n 0, 1) := by decide +kernel
theorem dX10_goesPlain_22 : decode cX10_goesPlain 22 = .ok (.iconst 0, 1) := by decide +kernel
theorem dX10_goesPlain_23 : decode cX10_goesPlain 23 = .ok (.putfield 301, 3) := by decide +kernel
theorem dX10_goesPlain_26 : decode cX10_goesPlain 26 = .ok (.aload_n 0, 1) := by decide +kernel
theorem dX10_goesPlain_27 : decode cX10_goesPlain 27 = .ok (.invokevirtual 304, 3) := by decide +kernel
theorem dX10_goesPlain_30 : decode cX10_goesPlain 30 = .ok (.aload_n 0, 1) := by decide +kernel
theorem dX10_goesPlain_31 : decode cX10_goesPlain 31 = .ok (.getfield 22, 3) := by decide +kernel
theorem dX10_goesPlain_34 : decode cX10_goesPlain 34 = .ok (.iconst 4, 1) := by decide +kernel
theorem dX10_goesPlain_35 : decode cX10_goesPlain 35 = .ok (.iload_n 2, 1) := by decide +kernel
theorem dX10_goesPlain_36 : decode cX10_goesPlain 36 = .ok (.imul, 1) := by decide +kernel
theorem dX10_goesPlain_37 : decode cX10_goesPlain 37 = .ok (.iaload, 1) := by decide +kernel
theorem dX10_goesPlain_38 : decode cX10_goesPlain 38 = .ok (.bipush 9, 2) := by decide +kernel
theorem dX10_goesPlain_40 : decode cX10_goesPlain 40 = .ok (.if_icmp .ne 16, 3) := by decide +kernel
theorem dX10_goesPlain_43 : decode cX10_goesPlain 43 = .ok (.aload_n 0, 1) := by decide +kernel
theorem dX10_goesPlain_44 : decode cX10_goesPlain 44 = .ok (.iconst 0, 1) := by decide +kernel
theorem dX10_goesPlain_45 : decode cX10_goesPlain 45 = .ok (.putfield 316, 3) := by decide +kernel
theorem dX10_goesPlain_48 : decode cX10_goesPlain 48 = .ok (.aload_n 0, 1) := by decide +kernel
theorem dX10_goesPlain_49 : decode cX10_goesPlain 49 = .ok (.iconst 1, 1) := by decide +kernel
theorem dX10_goesPlain_50 : decode cX10_goesPlain 50 = .ok (.putfield 319, 3) := by decide +kernel
theorem dX10_goesPlain_53 : decode cX10_goesPlain 53 = .ok (.goto 23, 3) := by decide +kernel
theorem dX10_goesPlain_56 : decode cX10_goesPlain 56 = .ok (.aload_n 0, 1) := by decide +kernel
theorem dX10_goesPlain_57 : decode cX10_goesPlain 57 = .ok (.getfield 218, 3) := by decide +kernel
theorem dX10_goesPlain_60 : decode cX10_goesPlain 60 = .ok (.ifCond .eq 16, 3) := by decide +kernel
theorem dX10_goesPlain_63 : decode cX10_goesPlain 63 = .ok (.aload_n 0, 1) := by decide +kernel
theorem dX10_goesPlain_64 : decode cX10_goesPlain 64 = .ok (.getfield 241, 3) := by decide +kernel
theorem dX10_goesPlain_67 : decode cX10_goesPlain 67 = .ok (.iload_n 2, 1) := by decide +kernel
theorem dX10_goesPlain_68 : decode cX10_goesPlain 68 = .ok (.if_icmp .gt 8, 3) := by decide +kernel
theorem dX10_goesPlain_71 : decode cX10_goesPlain 71 = .ok (.aload_n 0, 1) := by decide +kernel
theorem dX10_goesPlain_72 : decode cX10_goesPlain 72 = .ok (.iload_n 1, 1) := by decide +kernel
theorem dX10_goesPlain_73 : decode cX10_goesPlain 73 = .ok (.invokevirtual 322, 3) := by decide +kernel
theorem dX10_goesPlain_76 : decode cX10_goesPlain 76 = .ok (.return_, 1) := by decide +kernel
theorem dX10_jumped_0 : decode cX10_jumped 0 = .ok (.aload_n 0, 1) := by decide +kernel
theorem dX10_jumped_1 : decode cX10_jumped 1 = .ok (.getfield 256, 3) := by decide +kernel
theorem dX10_jumped_4 : decode cX10_jumped 4 = .ok (.ifCond .eq 19, 3) := by decide +kernel
theorem dX10_jumped_7 : decode cX10_jumped 7 = .ok (.aload_n 0, 1) := by decide +kernel
theorem dX10_jumped_8 : decode cX10_jumped 8 = .ok (.getfield 241, 3) := by decide +kernel
theorem dX10_jumped_11 : decode cX10_jumped 11 = .ok (.aload_n 0, 1) := by decide +kernel
theorem dX10_jumped_12 : decode cX10_jumped 12 = .ok (.getfield 259, 3) := by decide +kernel
theorem dX10_jumped_15 : decode cX10_jumped 15 = .ok (.if_icmp .eq 7, 3) := by decide +kernel
theorem dX10_jumped_18 : decode cX10_jumped 18 = .ok (.aload_n 0, 1) := by decide +kernel
theorem dX10_jumped_19 : decode cX10_jumped 19 = .ok (.invokevirtual 280, 3) := by decide +kernel
theorem dX10_jumped_22 : decode cX10_jumped 22 = .ok (.return_, 1) := by decide +kernel
theorem dX10_jumped_23 : decode cX10_jumped 23 = .ok (.aload_n 0, 1) := by decide +kernel
theorem dX10_jumped_24 : decode cX10_jumped 24 = .ok (.getfield 37, 3) := by decide +kernel
theorem dX10_jumped_27 : decode cX10_jumped 27 = .ok (.aload_n 0, 1) := by decide +kernel
theorem dX10_jumped_28 : decode cX10_jumped 28 = .ok (.getfield 241, 3) := by decide +kernel
theorem dX10_jumped_31 : decode cX10_jumped 31 = .ok (.dup2, 1) := by decide +kernel
theorem dX10_jumped_32 : decode cX10_jumped 32 = .ok (.iaload, 1) := by decide +kernel
theorem dX10_jumped_33 : decode cX10_jumped 33 = .ok (.iconst 1, 1) := by decide +kernel
theorem dX10_jumped_34 : decode cX10_jumped 34 = .ok (.iadd, 1) := by decide +kernel
theorem dX10_jumped_35 : decode cX10_jumped 35 = .ok (.iastore, 1) := by decide +kernel
theorem dX10_jumped_36 : decode cX10_jumped 36 = .ok (.iload_n 1, 1) := by decide +kernel
theorem dX10_jumped_37 : decode cX10_jumped 37 = .ok (.ifCond .le 60, 3) := by decide +kernel
theorem dX10_jumped_40 : decode cX10_jumped 40 = .ok (.aload_n 0, 1) := by decide +kernel
theorem dX10_jumped_41 : decode cX10_jumped 41 = .ok (.getfield 37, 3) := by decide +kernel
theorem dX10_jumped_44 : decode cX10_jumped 44 = .ok (.aload_n 0, 1) := by decide +kernel
theorem dX10_jumped_45 : decode cX10_jumped 45 = .ok (.getfield 241, 3) := by decide +kernel
theorem dX10_jumped_48 : decode cX10_jumped 48 = .ok (.iaload, 1) := by decide +kernel
theorem dX10_jumped_49 : decode cX10_jumped 49 = .ok (.iload_n 1, 1) := by decide +kernel
theorem dX10_jumped_50 : decode cX10_jumped 50 = .ok (.if_icmp .lt 47, 3) := by decide +kernel
theorem dX10_jumped_53 : decode cX10_jumped 53 = .ok (.aload_n 0, 1) := by decide +kernel
theorem dX10_jumped_54 : decode cX10_jumped 54 = .ok (.getfield 40, 3) := by decide +kernel
theorem dX10_jumped_57 : decode cX10_jumped 57 = .ok (.aload_n 0, 1) := by decide +kernel
theorem dX10_jumped_58 : decode cX10_jumped 58 = .ok (.getfield 241, 3) := by decide +kernel
theorem dX10_jumped_61 : decode cX10_jumped 61 = .ok (.iaload, 1) := by decide +kernel
theorem dX10_jumped_62 : decode cX10_jumped 62 = .ok (.iconst 2, 1) := by decide +kernel
theorem dX10_jumped_63 : decode cX10_jumped 63 = .ok (.if_icmp .ge 34, 3) := by decide +kernel
theorem dX10_jumped_66 : decode cX10_jumped 66 = .ok (.aload_n 0, 1) := by decide +kernel
theorem dX10_jumped_67 : decode cX10_jumped 67 = .ok (.aload_n 0, 1) := by decide +kernel
theorem dX10_jumped_68 : decode cX10_jumped 68 = .ok (.getfield 241, 3) := by decide +kernel
theorem dX10_jumped_71 : decode cX10_jumped 71 = .ok (.invokevirtual 277, 3) := by decide +kernel
theorem dX10_jumped_74 : decode cX10_jumped 74 = .ok (.iconst (-1), 1) := by decide +kernel
theorem dX10_jumped_75 : decode cX10_jumped 75 = .ok (.if_icmp .ne 22, 3) := by decide +kernel
theorem dX10_jumped_78 : decode cX10_jumped 78 = .ok (.aload_n 0, 1) := by decide +kernel
theorem dX10_jumped_79 : decode cX10_jumped 79 = .ok (.getfield 253, 3) := by decide +kernel
theorem dX10_jumped_82 : decode cX10_jumped 82 = .ok (.bipush 8, 2) := by decide +kernel
theorem dX10_jumped_84 : decode cX10_jumped 84 = .ok (.if_icmp .ge 13, 3) := by decide +kernel
theorem dX10_jumped_87 : decode cX10_jumped 87 = .ok (.aload_n 0, 1) := by decide +kernel
theorem dX10_jumped_88 : decode cX10_jumped 88 = .ok (.aload_n 0, 1) := by decide +kernel
theorem dX10_jumped_89 : decode cX10_jumped 89 = .ok (.getfield 241, 3) := by decide +kernel
theorem dX10_jumped_92 : decode cX10_jumped 92 = .ok (.iconst (-1), 1) := by decide +kernel
theorem dX10_jumped_93 : decode cX10_jumped 93 = .ok (.iconst (-1), 1) := by decide +kernel
theorem dX10_jumped_94 : decode cX10_jumped 94 = .ok (.invokevirtual 298, 3) := by decide +kernel
theorem dX10_jumped_97 : decode cX10_jumped 97 = .ok (.return_, 1) := by decide +kernel
theorem dX10_step_0 : decode cX10_step 0 = .ok (.iconst 0, 1) := by decide +kernel
theorem dX10_step_1 : decode cX10_step 1 = .ok (.istore_n 2, 1) := by decide +kernel
theorem dX10_step_2 : decode cX10_step 2 = .ok (.iload_n 2, 1) := by decide +kernel
theorem dX10_step_3 : decode cX10_step 3 = .ok (.ifCond .ne 117, 3) := by decide +kernel
theorem dX10_step_6 : decode cX10_step 6 = .ok (.aload_n 0, 1) := by decide +kernel
theorem dX10_step_7 : decode cX10_step 7 = .ok (.getfield 256, 3) := by decide +kernel
theorem dX10_step_10 : decode cX10_step 10 = .ok (.ifCond .eq 7, 3) := by decide +kernel
theorem dX10_step_13 : decode cX10_step 13 = .ok (.aload_n 0, 1) := by decide +kernel
theorem dX10_step_14 : decode cX10_step 14 = .ok (.invokevirtual 325, 3) := by decide +kernel
theorem dX10_step_17 : decode cX10_step 17 = .ok (.aload_n 0, 1) := by decide +kernel
theorem dX10_step_18 : decode cX10_step 18 = .ok (.getfield 256, 3) := by decide +kernel
theorem dX10_step_21 : decode cX10_step 21 = .ok (.ifCond .ne 18, 3) := by decide +kernel
theorem dX10_step_24 : decode cX10_step 24 = .ok (.aload_n 0, 1) := by decide +kernel
theorem dX10_step_25 : decode cX10_step 25 = .ok (.getfield 286, 3) := by decide +kernel
theorem dX10_step_28 : decode cX10_step 28 = .ok (.iconst (-1), 1) := by decide +kernel
theorem dX10_step_29 : decode cX10_step 29 = .ok (.if_icmp .ne 10, 3) := by decide +kernel
theorem dX10_step_32 : decode cX10_step 32 = .ok (.aload_n 0, 1) := by decide +kernel
theorem dX10_step_33 : decode cX10_step 33 = .ok (.getfield 301, 3) := by decide +kernel
theorem dX10_step_36 : decode cX10_step 36 = .ok (.ifCond .eq 7, 3) := by decide +kernel
theorem dX10_step_39 : decode cX10_step 39 = .ok (.iconst (-1), 1) := by decide +kernel
theorem dX10_step_40 : decode cX10_step 40 = .ok (.goto 11, 3) := by decide +kernel
theorem dX10_step_43 : decode cX10_step 43 = .ok (.aload_n 0, 1) := by decide +kernel
theorem dX10_step_44 : decode cX10_step 44 = .ok (.aload_n 0, 1) := by decide +kernel
theorem dX10_step_45 : decode cX10_step 45 = .ok (.getfield 241, 3) := by decide +kernel
theorem dX10_step_48 : decode cX10_step 48 = .ok (.invokevirtual 277, 3) := by decide +kernel
theorem dX10_step_51 : decode cX10_step 51 = .ok (.istore_n 3, 1) := by decide +kernel
theorem dX10_step_52 : decode cX10_step 52 = .ok (.iload_n 3, 1) := by decide +kernel
theorem dX10_step_53 : decode cX10_step 53 = .ok (.iconst (-1), 1) := by decide +kernel
theorem dX10_step_54 : decode cX10_step 54 = .ok (.if_icmp .eq 8, 3) := by decide +kernel
theorem dX10_step_57 : decode cX10_step 57 = .ok (.aload_n 0, 1) := by decide +kernel
theorem dX10_step_58 : decode cX10_step 58 = .ok (.iload_n 3, 1) := by decide +kernel
theorem dX10_step_59 : decode cX10_step 59 = .ok (.invokevirtual 295, 3) := by decide +kernel
theorem dX10_step_62 : decode cX10_step 62 = .ok (.aload_n 0, 1) := by decide +kernel
theorem dX10_step_63 : decode cX10_step 63 = .ok (.getfield 286, 3) := by decide +kernel
theorem dX10_step_66 : decode cX10_step 66 = .ok (.iconst (-1), 1) := by decide +kernel
theorem dX10_step_67 : decode cX10_step 67 = .ok (.if_icmp .ne 13, 3) := by decide +kernel
theorem dX10_step_70 : decode cX10_step 70 = .ok (.aload_n 0, 1) := by decide +kernel
theorem dX10_step_71 : decode cX10_step 71 = .ok (.iload_n 1, 1) := by decide +kernel
theorem dX10_step_72 : decode cX10_step 72 = .ok (.invokevirtual 328, 3) := by decide +kernel
theorem dX10_step_75 : decode cX10_step 75 = .ok (.iconst 1, 1) := by decide +kernel
theorem dX10_step_76 : decode cX10_step 76 = .ok (.istore_n 2, 1) := by decide +kernel
theorem dX10_step_77 : decode cX10_step 77 = .ok (.goto 40, 3) := by decide +kernel
theorem dX10_step_80 : decode cX10_step 80 = .ok (.aload_n 0, 1) := by decide +kernel
theorem dX10_step_81 : decode cX10_step 81 = .ok (.aload_n 0, 1) := by decide +kernel
theorem dX10_step_82 : decode cX10_step 82 = .ok (.getfield 241, 3) := by decide +kernel
theorem dX10_step_85 : decode cX10_step 85 = .ok (.invokevirtual 310, 3) := by decide +kernel
theorem dX10_step_88 : decode cX10_step 88 = .ok (.aload_n 0, 1) := by decide +kernel
theorem dX10_step_89 : decode cX10_step 89 = .ok (.invokevirtual 331, 3) := by decide +kernel
theorem dX10_step_92 : decode cX10_step 92 = .ok (.ifCond .ne 7, 3) := by decide +kernel
theorem dX10_step_95 : decode cX10_step 95 = .ok (.iconst 1, 1) := by decide +kernel
theorem dX10_step_96 : decode cX10_step 96 = .ok (.goto 4, 3) := by decide +kernel
theorem dX10_step_99 : decode cX10_step 99 = .ok (.iconst 0, 1) := by decide +kernel
theorem dX10_step_100 : decode cX10_step 100 = .ok (.istore_n 2, 1) := by decide +kernel
theorem dX10_step_101 : decode cX10_step 101 = .ok (.iload_n 2, 1) := by decide +kernel
theorem dX10_step_102 : decode cX10_step 102 = .ok (.ifCond .eq 10, 3) := by decide +kernel
theorem dX10_step_105 : decode cX10_step 105 = .ok (.aload_n 0, 1) := by decide +kernel
theorem dX10_step_106 : decode cX10_step 106 = .ok (.invokevirtual 335, 3) := by decide +kernel
theorem dX10_step_109 : decode cX10_step 109 = .ok (.goto 8, 3) := by decide +kernel
theorem dX10_step_112 : decode cX10_step 112 = .ok (.aload_n 0, 1) := by decide +kernel
theorem dX10_step_113 : decode cX10_step 113 = .ok (.iload_n 1, 1) := by decide +kernel
theorem dX10_step_114 : decode cX10_step 114 = .ok (.invokevirtual 338, 3) := by decide +kernel
theorem dX10_step_117 : decode cX10_step 117 = .ok (.goto (-115), 3) := by decide +kernel
theorem dX10_step_120 : decode cX10_step 120 = .ok (.return_, 1) := by decide +kernel
theorem dX10_runs_0 : decode cX10_runs 0 = .ok (.iconst 0, 1) := by decide +kernel
theorem dX10_runs_1 : decode cX10_runs 1 = .ok (.istore_n 2, 1) := by decide +kernel
theorem dX10_runs_2 : decode cX10_runs 2 = .ok (.iload_n 2, 1) := by decide +kernel
theorem dX10_runs_3 : decode cX10_runs 3 = .ok (.bipush 8, 2) := by decide +kernel
theorem dX10_runs_5 : decode cX10_runs 5 = .ok (.if_icmp .ge 33, 3) := by decide +kernel
theorem dX10_runs_8 : decode cX10_runs 8 = .ok (.aload_n 0, 1) := by decide +kernel
theorem dX10_runs_9 : decode cX10_runs 9 = .ok (.getfield 31, 3) := by decide +kernel
theorem dX10_runs_12 : decode cX10_runs 12 = .ok (.iload_n 2, 1) := by decide +kernel
theorem dX10_runs_13 : decode cX10_runs 13 = .ok (.aload_n 0, 1) := by decide +kernel
theorem dX10_runs_14 : decode cX10_runs 14 = .ok (.getfield 25, 3) := by decide +kernel
theorem dX10_runs_17 : decode cX10_runs 17 = .ok (.iload_n 2, 1) := by decide +kernel
theorem dX10_runs_18 : decode cX10_runs 18 = .ok (.iaload, 1) := by decide +kernel
theorem dX10_runs_19 : decode cX10_runs 19 = .ok (.iastore, 1) := by decide +kernel
theorem dX10_runs_20 : decode cX10_runs 20 = .ok (.aload_n 0, 1) := by decide +kernel
theorem dX10_runs_21 : decode cX10_runs 21 = .ok (.getfield 34, 3) := by decide +kernel
theorem dX10_runs_24 : decode cX10_runs 24 = .ok (.iload_n 2, 1) := by decide +kernel
theorem dX10_runs_25 : decode cX10_runs 25 = .ok (.aload_n 0, 1) := by decide +kernel
theorem dX10_runs_26 : decode cX10_runs 26 = .ok (.getfield 28, 3) := by decide +kernel
theorem dX10_runs_29 : decode cX10_runs 29 = .ok (.iload_n 2, 1) := by decide +kernel
theorem dX10_runs_30 : decode cX10_runs 30 = .ok (.iaload, 1) := by decide +kernel
theorem dX10_runs_31 : decode cX10_runs 31 = .ok (.iastore, 1) := by decide +kernel
theorem dX10_runs_32 : decode cX10_runs 32 = .ok (.iinc 2 1, 3) := by decide +kernel
theorem dX10_runs_35 : decode cX10_runs 35 = .ok (.goto (-33), 3) := by decide +kernel
theorem dX10_runs_38 : decode cX10_runs 38 = .ok (.iconst 0, 1) := by decide +kernel
theorem dX10_runs_39 : decode cX10_runs 39 = .ok (.istore_n 2, 1) := by decide +kernel
theorem dX10_runs_40 : decode cX10_runs 40 = .ok (.iload_n 2, 1) := by decide +kernel
theorem dX10_runs_41 : decode cX10_runs 41 = .ok (.bipush 24, 2) := by decide +kernel
theorem dX10_runs_43 : decode cX10_runs 43 = .ok (.if_icmp .ge 23, 3) := by decide +kernel
theorem dX10_runs_46 : decode cX10_runs 46 = .ok (.aload_n 0, 1) := by decide +kernel
theorem dX10_runs_47 : decode cX10_runs 47 = .ok (.getfield 37, 3) := by decide +kernel
theorem dX10_runs_50 : decode cX10_runs 50 = .ok (.iload_n 2, 1) := by decide +kernel
theorem dX10_runs_51 : decode cX10_runs 51 = .ok (.iconst 0, 1) := by decide +kernel
theorem dX10_runs_52 : decode cX10_runs 52 = .ok (.iastore, 1) := by decide +kernel
theorem dX10_runs_53 : decode cX10_runs 53 = .ok (.aload_n 0, 1) := by decide +kernel
theorem dX10_runs_54 : decode cX10_runs 54 = .ok (.getfield 40, 3) := by decide +kernel
theorem dX10_runs_57 : decode cX10_runs 57 = .ok (.iload_n 2, 1) := by decide +kernel
theorem dX10_runs_58 : decode cX10_runs 58 = .ok (.iconst 0, 1) := by decide +kernel
theorem dX10_runs_59 : decode cX10_runs 59 = .ok (.iastore, 1) := by decide +kernel
theorem dX10_runs_60 : decode cX10_runs 60 = .ok (.iinc 2 1, 3) := by decide +kernel
theorem dX10_runs_63 : decode cX10_runs 63 = .ok (.goto (-23), 3) := by decide +kernel
theorem dX10_runs_66 : decode cX10_runs 66 = .ok (.aload_n 0, 1) := by decide +kernel
theorem dX10_runs_67 : decode cX10_runs 67 = .ok (.iconst 0, 1) := by decide +kernel
theorem dX10_runs_68 : decode cX10_runs 68 = .ok (.putfield 241, 3) := by decide +kernel
theorem dX10_runs_71 : decode cX10_runs 71 = .ok (.aload_n 0, 1) := by decide +kernel
theorem dX10_runs_72 : decode cX10_runs 72 = .ok (.iconst 0, 1) := by decide +kernel
theorem dX10_runs_73 : decode cX10_runs 73 = .ok (.putfield 250, 3) := by decide +kernel
theorem dX10_runs_76 : decode cX10_runs 76 = .ok (.aload_n 0, 1) := by decide +kernel
theorem dX10_runs_77 : decode cX10_runs 77 = .ok (.iconst 0, 1) := by decide +kernel
theorem dX10_runs_78 : decode cX10_runs 78 = .ok (.putfield 307, 3) := by decide +kernel
theorem dX10_runs_81 : decode cX10_runs 81 = .ok (.aload_n 0, 1) := by decide +kernel
theorem dX10_runs_82 : decode cX10_runs 82 = .ok (.iconst 0, 1) := by decide +kernel
theorem dX10_runs_83 : decode cX10_runs 83 = .ok (.putfield 292, 3) := by decide +kernel
theorem dX10_runs_86 : decode cX10_runs 86 = .ok (.aload_n 0, 1) := by decide +kernel
theorem dX10_runs_87 : decode cX10_runs 87 = .ok (.iconst 0, 1) := by decide +kernel
theorem dX10_runs_88 : decode cX10_runs 88 = .ok (.putfield 271, 3) := by decide +kernel
theorem dX10_runs_91 : decode cX10_runs 91 = .ok (.aload_n 0, 1) := by decide +kernel
theorem dX10_runs_92 : decode cX10_runs 92 = .ok (.iconst 0, 1) := by decide +kernel
theorem dX10_runs_93 : decode cX10_runs 93 = .ok (.putfield 253, 3) := by decide +kernel
theorem dX10_runs_96 : decode cX10_runs 96 = .ok (.aload_n 0, 1) := by decide +kernel
theorem dX10_runs_97 : decode cX10_runs 97 = .ok (.iconst (-1), 1) := by decide +kernel
theorem dX10_runs_98 : decode cX10_runs 98 = .ok (.putfield 286, 3) := by decide +kernel
theorem dX10_runs_101 : decode cX10_runs 101 = .ok (.aload_n 0, 1) := by decide +kernel
theorem dX10_runs_102 : decode cX10_runs 102 = .ok (.iconst 0, 1) := by decide +kernel
theorem dX10_runs_103 : decode cX10_runs 103 = .ok (.putfield 256, 3) := by decide +kernel
theorem dX10_runs_106 : decode cX10_runs 106 = .ok (.aload_n 0, 1) := by decide +kernel
theorem dX10_runs_107 : decode cX10_runs 107 = .ok (.iconst 0, 1) := by decide +kernel
theorem dX10_runs_108 : decode cX10_runs 108 = .ok (.putfield 301, 3) := by decide +kernel
theorem dX10_runs_111 : decode cX10_runs 111 = .ok (.aload_n 0, 1) := by decide +kernel
theorem dX10_runs_112 : decode cX10_runs 112 = .ok (.iconst 1, 1) := by decide +kernel
theorem dX10_runs_113 : decode cX10_runs 113 = .ok (.putfield 316, 3) := by decide +kernel
theorem dX10_runs_116 : decode cX10_runs 116 = .ok (.aload_n 0, 1) := by decide +kernel
theorem dX10_runs_117 : decode cX10_runs 117 = .ok (.getfield 316, 3) := by decide +kernel
theorem dX10_runs_120 : decode cX10_runs 120 = .ok (.ifCond .eq 59, 3) := by decide +kernel
theorem dX10_runs_123 : decode cX10_runs 123 = .ok (.aload_n 0, 1) := by decide +kernel
theorem dX10_runs_124 : decode cX10_runs 124 = .ok (.getfield 250, 3) := by decide +kernel
theorem dX10_runs_127 : decode cX10_runs 127 = .ok (.aload_n 0, 1) := by decide +kernel
theorem dX10_runs_128 : decode cX10_runs 128 = .ok (.getfield 79, 3) := by decide +kernel
theorem dX10_runs_131 : decode cX10_runs 131 = .ok (.if_icmp .ne 16, 3) := by decide +kernel
theorem dX10_runs_134 : decode cX10_runs 134 = .ok (.aload_n 0, 1) := by decide +kernel
theorem dX10_runs_135 : decode cX10_runs 135 = .ok (.iconst 0, 1) := by decide +kernel
theorem dX10_runs_136 : decode cX10_runs 136 = .ok (.putfield 316, 3) := by decide +kernel
theorem dX10_runs_139 : decode cX10_runs 139 = .ok (.aload_n 0, 1) := by decide +kernel
theorem dX10_runs_140 : decode cX10_runs 140 = .ok (.iconst 0, 1) := by decide +kernel
theorem dX10_runs_141 : decode cX10_runs 141 = .ok (.putfield 319, 3) := by decide +kernel
theorem dX10_runs_144 : decode cX10_runs 144 = .ok (.goto (-28), 3) := by decide +kernel
theorem dX10_runs_147 : decode cX10_runs 147 = .ok (.aload_n 0, 1) := by decide +kernel
theorem dX10_runs_148 : decode cX10_runs 148 = .ok (.getfield 241, 3) := by decide +kernel
theorem dX10_runs_151 : decode cX10_runs 151 = .ok (.aload_n 0, 1) := by decide +kernel
theorem dX10_runs_152 : decode cX10_runs 152 = .ok (.getfield 162, 3) := by decide +kernel
theorem dX10_runs_155 : decode cX10_runs 155 = .ok (.if_icmp .lt 16, 3) := by decide +kernel
theorem dX10_runs_158 : decode cX10_runs 158 = .ok (.aload_n 0, 1) := by decide +kernel
theorem dX10_runs_159 : decode cX10_runs 159 = .ok (.iconst 0, 1) := by decide +kernel
theorem dX10_runs_160 : decode cX10_runs 160 = .ok (.putfield 316, 3) := by decide +kernel
theorem dX10_runs_163 : decode cX10_runs 163 = .ok (.aload_n 0, 1) := by decide +kernel
theorem dX10_runs_164 : decode cX10_runs 164 = .ok (.iconst 2, 1) := by decide +kernel
theorem dX10_runs_165 : decode cX10_runs 165 = .ok (.putfield 319, 3) := by decide +kernel
theorem dX10_runs_168 : decode cX10_runs 168 = .ok (.goto (-52), 3) := by decide +kernel
theorem dX10_runs_171 : decode cX10_runs 171 = .ok (.aload_n 0, 1) := by decide +kernel
theorem dX10_runs_172 : decode cX10_runs 172 = .ok (.iload_n 1, 1) := by decide +kernel
theorem dX10_runs_173 : decode cX10_runs 173 = .ok (.invokevirtual 341, 3) := by decide +kernel
theorem dX10_runs_176 : decode cX10_runs 176 = .ok (.goto (-60), 3) := by decide +kernel
theorem dX10_runs_179 : decode cX10_runs 179 = .ok (.aload_n 0, 1) := by decide +kernel
theorem dX10_runs_180 : decode cX10_runs 180 = .ok (.getfield 256, 3) := by decide +kernel
theorem dX10_runs_183 : decode cX10_runs 183 = .ok (.ifCond .eq 7, 3) := by decide +kernel
theorem dX10_runs_186 : decode cX10_runs 186 = .ok (.aload_n 0, 1) := by decide +kernel
theorem dX10_runs_187 : decode cX10_runs 187 = .ok (.invokevirtual 280, 3) := by decide +kernel
theorem dX10_runs_190 : decode cX10_runs 190 = .ok (.return_, 1) := by decide +kernel
theorem dX10_valueBy_0 : decode cX10_valueBy 0 = .ok (.iload_n 2, 1) := by decide +kernel
theorem dX10_valueBy_1 : decode cX10_valueBy 1 = .ok (.ifCond .ne 12, 3) := by decide +kernel
theorem dX10_valueBy_4 : decode cX10_valueBy 4 = .ok (.aload_n 0, 1) := by decide +kernel
theorem dX10_valueBy_5 : decode cX10_valueBy 5 = .ok (.getfield 31, 3) := by decide +kernel
theorem dX10_valueBy_8 : decode cX10_valueBy 8 = .ok (.iload_n 1, 1) := by decide +kernel
theorem dX10_valueBy_9 : decode cX10_valueBy 9 = .ok (.iaload, 1) := by decide +kernel
theorem dX10_valueBy_10 : decode cX10_valueBy 10 = .ok (.goto 9, 3) := by decide +kernel
theorem dX10_valueBy_13 : decode cX10_valueBy 13 = .ok (.aload_n 0, 1) := by decide +kernel
theorem dX10_valueBy_14 : decode cX10_valueBy 14 = .ok (.getfield 34, 3) := by decide +kernel
theorem dX10_valueBy_17 : decode cX10_valueBy 17 = .ok (.iload_n 1, 1) := by decide +kernel
theorem dX10_valueBy_18 : decode cX10_valueBy 18 = .ok (.iaload, 1) := by decide +kernel
theorem dX10_valueBy_19 : decode cX10_valueBy 19 = .ok (.ireturn, 1) := by decide +kernel
theorem dX10_value_0 : decode cX10_value 0 = .ok (.aload_n 0, 1) := by decide +kernel
theorem dX10_value_1 : decode cX10_value 1 = .ok (.aload_n 0, 1) := by decide +kernel
theorem dX10_value_2 : decode cX10_value 2 = .ok (.getfield 83, 3) := by decide +kernel
theorem dX10_value_5 : decode cX10_value 5 = .ok (.invokevirtual 344, 3) := by decide +kernel
theorem dX10_value_8 : decode cX10_value 8 = .ok (.iload_n 1, 1) := by decide +kernel
theorem dX10_value_9 : decode cX10_value 9 = .ok (.invokestatic 172, 3) := by decide +kernel
theorem dX10_value_12 : decode cX10_value 12 = .ok (.ifCond .eq 19, 3) := by decide +kernel
theorem dX10_value_15 : decode cX10_value 15 = .ok (.iload_n 2, 1) := by decide +kernel
theorem dX10_value_16 : decode cX10_value 16 = .ok (.invokestatic 175, 3) := by decide +kernel
theorem dX10_value_19 : decode cX10_value 19 = .ok (.ifCond .eq 12, 3) := by decide +kernel
theorem dX10_value_22 : decode cX10_value 22 = .ok (.aload_n 0, 1) := by decide +kernel
theorem dX10_value_23 : decode cX10_value 23 = .ok (.iload_n 1, 1) := by decide +kernel
theorem dX10_value_24 : decode cX10_value 24 = .ok (.iload_n 2, 1) := by decide +kernel
theorem dX10_value_25 : decode cX10_value 25 = .ok (.invokevirtual 347, 3) := by decide +kernel
theorem dX10_value_28 : decode cX10_value 28 = .ok (.goto 5, 3) := by decide +kernel
theorem dX10_value_31 : decode cX10_value 31 = .ok (.ldc 113, 2) := by decide +kernel
theorem dX10_value_33 : decode cX10_value 33 = .ok (.ireturn, 1) := by decide +kernel
theorem dX10_plain_0 : decode cX10_plain 0 = .ok (.aload_n 0, 1) := by decide +kernel
theorem dX10_plain_1 : decode cX10_plain 1 = .ok (.iconst 0, 1) := by decide +kernel
theorem dX10_plain_2 : decode cX10_plain 2 = .ok (.invokevirtual 344, 3) := by decide +kernel
theorem dX10_plain_5 : decode cX10_plain 5 = .ok (.iload_n 1, 1) := by decide +kernel
theorem dX10_plain_6 : decode cX10_plain 6 = .ok (.invokestatic 172, 3) := by decide +kernel
theorem dX10_plain_9 : decode cX10_plain 9 = .ok (.ifCond .eq 19, 3) := by decide +kernel
theorem dX10_plain_12 : decode cX10_plain 12 = .ok (.iload_n 2, 1) := by decide +kernel
theorem dX10_plain_13 : decode cX10_plain 13 = .ok (.invokestatic 175, 3) := by decide +kernel
theorem dX10_plain_16 : decode cX10_plain 16 = .ok (.ifCond .eq 12, 3) := by decide +kernel
theorem dX10_plain_19 : decode cX10_plain 19 = .ok (.aload_n 0, 1) := by decide +kernel
theorem dX10_plain_20 : decode cX10_plain 20 = .ok (.iload_n 1, 1) := by decide +kernel
theorem dX10_plain_21 : decode cX10_plain 21 = .ok (.iload_n 2, 1) := by decide +kernel
theorem dX10_plain_22 : decode cX10_plain 22 = .ok (.invokevirtual 347, 3) := by decide +kernel
theorem dX10_plain_25 : decode cX10_plain 25 = .ok (.goto 5, 3) := by decide +kernel
theorem dX10_plain_28 : decode cX10_plain 28 = .ok (.ldc 113, 2) := by decide +kernel
theorem dX10_plain_30 : decode cX10_plain 30 = .ok (.ireturn, 1) := by decide +kernel
theorem dX10_endsBy_0 : decode cX10_endsBy 0 = .ok (.iload_n 1, 1) := by decide +kernel
theorem dX10_endsBy_1 : decode cX10_endsBy 1 = .ok (.tableswitch 60 0 4 #[35, 40, 45, 50, 55], 35) := by decide +kernel
theorem dX10_endsBy_36 : decode cX10_endsBy 36 = .ok (.aload_n 0, 1) := by decide +kernel
theorem dX10_endsBy_37 : decode cX10_endsBy 37 = .ok (.getfield 319, 3) := by decide +kernel
theorem dX10_endsBy_40 : decode cX10_endsBy 40 = .ok (.ireturn, 1) := by decide +kernel
theorem dX10_endsBy_41 : decode cX10_endsBy 41 = .ok (.aload_n 0, 1) := by decide +kernel
theorem dX10_endsBy_42 : decode cX10_endsBy 42 = .ok (.getfield 241, 3) := by decide +kernel
theorem dX10_endsBy_45 : decode cX10_endsBy 45 = .ok (.ireturn, 1) := by decide +kernel
theorem dX10_endsBy_46 : decode cX10_endsBy 46 = .ok (.aload_n 0, 1) := by decide +kernel
theorem dX10_endsBy_47 : decode cX10_endsBy 47 = .ok (.getfield 250, 3) := by decide +kernel
theorem dX10_endsBy_50 : decode cX10_endsBy 50 = .ok (.ireturn, 1) := by decide +kernel
theorem dX10_endsBy_51 : decode cX10_endsBy 51 = .ok (.aload_n 0, 1) := by decide +kernel
theorem dX10_endsBy_52 : decode cX10_endsBy 52 = .ok (.getfield 307, 3) := by decide +kernel
theorem dX10_endsBy_55 : decode cX10_endsBy 55 = .ok (.ireturn, 1) := by decide +kernel
theorem dX10_endsBy_56 : decode cX10_endsBy 56 = .ok (.aload_n 0, 1) := by decide +kernel
theorem dX10_endsBy_57 : decode cX10_endsBy 57 = .ok (.getfield 292, 3) := by decide +kernel
theorem dX10_endsBy_60 : decode cX10_endsBy 60 = .ok (.ireturn, 1) := by decide +kernel
theorem dX10_endsBy_61 : decode cX10_endsBy 61 = .ok (.aload_n 0, 1) := by decide +kernel
theorem dX10_endsBy_62 : decode cX10_endsBy 62 = .ok (.getfield 271, 3) := by decide +kernel
theorem dX10_endsBy_65 : decode cX10_endsBy 65 = .ok (.ireturn, 1) := by decide +kernel
theorem dX10_ends_0 : decode cX10_ends 0 = .ok (.aload_n 0, 1) := by decide +kernel
theorem dX10_ends_1 : decode cX10_ends 1 = .ok (.aload_n 0, 1) := by decide +kernel
theorem dX10_ends_2 : decode cX10_ends 2 = .ok (.getfield 83, 3) := by decide +kernel
theorem dX10_ends_5 : decode cX10_ends 5 = .ok (.invokevirtual 344, 3) := by decide +kernel
theorem dX10_ends_8 : decode cX10_ends 8 = .ok (.iload_n 1, 1) := by decide +kernel
theorem dX10_ends_9 : decode cX10_ends 9 = .ok (.i2l, 1) := by decide +kernel
theorem dX10_ends_10 : decode cX10_ends 10 = .ok (.lconst 0, 1) := by decide +kernel
theorem dX10_ends_11 : decode cX10_ends 11 = .ok (.ldc2_w 239, 3) := by decide +kernel
theorem dX10_ends_14 : decode cX10_ends 14 = .ok (.invokestatic 86, 3) := by decide +kernel
theorem dX10_ends_17 : decode cX10_ends 17 = .ok (.ifCond .eq 11, 3) := by decide +kernel
theorem dX10_ends_20 : decode cX10_ends 20 = .ok (.aload_n 0, 1) := by decide +kernel
theorem dX10_ends_21 : decode cX10_ends 21 = .ok (.iload_n 1, 1) := by decide +kernel
theorem dX10_ends_22 : decode cX10_ends 22 = .ok (.invokevirtual 350, 3) := by decide +kernel
theorem dX10_ends_25 : decode cX10_ends 25 = .ok (.goto 5, 3) := by decide +kernel
theorem dX10_ends_28 : decode cX10_ends 28 = .ok (.bipush (-2), 2) := by decide +kernel
theorem dX10_ends_30 : decode cX10_ends 30 = .ok (.ireturn, 1) := by decide +kernel
theorem dX10_heatBy_0 : decode cX10_heatBy 0 = .ok (.iload_n 2, 1) := by decide +kernel
theorem dX10_heatBy_1 : decode cX10_heatBy 1 = .ok (.ifCond .ne 12, 3) := by decide +kernel
theorem dX10_heatBy_4 : decode cX10_heatBy 4 = .ok (.aload_n 0, 1) := by decide +kernel
theorem dX10_heatBy_5 : decode cX10_heatBy 5 = .ok (.getfield 37, 3) := by decide +kernel
theorem dX10_heatBy_8 : decode cX10_heatBy 8 = .ok (.iload_n 1, 1) := by decide +kernel
theorem dX10_heatBy_9 : decode cX10_heatBy 9 = .ok (.iaload, 1) := by decide +kernel
theorem dX10_heatBy_10 : decode cX10_heatBy 10 = .ok (.goto 31, 3) := by decide +kernel
theorem dX10_heatBy_13 : decode cX10_heatBy 13 = .ok (.iload_n 2, 1) := by decide +kernel
theorem dX10_heatBy_14 : decode cX10_heatBy 14 = .ok (.iconst 1, 1) := by decide +kernel
theorem dX10_heatBy_15 : decode cX10_heatBy 15 = .ok (.if_icmp .ne 21, 3) := by decide +kernel
theorem dX10_heatBy_18 : decode cX10_heatBy 18 = .ok (.aload_n 0, 1) := by decide +kernel
theorem dX10_heatBy_19 : decode cX10_heatBy 19 = .ok (.getfield 40, 3) := by decide +kernel
theorem dX10_heatBy_22 : decode cX10_heatBy 22 = .ok (.iload_n 1, 1) := by decide +kernel
theorem dX10_heatBy_23 : decode cX10_heatBy 23 = .ok (.iaload, 1) := by decide +kernel
theorem dX10_heatBy_24 : decode cX10_heatBy 24 = .ok (.iconst 1, 1) := by decide +kernel
theorem dX10_heatBy_25 : decode cX10_heatBy 25 = .ok (.if_icmp .le 7, 3) := by decide +kernel
theorem dX10_heatBy_28 : decode cX10_heatBy 28 = .ok (.iconst 1, 1) := by decide +kernel
theorem dX10_heatBy_29 : decode cX10_heatBy 29 = .ok (.goto 12, 3) := by decide +kernel
theorem dX10_heatBy_32 : decode cX10_heatBy 32 = .ok (.iconst 0, 1) := by decide +kernel
theorem dX10_heatBy_33 : decode cX10_heatBy 33 = .ok (.goto 8, 3) := by decide +kernel
theorem dX10_heatBy_36 : decode cX10_heatBy 36 = .ok (.aload_n 0, 1) := by decide +kernel
theorem dX10_heatBy_37 : decode cX10_heatBy 37 = .ok (.iload_n 1, 1) := by decide +kernel
theorem dX10_heatBy_38 : decode cX10_heatBy 38 = .ok (.invokevirtual 277, 3) := by decide +kernel
theorem dX10_heatBy_41 : decode cX10_heatBy 41 = .ok (.ireturn, 1) := by decide +kernel
theorem dX10_heat_0 : decode cX10_heat 0 = .ok (.aload_n 0, 1) := by decide +kernel
theorem dX10_heat_1 : decode cX10_heat 1 = .ok (.aload_n 0, 1) := by decide +kernel
theorem dX10_heat_2 : decode cX10_heat 2 = .ok (.getfield 83, 3) := by decide +kernel
theorem dX10_heat_5 : decode cX10_heat 5 = .ok (.invokevirtual 344, 3) := by decide +kernel
theorem dX10_heat_8 : decode cX10_heat 8 = .ok (.iload_n 1, 1) := by decide +kernel
theorem dX10_heat_9 : decode cX10_heat 9 = .ok (.i2l, 1) := by decide +kernel
theorem dX10_heat_10 : decode cX10_heat 10 = .ok (.lconst 0, 1) := by decide +kernel
theorem dX10_heat_11 : decode cX10_heat 11 = .ok (.ldc2_w 150, 3) := by decide +kernel
theorem dX10_heat_14 : decode cX10_heat 14 = .ok (.invokestatic 86, 3) := by decide +kernel
theorem dX10_heat_17 : decode cX10_heat 17 = .ok (.ifCond .eq 24, 3) := by decide +kernel
theorem dX10_heat_20 : decode cX10_heat 20 = .ok (.iload_n 2, 1) := by decide +kernel
theorem dX10_heat_21 : decode cX10_heat 21 = .ok (.i2l, 1) := by decide +kernel
theorem dX10_heat_22 : decode cX10_heat 22 = .ok (.lconst 0, 1) := by decide +kernel
theorem dX10_heat_23 : decode cX10_heat 23 = .ok (.ldc2_w 99, 3) := by decide +kernel
theorem dX10_heat_26 : decode cX10_heat 26 = .ok (.invokestatic 86, 3) := by decide +kernel
theorem dX10_heat_29 : decode cX10_heat 29 = .ok (.ifCond .eq 12, 3) := by decide +kernel
theorem dX10_heat_32 : decode cX10_heat 32 = .ok (.aload_n 0, 1) := by decide +kernel
theorem dX10_heat_33 : decode cX10_heat 33 = .ok (.iload_n 1, 1) := by decide +kernel
theorem dX10_heat_34 : decode cX10_heat 34 = .ok (.iload_n 2, 1) := by decide +kernel
theorem dX10_heat_35 : decode cX10_heat 35 = .ok (.invokevirtual 353, 3) := by decide +kernel
theorem dX10_heat_38 : decode cX10_heat 38 = .ok (.goto 5, 3) := by decide +kernel
theorem dX10_heat_41 : decode cX10_heat 41 = .ok (.bipush (-2), 2) := by decide +kernel
theorem dX10_heat_43 : decode cX10_heat 43 = .ok (.ireturn, 1) := by decide +kernel
theorem dX10_isTrace_0 : decode cX10_isTrace 0 = .ok (.iload_n 1, 1) := by decide +kernel
theorem dX10_isTrace_1 : decode cX10_isTrace 1 = .ok (.i2l, 1) := by decide +kernel
theorem dX10_isTrace_2 : decode cX10_isTrace 2 = .ok (.lconst 0, 1) := by decide +kernel
theorem dX10_isTrace_3 : decode cX10_isTrace 3 = .ok (.aload_n 0, 1) := by decide +kernel
theorem dX10_isTrace_4 : decode cX10_isTrace 4 = .ok (.getfield 253, 3) := by decide +kernel
theorem dX10_isTrace_7 : decode cX10_isTrace 7 = .ok (.iconst 1, 1) := by decide +kernel
theorem dX10_isTrace_8 : decode cX10_isTrace 8 = .ok (.isub, 1) := by decide +kernel
theorem dX10_isTrace_9 : decode cX10_isTrace 9 = .ok (.i2l, 1) := by decide +kernel
theorem dX10_isTrace_10 : decode cX10_isTrace 10 = .ok (.invokestatic 86, 3) := by decide +kernel
theorem dX10_isTrace_13 : decode cX10_isTrace 13 = .ok (.ireturn, 1) := by decide +kernel
theorem dX10_traceBy_0 : decode cX10_traceBy 0 = .ok (.iload_n 2, 1) := by decide +kernel
theorem dX10_traceBy_1 : decode cX10_traceBy 1 = .ok (.tableswitch 59 0 3 #[31, 38, 45, 52], 31) := by decide +kernel
theorem dX10_traceBy_32 : decode cX10_traceBy 32 = .ok (.aload_n 0, 1) := by decide +kernel
theorem dX10_traceBy_33 : decode cX10_traceBy 33 = .ok (.getfield 43, 3) := by decide +kernel
theorem dX10_traceBy_36 : decode cX10_traceBy 36 = .ok (.iload_n 1, 1) := by decide +kernel
theorem dX10_traceBy_37 : decode cX10_traceBy 37 = .ok (.iaload, 1) := by decide +kernel
theorem dX10_traceBy_38 : decode cX10_traceBy 38 = .ok (.ireturn, 1) := by decide +kernel
theorem dX10_traceBy_39 : decode cX10_traceBy 39 = .ok (.aload_n 0, 1) := by decide +kernel
theorem dX10_traceBy_40 : decode cX10_traceBy 40 = .ok (.getfield 46, 3) := by decide +kernel
theorem dX10_traceBy_43 : decode cX10_traceBy 43 = .ok (.iload_n 1, 1) := by decide +kernel
theorem dX10_traceBy_44 : decode cX10_traceBy 44 = .ok (.iaload, 1) := by decide +kernel
theorem dX10_traceBy_45 : decode cX10_traceBy 45 = .ok (.ireturn, 1) := by decide +kernel
theorem dX10_traceBy_46 : decode cX10_traceBy 46 = .ok (.aload_n 0, 1) := by decide +kernel
theorem dX10_traceBy_47 : decode cX10_traceBy 47 = .ok (.getfield 49, 3) := by decide +kernel
theorem dX10_traceBy_50 : decode cX10_traceBy 50 = .ok (.iload_n 1, 1) := by decide +kernel
theorem dX10_traceBy_51 : decode cX10_traceBy 51 = .ok (.iaload, 1) := by decide +kernel
theorem dX10_traceBy_52 : decode cX10_traceBy 52 = .ok (.ireturn, 1) := by decide +kernel
theorem dX10_traceBy_53 : decode cX10_traceBy 53 = .ok (.aload_n 0, 1) := by decide +kernel
theorem dX10_traceBy_54 : decode cX10_traceBy 54 = .ok (.getfield 52, 3) := by decide +kernel
theorem dX10_traceBy_57 : decode cX10_traceBy 57 = .ok (.iload_n 1, 1) := by decide +kernel
theorem dX10_traceBy_58 : decode cX10_traceBy 58 = .ok (.iaload, 1) := by decide +kernel
theorem dX10_traceBy_59 : decode cX10_traceBy 59 = .ok (.ireturn, 1) := by decide +kernel
theorem dX10_traceBy_60 : decode cX10_traceBy 60 = .ok (.aload_n 0, 1) := by decide +kernel
theorem dX10_traceBy_61 : decode cX10_traceBy 61 = .ok (.getfield 55, 3) := by decide +kernel
theorem dX10_traceBy_64 : decode cX10_traceBy 64 = .ok (.iload_n 1, 1) := by decide +kernel
theorem dX10_traceBy_65 : decode cX10_traceBy 65 = .ok (.iaload, 1) := by decide +kernel
theorem dX10_traceBy_66 : decode cX10_traceBy 66 = .ok (.ireturn, 1) := by decide +kernel
theorem dX10_traceOf_0 : decode cX10_traceOf 0 = .ok (.aload_n 0, 1) := by decide +kernel
theorem dX10_traceOf_1 : decode cX10_traceOf 1 = .ok (.iload_n 1, 1) := by decide +kernel
theorem dX10_traceOf_2 : decode cX10_traceOf 2 = .ok (.invokevirtual 356, 3) := by decide +kernel
theorem dX10_traceOf_5 : decode cX10_traceOf 5 = .ok (.ifCond .eq 24, 3) := by decide +kernel
theorem dX10_traceOf_8 : decode cX10_traceOf 8 = .ok (.iload_n 2, 1) := by decide +kernel
theorem dX10_traceOf_9 : decode cX10_traceOf 9 = .ok (.i2l, 1) := by decide +kernel
theorem dX10_traceOf_10 : decode cX10_traceOf 10 = .ok (.lconst 0, 1) := by decide +kernel
theorem dX10_traceOf_11 : decode cX10_traceOf 11 = .ok (.ldc2_w 359, 3) := by decide +kernel
theorem dX10_traceOf_14 : decode cX10_traceOf 14 = .ok (.invokestatic 86, 3) := by decide +kernel
theorem dX10_traceOf_17 : decode cX10_traceOf 17 = .ok (.ifCond .eq 12, 3) := by decide +kernel
theorem dX10_traceOf_20 : decode cX10_traceOf 20 = .ok (.aload_n 0, 1) := by decide +kernel
theorem dX10_traceOf_21 : decode cX10_traceOf 21 = .ok (.iload_n 1, 1) := by decide +kernel
theorem dX10_traceOf_22 : decode cX10_traceOf 22 = .ok (.iload_n 2, 1) := by decide +kernel
theorem dX10_traceOf_23 : decode cX10_traceOf 23 = .ok (.invokevirtual 361, 3) := by decide +kernel
theorem dX10_traceOf_26 : decode cX10_traceOf 26 = .ok (.goto 5, 3) := by decide +kernel
theorem dX10_traceOf_29 : decode cX10_traceOf 29 = .ok (.bipush (-2), 2) := by decide +kernel
theorem dX10_traceOf_31 : decode cX10_traceOf 31 = .ok (.ireturn, 1) := by decide +kernel
theorem dX10_trace_0 : decode cX10_trace 0 = .ok (.aload_n 0, 1) := by decide +kernel
theorem dX10_trace_1 : decode cX10_trace 1 = .ok (.aload_n 0, 1) := by decide +kernel
theorem dX10_trace_2 : decode cX10_trace 2 = .ok (.getfield 83, 3) := by decide +kernel
theorem dX10_trace_5 : decode cX10_trace 5 = .ok (.invokevirtual 344, 3) := by decide +kernel
theorem dX10_trace_8 : decode cX10_trace 8 = .ok (.aload_n 0, 1) := by decide +kernel
theorem dX10_trace_9 : decode cX10_trace 9 = .ok (.iload_n 1, 1) := by decide +kernel
theorem dX10_trace_10 : decode cX10_trace 10 = .ok (.iload_n 2, 1) := by decide +kernel
theorem dX10_trace_11 : decode cX10_trace 11 = .ok (.invokevirtual 364, 3) := by decide +kernel
theorem dX10_trace_14 : decode cX10_trace 14 = .ok (.ireturn, 1) := by decide +kernel
theorem dX10_entryBy_0 : decode cX10_entryBy 0 = .ok (.iload_n 2, 1) := by decide +kernel
theorem dX10_entryBy_1 : decode cX10_entryBy 1 = .ok (.tableswitch 70 0 4 #[35, 42, 49, 56, 63], 35) := by decide +kernel
theorem dX10_entryBy_36 : decode cX10_entryBy 36 = .ok (.aload_n 0, 1) := by decide +kernel
theorem dX10_entryBy_37 : decode cX10_entryBy 37 = .ok (.getfield 58, 3) := by decide +kernel
theorem dX10_entryBy_40 : decode cX10_entryBy 40 = .ok (.iload_n 1, 1) := by decide +kernel
theorem dX10_entryBy_41 : decode cX10_entryBy 41 = .ok (.iaload, 1) := by decide +kernel
theorem dX10_entryBy_42 : decode cX10_entryBy 42 = .ok (.ireturn, 1) := by decide +kernel
theorem dX10_entryBy_43 : decode cX10_entryBy 43 = .ok (.aload_n 0, 1) := by decide +kernel
theorem dX10_entryBy_44 : decode cX10_entryBy 44 = .ok (.getfield 61, 3) := by decide +kernel
theorem dX10_entryBy_47 : decode cX10_entryBy 47 = .ok (.iload_n 1, 1) := by decide +kernel
theorem dX10_entryBy_48 : decode cX10_entryBy 48 = .ok (.iaload, 1) := by decide +kernel
theorem dX10_entryBy_49 : decode cX10_entryBy 49 = .ok (.ireturn, 1) := by decide +kernel
theorem dX10_entryBy_50 : decode cX10_entryBy 50 = .ok (.aload_n 0, 1) := by decide +kernel
theorem dX10_entryBy_51 : decode cX10_entryBy 51 = .ok (.getfield 64, 3) := by decide +kernel
theorem dX10_entryBy_54 : decode cX10_entryBy 54 = .ok (.iload_n 1, 1) := by decide +kernel
theorem dX10_entryBy_55 : decode cX10_entryBy 55 = .ok (.iaload, 1) := by decide +kernel
theorem dX10_entryBy_56 : decode cX10_entryBy 56 = .ok (.ireturn, 1) := by decide +kernel
theorem dX10_entryBy_57 : decode cX10_entryBy 57 = .ok (.aload_n 0, 1) := by decide +kernel
theorem dX10_entryBy_58 : decode cX10_entryBy 58 = .ok (.getfield 67, 3) := by decide +kernel
theorem dX10_entryBy_61 : decode cX10_entryBy 61 = .ok (.iload_n 1, 1) := by decide +kernel
theorem dX10_entryBy_62 : decode cX10_entryBy 62 = .ok (.iaload, 1) := by decide +kernel
theorem dX10_entryBy_63 : decode cX10_entryBy 63 = .ok (.ireturn, 1) := by decide +kernel
theorem dX10_entryBy_64 : decode cX10_entryBy 64 = .ok (.aload_n 0, 1) := by decide +kernel
theorem dX10_entryBy_65 : decode cX10_entryBy 65 = .ok (.getfield 70, 3) := by decide +kernel
theorem dX10_entryBy_68 : decode cX10_entryBy 68 = .ok (.iload_n 1, 1) := by decide +kernel
theorem dX10_entryBy_69 : decode cX10_entryBy 69 = .ok (.iaload, 1) := by decide +kernel
theorem dX10_entryBy_70 : decode cX10_entryBy 70 = .ok (.ireturn, 1) := by decide +kernel
theorem dX10_entryBy_71 : decode cX10_entryBy 71 = .ok (.aload_n 0, 1) := by decide +kernel
theorem dX10_entryBy_72 : decode cX10_entryBy 72 = .ok (.getfield 73, 3) := by decide +kernel
theorem dX10_entryBy_75 : decode cX10_entryBy 75 = .ok (.iload_n 1, 1) := by decide +kernel
theorem dX10_entryBy_76 : decode cX10_entryBy 76 = .ok (.iaload, 1) := by decide +kernel
theorem dX10_entryBy_77 : decode cX10_entryBy 77 = .ok (.ireturn, 1) := by decide +kernel
theorem dX10_isEntry_0 : decode cX10_isEntry 0 = .ok (.aload_n 0, 1) := by decide +kernel
theorem dX10_isEntry_1 : decode cX10_isEntry 1 = .ok (.iload_n 1, 1) := by decide +kernel
theorem dX10_isEntry_2 : decode cX10_isEntry 2 = .ok (.invokevirtual 356, 3) := by decide +kernel
theorem dX10_isEntry_5 : decode cX10_isEntry 5 = .ok (.ifCond .eq 25, 3) := by decide +kernel
theorem dX10_isEntry_8 : decode cX10_isEntry 8 = .ok (.iload_n 2, 1) := by decide +kernel
theorem dX10_isEntry_9 : decode cX10_isEntry 9 = .ok (.i2l, 1) := by decide +kernel
theorem dX10_isEntry_10 : decode cX10_isEntry 10 = .ok (.lconst 0, 1) := by decide +kernel
theorem dX10_isEntry_11 : decode cX10_isEntry 11 = .ok (.aload_n 0, 1) := by decide +kernel
theorem dX10_isEntry_12 : decode cX10_isEntry 12 = .ok (.getfield 52, 3) := by decide +kernel
theorem dX10_isEntry_15 : decode cX10_isEntry 15 = .ok (.iload_n 1, 1) := by decide +kernel
theorem dX10_isEntry_16 : decode cX10_isEntry 16 = .ok (.iaload, 1) := by decide +kernel
theorem dX10_isEntry_17 : decode cX10_isEntry 17 = .ok (.iconst 1, 1) := by decide +kernel
theorem dX10_isEntry_18 : decode cX10_isEntry 18 = .ok (.isub, 1) := by decide +kernel
theorem dX10_isEntry_19 : decode cX10_isEntry 19 = .ok (.i2l, 1) := by decide +kernel
theorem dX10_isEntry_20 : decode cX10_isEntry 20 = .ok (.invokestatic 86, 3) := by decide +kernel
theorem dX10_isEntry_23 : decode cX10_isEntry 23 = .ok (.ifCond .eq 7, 3) := by decide +kernel
theorem dX10_isEntry_26 : decode cX10_isEntry 26 = .ok (.iconst 1, 1) := by decide +kernel
theorem dX10_isEntry_27 : decode cX10_isEntry 27 = .ok (.goto 4, 3) := by decide +kernel
theorem dX10_isEntry_30 : decode cX10_isEntry 30 = .ok (.iconst 0, 1) := by decide +kernel
theorem dX10_isEntry_31 : decode cX10_isEntry 31 = .ok (.ireturn, 1) := by decide +kernel
theorem dX10_entryOf_0 : decode cX10_entryOf 0 = .ok (.aload_n 0, 1) := by decide +kernel
theorem dX10_entryOf_1 : decode cX10_entryOf 1 = .ok (.iload_n 1, 1) := by decide +kernel
theorem dX10_entryOf_2 : decode cX10_entryOf 2 = .ok (.iload_n 2, 1) := by decide +kernel
theorem dX10_entryOf_3 : decode cX10_entryOf 3 = .ok (.invokevirtual 367, 3) := by decide +kernel
theorem dX10_entryOf_6 : decode cX10_entryOf 6 = .ok (.ifCond .eq 29, 3) := by decide +kernel
theorem dX10_entryOf_9 : decode cX10_entryOf 9 = .ok (.iload_n 3, 1) := by decide +kernel
theorem dX10_entryOf_10 : decode cX10_entryOf 10 = .ok (.i2l, 1) := by decide +kernel
theorem dX10_entryOf_11 : decode cX10_entryOf 11 = .ok (.lconst 0, 1) := by decide +kernel
theorem dX10_entryOf_12 : decode cX10_entryOf 12 = .ok (.ldc2_w 239, 3) := by decide +kernel
theorem dX10_entryOf_15 : decode cX10_entryOf 15 = .ok (.invokestatic 86, 3) := by decide +kernel
theorem dX10_entryOf_18 : decode cX10_entryOf 18 = .ok (.ifCond .eq 17, 3) := by decide +kernel
theorem dX10_entryOf_21 : decode cX10_entryOf 21 = .ok (.aload_n 0, 1) := by decide +kernel
theorem dX10_entryOf_22 : decode cX10_entryOf 22 = .ok (.bipush 16, 2) := by decide +kernel
theorem dX10_entryOf_24 : decode cX10_entryOf 24 = .ok (.iload_n 1, 1) := by decide +kernel
theorem dX10_entryOf_25 : decode cX10_entryOf 25 = .ok (.imul, 1) := by decide +kernel
theorem dX10_entryOf_26 : decode cX10_entryOf 26 = .ok (.iload_n 2, 1) := by decide +kernel
theorem dX10_entryOf_27 : decode cX10_entryOf 27 = .ok (.iadd, 1) := by decide +kernel
theorem dX10_entryOf_28 : decode cX10_entryOf 28 = .ok (.iload_n 3, 1) := by decide +kernel
theorem dX10_entryOf_29 : decode cX10_entryOf 29 = .ok (.invokevirtual 370, 3) := by decide +kernel
theorem dX10_entryOf_32 : decode cX10_entryOf 32 = .ok (.goto 5, 3) := by decide +kernel
theorem dX10_entryOf_35 : decode cX10_entryOf 35 = .ok (.bipush (-2), 2) := by decide +kernel
theorem dX10_entryOf_37 : decode cX10_entryOf 37 = .ok (.ireturn, 1) := by decide +kernel
theorem dX10_entry_0 : decode cX10_entry 0 = .ok (.aload_n 0, 1) := by decide +kernel
theorem dX10_entry_1 : decode cX10_entry 1 = .ok (.aload_n 0, 1) := by decide +kernel
theorem dX10_entry_2 : decode cX10_entry 2 = .ok (.getfield 83, 3) := by decide +kernel
theorem dX10_entry_5 : decode cX10_entry 5 = .ok (.invokevirtual 344, 3) := by decide +kernel
theorem dX10_entry_8 : decode cX10_entry 8 = .ok (.aload_n 0, 1) := by decide +kernel
theorem dX10_entry_9 : decode cX10_entry 9 = .ok (.iload_n 1, 1) := by decide +kernel
theorem dX10_entry_10 : decode cX10_entry 10 = .ok (.iload_n 2, 1) := by decide +kernel
theorem dX10_entry_11 : decode cX10_entry 11 = .ok (.iload_n 3, 1) := by decide +kernel
theorem dX10_entry_12 : decode cX10_entry 12 = .ok (.invokevirtual 373, 3) := by decide +kernel
theorem dX10_entry_15 : decode cX10_entry 15 = .ok (.ireturn, 1) := by decide +kernel
theorem dX10_writtenAhead_0 : decode cX10_writtenAhead 0 = .ok (.iconst 0, 1) := by decide +kernel
theorem dX10_writtenAhead_1 : decode cX10_writtenAhead 1 = .ok (.istore_n 3, 1) := by decide +kernel
theorem dX10_writtenAhead_2 : decode cX10_writtenAhead 2 = .ok (.iconst 0, 1) := by decide +kernel
theorem dX10_writtenAhead_3 : decode cX10_writtenAhead 3 = .ok (.istore 4, 2) := by decide +kernel
theorem dX10_writtenAhead_5 : decode cX10_writtenAhead 5 = .ok (.iload 4, 2) := by decide +kernel
theorem dX10_writtenAhead_7 : decode cX10_writtenAhead 7 = .ok (.iload_n 2, 1) := by decide +kernel
theorem dX10_writtenAhead_8 : decode cX10_writtenAhead 8 = .ok (.if_icmp .ge 53, 3) := by decide +kernel
theorem dX10_writtenAhead_11 : decode cX10_writtenAhead 11 = .ok (.aload_n 0, 1) := by decide +kernel
theorem dX10_writtenAhead_12 : decode cX10_writtenAhead 12 = .ok (.getfield 58, 3) := by decide +kernel
theorem dX10_writtenAhead_15 : decode cX10_writtenAhead 15 = .ok (.bipush 16, 2) := by decide +kernel
theorem dX10_writtenAhead_17 : decode cX10_writtenAhead 17 = .ok (.iload_n 1, 1) := by decide +kernel
theorem dX10_writtenAhead_18 : decode cX10_writtenAhead 18 = .ok (.imul, 1) := by decide +kernel
theorem dX10_writtenAhead_19 : decode cX10_writtenAhead 19 = .ok (.iload 4, 2) := by decide +kernel
theorem dX10_writtenAhead_21 : decode cX10_writtenAhead 21 = .ok (.iadd, 1) := by decide +kernel
theorem dX10_writtenAhead_22 : decode cX10_writtenAhead 22 = .ok (.iaload, 1) := by decide +kernel
theorem dX10_writtenAhead_23 : decode cX10_writtenAhead 23 = .ok (.istore 5, 2) := by decide +kernel
theorem dX10_writtenAhead_25 : decode cX10_writtenAhead 25 = .ok (.iload_n 3, 1) := by decide +kernel
theorem dX10_writtenAhead_26 : decode cX10_writtenAhead 26 = .ok (.aload_n 0, 1) := by decide +kernel
theorem dX10_writtenAhead_27 : decode cX10_writtenAhead 27 = .ok (.getfield 22, 3) := by decide +kernel
theorem dX10_writtenAhead_30 : decode cX10_writtenAhead 30 = .ok (.iconst 4, 1) := by decide +kernel
theorem dX10_writtenAhead_31 : decode cX10_writtenAhead 31 = .ok (.iload 5, 2) := by decide +kernel
theorem dX10_writtenAhead_33 : decode cX10_writtenAhead 33 = .ok (.imul, 1) := by decide +kernel
theorem dX10_writtenAhead_34 : decode cX10_writtenAhead 34 = .ok (.iaload, 1) := by decide +kernel
theorem dX10_writtenAhead_35 : decode cX10_writtenAhead 35 = .ok (.invokestatic 244, 3) := by decide +kernel
theorem dX10_writtenAhead_38 : decode cX10_writtenAhead 38 = .ok (.ifCond .eq 14, 3) := by decide +kernel
theorem dX10_writtenAhead_41 : decode cX10_writtenAhead 41 = .ok (.iconst 1, 1) := by decide +kernel
theorem dX10_writtenAhead_42 : decode cX10_writtenAhead 42 = .ok (.aload_n 0, 1) := by decide +kernel
theorem dX10_writtenAhead_43 : decode cX10_writtenAhead 43 = .ok (.iload 5, 2) := by decide +kernel
theorem dX10_writtenAhead_45 : decode cX10_writtenAhead 45 = .ok (.invokevirtual 247, 3) := by decide +kernel
theorem dX10_writtenAhead_48 : decode cX10_writtenAhead 48 = .ok (.ishl, 1) := by decide +kernel
theorem dX10_writtenAhead_49 : decode cX10_writtenAhead 49 = .ok (.goto 4, 3) := by decide +kernel
theorem dX10_writtenAhead_52 : decode cX10_writtenAhead 52 = .ok (.iconst 0, 1) := by decide +kernel
theorem dX10_writtenAhead_53 : decode cX10_writtenAhead 53 = .ok (.ior, 1) := by decide +kernel
theorem dX10_writtenAhead_54 : decode cX10_writtenAhead 54 = .ok (.istore_n 3, 1) := by decide +kernel
theorem dX10_writtenAhead_55 : decode cX10_writtenAhead 55 = .ok (.iinc 4 1, 3) := by decide +kernel
theorem dX10_writtenAhead_58 : decode cX10_writtenAhead 58 = .ok (.goto (-53), 3) := by decide +kernel
theorem dX10_writtenAhead_61 : decode cX10_writtenAhead 61 = .ok (.iload_n 3, 1) := by decide +kernel
theorem dX10_writtenAhead_62 : decode cX10_writtenAhead 62 = .ok (.ireturn, 1) := by decide +kernel
theorem dX10_checksBy_0 : decode cX10_checksBy 0 = .ok (.aload_n 0, 1) := by decide +kernel
theorem dX10_checksBy_1 : decode cX10_checksBy 1 = .ok (.iload_n 1, 1) := by decide +kernel
theorem dX10_checksBy_2 : decode cX10_checksBy 2 = .ok (.aload_n 0, 1) := by decide +kernel
theorem dX10_checksBy_3 : decode cX10_checksBy 3 = .ok (.getfield 52, 3) := by decide +kernel
theorem dX10_checksBy_6 : decode cX10_checksBy 6 = .ok (.iload_n 1, 1) := by decide +kernel
theorem dX10_checksBy_7 : decode cX10_checksBy 7 = .ok (.iaload, 1) := by decide +kernel
theorem dX10_checksBy_8 : decode cX10_checksBy 8 = .ok (.invokevirtual 376, 3) := by decide +kernel
theorem dX10_checksBy_11 : decode cX10_checksBy 11 = .ok (.istore_n 3, 1) := by decide +kernel
theorem dX10_checksBy_12 : decode cX10_checksBy 12 = .ok (.iconst 0, 1) := by decide +kernel
theorem dX10_checksBy_13 : decode cX10_checksBy 13 = .ok (.istore 4, 2) := by decide +kernel
theorem dX10_checksBy_15 : decode cX10_checksBy 15 = .ok (.iconst 0, 1) := by decide +kernel
theorem dX10_checksBy_16 : decode cX10_checksBy 16 = .ok (.istore 5, 2) := by decide +kernel
theorem dX10_checksBy_18 : decode cX10_checksBy 18 = .ok (.iconst 0, 1) := by decide +kernel
theorem dX10_checksBy_19 : decode cX10_checksBy 19 = .ok (.istore 6, 2) := by decide +kernel
theorem dX10_checksBy_21 : decode cX10_checksBy 21 = .ok (.iconst 0, 1) := by decide +kernel
theorem dX10_checksBy_22 : decode cX10_checksBy 22 = .ok (.istore 7, 2) := by decide +kernel
theorem dX10_checksBy_24 : decode cX10_checksBy 24 = .ok (.iconst 0, 1) := by decide +kernel
theorem dX10_checksBy_25 : decode cX10_checksBy 25 = .ok (.istore 8, 2) := by decide +kernel
theorem dX10_checksBy_27 : decode cX10_checksBy 27 = .ok (.iload 8, 2) := by decide +kernel
theorem dX10_checksBy_29 : decode cX10_checksBy 29 = .ok (.aload_n 0, 1) := by decide +kernel
theorem dX10_checksBy_30 : decode cX10_checksBy 30 = .ok (.getfield 52, 3) := by decide +kernel
theorem dX10_checksBy_33 : decode cX10_checksBy 33 = .ok (.iload_n 1, 1) := by decide +kernel
theorem dX10_checksBy_34 : decode cX10_checksBy 34 = .ok (.iaload, 1) := by decide +kernel
theorem dX10_checksBy_35 : decode cX10_checksBy 35 = .ok (.if_icmp .ge 310, 3) := by decide +kernel
theorem dX10_checksBy_38 : decode cX10_checksBy 38 = .ok (.aload_n 0, 1) := by decide +kernel
theorem dX10_checksBy_39 : decode cX10_checksBy 39 = .ok (.getfield 58, 3) := by decide +kernel
theorem dX10_checksBy_42 : decode cX10_checksBy 42 = .ok (.bipush 16, 2) := by decide +kernel
theorem dX10_checksBy_44 : decode cX10_checksBy 44 = .ok (.iload_n 1, 1) := by decide +kernel
theorem dX10_checksBy_45 : decode cX10_checksBy 45 = .ok (.imul, 1) := by decide +kernel
theorem dX10_checksBy_46 : decode cX10_checksBy 46 = .ok (.iload 8, 2) := by decide +kernel
theorem dX10_checksBy_48 : decode cX10_checksBy 48 = .ok (.iadd, 1) := by decide +kernel
theorem dX10_checksBy_49 : decode cX10_checksBy 49 = .ok (.iaload, 1) := by decide +kernel
theorem dX10_checksBy_50 : decode cX10_checksBy 50 = .ok (.istore 9, 2) := by decide +kernel
theorem dX10_checksBy_52 : decode cX10_checksBy 52 = .ok (.aload_n 0, 1) := by decide +kernel
theorem dX10_checksBy_53 : decode cX10_checksBy 53 = .ok (.getfield 22, 3) := by decide +kernel
theorem dX10_checksBy_56 : decode cX10_checksBy 56 = .ok (.iconst 4, 1) := by decide +kernel
theorem dX10_checksBy_57 : decode cX10_checksBy 57 = .ok (.iload 9, 2) := by decide +kernel
theorem dX10_checksBy_59 : decode cX10_checksBy 59 = .ok (.imul, 1) := by decide +kernel
theorem dX10_checksBy_60 : decode cX10_checksBy 60 = .ok (.iaload, 1) := by decide +kernel
theorem dX10_checksBy_61 : decode cX10_checksBy 61 = .ok (.istore 10, 2) := by decide +kernel
theorem dX10_checksBy_63 : decode cX10_checksBy 63 = .ok (.iload 10, 2) := by decide +kernel
theorem dX10_checksBy_65 : decode cX10_checksBy 65 = .ok (.iconst 2, 1) := by decide +kernel
theorem dX10_checksBy_66 : decode cX10_checksBy 66 = .ok (.if_icmp .eq 22, 3) := by decide +kernel
theorem dX10_checksBy_69 : decode cX10_checksBy 69 = .ok (.iload 10, 2) := by decide +kernel
theorem dX10_checksBy_71 : decode cX10_checksBy 71 = .ok (.iconst 3, 1) := by decide +kernel
theorem dX10_checksBy_72 : decode cX10_checksBy 72 = .ok (.if_icmp .eq 16, 3) := by decide +kernel
theorem dX10_checksBy_75 : decode cX10_checksBy 75 = .ok (.iload 10, 2) := by decide +kernel
theorem dX10_checksBy_77 : decode cX10_checksBy 77 = .ok (.iconst 4, 1) := by decide +kernel
theorem dX10_checksBy_78 : decode cX10_checksBy 78 = .ok (.if_icmp .eq 10, 3) := by decide +kernel
theorem dX10_checksBy_81 : decode cX10_checksBy 81 = .ok (.iload 10, 2) := by decide +kernel
theorem dX10_checksBy_83 : decode cX10_checksBy 83 = .ok (.bipush 6, 2) := by decide +kernel
theorem dX10_checksBy_85 : decode cX10_checksBy 85 = .ok (.if_icmp .ne 7, 3) := by decide +kernel
theorem dX10_checksBy_88 : decode cX10_checksBy 88 = .ok (.iconst 1, 1) := by decide +kernel
theorem dX10_checksBy_89 : decode cX10_checksBy 89 = .ok (.goto 4, 3) := by decide +kernel
theorem dX10_checksBy_92 : decode cX10_checksBy 92 = .ok (.iconst 0, 1) := by decide +kernel
theorem dX10_checksBy_93 : decode cX10_checksBy 93 = .ok (.istore 11, 2) := by decide +kernel
theorem dX10_checksBy_95 : decode cX10_checksBy 95 = .ok (.iload 11, 2) := by decide +kernel
theorem dX10_checksBy_97 : decode cX10_checksBy 97 = .ok (.ifCond .ne 15, 3) := by decide +kernel
theorem dX10_checksBy_100 : decode cX10_checksBy 100 = .ok (.iload 10, 2) := by decide +kernel
theorem dX10_checksBy_102 : decode cX10_checksBy 102 = .ok (.iconst 1, 1) := by decide +kernel
theorem dX10_checksBy_103 : decode cX10_checksBy 103 = .ok (.if_icmp .eq 9, 3) := by decide +kernel
theorem dX10_checksBy_106 : decode cX10_checksBy 106 = .ok (.iload 10, 2) := by decide +kernel
theorem dX10_checksBy_108 : decode cX10_checksBy 108 = .ok (.iconst 5, 1) := by decide +kernel
theorem dX10_checksBy_109 : decode cX10_checksBy 109 = .ok (.if_icmp .ne 7, 3) := by decide +kernel
theorem dX10_checksBy_112 : decode cX10_checksBy 112 = .ok (.iconst 1, 1) := by decide +kernel
theorem dX10_checksBy_113 : decode cX10_checksBy 113 = .ok (.goto 4, 3) := by decide +kernel
theorem dX10_checksBy_116 : decode cX10_checksBy 116 = .ok (.iconst 0, 1) := by decide +kernel
theorem dX10_checksBy_117 : decode cX10_checksBy 117 = .ok (.istore 12, 2) := by decide +kernel
theorem dX10_checksBy_119 : decode cX10_checksBy 119 = .ok (.iconst 0, 1) := by decide +kernel
theorem dX10_checksBy_120 : decode cX10_checksBy 120 = .ok (.istore 13, 2) := by decide +kernel
theorem dX10_checksBy_122 : decode cX10_checksBy 122 = .ok (.iload 13, 2) := by decide +kernel
theorem dX10_checksBy_124 : decode cX10_checksBy 124 = .ok (.iconst 2, 1) := by decide +kernel
theorem dX10_checksBy_125 : decode cX10_checksBy 125 = .ok (.if_icmp .ge 165, 3) := by decide +kernel
theorem dX10_checksBy_128 : decode cX10_checksBy 128 = .ok (.iload 13, 2) := by decide +kernel
theorem dX10_checksBy_130 : decode cX10_checksBy 130 = .ok (.ifCond .ne 12, 3) := by decide +kernel
theorem dX10_checksBy_133 : decode cX10_checksBy 133 = .ok (.aload_n 0, 1) := by decide +kernel
theorem dX10_checksBy_134 : decode cX10_checksBy 134 = .ok (.iload 9, 2) := by decide +kernel
theorem dX10_checksBy_136 : decode cX10_checksBy 136 = .ok (.invokevirtual 225, 3) := by decide +kernel
theorem dX10_checksBy_139 : decode cX10_checksBy 139 = .ok (.goto 9, 3) := by decide +kernel
theorem dX10_checksBy_142 : decode cX10_checksBy 142 = .ok (.aload_n 0, 1) := by decide +kernel
theorem dX10_checksBy_143 : decode cX10_checksBy 143 = .ok (.iload 9, 2) := by decide +kernel
theorem dX10_checksBy_145 : decode cX10_checksBy 145 = .ok (.invokevirtual 222, 3) := by decide +kernel
theorem dX10_checksBy_148 : decode cX10_checksBy 148 = .ok (.istore 14, 2) := by decide +kernel
theorem dX10_checksBy_150 : decode cX10_checksBy 150 = .ok (.iload 13, 2) := by decide +kernel
theorem dX10_checksBy_152 : decode cX10_checksBy 152 = .ok (.ifCond .ne 8, 3) := by decide +kernel
theorem dX10_checksBy_155 : decode cX10_checksBy 155 = .ok (.iload 11, 2) := by decide +kernel
theorem dX10_checksBy_157 : decode cX10_checksBy 157 = .ok (.goto 33, 3) := by decide +kernel
theorem dX10_checksBy_160 : decode cX10_checksBy 160 = .ok (.iload 12, 2) := by decide +kernel
theorem dX10_checksBy_162 : decode cX10_checksBy 162 = .ok (.ifCond .eq 27, 3) := by decide +kernel
theorem dX10_checksBy_165 : decode cX10_checksBy 165 = .ok (.iload 11, 2) := by decide +kernel
theorem dX10_checksBy_167 : decode cX10_checksBy 167 = .ok (.ifCond .eq 18, 3) := by decide +kernel
theorem dX10_checksBy_170 : decode cX10_checksBy 170 = .ok (.aload_n 0, 1) := by decide +kernel
theorem dX10_checksBy_171 : decode cX10_checksBy 171 = .ok (.iload 9, 2) := by decide +kernel
theorem dX10_checksBy_173 : decode cX10_checksBy 173 = .ok (.invokevirtual 225, 3) := by decide +kernel
theorem dX10_checksBy_176 : decode cX10_checksBy 176 = .ok (.aload_n 0, 1) := by decide +kernel
theorem dX10_checksBy_177 : decode cX10_checksBy 177 = .ok (.iload 9, 2) := by decide +kernel
theorem dX10_checksBy_179 : decode cX10_checksBy 179 = .ok (.invokevirtual 222, 3) := by decide +kernel
theorem dX10_checksBy_182 : decode cX10_checksBy 182 = .ok (.if_icmp .eq 7, 3) := by decide +kernel
theorem dX10_checksBy_185 : decode cX10_checksBy 185 = .ok (.iconst 1, 1) := by decide +kernel
theorem dX10_checksBy_186 : decode cX10_checksBy 186 = .ok (.goto 4, 3) := by decide +kernel
theorem dX10_checksBy_189 : decode cX10_checksBy 189 = .ok (.iconst 0, 1) := by decide +kernel
theorem dX10_checksBy_190 : decode cX10_checksBy 190 = .ok (.istore 15, 2) := by decide +kernel
theorem dX10_checksBy_192 : decode cX10_checksBy 192 = .ok (.iload 5, 2) := by decide +kernel
theorem dX10_checksBy_194 : decode cX10_checksBy 194 = .ok (.iload 15, 2) := by decide +kernel
theorem dX10_checksBy_196 : decode cX10_checksBy 196 = .ok (.ifCond .eq 7, 3) := by decide +kernel
theorem dX10_checksBy_199 : decode cX10_checksBy 199 = .ok (.iconst 1, 1) := by decide +kernel
theorem dX10_checksBy_200 : decode cX10_checksBy 200 = .ok (.goto 4, 3) := by decide +kernel
theorem dX10_checksBy_203 : decode cX10_checksBy 203 = .ok (.iconst 0, 1) := by decide +kernel
theorem dX10_checksBy_204 : decode cX10_checksBy 204 = .ok (.iadd, 1) := by decide +kernel
theorem dX10_checksBy_205 : decode cX10_checksBy 205 = .ok (.istore 5, 2) := by decide +kernel
theorem dX10_checksBy_207 : decode cX10_checksBy 207 = .ok (.iload 6, 2) := by decide +kernel
theorem dX10_checksBy_209 : decode cX10_checksBy 209 = .ok (.iload 15, 2) := by decide +kernel
theorem dX10_checksBy_211 : decode cX10_checksBy 211 = .ok (.ifCond .eq 17, 3) := by decide +kernel
theorem dX10_checksBy_214 : decode cX10_checksBy 214 = .ok (.iload 4, 2) := by decide +kernel
theorem dX10_checksBy_216 : decode cX10_checksBy 216 = .ok (.iload 14, 2) := by decide +kernel
theorem dX10_checksBy_218 : decode cX10_checksBy 218 = .ok (.invokestatic 379, 3) := by decide +kernel
theorem dX10_checksBy_221 : decode cX10_checksBy 221 = .ok (.ifCond .ne 7, 3) := by decide +kernel
theorem dX10_checksBy_224 : decode cX10_checksBy 224 = .ok (.iconst 1, 1) := by decide +kernel
theorem dX10_checksBy_225 : decode cX10_checksBy 225 = .ok (.goto 4, 3) := by decide +kernel
theorem dX10_checksBy_228 : decode cX10_checksBy 228 = .ok (.iconst 0, 1) := by decide +kernel
theorem dX10_checksBy_229 : decode cX10_checksBy 229 = .ok (.iadd, 1) := by decide +kernel
theorem dX10_checksBy_230 : decode cX10_checksBy 230 = .ok (.istore 6, 2) := by decide +kernel
theorem dX10_checksBy_232 : decode cX10_checksBy 232 = .ok (.iload 7, 2) := by decide +kernel
theorem dX10_checksBy_234 : decode cX10_checksBy 234 = .ok (.iload 15, 2) := by decide +kernel
theorem dX10_checksBy_236 : decode cX10_checksBy 236 = .ok (.ifCond .eq 26, 3) := by decide +kernel
theorem dX10_checksBy_239 : decode cX10_checksBy 239 = .ok (.iload 4, 2) := by decide +kernel
theorem dX10_checksBy_241 : decode cX10_checksBy 241 = .ok (.iload 14, 2) := by decide +kernel
theorem dX10_checksBy_243 : decode cX10_checksBy 243 = .ok (.invokestatic 379, 3) := by decide +kernel
theorem dX10_checksBy_246 : decode cX10_checksBy 246 = .ok (.ifCond .ne 16, 3) := by decide +kernel
theorem dX10_checksBy_249 : decode cX10_checksBy 249 = .ok (.iload_n 3, 1) := by decide +kernel
theorem dX10_checksBy_250 : decode cX10_checksBy 250 = .ok (.iload 14, 2) := by decide +kernel
theorem dX10_checksBy_252 : decode cX10_checksBy 252 = .ok (.invokestatic 379, 3) := by decide +kernel
theorem dX10_checksBy_255 : decode cX10_checksBy 255 = .ok (.ifCond .ne 7, 3) := by decide +kernel
theorem dX10_checksBy_258 : decode cX10_checksBy 258 = .ok (.iconst 1, 1) := by decide +kernel
theorem dX10_checksBy_259 : decode cX10_checksBy 259 = .ok (.goto 4, 3) := by decide +kernel
theorem dX10_checksBy_262 : decode cX10_checksBy 262 = .ok (.iconst 0, 1) := by decide +kernel
theorem dX10_checksBy_263 : decode cX10_checksBy 263 = .ok (.iadd, 1) := by decide +kernel
theorem dX10_checksBy_264 : decode cX10_checksBy 264 = .ok (.istore 7, 2) := by decide +kernel
theorem dX10_checksBy_266 : decode cX10_checksBy 266 = .ok (.iload 4, 2) := by decide +kernel
theorem dX10_checksBy_268 : decode cX10_checksBy 268 = .ok (.iload 15, 2) := by decide +kernel
theorem dX10_checksBy_270 : decode cX10_checksBy 270 = .ok (.ifCond .eq 10, 3) := by decide +kernel
theorem dX10_checksBy_273 : decode cX10_checksBy 273 = .ok (.iconst 1, 1) := by decide +kernel
theorem dX10_checksBy_274 : decode cX10_checksBy 274 = .ok (.iload 14, 2) := by decide +kernel
theorem dX10_checksBy_276 : decode cX10_checksBy 276 = .ok (.ishl, 1) := by decide +kernel
theorem dX10_checksBy_277 : decode cX10_checksBy 277 = .ok (.goto 4, 3) := by decide +kernel
theorem dX10_checksBy_280 : decode cX10_checksBy 280 = .ok (.iconst 0, 1) := by decide +kernel
theorem dX10_checksBy_281 : decode cX10_checksBy 281 = .ok (.ior, 1) := by decide +kernel
theorem dX10_checksBy_282 : decode cX10_checksBy 282 = .ok (.istore 4, 2) := by decide +kernel
theorem dX10_checksBy_284 : decode cX10_checksBy 284 = .ok (.iinc 13 1, 3) := by decide +kernel
theorem dX10_checksBy_287 : decode cX10_checksBy 287 = .ok (.goto (-165), 3) := by decide +kernel
theorem dX10_checksBy_290 : decode cX10_checksBy 290 = .ok (.iload 4, 2) := by decide +kernel
theorem dX10_checksBy_292 : decode cX10_checksBy 292 = .ok (.iload 10, 2) := by decide +kernel
theorem dX10_checksBy_294 : decode cX10_checksBy 294 = .ok (.bipush 8, 2) := by decide +kernel
theorem dX10_checksBy_296 : decode cX10_checksBy 296 = .ok (.if_icmp .ne 14, 3) := by decide +kernel
theorem dX10_checksBy_299 : decode cX10_checksBy 299 = .ok (.iconst 1, 1) := by decide +kernel
theorem dX10_checksBy_300 : decode cX10_checksBy 300 = .ok (.aload_n 0, 1) := by decide +kernel
theorem dX10_checksBy_301 : decode cX10_checksBy 301 = .ok (.iload 9, 2) := by decide +kernel
theorem dX10_checksBy_303 : decode cX10_checksBy 303 = .ok (.invokevirtual 222, 3) := by decide +kernel
theorem dX10_checksBy_306 : decode cX10_checksBy 306 = .ok (.ishl, 1) := by decide +kernel
theorem dX10_checksBy_307 : decode cX10_checksBy 307 = .ok (.goto 4, 3) := by decide +kernel
theorem dX10_checksBy_310 : decode cX10_checksBy 310 = .ok (.iconst 0, 1) := by decide +kernel
theorem dX10_checksBy_311 : decode cX10_checksBy 311 = .ok (.ior, 1) := by decide +kernel
theorem dX10_checksBy_312 : decode cX10_checksBy 312 = .ok (.istore 4, 2) := by decide +kernel
theorem dX10_checksBy_314 : decode cX10_checksBy 314 = .ok (.iload 4, 2) := by decide +kernel
theorem dX10_checksBy_316 : decode cX10_checksBy 316 = .ok (.iload 10, 2) := by decide +kernel
theorem dX10_checksBy_318 : decode cX10_checksBy 318 = .ok (.invokestatic 244, 3) := by decide +kernel
theorem dX10_checksBy_321 : decode cX10_checksBy 321 = .ok (.ifCond .eq 14, 3) := by decide +kernel
theorem dX10_checksBy_324 : decode cX10_checksBy 324 = .ok (.iconst 1, 1) := by decide +kernel
theorem dX10_checksBy_325 : decode cX10_checksBy 325 = .ok (.aload_n 0, 1) := by decide +kernel
theorem dX10_checksBy_326 : decode cX10_checksBy 326 = .ok (.iload 9, 2) := by decide +kernel
theorem dX10_checksBy_328 : decode cX10_checksBy 328 = .ok (.invokevirtual 247, 3) := by decide +kernel
theorem dX10_checksBy_331 : decode cX10_checksBy 331 = .ok (.ishl, 1) := by decide +kernel
theorem dX10_checksBy_332 : decode cX10_checksBy 332 = .ok (.goto 4, 3) := by decide +kernel
theorem dX10_checksBy_335 : decode cX10_checksBy 335 = .ok (.iconst 0, 1) := by decide +kernel
theorem dX10_checksBy_336 : decode cX10_checksBy 336 = .ok (.ior, 1) := by decide +kernel
theorem dX10_checksBy_337 : decode cX10_checksBy 337 = .ok (.istore 4, 2) := by decide +kernel
theorem dX10_checksBy_339 : decode cX10_checksBy 339 = .ok (.iinc 8 1, 3) := by decide +kernel
theorem dX10_checksBy_342 : decode cX10_checksBy 342 = .ok (.goto (-315), 3) := by decide +kernel
theorem dX10_checksBy_345 : decode cX10_checksBy 345 = .ok (.iload_n 2, 1) := by decide +kernel
theorem dX10_checksBy_346 : decode cX10_checksBy 346 = .ok (.ifCond .ne 8, 3) := by decide +kernel
theorem dX10_checksBy_349 : decode cX10_checksBy 349 = .ok (.iload 5, 2) := by decide +kernel
theorem dX10_checksBy_351 : decode cX10_checksBy 351 = .ok (.goto 15, 3) := by decide +kernel
theorem dX10_checksBy_354 : decode cX10_checksBy 354 = .ok (.iload_n 2, 1) := by decide +kernel
theorem dX10_checksBy_355 : decode cX10_checksBy 355 = .ok (.iconst 1, 1) := by decide +kernel
theorem dX10_checksBy_356 : decode cX10_checksBy 356 = .ok (.if_icmp .ne 8, 3) := by decide +kernel
theorem dX10_checksBy_359 : decode cX10_checksBy 359 = .ok (.iload 6, 2) := by decide +kernel
theorem dX10_checksBy_361 : decode cX10_checksBy 361 = .ok (.goto 5, 3) := by decide +kernel
theorem dX10_checksBy_364 : decode cX10_checksBy 364 = .ok (.iload 7, 2) := by decide +kernel
theorem dX10_checksBy_366 : decode cX10_checksBy 366 = .ok (.ireturn, 1) := by decide +kernel
theorem dX10_checksOf_0 : decode cX10_checksOf 0 = .ok (.aload_n 0, 1) := by decide +kernel
theorem dX10_checksOf_1 : decode cX10_checksOf 1 = .ok (.iload_n 1, 1) := by decide +kernel
theorem dX10_checksOf_2 : decode cX10_checksOf 2 = .ok (.invokevirtual 356, 3) := by decide +kernel
theorem dX10_checksOf_5 : decode cX10_checksOf 5 = .ok (.ifCond .eq 24, 3) := by decide +kernel
theorem dX10_checksOf_8 : decode cX10_checksOf 8 = .ok (.iload_n 2, 1) := by decide +kernel
theorem dX10_checksOf_9 : decode cX10_checksOf 9 = .ok (.i2l, 1) := by decide +kernel
theorem dX10_checksOf_10 : decode cX10_checksOf 10 = .ok (.lconst 0, 1) := by decide +kernel
theorem dX10_checksOf_11 : decode cX10_checksOf 11 = .ok (.ldc2_w 99, 3) := by decide +kernel
theorem dX10_checksOf_14 : decode cX10_checksOf 14 = .ok (.invokestatic 86, 3) := by decide +kernel
theorem dX10_checksOf_17 : decode cX10_checksOf 17 = .ok (.ifCond .eq 12, 3) := by decide +kernel
theorem dX10_checksOf_20 : decode cX10_checksOf 20 = .ok (.aload_n 0, 1) := by decide +kernel
theorem dX10_checksOf_21 : decode cX10_checksOf 21 = .ok (.iload_n 1, 1) := by decide +kernel
theorem dX10_checksOf_22 : decode cX10_checksOf 22 = .ok (.iload_n 2, 1) := by decide +kernel
theorem dX10_checksOf_23 : decode cX10_checksOf 23 = .ok (.invokevirtual 382, 3) := by decide +kernel
theorem dX10_checksOf_26 : decode cX10_checksOf 26 = .ok (.goto 5, 3) := by decide +kernel
theorem dX10_checksOf_29 : decode cX10_checksOf 29 = .ok (.bipush (-2), 2) := by decide +kernel
theorem dX10_checksOf_31 : decode cX10_checksOf 31 = .ok (.ireturn, 1) := by decide +kernel
theorem dX10_checks_0 : decode cX10_checks 0 = .ok (.aload_n 0, 1) := by decide +kernel
theorem dX10_checks_1 : decode cX10_checks 1 = .ok (.aload_n 0, 1) := by decide +kernel
theorem dX10_checks_2 : decode cX10_checks 2 = .ok (.getfield 83, 3) := by decide +kernel
theorem dX10_checks_5 : decode cX10_checks 5 = .ok (.invokevirtual 344, 3) := by decide +kernel
theorem dX10_checks_8 : decode cX10_checks 8 = .ok (.aload_n 0, 1) := by decide +kernel
theorem dX10_checks_9 : decode cX10_checks 9 = .ok (.iload_n 1, 1) := by decide +kernel
theorem dX10_checks_10 : decode cX10_checks 10 = .ok (.iload_n 2, 1) := by decide +kernel
theorem dX10_checks_11 : decode cX10_checks 11 = .ok (.invokevirtual 385, 3) := by decide +kernel
theorem dX10_checks_14 : decode cX10_checks 14 = .ok (.ireturn, 1) := by decide +kernel
theorem dX10_snapshotBy_0 : decode cX10_snapshotBy 0 = .ok (.aload_n 0, 1) := by decide +kernel
theorem dX10_snapshotBy_1 : decode cX10_snapshotBy 1 = .ok (.iload_n 1, 1) := by decide +kernel
theorem dX10_snapshotBy_2 : decode cX10_snapshotBy 2 = .ok (.iload_n 2, 1) := by decide +kernel
theorem dX10_snapshotBy_3 : decode cX10_snapshotBy 3 = .ok (.invokevirtual 376, 3) := by decide +kernel
theorem dX10_snapshotBy_6 : decode cX10_snapshotBy 6 = .ok (.istore 4, 2) := by decide +kernel
theorem dX10_snapshotBy_8 : decode cX10_snapshotBy 8 = .ok (.iload_n 3, 1) := by decide +kernel
theorem dX10_snapshotBy_9 : decode cX10_snapshotBy 9 = .ok (.ifCond .ne 8, 3) := by decide +kernel
theorem dX10_snapshotBy_12 : decode cX10_snapshotBy 12 = .ok (.iload 4, 2) := by decide +kernel
theorem dX10_snapshotBy_14 : decode cX10_snapshotBy 14 = .ok (.goto 24, 3) := by decide +kernel
theorem dX10_snapshotBy_17 : decode cX10_snapshotBy 17 = .ok (.iload_n 2, 1) := by decide +kernel
theorem dX10_snapshotBy_18 : decode cX10_snapshotBy 18 = .ok (.ifCond .ne 7, 3) := by decide +kernel
theorem dX10_snapshotBy_21 : decode cX10_snapshotBy 21 = .ok (.iconst 0, 1) := by decide +kernel
theorem dX10_snapshotBy_22 : decode cX10_snapshotBy 22 = .ok (.goto 16, 3) := by decide +kernel
theorem dX10_snapshotBy_25 : decode cX10_snapshotBy 25 = .ok (.iload 4, 2) := by decide +kernel
theorem dX10_snapshotBy_27 : decode cX10_snapshotBy 27 = .ok (.aload_n 0, 1) := by decide +kernel
theorem dX10_snapshotBy_28 : decode cX10_snapshotBy 28 = .ok (.iload_n 1, 1) := by decide +kernel
theorem dX10_snapshotBy_29 : decode cX10_snapshotBy 29 = .ok (.iload_n 2, 1) := by decide +kernel
theorem dX10_snapshotBy_30 : decode cX10_snapshotBy 30 = .ok (.iconst 1, 1) := by decide +kernel
theorem dX10_snapshotBy_31 : decode cX10_snapshotBy 31 = .ok (.isub, 1) := by decide +kernel
theorem dX10_snapshotBy_32 : decode cX10_snapshotBy 32 = .ok (.invokevirtual 376, 3) := by decide +kernel
theorem dX10_snapshotBy_35 : decode cX10_snapshotBy 35 = .ok (.iconst (-1), 1) := by decide +kernel
theorem dX10_snapshotBy_36 : decode cX10_snapshotBy 36 = .ok (.ixor, 1) := by decide +kernel
theorem dX10_snapshotBy_37 : decode cX10_snapshotBy 37 = .ok (.iand, 1) := by decide +kernel
theorem dX10_snapshotBy_38 : decode cX10_snapshotBy 38 = .ok (.ireturn, 1) := by decide +kernel
theorem dX10_snapshotOf_0 : decode cX10_snapshotOf 0 = .ok (.aload_n 0, 1) := by decide +kernel
theorem dX10_snapshotOf_1 : decode cX10_snapshotOf 1 = .ok (.iload_n 1, 1) := by decide +kernel
theorem dX10_snapshotOf_2 : decode cX10_snapshotOf 2 = .ok (.iload_n 2, 1) := by decide +kernel
theorem dX10_snapshotOf_3 : decode cX10_snapshotOf 3 = .ok (.invokevirtual 367, 3) := by decide +kernel
theorem dX10_snapshotOf_6 : decode cX10_snapshotOf 6 = .ok (.ifCond .eq 20, 3) := by decide +kernel
theorem dX10_snapshotOf_9 : decode cX10_snapshotOf 9 = .ok (.iload_n 3, 1) := by decide +kernel
theorem dX10_snapshotOf_10 : decode cX10_snapshotOf 10 = .ok (.invokestatic 175, 3) := by decide +kernel
theorem dX10_snapshotOf_13 : decode cX10_snapshotOf 13 = .ok (.ifCond .eq 13, 3) := by decide +kernel
theorem dX10_snapshotOf_16 : decode cX10_snapshotOf 16 = .ok (.aload_n 0, 1) := by decide +kernel
theorem dX10_snapshotOf_17 : decode cX10_snapshotOf 17 = .ok (.iload_n 1, 1) := by decide +kernel
theorem dX10_snapshotOf_18 : decode cX10_snapshotOf 18 = .ok (.iload_n 2, 1) := by decide +kernel
theorem dX10_snapshotOf_19 : decode cX10_snapshotOf 19 = .ok (.iload_n 3, 1) := by decide +kernel
theorem dX10_snapshotOf_20 : decode cX10_snapshotOf 20 = .ok (.invokevirtual 388, 3) := by decide +kernel
theorem dX10_snapshotOf_23 : decode cX10_snapshotOf 23 = .ok (.goto 5, 3) := by decide +kernel
theorem dX10_snapshotOf_26 : decode cX10_snapshotOf 26 = .ok (.bipush (-2), 2) := by decide +kernel
theorem dX10_snapshotOf_28 : decode cX10_snapshotOf 28 = .ok (.ireturn, 1) := by decide +kernel
theorem dX10_snapshot_0 : decode cX10_snapshot 0 = .ok (.aload_n 0, 1) := by decide +kernel
theorem dX10_snapshot_1 : decode cX10_snapshot 1 = .ok (.aload_n 0, 1) := by decide +kernel
theorem dX10_snapshot_2 : decode cX10_snapshot 2 = .ok (.getfield 83, 3) := by decide +kernel
theorem dX10_snapshot_5 : decode cX10_snapshot 5 = .ok (.invokevirtual 344, 3) := by decide +kernel
theorem dX10_snapshot_8 : decode cX10_snapshot 8 = .ok (.aload_n 0, 1) := by decide +kernel
theorem dX10_snapshot_9 : decode cX10_snapshot 9 = .ok (.iload_n 1, 1) := by decide +kernel
theorem dX10_snapshot_10 : decode cX10_snapshot 10 = .ok (.iload_n 2, 1) := by decide +kernel
theorem dX10_snapshot_11 : decode cX10_snapshot 11 = .ok (.iload_n 3, 1) := by decide +kernel
theorem dX10_snapshot_12 : decode cX10_snapshot 12 = .ok (.invokevirtual 391, 3) := by decide +kernel
theorem dX10_snapshot_15 : decode cX10_snapshot 15 = .ok (.ireturn, 1) := by decide +kernel
theorem dX10_writesOf_0 : decode cX10_writesOf 0 = .ok (.aload_n 0, 1) := by decide +kernel
theorem dX10_writesOf_1 : decode cX10_writesOf 1 = .ok (.iload_n 1, 1) := by decide +kernel
theorem dX10_writesOf_2 : decode cX10_writesOf 2 = .ok (.invokevirtual 356, 3) := by decide +kernel
theorem dX10_writesOf_5 : decode cX10_writesOf 5 = .ok (.ifCond .eq 17, 3) := by decide +kernel
theorem dX10_writesOf_8 : decode cX10_writesOf 8 = .ok (.aload_n 0, 1) := by decide +kernel
theorem dX10_writesOf_9 : decode cX10_writesOf 9 = .ok (.iload_n 1, 1) := by decide +kernel
theorem dX10_writesOf_10 : decode cX10_writesOf 10 = .ok (.aload_n 0, 1) := by decide +kernel
theorem dX10_writesOf_11 : decode cX10_writesOf 11 = .ok (.getfield 52, 3) := by decide +kernel
theorem dX10_writesOf_14 : decode cX10_writesOf 14 = .ok (.iload_n 1, 1) := by decide +kernel
theorem dX10_writesOf_15 : decode cX10_writesOf 15 = .ok (.iaload, 1) := by decide +kernel
theorem dX10_writesOf_16 : decode cX10_writesOf 16 = .ok (.invokevirtual 376, 3) := by decide +kernel
theorem dX10_writesOf_19 : decode cX10_writesOf 19 = .ok (.goto 5, 3) := by decide +kernel
theorem dX10_writesOf_22 : decode cX10_writesOf 22 = .ok (.bipush (-2), 2) := by decide +kernel
theorem dX10_writesOf_24 : decode cX10_writesOf 24 = .ok (.ireturn, 1) := by decide +kernel
theorem dX10_writes_0 : decode cX10_writes 0 = .ok (.aload_n 0, 1) := by decide +kernel
theorem dX10_writes_1 : decode cX10_writes 1 = .ok (.aload_n 0, 1) := by decide +kernel
theorem dX10_writes_2 : decode cX10_writes 2 = .ok (.getfield 83, 3) := by decide +kernel
theorem dX10_writes_5 : decode cX10_writes 5 = .ok (.invokevirtual 344, 3) := by decide +kernel
theorem dX10_writes_8 : decode cX10_writes 8 = .ok (.aload_n 0, 1) := by decide +kernel
theorem dX10_writes_9 : decode cX10_writes 9 = .ok (.iload_n 1, 1) := by decide +kernel
theorem dX10_writes_10 : decode cX10_writes 10 = .ok (.invokevirtual 394, 3) := by decide +kernel
theorem dX10_writes_13 : decode cX10_writes 13 = .ok (.ireturn, 1) := by decide +kernel
theorem dX10_betterBy_0 : decode cX10_betterBy 0 = .ok (.iconst (-1), 1) := by decide +kernel
theorem dX10_betterBy_1 : decode cX10_betterBy 1 = .ok (.istore_n 2, 1) := by decide +kernel
theorem dX10_betterBy_2 : decode cX10_betterBy 2 = .ok (.iconst (-1), 1) := by decide +kernel
theorem dX10_betterBy_3 : decode cX10_betterBy 3 = .ok (.istore_n 3, 1) := by decide +kernel
theorem dX10_betterBy_4 : decode cX10_betterBy 4 = .ok (.iconst 2, 1) := by decide +kernel
theorem dX10_betterBy_5 : decode cX10_betterBy 5 = .ok (.istore 4, 2) := by decide +kernel
theorem dX10_betterBy_7 : decode cX10_betterBy 7 = .ok (.iload 4, 2) := by decide +kernel
theorem dX10_betterBy_9 : decode cX10_betterBy 9 = .ok (.bipush 10, 2) := by decide +kernel
theorem dX10_betterBy_11 : decode cX10_betterBy 11 = .ok (.if_icmp .ge 39, 3) := by decide +kernel
theorem dX10_betterBy_14 : decode cX10_betterBy 14 = .ok (.aload_n 0, 1) := by decide +kernel
theorem dX10_betterBy_15 : decode cX10_betterBy 15 = .ok (.iload 4, 2) := by decide +kernel
theorem dX10_betterBy_17 : decode cX10_betterBy 17 = .ok (.invokevirtual 344, 3) := by decide +kernel
theorem dX10_betterBy_20 : decode cX10_betterBy 20 = .ok (.aload_n 0, 1) := by decide +kernel
theorem dX10_betterBy_21 : decode cX10_betterBy 21 = .ok (.getfield 307, 3) := by decide +kernel
theorem dX10_betterBy_24 : decode cX10_betterBy 24 = .ok (.iload_n 3, 1) := by decide +kernel
theorem dX10_betterBy_25 : decode cX10_betterBy 25 = .ok (.if_icmp .le 8, 3) := by decide +kernel
theorem dX10_betterBy_28 : decode cX10_betterBy 28 = .ok (.iload 4, 2) := by decide +kernel
theorem dX10_betterBy_30 : decode cX10_betterBy 30 = .ok (.goto 4, 3) := by decide +kernel
theorem dX10_betterBy_33 : decode cX10_betterBy 33 = .ok (.iload_n 2, 1) := by decide +kernel
theorem dX10_betterBy_34 : decode cX10_betterBy 34 = .ok (.istore_n 2, 1) := by decide +kernel
theorem dX10_betterBy_35 : decode cX10_betterBy 35 = .ok (.aload_n 0, 1) := by decide +kernel
theorem dX10_betterBy_36 : decode cX10_betterBy 36 = .ok (.getfield 307, 3) := by decide +kernel
theorem dX10_betterBy_39 : decode cX10_betterBy 39 = .ok (.iload_n 3, 1) := by decide +kernel
theorem dX10_betterBy_40 : decode cX10_betterBy 40 = .ok (.invokestatic 397, 3) := by decide +kernel
theorem dX10_betterBy_43 : decode cX10_betterBy 43 = .ok (.istore_n 3, 1) := by decide +kernel
theorem dX10_betterBy_44 : decode cX10_betterBy 44 = .ok (.iinc 4 1, 3) := by decide +kernel
theorem dX10_betterBy_47 : decode cX10_betterBy 47 = .ok (.goto (-40), 3) := by decide +kernel
theorem dX10_betterBy_50 : decode cX10_betterBy 50 = .ok (.iload_n 1, 1) := by decide +kernel
theorem dX10_betterBy_51 : decode cX10_betterBy 51 = .ok (.ifCond .ne 7, 3) := by decide +kernel
theorem dX10_betterBy_54 : decode cX10_betterBy 54 = .ok (.iload_n 2, 1) := by decide +kernel
theorem dX10_betterBy_55 : decode cX10_betterBy 55 = .ok (.goto 4, 3) := by decide +kernel
theorem dX10_betterBy_58 : decode cX10_betterBy 58 = .ok (.iload_n 3, 1) := by decide +kernel
theorem dX10_betterBy_59 : decode cX10_betterBy 59 = .ok (.ireturn, 1) := by decide +kernel
theorem dX10_better_0 : decode cX10_better 0 = .ok (.iload_n 1, 1) := by decide +kernel
theorem dX10_better_1 : decode cX10_better 1 = .ok (.invokestatic 175, 3) := by decide +kernel
theorem dX10_better_4 : decode cX10_better 4 = .ok (.ifCond .eq 11, 3) := by decide +kernel
theorem dX10_better_7 : decode cX10_better 7 = .ok (.aload_n 0, 1) := by decide +kernel
theorem dX10_better_8 : decode cX10_better 8 = .ok (.iload_n 1, 1) := by decide +kernel
theorem dX10_better_9 : decode cX10_better 9 = .ok (.invokevirtual 400, 3) := by decide +kernel
theorem dX10_better_12 : decode cX10_better 12 = .ok (.goto 5, 3) := by decide +kernel
theorem dX10_better_15 : decode cX10_better 15 = .ok (.bipush (-2), 2) := by decide +kernel
theorem dX10_better_17 : decode cX10_better 17 = .ok (.ireturn, 1) := by decide +kernel
theorem dX10_write_0 : decode cX10_write 0 = .ok (.aload_n 0, 1) := by decide +kernel
theorem dX10_write_1 : decode cX10_write 1 = .ok (.aload_n 0, 1) := by decide +kernel
theorem dX10_write_2 : decode cX10_write 2 = .ok (.getfield 83, 3) := by decide +kernel
theorem dX10_write_5 : decode cX10_write 5 = .ok (.invokevirtual 344, 3) := by decide +kernel
theorem dX10_write_8 : decode cX10_write 8 = .ok (.aload_n 0, 1) := by decide +kernel
theorem dX10_write_9 : decode cX10_write 9 = .ok (.iload_n 1, 1) := by decide +kernel
theorem dX10_write_10 : decode cX10_write 10 = .ok (.invokevirtual 356, 3) := by decide +kernel
theorem dX10_write_13 : decode cX10_write 13 = .ok (.ifCond .eq 10, 3) := by decide +kernel
theorem dX10_write_16 : decode cX10_write 16 = .ok (.iload_n 2, 1) := by decide +kernel
theorem dX10_write_17 : decode cX10_write 17 = .ok (.invokestatic 95, 3) := by decide +kernel
theorem dX10_write_20 : decode cX10_write 20 = .ok (.ifCond .ne 6, 3) := by decide +kernel
theorem dX10_write_23 : decode cX10_write 23 = .ok (.bipush (-2), 2) := by decide +kernel
theorem dX10_write_25 : decode cX10_write 25 = .ok (.ireturn, 1) := by decide +kernel
theorem dX10_write_26 : decode cX10_write 26 = .ok (.aload_n 0, 1) := by decide +kernel
theorem dX10_write_27 : decode cX10_write 27 = .ok (.getfield 7, 3) := by decide +kernel
theorem dX10_write_30 : decode cX10_write 30 = .ok (.iload_n 2, 1) := by decide +kernel
theorem dX10_write_31 : decode cX10_write 31 = .ok (.iaload, 1) := by decide +kernel
theorem dX10_write_32 : decode cX10_write 32 = .ok (.ifCond .ge 9, 3) := by decide +kernel
theorem dX10_write_35 : decode cX10_write 35 = .ok (.aload_n 0, 1) := by decide +kernel
theorem dX10_write_36 : decode cX10_write 36 = .ok (.iconst 1, 1) := by decide +kernel
theorem dX10_write_37 : decode cX10_write 37 = .ok (.invokevirtual 101, 3) := by decide +kernel
theorem dX10_write_40 : decode cX10_write 40 = .ok (.ireturn, 1) := by decide +kernel
theorem dX10_write_41 : decode cX10_write 41 = .ok (.aload_n 0, 1) := by decide +kernel
theorem dX10_write_42 : decode cX10_write 42 = .ok (.getfield 13, 3) := by decide +kernel
theorem dX10_write_45 : decode cX10_write 45 = .ok (.iload_n 2, 1) := by decide +kernel
theorem dX10_write_46 : decode cX10_write 46 = .ok (.iaload, 1) := by decide +kernel
theorem dX10_write_47 : decode cX10_write 47 = .ok (.aload_n 0, 1) := by decide +kernel
theorem dX10_write_48 : decode cX10_write 48 = .ok (.getfield 52, 3) := by decide +kernel
theorem dX10_write_51 : decode cX10_write 51 = .ok (.iload_n 1, 1) := by decide +kernel
theorem dX10_write_52 : decode cX10_write 52 = .ok (.iaload, 1) := by decide +kernel
theorem dX10_write_53 : decode cX10_write 53 = .ok (.invokestatic 403, 3) := by decide +kernel
theorem dX10_write_56 : decode cX10_write 56 = .ok (.istore_n 3, 1) := by decide +kernel
theorem dX10_write_57 : decode cX10_write 57 = .ok (.iconst 0, 1) := by decide +kernel
theorem dX10_write_58 : decode cX10_write 58 = .ok (.istore 4, 2) := by decide +kernel
theorem dX10_write_60 : decode cX10_write 60 = .ok (.iload 4, 2) := by decide +kernel
theorem dX10_write_62 : decode cX10_write 62 = .ok (.iload_n 3, 1) := by decide +kernel
theorem dX10_write_63 : decode cX10_write 63 = .ok (.if_icmp .ge 42, 3) := by decide +kernel
theorem dX10_write_66 : decode cX10_write 66 = .ok (.aload_n 0, 1) := by decide +kernel
theorem dX10_write_67 : decode cX10_write 67 = .ok (.getfield 16, 3) := by decide +kernel
theorem dX10_write_70 : decode cX10_write 70 = .ok (.bipush 60, 2) := by decide +kernel
theorem dX10_write_72 : decode cX10_write 72 = .ok (.iload_n 2, 1) := by decide +kernel
theorem dX10_write_73 : decode cX10_write 73 = .ok (.imul, 1) := by decide +kernel
theorem dX10_write_74 : decode cX10_write 74 = .ok (.iload 4, 2) := by decide +kernel
theorem dX10_write_76 : decode cX10_write 76 = .ok (.iadd, 1) := by decide +kernel
theorem dX10_write_77 : decode cX10_write 77 = .ok (.aload_n 0, 1) := by decide +kernel
theorem dX10_write_78 : decode cX10_write 78 = .ok (.getfield 7, 3) := by decide +kernel
theorem dX10_write_81 : decode cX10_write 81 = .ok (.iload_n 2, 1) := by decide +kernel
theorem dX10_write_82 : decode cX10_write 82 = .ok (.iaload, 1) := by decide +kernel
theorem dX10_write_83 : decode cX10_write 83 = .ok (.aload_n 0, 1) := by decide +kernel
theorem dX10_write_84 : decode cX10_write 84 = .ok (.getfield 58, 3) := by decide +kernel
theorem dX10_write_87 : decode cX10_write 87 = .ok (.bipush 16, 2) := by decide +kernel
theorem dX10_write_89 : decode cX10_write 89 = .ok (.iload_n 1, 1) := by decide +kernel
theorem dX10_write_90 : decode cX10_write 90 = .ok (.imul, 1) := by decide +kernel
theorem dX10_write_91 : decode cX10_write 91 = .ok (.iload 4, 2) := by decide +kernel
theorem dX10_write_93 : decode cX10_write 93 = .ok (.iadd, 1) := by decide +kernel
theorem dX10_write_94 : decode cX10_write 94 = .ok (.iaload, 1) := by decide +kernel
theorem dX10_write_95 : decode cX10_write 95 = .ok (.invokestatic 109, 3) := by decide +kernel
theorem dX10_write_98 : decode cX10_write 98 = .ok (.iastore, 1) := by decide +kernel
theorem dX10_write_99 : decode cX10_write 99 = .ok (.iinc 4 1, 3) := by decide +kernel
theorem dX10_write_102 : decode cX10_write 102 = .ok (.goto (-42), 3) := by decide +kernel
theorem dX10_write_105 : decode cX10_write 105 = .ok (.iload_n 3, 1) := by decide +kernel
theorem dX10_write_106 : decode cX10_write 106 = .ok (.ireturn, 1) := by decide +kernel
theorem dX10_allEntries_0 : decode cX10_allEntries 0 = .ok (.iconst 0, 1) := by decide +kernel
theorem dX10_allEntries_1 : decode cX10_allEntries 1 = .ok (.istore_n 1, 1) := by decide +kernel
theorem dX10_allEntries_2 : decode cX10_allEntries 2 = .ok (.iconst 0, 1) := by decide +kernel
theorem dX10_allEntries_3 : decode cX10_allEntries 3 = .ok (.istore_n 2, 1) := by decide +kernel
theorem dX10_allEntries_4 : decode cX10_allEntries 4 = .ok (.iload_n 2, 1) := by decide +kernel
theorem dX10_allEntries_5 : decode cX10_allEntries 5 = .ok (.aload_n 0, 1) := by decide +kernel
theorem dX10_allEntries_6 : decode cX10_allEntries 6 = .ok (.getfield 253, 3) := by decide +kernel
theorem dX10_allEntries_9 : decode cX10_allEntries 9 = .ok (.if_icmp .ge 18, 3) := by decide +kernel
theorem dX10_allEntries_12 : decode cX10_allEntries 12 = .ok (.iload_n 1, 1) := by decide +kernel
theorem dX10_allEntries_13 : decode cX10_allEntries 13 = .ok (.aload_n 0, 1) := by decide +kernel
theorem dX10_allEntries_14 : decode cX10_allEntries 14 = .ok (.getfield 52, 3) := by decide +kernel
theorem dX10_allEntries_17 : decode cX10_allEntries 17 = .ok (.iload_n 2, 1) := by decide +kernel
theorem dX10_allEntries_18 : decode cX10_allEntries 18 = .ok (.iaload, 1) := by decide +kernel
theorem dX10_allEntries_19 : decode cX10_allEntries 19 = .ok (.iadd, 1) := by decide +kernel
theorem dX10_allEntries_20 : decode cX10_allEntries 20 = .ok (.istore_n 1, 1) := by decide +kernel
theorem dX10_allEntries_21 : decode cX10_allEntries 21 = .ok (.iinc 2 1, 3) := by decide +kernel
theorem dX10_allEntries_24 : decode cX10_allEntries 24 = .ok (.goto (-20), 3) := by decide +kernel
theorem dX10_allEntries_27 : decode cX10_allEntries 27 = .ok (.iload_n 1, 1) := by decide +kernel
theorem dX10_allEntries_28 : decode cX10_allEntries 28 = .ok (.ireturn, 1) := by decide +kernel
theorem dX10_count_0 : decode cX10_count 0 = .ok (.aload_n 0, 1) := by decide +kernel
theorem dX10_count_1 : decode cX10_count 1 = .ok (.aload_n 0, 1) := by decide +kernel
theorem dX10_count_2 : decode cX10_count 2 = .ok (.getfield 83, 3) := by decide +kernel
theorem dX10_count_5 : decode cX10_count 5 = .ok (.invokevirtual 344, 3) := by decide +kernel
theorem dX10_count_8 : decode cX10_count 8 = .ok (.iload_n 1, 1) := by decide +kernel
theorem dX10_count_9 : decode cX10_count 9 = .ok (.tableswitch 89 0 8 #[51, 56, 61, 66, 71, 71, 71, 79, 84], 51) := by decide +kernel
theorem dX10_count_60 : decode cX10_count 60 = .ok (.aload_n 0, 1) := by decide +kernel
theorem dX10_count_61 : decode cX10_count 61 = .ok (.getfield 162, 3) := by decide +kernel
theorem dX10_count_64 : decode cX10_count 64 = .ok (.ireturn, 1) := by decide +kernel
theorem dX10_count_65 : decode cX10_count 65 = .ok (.aload_n 0, 1) := by decide +kernel
theorem dX10_count_66 : decode cX10_count 66 = .ok (.getfield 79, 3) := by decide +kernel
theorem dX10_count_69 : decode cX10_count 69 = .ok (.ireturn, 1) := by decide +kernel
theorem dX10_count_70 : decode cX10_count 70 = .ok (.aload_n 0, 1) := by decide +kernel
theorem dX10_count_71 : decode cX10_count 71 = .ok (.getfield 83, 3) := by decide +kernel
theorem dX10_count_74 : decode cX10_count 74 = .ok (.ireturn, 1) := by decide +kernel
theorem dX10_count_75 : decode cX10_count 75 = .ok (.aload_n 0, 1) := by decide +kernel
theorem dX10_count_76 : decode cX10_count 76 = .ok (.getfield 253, 3) := by decide +kernel
theorem dX10_count_79 : decode cX10_count 79 = .ok (.ireturn, 1) := by decide +kernel
theorem dX10_count_80 : decode cX10_count 80 = .ok (.aload_n 0, 1) := by decide +kernel
theorem dX10_count_81 : decode cX10_count 81 = .ok (.iload_n 1, 1) := by decide +kernel
theorem dX10_count_82 : decode cX10_count 82 = .ok (.iconst 2, 1) := by decide +kernel
theorem dX10_count_83 : decode cX10_count 83 = .ok (.isub, 1) := by decide +kernel
theorem dX10_count_84 : decode cX10_count 84 = .ok (.invokevirtual 350, 3) := by decide +kernel
theorem dX10_count_87 : decode cX10_count 87 = .ok (.ireturn, 1) := by decide +kernel
theorem dX10_count_88 : decode cX10_count 88 = .ok (.aload_n 0, 1) := by decide +kernel
theorem dX10_count_89 : decode cX10_count 89 = .ok (.invokevirtual 406, 3) := by decide +kernel
theorem dX10_count_92 : decode cX10_count 92 = .ok (.ireturn, 1) := by decide +kernel
theorem dX10_count_93 : decode cX10_count 93 = .ok (.aload_n 0, 1) := by decide +kernel
theorem dX10_count_94 : decode cX10_count 94 = .ok (.getfield 90, 3) := by decide +kernel
theorem dX10_count_97 : decode cX10_count 97 = .ok (.ireturn, 1) := by decide +kernel
theorem dX10_count_98 : decode cX10_count 98 = .ok (.bipush (-2), 2) := by decide +kernel
theorem dX10_count_100 : decode cX10_count 100 = .ok (.ireturn, 1) := by decide +kernel
theorem dX10_tellsTrace_0 : decode cX10_tellsTrace 0 = .ok (.lload_n 1, 1) := by decide +kernel
theorem dX10_tellsTrace_1 : decode cX10_tellsTrace 1 = .ok (.lstore 4, 2) := by decide +kernel
theorem dX10_tellsTrace_3 : decode cX10_tellsTrace 3 = .ok (.iconst 0, 1) := by decide +kernel
theorem dX10_tellsTrace_4 : decode cX10_tellsTrace 4 = .ok (.istore 6, 2) := by decide +kernel
theorem dX10_tellsTrace_6 : decode cX10_tellsTrace 6 = .ok (.iload 6, 2) := by decide +kernel
theorem dX10_tellsTrace_8 : decode cX10_tellsTrace 8 = .ok (.iconst 5, 1) := by decide +kernel
theorem dX10_tellsTrace_9 : decode cX10_tellsTrace 9 = .ok (.if_icmp .ge 26, 3) := by decide +kernel
theorem dX10_tellsTrace_12 : decode cX10_tellsTrace 12 = .ok (.ldc2_w 410, 3) := by decide +kernel
theorem dX10_tellsTrace_15 : decode cX10_tellsTrace 15 = .ok (.lload 4, 2) := by decide +kernel
theorem dX10_tellsTrace_17 : decode cX10_tellsTrace 17 = .ok (.lmul, 1) := by decide +kernel
theorem dX10_tellsTrace_18 : decode cX10_tellsTrace 18 = .ok (.aload_n 0, 1) := by decide +kernel
theorem dX10_tellsTrace_19 : decode cX10_tellsTrace 19 = .ok (.iload_n 3, 1) := by decide +kernel
theorem dX10_tellsTrace_20 : decode cX10_tellsTrace 20 = .ok (.iload 6, 2) := by decide +kernel
theorem dX10_tellsTrace_22 : decode cX10_tellsTrace 22 = .ok (.invokevirtual 364, 3) := by decide +kernel
theorem dX10_tellsTrace_25 : decode cX10_tellsTrace 25 = .ok (.i2l, 1) := by decide +kernel
theorem dX10_tellsTrace_26 : decode cX10_tellsTrace 26 = .ok (.ladd, 1) := by decide +kernel
theorem dX10_tellsTrace_27 : decode cX10_tellsTrace 27 = .ok (.lstore 4, 2) := by decide +kernel
theorem dX10_tellsTrace_29 : decode cX10_tellsTrace 29 = .ok (.iinc 6 1, 3) := by decide +kernel
theorem dX10_tellsTrace_32 : decode cX10_tellsTrace 32 = .ok (.goto (-26), 3) := by decide +kernel
theorem dX10_tellsTrace_35 : decode cX10_tellsTrace 35 = .ok (.iconst 0, 1) := by decide +kernel
theorem dX10_tellsTrace_36 : decode cX10_tellsTrace 36 = .ok (.istore 6, 2) := by decide +kernel
theorem dX10_tellsTrace_38 : decode cX10_tellsTrace 38 = .ok (.iload 6, 2) := by decide +kernel
theorem dX10_tellsTrace_40 : decode cX10_tellsTrace 40 = .ok (.iconst 3, 1) := by decide +kernel
theorem dX10_tellsTrace_41 : decode cX10_tellsTrace 41 = .ok (.if_icmp .ge 26, 3) := by decide +kernel
theorem dX10_tellsTrace_44 : decode cX10_tellsTrace 44 = .ok (.ldc2_w 410, 3) := by decide +kernel
theorem dX10_tellsTrace_47 : decode cX10_tellsTrace 47 = .ok (.lload 4, 2) := by decide +kernel
theorem dX10_tellsTrace_49 : decode cX10_tellsTrace 49 = .ok (.lmul, 1) := by decide +kernel
theorem dX10_tellsTrace_50 : decode cX10_tellsTrace 50 = .ok (.aload_n 0, 1) := by decide +kernel
theorem dX10_tellsTrace_51 : decode cX10_tellsTrace 51 = .ok (.iload_n 3, 1) := by decide +kernel
theorem dX10_tellsTrace_52 : decode cX10_tellsTrace 52 = .ok (.iload 6, 2) := by decide +kernel
theorem dX10_tellsTrace_54 : decode cX10_tellsTrace 54 = .ok (.invokevirtual 385, 3) := by decide +kernel
theorem dX10_tellsTrace_57 : decode cX10_tellsTrace 57 = .ok (.i2l, 1) := by decide +kernel
theorem dX10_tellsTrace_58 : decode cX10_tellsTrace 58 = .ok (.ladd, 1) := by decide +kernel
theorem dX10_tellsTrace_59 : decode cX10_tellsTrace 59 = .ok (.lstore 4, 2) := by decide +kernel
theorem dX10_tellsTrace_61 : decode cX10_tellsTrace 61 = .ok (.iinc 6 1, 3) := by decide +kernel
theorem dX10_tellsTrace_64 : decode cX10_tellsTrace 64 = .ok (.goto (-26), 3) := by decide +kernel
theorem dX10_tellsTrace_67 : decode cX10_tellsTrace 67 = .ok (.ldc2_w 410, 3) := by decide +kernel
theorem dX10_tellsTrace_70 : decode cX10_tellsTrace 70 = .ok (.lload 4, 2) := by decide +kernel
theorem dX10_tellsTrace_72 : decode cX10_tellsTrace 72 = .ok (.lmul, 1) := by decide +kernel
theorem dX10_tellsTrace_73 : decode cX10_tellsTrace 73 = .ok (.aload_n 0, 1) := by decide +kernel
theorem dX10_tellsTrace_74 : decode cX10_tellsTrace 74 = .ok (.iload_n 3, 1) := by decide +kernel
theorem dX10_tellsTrace_75 : decode cX10_tellsTrace 75 = .ok (.invokevirtual 394, 3) := by decide +kernel
theorem dX10_tellsTrace_78 : decode cX10_tellsTrace 78 = .ok (.i2l, 1) := by decide +kernel
theorem dX10_tellsTrace_79 : decode cX10_tellsTrace 79 = .ok (.ladd, 1) := by decide +kernel
theorem dX10_tellsTrace_80 : decode cX10_tellsTrace 80 = .ok (.lstore 4, 2) := by decide +kernel
theorem dX10_tellsTrace_82 : decode cX10_tellsTrace 82 = .ok (.iconst 0, 1) := by decide +kernel
theorem dX10_tellsTrace_83 : decode cX10_tellsTrace 83 = .ok (.istore 6, 2) := by decide +kernel
theorem dX10_tellsTrace_85 : decode cX10_tellsTrace 85 = .ok (.iload 6, 2) := by decide +kernel
theorem dX10_tellsTrace_87 : decode cX10_tellsTrace 87 = .ok (.bipush 16, 2) := by decide +kernel
theorem dX10_tellsTrace_89 : decode cX10_tellsTrace 89 = .ok (.if_icmp .ge 78, 3) := by decide +kernel
theorem dX10_tellsTrace_92 : decode cX10_tellsTrace 92 = .ok (.iconst 0, 1) := by decide +kernel
theorem dX10_tellsTrace_93 : decode cX10_tellsTrace 93 = .ok (.istore 7, 2) := by decide +kernel
theorem dX10_tellsTrace_95 : decode cX10_tellsTrace 95 = .ok (.iload 7, 2) := by decide +kernel
theorem dX10_tellsTrace_97 : decode cX10_tellsTrace 97 = .ok (.bipush 6, 2) := by decide +kernel
theorem dX10_tellsTrace_99 : decode cX10_tellsTrace 99 = .ok (.if_icmp .ge 28, 3) := by decide +kernel
theorem dX10_tellsTrace_102 : decode cX10_tellsTrace 102 = .ok (.ldc2_w 410, 3) := by decide +kernel
theorem dX10_tellsTrace_105 : decode cX10_tellsTrace 105 = .ok (.lload 4, 2) := by decide +kernel
theorem dX10_tellsTrace_107 : decode cX10_tellsTrace 107 = .ok (.lmul, 1) := by decide +kernel
theorem dX10_tellsTrace_108 : decode cX10_tellsTrace 108 = .ok (.aload_n 0, 1) := by decide +kernel
theorem dX10_tellsTrace_109 : decode cX10_tellsTrace 109 = .ok (.iload_n 3, 1) := by decide +kernel
theorem dX10_tellsTrace_110 : decode cX10_tellsTrace 110 = .ok (.iload 6, 2) := by decide +kernel
theorem dX10_tellsTrace_112 : decode cX10_tellsTrace 112 = .ok (.iload 7, 2) := by decide +kernel
theorem dX10_tellsTrace_114 : decode cX10_tellsTrace 114 = .ok (.invokevirtual 373, 3) := by decide +kernel
theorem dX10_tellsTrace_117 : decode cX10_tellsTrace 117 = .ok (.i2l, 1) := by decide +kernel
theorem dX10_tellsTrace_118 : decode cX10_tellsTrace 118 = .ok (.ladd, 1) := by decide +kernel
theorem dX10_tellsTrace_119 : decode cX10_tellsTrace 119 = .ok (.lstore 4, 2) := by decide +kernel
theorem dX10_tellsTrace_121 : decode cX10_tellsTrace 121 = .ok (.iinc 7 1, 3) := by decide +kernel
theorem dX10_tellsTrace_124 : decode cX10_tellsTrace 124 = .ok (.goto (-29), 3) := by decide +kernel
theorem dX10_tellsTrace_127 : decode cX10_tellsTrace 127 = .ok (.iconst 0, 1) := by decide +kernel
theorem dX10_tellsTrace_128 : decode cX10_tellsTrace 128 = .ok (.istore 7, 2) := by decide +kernel
theorem dX10_tellsTrace_130 : decode cX10_tellsTrace 130 = .ok (.iload 7, 2) := by decide +kernel
theorem dX10_tellsTrace_132 : decode cX10_tellsTrace 132 = .ok (.iconst 2, 1) := by decide +kernel
theorem dX10_tellsTrace_133 : decode cX10_tellsTrace 133 = .ok (.if_icmp .ge 28, 3) := by decide +kernel
theorem dX10_tellsTrace_136 : decode cX10_tellsTrace 136 = .ok (.ldc2_w 410, 3) := by decide +kernel
theorem dX10_tellsTrace_139 : decode cX10_tellsTrace 139 = .ok (.lload 4, 2) := by decide +kernel
theorem dX10_tellsTrace_141 : decode cX10_tellsTrace 141 = .ok (.lmul, 1) := by decide +kernel
theorem dX10_tellsTrace_142 : decode cX10_tellsTrace 142 = .ok (.aload_n 0, 1) := by decide +kernel
theorem dX10_tellsTrace_143 : decode cX10_tellsTrace 143 = .ok (.iload_n 3, 1) := by decide +kernel
theorem dX10_tellsTrace_144 : decode cX10_tellsTrace 144 = .ok (.iload 6, 2) := by decide +kernel
theorem dX10_tellsTrace_146 : decode cX10_tellsTrace 146 = .ok (.iload 7, 2) := by decide +kernel
theorem dX10_tellsTrace_148 : decode cX10_tellsTrace 148 = .ok (.invokevirtual 391, 3) := by decide +kernel
theorem dX10_tellsTrace_151 : decode cX10_tellsTrace 151 = .ok (.i2l, 1) := by decide +kernel
theorem dX10_tellsTrace_152 : decode cX10_tellsTrace 152 = .ok (.ladd, 1) := by decide +kernel
theorem dX10_tellsTrace_153 : decode cX10_tellsTrace 153 = .ok (.lstore 4, 2) := by decide +kernel
theorem dX10_tellsTrace_155 : decode cX10_tellsTrace 155 = .ok (.iinc 7 1, 3) := by decide +kernel
theorem dX10_tellsTrace_158 : decode cX10_tellsTrace 158 = .ok (.goto (-28), 3) := by decide +kernel
theorem dX10_tellsTrace_161 : decode cX10_tellsTrace 161 = .ok (.iinc 6 1, 3) := by decide +kernel
theorem dX10_tellsTrace_164 : decode cX10_tellsTrace 164 = .ok (.goto (-79), 3) := by decide +kernel
theorem dX10_tellsTrace_167 : decode cX10_tellsTrace 167 = .ok (.lload 4, 2) := by decide +kernel
theorem dX10_tellsTrace_169 : decode cX10_tellsTrace 169 = .ok (.lreturn, 1) := by decide +kernel
theorem dX10_digest_0 : decode cX10_digest 0 = .ok (.ldc2_w 412, 3) := by decide +kernel
theorem dX10_digest_3 : decode cX10_digest 3 = .ok (.lstore_n 1, 1) := by decide +kernel
theorem dX10_digest_4 : decode cX10_digest 4 = .ok (.iconst 0, 1) := by decide +kernel
theorem dX10_digest_5 : decode cX10_digest 5 = .ok (.istore_n 3, 1) := by decide +kernel
theorem dX10_digest_6 : decode cX10_digest 6 = .ok (.iload_n 3, 1) := by decide +kernel
theorem dX10_digest_7 : decode cX10_digest 7 = .ok (.bipush 8, 2) := by decide +kernel
theorem dX10_digest_9 : decode cX10_digest 9 = .ok (.if_icmp .ge 22, 3) := by decide +kernel
theorem dX10_digest_12 : decode cX10_digest 12 = .ok (.ldc2_w 410, 3) := by decide +kernel
theorem dX10_digest_15 : decode cX10_digest 15 = .ok (.lload_n 1, 1) := by decide +kernel
theorem dX10_digest_16 : decode cX10_digest 16 = .ok (.lmul, 1) := by decide +kernel
theorem dX10_digest_17 : decode cX10_digest 17 = .ok (.aload_n 0, 1) := by decide +kernel
theorem dX10_digest_18 : decode cX10_digest 18 = .ok (.iload_n 3, 1) := by decide +kernel
theorem dX10_digest_19 : decode cX10_digest 19 = .ok (.invokevirtual 414, 3) := by decide +kernel
theorem dX10_digest_22 : decode cX10_digest 22 = .ok (.i2l, 1) := by decide +kernel
theorem dX10_digest_23 : decode cX10_digest 23 = .ok (.ladd, 1) := by decide +kernel
theorem dX10_digest_24 : decode cX10_digest 24 = .ok (.lstore_n 1, 1) := by decide +kernel
theorem dX10_digest_25 : decode cX10_digest 25 = .ok (.iinc 3 1, 3) := by decide +kernel
theorem dX10_digest_28 : decode cX10_digest 28 = .ok (.goto (-22), 3) := by decide +kernel
theorem dX10_digest_31 : decode cX10_digest 31 = .ok (.iconst 0, 1) := by decide +kernel
theorem dX10_digest_32 : decode cX10_digest 32 = .ok (.istore_n 3, 1) := by decide +kernel
theorem dX10_digest_33 : decode cX10_digest 33 = .ok (.iload_n 3, 1) := by decide +kernel
theorem dX10_digest_34 : decode cX10_digest 34 = .ok (.bipush 6, 2) := by decide +kernel
theorem dX10_digest_36 : decode cX10_digest 36 = .ok (.if_icmp .ge 22, 3) := by decide +kernel
theorem dX10_digest_39 : decode cX10_digest 39 = .ok (.ldc2_w 410, 3) := by decide +kernel
theorem dX10_digest_42 : decode cX10_digest 42 = .ok (.lload_n 1, 1) := by decide +kernel
theorem dX10_digest_43 : decode cX10_digest 43 = .ok (.lmul, 1) := by decide +kernel
theorem dX10_digest_44 : decode cX10_digest 44 = .ok (.aload_n 0, 1) := by decide +kernel
theorem dX10_digest_45 : decode cX10_digest 45 = .ok (.iload_n 3, 1) := by decide +kernel
theorem dX10_digest_46 : decode cX10_digest 46 = .ok (.invokevirtual 350, 3) := by decide +kernel
theorem dX10_digest_49 : decode cX10_digest 49 = .ok (.i2l, 1) := by decide +kernel
theorem dX10_digest_50 : decode cX10_digest 50 = .ok (.ladd, 1) := by decide +kernel
theorem dX10_digest_51 : decode cX10_digest 51 = .ok (.lstore_n 1, 1) := by decide +kernel
theorem dX10_digest_52 : decode cX10_digest 52 = .ok (.iinc 3 1, 3) := by decide +kernel
theorem dX10_digest_55 : decode cX10_digest 55 = .ok (.goto (-22), 3) := by decide +kernel
theorem dX10_digest_58 : decode cX10_digest 58 = .ok (.iconst 0, 1) := by decide +kernel
theorem dX10_digest_59 : decode cX10_digest 59 = .ok (.istore_n 3, 1) := by decide +kernel
theorem dX10_digest_60 : decode cX10_digest 60 = .ok (.iload_n 3, 1) := by decide +kernel
theorem dX10_digest_61 : decode cX10_digest 61 = .ok (.bipush 16, 2) := by decide +kernel
theorem dX10_digest_63 : decode cX10_digest 63 = .ok (.if_icmp .ge 25, 3) := by decide +kernel
theorem dX10_digest_66 : decode cX10_digest 66 = .ok (.aload_n 0, 1) := by decide +kernel
theorem dX10_digest_67 : decode cX10_digest 67 = .ok (.getfield 76, 3) := by decide +kernel
theorem dX10_digest_70 : decode cX10_digest 70 = .ok (.iload_n 3, 1) := by decide +kernel
theorem dX10_digest_71 : decode cX10_digest 71 = .ok (.aload_n 0, 1) := by decide +kernel
theorem dX10_digest_72 : decode cX10_digest 72 = .ok (.iload_n 3, 1) := by decide +kernel
theorem dX10_digest_73 : decode cX10_digest 73 = .ok (.iconst 2, 1) := by decide +kernel
theorem dX10_digest_74 : decode cX10_digest 74 = .ok (.idiv, 1) := by decide +kernel
theorem dX10_digest_75 : decode cX10_digest 75 = .ok (.iload_n 3, 1) := by decide +kernel
theorem dX10_digest_76 : decode cX10_digest 76 = .ok (.iconst 2, 1) := by decide +kernel
theorem dX10_digest_77 : decode cX10_digest 77 = .ok (.irem, 1) := by decide +kernel
theorem dX10_digest_78 : decode cX10_digest 78 = .ok (.invokevirtual 347, 3) := by decide +kernel
theorem dX10_digest_81 : decode cX10_digest 81 = .ok (.iastore, 1) := by decide +kernel
theorem dX10_digest_82 : decode cX10_digest 82 = .ok (.iinc 3 1, 3) := by decide +kernel
theorem dX10_digest_85 : decode cX10_digest 85 = .ok (.goto (-25), 3) := by decide +kernel
theorem dX10_digest_88 : decode cX10_digest 88 = .ok (.aload_n 0, 1) := by decide +kernel
theorem dX10_digest_89 : decode cX10_digest 89 = .ok (.iconst 0, 1) := by decide +kernel
theorem dX10_digest_90 : decode cX10_digest 90 = .ok (.invokevirtual 344, 3) := by decide +kernel
theorem dX10_digest_93 : decode cX10_digest 93 = .ok (.iconst 0, 1) := by decide +kernel
theorem dX10_digest_94 : decode cX10_digest 94 = .ok (.istore_n 3, 1) := by decide +kernel
theorem dX10_digest_95 : decode cX10_digest 95 = .ok (.iload_n 3, 1) := by decide +kernel
theorem dX10_digest_96 : decode cX10_digest 96 = .ok (.bipush 8, 2) := by decide +kernel
theorem dX10_digest_98 : decode cX10_digest 98 = .ok (.if_icmp .ge 71, 3) := by decide +kernel
theorem dX10_digest_101 : decode cX10_digest 101 = .ok (.ldc2_w 410, 3) := by decide +kernel
theorem dX10_digest_104 : decode cX10_digest 104 = .ok (.lload_n 1, 1) := by decide +kernel
theorem dX10_digest_105 : decode cX10_digest 105 = .ok (.lmul, 1) := by decide +kernel
theorem dX10_digest_106 : decode cX10_digest 106 = .ok (.aload_n 0, 1) := by decide +kernel
theorem dX10_digest_107 : decode cX10_digest 107 = .ok (.getfield 76, 3) := by decide +kernel
theorem dX10_digest_110 : decode cX10_digest 110 = .ok (.iconst 2, 1) := by decide +kernel
theorem dX10_digest_111 : decode cX10_digest 111 = .ok (.iload_n 3, 1) := by decide +kernel
theorem dX10_digest_112 : decode cX10_digest 112 = .ok (.imul, 1) := by decide +kernel
theorem dX10_digest_113 : decode cX10_digest 113 = .ok (.iaload, 1) := by decide +kernel
theorem dX10_digest_114 : decode cX10_digest 114 = .ok (.i2l, 1) := by decide +kernel
theorem dX10_digest_115 : decode cX10_digest 115 = .ok (.ladd, 1) := by decide +kernel
theorem dX10_digest_116 : decode cX10_digest 116 = .ok (.lstore_n 1, 1) := by decide +kernel
theorem dX10_digest_117 : decode cX10_digest 117 = .ok (.ldc2_w 410, 3) := by decide +kernel
theorem dX10_digest_120 : decode cX10_digest 120 = .ok (.lload_n 1, 1) := by decide +kernel
theorem dX10_digest_121 : decode cX10_digest 121 = .ok (.lmul, 1) := by decide +kernel
theorem dX10_digest_122 : decode cX10_digest 122 = .ok (.aload_n 0, 1) := by decide +kernel
theorem dX10_digest_123 : decode cX10_digest 123 = .ok (.getfield 76, 3) := by decide +kernel
theorem dX10_digest_126 : decode cX10_digest 126 = .ok (.iconst 2, 1) := by decide +kernel
theorem dX10_digest_127 : decode cX10_digest 127 = .ok (.iload_n 3, 1) := by decide +kernel
theorem dX10_digest_128 : decode cX10_digest 128 = .ok (.imul, 1) := by decide +kernel
theorem dX10_digest_129 : decode cX10_digest 129 = .ok (.iconst 1, 1) := by decide +kernel
theorem dX10_digest_130 : decode cX10_digest 130 = .ok (.iadd, 1) := by decide +kernel
theorem dX10_digest_131 : decode cX10_digest 131 = .ok (.iaload, 1) := by decide +kernel
theorem dX10_digest_132 : decode cX10_digest 132 = .ok (.i2l, 1) := by decide +kernel
theorem dX10_digest_133 : decode cX10_digest 133 = .ok (.ladd, 1) := by decide +kernel
theorem dX10_digest_134 : decode cX10_digest 134 = .ok (.lstore_n 1, 1) := by decide +kernel
theorem dX10_digest_135 : decode cX10_digest 135 = .ok (.ldc2_w 410, 3) := by decide +kernel
theorem dX10_digest_138 : decode cX10_digest 138 = .ok (.lload_n 1, 1) := by decide +kernel
theorem dX10_digest_139 : decode cX10_digest 139 = .ok (.lmul, 1) := by decide +kernel
theorem dX10_digest_140 : decode cX10_digest 140 = .ok (.aload_n 0, 1) := by decide +kernel
theorem dX10_digest_141 : decode cX10_digest 141 = .ok (.iload_n 3, 1) := by decide +kernel
theorem dX10_digest_142 : decode cX10_digest 142 = .ok (.iconst 0, 1) := by decide +kernel
theorem dX10_digest_143 : decode cX10_digest 143 = .ok (.invokevirtual 347, 3) := by decide +kernel
theorem dX10_digest_146 : decode cX10_digest 146 = .ok (.i2l, 1) := by decide +kernel
theorem dX10_digest_147 : decode cX10_digest 147 = .ok (.ladd, 1) := by decide +kernel
theorem dX10_digest_148 : decode cX10_digest 148 = .ok (.lstore_n 1, 1) := by decide +kernel
theorem dX10_digest_149 : decode cX10_digest 149 = .ok (.ldc2_w 410, 3) := by decide +kernel
theorem dX10_digest_152 : decode cX10_digest 152 = .ok (.lload_n 1, 1) := by decide +kernel
theorem dX10_digest_153 : decode cX10_digest 153 = .ok (.lmul, 1) := by decide +kernel
theorem dX10_digest_154 : decode cX10_digest 154 = .ok (.aload_n 0, 1) := by decide +kernel
theorem dX10_digest_155 : decode cX10_digest 155 = .ok (.iload_n 3, 1) := by decide +kernel
theorem dX10_digest_156 : decode cX10_digest 156 = .ok (.iconst 1, 1) := by decide +kernel
theorem dX10_digest_157 : decode cX10_digest 157 = .ok (.invokevirtual 347, 3) := by decide +kernel
theorem dX10_digest_160 : decode cX10_digest 160 = .ok (.i2l, 1) := by decide +kernel
theorem dX10_digest_161 : decode cX10_digest 161 = .ok (.ladd, 1) := by decide +kernel
theorem dX10_digest_162 : decode cX10_digest 162 = .ok (.lstore_n 1, 1) := by decide +kernel
theorem dX10_digest_163 : decode cX10_digest 163 = .ok (.iinc 3 1, 3) := by decide +kernel
theorem dX10_digest_166 : decode cX10_digest 166 = .ok (.goto (-71), 3) := by decide +kernel
theorem dX10_digest_169 : decode cX10_digest 169 = .ok (.aload_n 0, 1) := by decide +kernel
theorem dX10_digest_170 : decode cX10_digest 170 = .ok (.aload_n 0, 1) := by decide +kernel
theorem dX10_digest_171 : decode cX10_digest 171 = .ok (.getfield 83, 3) := by decide +kernel
theorem dX10_digest_174 : decode cX10_digest 174 = .ok (.invokevirtual 344, 3) := by decide +kernel
theorem dX10_digest_177 : decode cX10_digest 177 = .ok (.iconst 0, 1) := by decide +kernel
theorem dX10_digest_178 : decode cX10_digest 178 = .ok (.istore_n 3, 1) := by decide +kernel
theorem dX10_digest_179 : decode cX10_digest 179 = .ok (.iload_n 3, 1) := by decide +kernel
theorem dX10_digest_180 : decode cX10_digest 180 = .ok (.bipush 24, 2) := by decide +kernel
theorem dX10_digest_182 : decode cX10_digest 182 = .ok (.if_icmp .ge 69, 3) := by decide +kernel
theorem dX10_digest_185 : decode cX10_digest 185 = .ok (.iconst 0, 1) := by decide +kernel
theorem dX10_digest_186 : decode cX10_digest 186 = .ok (.istore 4, 2) := by decide +kernel
theorem dX10_digest_188 : decode cX10_digest 188 = .ok (.iload 4, 2) := by decide +kernel
theorem dX10_digest_190 : decode cX10_digest 190 = .ok (.iconst 4, 1) := by decide +kernel
theorem dX10_digest_191 : decode cX10_digest 191 = .ok (.if_icmp .ge 24, 3) := by decide +kernel
theorem dX10_digest_194 : decode cX10_digest 194 = .ok (.ldc2_w 410, 3) := by decide +kernel
theorem dX10_digest_197 : decode cX10_digest 197 = .ok (.lload_n 1, 1) := by decide +kernel
theorem dX10_digest_198 : decode cX10_digest 198 = .ok (.lmul, 1) := by decide +kernel
theorem dX10_digest_199 : decode cX10_digest 199 = .ok (.aload_n 0, 1) := by decide +kernel
theorem dX10_digest_200 : decode cX10_digest 200 = .ok (.iload_n 3, 1) := by decide +kernel
theorem dX10_digest_201 : decode cX10_digest 201 = .ok (.iload 4, 2) := by decide +kernel
theorem dX10_digest_203 : decode cX10_digest 203 = .ok (.invokevirtual 417, 3) := by decide +kernel
theorem dX10_digest_206 : decode cX10_digest 206 = .ok (.i2l, 1) := by decide +kernel
theorem dX10_digest_207 : decode cX10_digest 207 = .ok (.ladd, 1) := by decide +kernel
theorem dX10_digest_208 : decode cX10_digest 208 = .ok (.lstore_n 1, 1) := by decide +kernel
theorem dX10_digest_209 : decode cX10_digest 209 = .ok (.iinc 4 1, 3) := by decide +kernel
theorem dX10_digest_212 : decode cX10_digest 212 = .ok (.goto (-24), 3) := by decide +kernel
theorem dX10_digest_215 : decode cX10_digest 215 = .ok (.iconst 0, 1) := by decide +kernel
theorem dX10_digest_216 : decode cX10_digest 216 = .ok (.istore 4, 2) := by decide +kernel
theorem dX10_digest_218 : decode cX10_digest 218 = .ok (.iload 4, 2) := by decide +kernel
theorem dX10_digest_220 : decode cX10_digest 220 = .ok (.iconst 3, 1) := by decide +kernel
theorem dX10_digest_221 : decode cX10_digest 221 = .ok (.if_icmp .ge 24, 3) := by decide +kernel
theorem dX10_digest_224 : decode cX10_digest 224 = .ok (.ldc2_w 410, 3) := by decide +kernel
theorem dX10_digest_227 : decode cX10_digest 227 = .ok (.lload_n 1, 1) := by decide +kernel
theorem dX10_digest_228 : decode cX10_digest 228 = .ok (.lmul, 1) := by decide +kernel
theorem dX10_digest_229 : decode cX10_digest 229 = .ok (.aload_n 0, 1) := by decide +kernel
theorem dX10_digest_230 : decode cX10_digest 230 = .ok (.iload_n 3, 1) := by decide +kernel
theorem dX10_digest_231 : decode cX10_digest 231 = .ok (.iload 4, 2) := by decide +kernel
theorem dX10_digest_233 : decode cX10_digest 233 = .ok (.invokevirtual 353, 3) := by decide +kernel
theorem dX10_digest_236 : decode cX10_digest 236 = .ok (.i2l, 1) := by decide +kernel
theorem dX10_digest_237 : decode cX10_digest 237 = .ok (.ladd, 1) := by decide +kernel
theorem dX10_digest_238 : decode cX10_digest 238 = .ok (.lstore_n 1, 1) := by decide +kernel
theorem dX10_digest_239 : decode cX10_digest 239 = .ok (.iinc 4 1, 3) := by decide +kernel
theorem dX10_digest_242 : decode cX10_digest 242 = .ok (.goto (-24), 3) := by decide +kernel
theorem dX10_digest_245 : decode cX10_digest 245 = .ok (.iinc 3 1, 3) := by decide +kernel
theorem dX10_digest_248 : decode cX10_digest 248 = .ok (.goto (-69), 3) := by decide +kernel
theorem dX10_digest_251 : decode cX10_digest 251 = .ok (.iconst 0, 1) := by decide +kernel
theorem dX10_digest_252 : decode cX10_digest 252 = .ok (.istore_n 3, 1) := by decide +kernel
theorem dX10_digest_253 : decode cX10_digest 253 = .ok (.iload_n 3, 1) := by decide +kernel
theorem dX10_digest_254 : decode cX10_digest 254 = .ok (.bipush 8, 2) := by decide +kernel
theorem dX10_digest_256 : decode cX10_digest 256 = .ok (.if_icmp .ge 16, 3) := by decide +kernel
theorem dX10_digest_259 : decode cX10_digest 259 = .ok (.aload_n 0, 1) := by decide +kernel
theorem dX10_digest_260 : decode cX10_digest 260 = .ok (.lload_n 1, 1) := by decide +kernel
theorem dX10_digest_261 : decode cX10_digest 261 = .ok (.iload_n 3, 1) := by decide +kernel
theorem dX10_digest_262 : decode cX10_digest 262 = .ok (.invokevirtual 419, 3) := by decide +kernel
theorem dX10_digest_265 : decode cX10_digest 265 = .ok (.lstore_n 1, 1) := by decide +kernel
theorem dX10_digest_266 : decode cX10_digest 266 = .ok (.iinc 3 1, 3) := by decide +kernel
theorem dX10_digest_269 : decode cX10_digest 269 = .ok (.goto (-16), 3) := by decide +kernel
theorem dX10_digest_272 : decode cX10_digest 272 = .ok (.ldc2_w 410, 3) := by decide +kernel
theorem dX10_digest_275 : decode cX10_digest 275 = .ok (.lload_n 1, 1) := by decide +kernel
theorem dX10_digest_276 : decode cX10_digest 276 = .ok (.lmul, 1) := by decide +kernel
theorem dX10_digest_277 : decode cX10_digest 277 = .ok (.aload_n 0, 1) := by decide +kernel
theorem dX10_digest_278 : decode cX10_digest 278 = .ok (.iconst 0, 1) := by decide +kernel
theorem dX10_digest_279 : decode cX10_digest 279 = .ok (.invokevirtual 400, 3) := by decide +kernel
theorem dX10_digest_282 : decode cX10_digest 282 = .ok (.i2l, 1) := by decide +kernel
theorem dX10_digest_283 : decode cX10_digest 283 = .ok (.ladd, 1) := by decide +kernel
theorem dX10_digest_284 : decode cX10_digest 284 = .ok (.lstore_n 1, 1) := by decide +kernel
theorem dX10_digest_285 : decode cX10_digest 285 = .ok (.ldc2_w 410, 3) := by decide +kernel
theorem dX10_digest_288 : decode cX10_digest 288 = .ok (.lload_n 1, 1) := by decide +kernel
theorem dX10_digest_289 : decode cX10_digest 289 = .ok (.lmul, 1) := by decide +kernel
theorem dX10_digest_290 : decode cX10_digest 290 = .ok (.aload_n 0, 1) := by decide +kernel
theorem dX10_digest_291 : decode cX10_digest 291 = .ok (.iconst 1, 1) := by decide +kernel
theorem dX10_digest_292 : decode cX10_digest 292 = .ok (.invokevirtual 400, 3) := by decide +kernel
theorem dX10_digest_295 : decode cX10_digest 295 = .ok (.i2l, 1) := by decide +kernel
theorem dX10_digest_296 : decode cX10_digest 296 = .ok (.ladd, 1) := by decide +kernel
theorem dX10_digest_297 : decode cX10_digest 297 = .ok (.lreturn, 1) := by decide +kernel
