theorem dX9_init_0 : decode cX9_init 0 = .ok (.aload_n 0, 1) := by decide +kernel
theorem dX9_init_1 : decode cX9_init 1 = .ok (.invokespecial 1, 3) := by decide +kernel
theorem dX9_init_4 : decode cX9_init 4 = .ok (.aload_n 0, 1) := by decide +kernel
theorem dX9_init_5 : decode cX9_init 5 = .ok (.new 7, 3) := by decide +kernel
theorem dX9_init_8 : decode cX9_init 8 = .ok (.dup, 1) := by decide +kernel
theorem dX9_init_9 : decode cX9_init 9 = .ok (.invokespecial 9, 3) := by decide +kernel
theorem dX9_init_12 : decode cX9_init 12 = .ok (.putfield 10, 3) := by decide +kernel
theorem dX9_init_15 : decode cX9_init 15 = .ok (.aload_n 0, 1) := by decide +kernel
theorem dX9_init_16 : decode cX9_init 16 = .ok (.new 16, 3) := by decide +kernel
theorem dX9_init_19 : decode cX9_init 19 = .ok (.dup, 1) := by decide +kernel
theorem dX9_init_20 : decode cX9_init 20 = .ok (.invokespecial 18, 3) := by decide +kernel
theorem dX9_init_23 : decode cX9_init 23 = .ok (.putfield 19, 3) := by decide +kernel
theorem dX9_init_26 : decode cX9_init 26 = .ok (.aload_n 0, 1) := by decide +kernel
theorem dX9_init_27 : decode cX9_init 27 = .ok (.new 16, 3) := by decide +kernel
theorem dX9_init_30 : decode cX9_init 30 = .ok (.dup, 1) := by decide +kernel
theorem dX9_init_31 : decode cX9_init 31 = .ok (.invokespecial 18, 3) := by decide +kernel
theorem dX9_init_34 : decode cX9_init 34 = .ok (.putfield 23, 3) := by decide +kernel
theorem dX9_init_37 : decode cX9_init 37 = .ok (.aload_n 0, 1) := by decide +kernel
theorem dX9_init_38 : decode cX9_init 38 = .ok (.new 26, 3) := by decide +kernel
theorem dX9_init_41 : decode cX9_init 41 = .ok (.dup, 1) := by decide +kernel
theorem dX9_init_42 : decode cX9_init 42 = .ok (.aload_n 0, 1) := by decide +kernel
theorem dX9_init_43 : decode cX9_init 43 = .ok (.getfield 10, 3) := by decide +kernel
theorem dX9_init_46 : decode cX9_init 46 = .ok (.invokespecial 28, 3) := by decide +kernel
theorem dX9_init_49 : decode cX9_init 49 = .ok (.putfield 31, 3) := by decide +kernel
theorem dX9_init_52 : decode cX9_init 52 = .ok (.aload_n 0, 1) := by decide +kernel
theorem dX9_init_53 : decode cX9_init 53 = .ok (.new 26, 3) := by decide +kernel
theorem dX9_init_56 : decode cX9_init 56 = .ok (.dup, 1) := by decide +kernel
theorem dX9_init_57 : decode cX9_init 57 = .ok (.aload_n 0, 1) := by decide +kernel
theorem dX9_init_58 : decode cX9_init 58 = .ok (.getfield 10, 3) := by decide +kernel
theorem dX9_init_61 : decode cX9_init 61 = .ok (.invokespecial 28, 3) := by decide +kernel
theorem dX9_init_64 : decode cX9_init 64 = .ok (.putfield 35, 3) := by decide +kernel
theorem dX9_init_67 : decode cX9_init 67 = .ok (.aload_n 0, 1) := by decide +kernel
theorem dX9_init_68 : decode cX9_init 68 = .ok (.iconst 4, 1) := by decide +kernel
theorem dX9_init_69 : decode cX9_init 69 = .ok (.anewarray 38, 3) := by decide +kernel
theorem dX9_init_72 : decode cX9_init 72 = .ok (.putfield 40, 3) := by decide +kernel
theorem dX9_init_75 : decode cX9_init 75 = .ok (.iconst 0, 1) := by decide +kernel
theorem dX9_init_76 : decode cX9_init 76 = .ok (.istore_n 1, 1) := by decide +kernel
theorem dX9_init_77 : decode cX9_init 77 = .ok (.iload_n 1, 1) := by decide +kernel
theorem dX9_init_78 : decode cX9_init 78 = .ok (.iconst 4, 1) := by decide +kernel
theorem dX9_init_79 : decode cX9_init 79 = .ok (.if_icmp .ge 22, 3) := by decide +kernel
theorem dX9_init_82 : decode cX9_init 82 = .ok (.aload_n 0, 1) := by decide +kernel
theorem dX9_init_83 : decode cX9_init 83 = .ok (.getfield 40, 3) := by decide +kernel
theorem dX9_init_86 : decode cX9_init 86 = .ok (.iload_n 1, 1) := by decide +kernel
theorem dX9_init_87 : decode cX9_init 87 = .ok (.new 38, 3) := by decide +kernel
theorem dX9_init_90 : decode cX9_init 90 = .ok (.dup, 1) := by decide +kernel
theorem dX9_init_91 : decode cX9_init 91 = .ok (.invokespecial 44, 3) := by decide +kernel
theorem dX9_init_94 : decode cX9_init 94 = .ok (.aastore, 1) := by decide +kernel
theorem dX9_init_95 : decode cX9_init 95 = .ok (.iinc 1 1, 3) := by decide +kernel
theorem dX9_init_98 : decode cX9_init 98 = .ok (.goto (-21), 3) := by decide +kernel
theorem dX9_init_101 : decode cX9_init 101 = .ok (.aload_n 0, 1) := by decide +kernel
theorem dX9_init_102 : decode cX9_init 102 = .ok (.sipush 200, 3) := by decide +kernel
theorem dX9_init_105 : decode cX9_init 105 = .ok (.putfield 45, 3) := by decide +kernel
theorem dX9_init_108 : decode cX9_init 108 = .ok (.aload_n 0, 1) := by decide +kernel
theorem dX9_init_109 : decode cX9_init 109 = .ok (.iconst 3, 1) := by decide +kernel
theorem dX9_init_110 : decode cX9_init 110 = .ok (.putfield 49, 3) := by decide +kernel
theorem dX9_init_113 : decode cX9_init 113 = .ok (.return_, 1) := by decide +kernel
theorem dX9_add_0 : decode cX9_add 0 = .ok (.iload_n 1, 1) := by decide +kernel
theorem dX9_add_1 : decode cX9_add 1 = .ok (.iload_n 2, 1) := by decide +kernel
theorem dX9_add_2 : decode cX9_add 2 = .ok (.iload_n 3, 1) := by decide +kernel
theorem dX9_add_3 : decode cX9_add 3 = .ok (.iload 4, 2) := by decide +kernel
theorem dX9_add_5 : decode cX9_add 5 = .ok (.invokestatic 52, 3) := by decide +kernel
theorem dX9_add_8 : decode cX9_add 8 = .ok (.ifCond .ne 6, 3) := by decide +kernel
theorem dX9_add_11 : decode cX9_add 11 = .ok (.bipush (-2), 2) := by decide +kernel
theorem dX9_add_13 : decode cX9_add 13 = .ok (.ireturn, 1) := by decide +kernel
theorem dX9_add_14 : decode cX9_add 14 = .ok (.aload_n 0, 1) := by decide +kernel
theorem dX9_add_15 : decode cX9_add 15 = .ok (.getfield 10, 3) := by decide +kernel
theorem dX9_add_18 : decode cX9_add 18 = .ok (.getfield 56, 3) := by decide +kernel
theorem dX9_add_21 : decode cX9_add 21 = .ok (.bipush 24, 2) := by decide +kernel
theorem dX9_add_23 : decode cX9_add 23 = .ok (.if_icmp .lt 6, 3) := by decide +kernel
theorem dX9_add_26 : decode cX9_add 26 = .ok (.bipush (-4), 2) := by decide +kernel
theorem dX9_add_28 : decode cX9_add 28 = .ok (.ireturn, 1) := by decide +kernel
theorem dX9_add_29 : decode cX9_add 29 = .ok (.aload_n 0, 1) := by decide +kernel
theorem dX9_add_30 : decode cX9_add 30 = .ok (.getfield 10, 3) := by decide +kernel
theorem dX9_add_33 : decode cX9_add 33 = .ok (.iload_n 1, 1) := by decide +kernel
theorem dX9_add_34 : decode cX9_add 34 = .ok (.iload_n 2, 1) := by decide +kernel
theorem dX9_add_35 : decode cX9_add 35 = .ok (.iload_n 3, 1) := by decide +kernel
theorem dX9_add_36 : decode cX9_add 36 = .ok (.iload 4, 2) := by decide +kernel
theorem dX9_add_38 : decode cX9_add 38 = .ok (.invokevirtual 59, 3) := by decide +kernel
theorem dX9_add_41 : decode cX9_add 41 = .ok (.aload_n 0, 1) := by decide +kernel
theorem dX9_add_42 : decode cX9_add 42 = .ok (.invokevirtual 63, 3) := by decide +kernel
theorem dX9_add_45 : decode cX9_add 45 = .ok (.aload_n 0, 1) := by decide +kernel
theorem dX9_add_46 : decode cX9_add 46 = .ok (.getfield 10, 3) := by decide +kernel
theorem dX9_add_49 : decode cX9_add 49 = .ok (.getfield 56, 3) := by decide +kernel
theorem dX9_add_52 : decode cX9_add 52 = .ok (.ireturn, 1) := by decide +kernel
theorem dX9_alter_0 : decode cX9_alter 0 = .ok (.aload_n 0, 1) := by decide +kernel
theorem dX9_alter_1 : decode cX9_alter 1 = .ok (.getfield 10, 3) := by decide +kernel
theorem dX9_alter_4 : decode cX9_alter 4 = .ok (.iload_n 1, 1) := by decide +kernel
theorem dX9_alter_5 : decode cX9_alter 5 = .ok (.invokevirtual 66, 3) := by decide +kernel
theorem dX9_alter_8 : decode cX9_alter 8 = .ok (.ifCond .eq 15, 3) := by decide +kernel
theorem dX9_alter_11 : decode cX9_alter 11 = .ok (.iload_n 2, 1) := by decide +kernel
theorem dX9_alter_12 : decode cX9_alter 12 = .ok (.iload_n 3, 1) := by decide +kernel
theorem dX9_alter_13 : decode cX9_alter 13 = .ok (.iload 4, 2) := by decide +kernel
theorem dX9_alter_15 : decode cX9_alter 15 = .ok (.iload 5, 2) := by decide +kernel
theorem dX9_alter_17 : decode cX9_alter 17 = .ok (.invokestatic 52, 3) := by decide +kernel
theorem dX9_alter_20 : decode cX9_alter 20 = .ok (.ifCond .ne 6, 3) := by decide +kernel
theorem dX9_alter_23 : decode cX9_alter 23 = .ok (.bipush (-2), 2) := by decide +kernel
theorem dX9_alter_25 : decode cX9_alter 25 = .ok (.ireturn, 1) := by decide +kernel
theorem dX9_alter_26 : decode cX9_alter 26 = .ok (.aload_n 0, 1) := by decide +kernel
theorem dX9_alter_27 : decode cX9_alter 27 = .ok (.getfield 10, 3) := by decide +kernel
theorem dX9_alter_30 : decode cX9_alter 30 = .ok (.iload_n 1, 1) := by decide +kernel
theorem dX9_alter_31 : decode cX9_alter 31 = .ok (.iload_n 2, 1) := by decide +kernel
theorem dX9_alter_32 : decode cX9_alter 32 = .ok (.iload_n 3, 1) := by decide +kernel
theorem dX9_alter_33 : decode cX9_alter 33 = .ok (.iload 4, 2) := by decide +kernel
theorem dX9_alter_35 : decode cX9_alter 35 = .ok (.iload 5, 2) := by decide +kernel
theorem dX9_alter_37 : decode cX9_alter 37 = .ok (.invokevirtual 70, 3) := by decide +kernel
theorem dX9_alter_40 : decode cX9_alter 40 = .ok (.aload_n 0, 1) := by decide +kernel
theorem dX9_alter_41 : decode cX9_alter 41 = .ok (.invokevirtual 63, 3) := by decide +kernel
theorem dX9_alter_44 : decode cX9_alter 44 = .ok (.iconst 1, 1) := by decide +kernel
theorem dX9_alter_45 : decode cX9_alter 45 = .ok (.ireturn, 1) := by decide +kernel
theorem dX9_back_0 : decode cX9_back 0 = .ok (.aload_n 0, 1) := by decide +kernel
theorem dX9_back_1 : decode cX9_back 1 = .ok (.getfield 10, 3) := by decide +kernel
theorem dX9_back_4 : decode cX9_back 4 = .ok (.getfield 56, 3) := by decide +kernel
theorem dX9_back_7 : decode cX9_back 7 = .ok (.ifCond .ne 6, 3) := by decide +kernel
theorem dX9_back_10 : decode cX9_back 10 = .ok (.bipush (-3), 2) := by decide +kernel
theorem dX9_back_12 : decode cX9_back 12 = .ok (.ireturn, 1) := by decide +kernel
theorem dX9_back_13 : decode cX9_back 13 = .ok (.aload_n 0, 1) := by decide +kernel
theorem dX9_back_14 : decode cX9_back 14 = .ok (.getfield 10, 3) := by decide +kernel
theorem dX9_back_17 : decode cX9_back 17 = .ok (.dup, 1) := by decide +kernel
theorem dX9_back_18 : decode cX9_back 18 = .ok (.getfield 56, 3) := by decide +kernel
theorem dX9_back_21 : decode cX9_back 21 = .ok (.iconst 1, 1) := by decide +kernel
theorem dX9_back_22 : decode cX9_back 22 = .ok (.isub, 1) := by decide +kernel
theorem dX9_back_23 : decode cX9_back 23 = .ok (.putfield 56, 3) := by decide +kernel
theorem dX9_back_26 : decode cX9_back 26 = .ok (.aload_n 0, 1) := by decide +kernel
theorem dX9_back_27 : decode cX9_back 27 = .ok (.invokevirtual 63, 3) := by decide +kernel
theorem dX9_back_30 : decode cX9_back 30 = .ok (.aload_n 0, 1) := by decide +kernel
theorem dX9_back_31 : decode cX9_back 31 = .ok (.getfield 10, 3) := by decide +kernel
theorem dX9_back_34 : decode cX9_back 34 = .ok (.getfield 56, 3) := by decide +kernel
theorem dX9_back_37 : decode cX9_back 37 = .ok (.ireturn, 1) := by decide +kernel
theorem dX9_code_0 : decode cX9_code 0 = .ok (.aload_n 0, 1) := by decide +kernel
theorem dX9_code_1 : decode cX9_code 1 = .ok (.iload_n 1, 1) := by decide +kernel
theorem dX9_code_2 : decode cX9_code 2 = .ok (.iload_n 2, 1) := by decide +kernel
theorem dX9_code_3 : decode cX9_code 3 = .ok (.invokevirtual 74, 3) := by decide +kernel
theorem dX9_code_6 : decode cX9_code 6 = .ok (.ireturn, 1) := by decide +kernel
theorem dX9_load_0 : decode cX9_load 0 = .ok (.iload_n 1, 1) := by decide +kernel
theorem dX9_load_1 : decode cX9_load 1 = .ok (.invokestatic 78, 3) := by decide +kernel
theorem dX9_load_4 : decode cX9_load 4 = .ok (.ifCond .eq 12, 3) := by decide +kernel
theorem dX9_load_7 : decode cX9_load 7 = .ok (.iload_n 2, 1) := by decide +kernel
theorem dX9_load_8 : decode cX9_load 8 = .ok (.ifCond .lt 8, 3) := by decide +kernel
theorem dX9_load_11 : decode cX9_load 11 = .ok (.iload_n 2, 1) := by decide +kernel
theorem dX9_load_12 : decode cX9_load 12 = .ok (.iconst 1, 1) := by decide +kernel
theorem dX9_load_13 : decode cX9_load 13 = .ok (.if_icmp .le 6, 3) := by decide +kernel
theorem dX9_load_16 : decode cX9_load 16 = .ok (.bipush (-2), 2) := by decide +kernel
theorem dX9_load_18 : decode cX9_load 18 = .ok (.ireturn, 1) := by decide +kernel
theorem dX9_load_19 : decode cX9_load 19 = .ok (.aload_n 0, 1) := by decide +kernel
theorem dX9_load_20 : decode cX9_load 20 = .ok (.getfield 19, 3) := by decide +kernel
theorem dX9_load_23 : decode cX9_load 23 = .ok (.iload_n 1, 1) := by decide +kernel
theorem dX9_load_24 : decode cX9_load 24 = .ok (.iload_n 2, 1) := by decide +kernel
theorem dX9_load_25 : decode cX9_load 25 = .ok (.iload_n 2, 1) := by decide +kernel
theorem dX9_load_26 : decode cX9_load 26 = .ok (.ifCond .ne 7, 3) := by decide +kernel
theorem dX9_load_29 : decode cX9_load 29 = .ok (.iload_n 3, 1) := by decide +kernel
theorem dX9_load_30 : decode cX9_load 30 = .ok (.goto 8, 3) := by decide +kernel
theorem dX9_load_33 : decode cX9_load 33 = .ok (.iload_n 3, 1) := by decide +kernel
theorem dX9_load_34 : decode cX9_load 34 = .ok (.i2l, 1) := by decide +kernel
theorem dX9_load_35 : decode cX9_load 35 = .ok (.invokestatic 81, 3) := by decide +kernel
theorem dX9_load_38 : decode cX9_load 38 = .ok (.invokevirtual 87, 3) := by decide +kernel
theorem dX9_load_41 : decode cX9_load 41 = .ok (.aload_n 0, 1) := by decide +kernel
theorem dX9_load_42 : decode cX9_load 42 = .ok (.invokevirtual 63, 3) := by decide +kernel
theorem dX9_load_45 : decode cX9_load 45 = .ok (.iconst 1, 1) := by decide +kernel
theorem dX9_load_46 : decode cX9_load 46 = .ok (.ireturn, 1) := by decide +kernel
theorem dX9_set_0 : decode cX9_set 0 = .ok (.iload_n 1, 1) := by decide +kernel
theorem dX9_set_1 : decode cX9_set 1 = .ok (.ifCond .ne 27, 3) := by decide +kernel
theorem dX9_set_4 : decode cX9_set 4 = .ok (.iload_n 2, 1) := by decide +kernel
theorem dX9_set_5 : decode cX9_set 5 = .ok (.ifCond .lt 23, 3) := by decide +kernel
theorem dX9_set_8 : decode cX9_set 8 = .ok (.iload_n 2, 1) := by decide +kernel
theorem dX9_set_9 : decode cX9_set 9 = .ok (.sipush 600, 3) := by decide +kernel
theorem dX9_set_12 : decode cX9_set 12 = .ok (.if_icmp .gt 16, 3) := by decide +kernel
theorem dX9_set_15 : decode cX9_set 15 = .ok (.aload_n 0, 1) := by decide +kernel
theorem dX9_set_16 : decode cX9_set 16 = .ok (.getfield 45, 3) := by decide +kernel
theorem dX9_set_19 : decode cX9_set 19 = .ok (.istore_n 3, 1) := by decide +kernel
theorem dX9_set_20 : decode cX9_set 20 = .ok (.aload_n 0, 1) := by decide +kernel
theorem dX9_set_21 : decode cX9_set 21 = .ok (.iload_n 2, 1) := by decide +kernel
theorem dX9_set_22 : decode cX9_set 22 = .ok (.putfield 45, 3) := by decide +kernel
theorem dX9_set_25 : decode cX9_set 25 = .ok (.goto 35, 3) := by decide +kernel
theorem dX9_set_28 : decode cX9_set 28 = .ok (.iload_n 1, 1) := by decide +kernel
theorem dX9_set_29 : decode cX9_set 29 = .ok (.iconst 1, 1) := by decide +kernel
theorem dX9_set_30 : decode cX9_set 30 = .ok (.if_icmp .ne 27, 3) := by decide +kernel
theorem dX9_set_33 : decode cX9_set 33 = .ok (.iload_n 2, 1) := by decide +kernel
theorem dX9_set_34 : decode cX9_set 34 = .ok (.iconst 2, 1) := by decide +kernel
theorem dX9_set_35 : decode cX9_set 35 = .ok (.if_icmp .lt 22, 3) := by decide +kernel
theorem dX9_set_38 : decode cX9_set 38 = .ok (.iload_n 2, 1) := by decide +kernel
theorem dX9_set_39 : decode cX9_set 39 = .ok (.bipush 9, 2) := by decide +kernel
theorem dX9_set_41 : decode cX9_set 41 = .ok (.if_icmp .gt 16, 3) := by decide +kernel
theorem dX9_set_44 : decode cX9_set 44 = .ok (.aload_n 0, 1) := by decide +kernel
theorem dX9_set_45 : decode cX9_set 45 = .ok (.getfield 49, 3) := by decide +kernel
theorem dX9_set_48 : decode cX9_set 48 = .ok (.istore_n 3, 1) := by decide +kernel
theorem dX9_set_49 : decode cX9_set 49 = .ok (.aload_n 0, 1) := by decide +kernel
theorem dX9_set_50 : decode cX9_set 50 = .ok (.iload_n 2, 1) := by decide +kernel
theorem dX9_set_51 : decode cX9_set 51 = .ok (.putfield 49, 3) := by decide +kernel
theorem dX9_set_54 : decode cX9_set 54 = .ok (.goto 6, 3) := by decide +kernel
theorem dX9_set_57 : decode cX9_set 57 = .ok (.bipush (-2), 2) := by decide +kernel
theorem dX9_set_59 : decode cX9_set 59 = .ok (.ireturn, 1) := by decide +kernel
theorem dX9_set_60 : decode cX9_set 60 = .ok (.aload_n 0, 1) := by decide +kernel
theorem dX9_set_61 : decode cX9_set 61 = .ok (.invokevirtual 63, 3) := by decide +kernel
theorem dX9_set_64 : decode cX9_set 64 = .ok (.iload_n 3, 1) := by decide +kernel
theorem dX9_set_65 : decode cX9_set 65 = .ok (.ireturn, 1) := by decide +kernel
theorem dX9_read_0 : decode cX9_read 0 = .ok (.iload_n 1, 1) := by decide +kernel
theorem dX9_read_1 : decode cX9_read 1 = .ok (.invokestatic 90, 3) := by decide +kernel
theorem dX9_read_4 : decode cX9_read 4 = .ok (.ifCond .ne 6, 3) := by decide +kernel
theorem dX9_read_7 : decode cX9_read 7 = .ok (.bipush (-2), 2) := by decide +kernel
theorem dX9_read_9 : decode cX9_read 9 = .ok (.ireturn, 1) := by decide +kernel
theorem dX9_read_10 : decode cX9_read 10 = .ok (.aload_n 0, 1) := by decide +kernel
theorem dX9_read_11 : decode cX9_read 11 = .ok (.getfield 40, 3) := by decide +kernel
theorem dX9_read_14 : decode cX9_read 14 = .ok (.iload_n 1, 1) := by decide +kernel
theorem dX9_read_15 : decode cX9_read 15 = .ok (.aaload, 1) := by decide +kernel
theorem dX9_read_16 : decode cX9_read 16 = .ok (.astore_n 2, 1) := by decide +kernel
theorem dX9_read_17 : decode cX9_read 17 = .ok (.aload_n 2, 1) := by decide +kernel
theorem dX9_read_18 : decode cX9_read 18 = .ok (.invokevirtual 93, 3) := by decide +kernel
theorem dX9_read_21 : decode cX9_read 21 = .ok (.ifCond .eq 9, 3) := by decide +kernel
theorem dX9_read_24 : decode cX9_read 24 = .ok (.aload_n 0, 1) := by decide +kernel
theorem dX9_read_25 : decode cX9_read 25 = .ok (.iconst 1, 1) := by decide +kernel
theorem dX9_read_26 : decode cX9_read 26 = .ok (.invokevirtual 97, 3) := by decide +kernel
theorem dX9_read_29 : decode cX9_read 29 = .ok (.ireturn, 1) := by decide +kernel
theorem dX9_read_30 : decode cX9_read 30 = .ok (.iconst 0, 1) := by decide +kernel
theorem dX9_read_31 : decode cX9_read 31 = .ok (.istore_n 3, 1) := by decide +kernel
theorem dX9_read_32 : decode cX9_read 32 = .ok (.iconst 0, 1) := by decide +kernel
theorem dX9_read_33 : decode cX9_read 33 = .ok (.istore 4, 2) := by decide +kernel
theorem dX9_read_35 : decode cX9_read 35 = .ok (.iload 4, 2) := by decide +kernel
theorem dX9_read_37 : decode cX9_read 37 = .ok (.iconst 3, 1) := by decide +kernel
theorem dX9_read_38 : decode cX9_read 38 = .ok (.iadd, 1) := by decide +kernel
theorem dX9_read_39 : decode cX9_read 39 = .ok (.aload_n 2, 1) := by decide +kernel
theorem dX9_read_40 : decode cX9_read 40 = .ok (.getfield 101, 3) := by decide +kernel
theorem dX9_read_43 : decode cX9_read 43 = .ok (.if_icmp .ge 108, 3) := by decide +kernel
theorem dX9_read_46 : decode cX9_read 46 = .ok (.aload_n 0, 1) := by decide +kernel
theorem dX9_read_47 : decode cX9_read 47 = .ok (.getfield 10, 3) := by decide +kernel
theorem dX9_read_50 : decode cX9_read 50 = .ok (.getfield 56, 3) := by decide +kernel
theorem dX9_read_53 : decode cX9_read 53 = .ok (.bipush 24, 2) := by decide +kernel
theorem dX9_read_55 : decode cX9_read 55 = .ok (.if_icmp .ge 96, 3) := by decide +kernel
theorem dX9_read_58 : decode cX9_read 58 = .ok (.aload_n 2, 1) := by decide +kernel
theorem dX9_read_59 : decode cX9_read 59 = .ok (.getfield 102, 3) := by decide +kernel
theorem dX9_read_62 : decode cX9_read 62 = .ok (.iload 4, 2) := by decide +kernel
theorem dX9_read_64 : decode cX9_read 64 = .ok (.iaload, 1) := by decide +kernel
theorem dX9_read_65 : decode cX9_read 65 = .ok (.aload_n 2, 1) := by decide +kernel
theorem dX9_read_66 : decode cX9_read 66 = .ok (.getfield 102, 3) := by decide +kernel
theorem dX9_read_69 : decode cX9_read 69 = .ok (.iload 4, 2) := by decide +kernel
theorem dX9_read_71 : decode cX9_read 71 = .ok (.iconst 1, 1) := by decide +kernel
theorem dX9_read_72 : decode cX9_read 72 = .ok (.iadd, 1) := by decide +kernel
theorem dX9_read_73 : decode cX9_read 73 = .ok (.iaload, 1) := by decide +kernel
theorem dX9_read_74 : decode cX9_read 74 = .ok (.aload_n 2, 1) := by decide +kernel
theorem dX9_read_75 : decode cX9_read 75 = .ok (.getfield 102, 3) := by decide +kernel
theorem dX9_read_78 : decode cX9_read 78 = .ok (.iload 4, 2) := by decide +kernel
theorem dX9_read_80 : decode cX9_read 80 = .ok (.iconst 2, 1) := by decide +kernel
theorem dX9_read_81 : decode cX9_read 81 = .ok (.iadd, 1) := by decide +kernel
theorem dX9_read_82 : decode cX9_read 82 = .ok (.iaload, 1) := by decide +kernel
theorem dX9_read_83 : decode cX9_read 83 = .ok (.aload_n 2, 1) := by decide +kernel
theorem dX9_read_84 : decode cX9_read 84 = .ok (.getfield 102, 3) := by decide +kernel
theorem dX9_read_87 : decode cX9_read 87 = .ok (.iload 4, 2) := by decide +kernel
theorem dX9_read_89 : decode cX9_read 89 = .ok (.iconst 3, 1) := by decide +kernel
theorem dX9_read_90 : decode cX9_read 90 = .ok (.iadd, 1) := by decide +kernel
theorem dX9_read_91 : decode cX9_read 91 = .ok (.iaload, 1) := by decide +kernel
theorem dX9_read_92 : decode cX9_read 92 = .ok (.invokestatic 52, 3) := by decide +kernel
theorem dX9_read_95 : decode cX9_read 95 = .ok (.ifCond .ne 6, 3) := by decide +kernel
theorem dX9_read_98 : decode cX9_read 98 = .ok (.goto 53, 3) := by decide +kernel
theorem dX9_read_101 : decode cX9_read 101 = .ok (.aload_n 0, 1) := by decide +kernel
theorem dX9_read_102 : decode cX9_read 102 = .ok (.getfield 10, 3) := by decide +kernel
theorem dX9_read_105 : decode cX9_read 105 = .ok (.aload_n 2, 1) := by decide +kernel
theorem dX9_read_106 : decode cX9_read 106 = .ok (.getfield 102, 3) := by decide +kernel
theorem dX9_read_109 : decode cX9_read 109 = .ok (.iload 4, 2) := by decide +kernel
theorem dX9_read_111 : decode cX9_read 111 = .ok (.iaload, 1) := by decide +kernel
theorem dX9_read_112 : decode cX9_read 112 = .ok (.aload_n 2, 1) := by decide +kernel
theorem dX9_read_113 : decode cX9_read 113 = .ok (.getfield 102, 3) := by decide +kernel
theorem dX9_read_116 : decode cX9_read 116 = .ok (.iload 4, 2) := by decide +kernel
theorem dX9_read_118 : decode cX9_read 118 = .ok (.iconst 1, 1) := by decide +kernel
theorem dX9_read_119 : decode cX9_read 119 = .ok (.iadd, 1) := by decide +kernel
theorem dX9_read_120 : decode cX9_read 120 = .ok (.iaload, 1) := by decide +kernel
theorem dX9_read_121 : decode cX9_read 121 = .ok (.aload_n 2, 1) := by decide +kernel
theorem dX9_read_122 : decode cX9_read 122 = .ok (.getfield 102, 3) := by decide +kernel
theorem dX9_read_125 : decode cX9_read 125 = .ok (.iload 4, 2) := by decide +kernel
theorem dX9_read_127 : decode cX9_read 127 = .ok (.iconst 2, 1) := by decide +kernel
theorem dX9_read_128 : decode cX9_read 128 = .ok (.iadd, 1) := by decide +kernel
theorem dX9_read_129 : decode cX9_read 129 = .ok (.iaload, 1) := by decide +kernel
theorem dX9_read_130 : decode cX9_read 130 = .ok (.aload_n 2, 1) := by decide +kernel
theorem dX9_read_131 : decode cX9_read 131 = .ok (.getfield 102, 3) := by decide +kernel
theorem dX9_read_134 : decode cX9_read 134 = .ok (.iload 4, 2) := by decide +kernel
theorem dX9_read_136 : decode cX9_read 136 = .ok (.iconst 3, 1) := by decide +kernel
theorem dX9_read_137 : decode cX9_read 137 = .ok (.iadd, 1) := by decide +kernel
theorem dX9_read_138 : decode cX9_read 138 = .ok (.iaload, 1) := by decide +kernel
theorem dX9_read_139 : decode cX9_read 139 = .ok (.invokevirtual 59, 3) := by decide +kernel
theorem dX9_read_142 : decode cX9_read 142 = .ok (.iinc 3 1, 3) := by decide +kernel
theorem dX9_read_145 : decode cX9_read 145 = .ok (.iinc 4 4, 3) := by decide +kernel
theorem dX9_read_148 : decode cX9_read 148 = .ok (.goto (-113), 3) := by decide +kernel
theorem dX9_read_151 : decode cX9_read 151 = .ok (.aload_n 0, 1) := by decide +kernel
theorem dX9_read_152 : decode cX9_read 152 = .ok (.invokevirtual 63, 3) := by decide +kernel
theorem dX9_read_155 : decode cX9_read 155 = .ok (.iload_n 3, 1) := by decide +kernel
theorem dX9_read_156 : decode cX9_read 156 = .ok (.ireturn, 1) := by decide +kernel
theorem dX9_value_0 : decode cX9_value 0 = .ok (.aload_n 0, 1) := by decide +kernel
theorem dX9_value_1 : decode cX9_value 1 = .ok (.invokevirtual 106, 3) := by decide +kernel
theorem dX9_value_4 : decode cX9_value 4 = .ok (.aload_n 0, 1) := by decide +kernel
theorem dX9_value_5 : decode cX9_value 5 = .ok (.getfield 31, 3) := by decide +kernel
theorem dX9_value_8 : decode cX9_value 8 = .ok (.getfield 109, 3) := by decide +kernel
theorem dX9_value_11 : decode cX9_value 11 = .ok (.iload_n 1, 1) := by decide +kernel
theorem dX9_value_12 : decode cX9_value 12 = .ok (.iload_n 2, 1) := by decide +kernel
theorem dX9_value_13 : decode cX9_value 13 = .ok (.invokevirtual 112, 3) := by decide +kernel
theorem dX9_value_16 : decode cX9_value 16 = .ok (.ireturn, 1) := by decide +kernel
theorem dX9_plain_0 : decode cX9_plain 0 = .ok (.aload_n 0, 1) := by decide +kernel
theorem dX9_plain_1 : decode cX9_plain 1 = .ok (.invokevirtual 115, 3) := by decide +kernel
theorem dX9_plain_4 : decode cX9_plain 4 = .ok (.aload_n 0, 1) := by decide +kernel
theorem dX9_plain_5 : decode cX9_plain 5 = .ok (.getfield 23, 3) := by decide +kernel
theorem dX9_plain_8 : decode cX9_plain 8 = .ok (.iload_n 1, 1) := by decide +kernel
theorem dX9_plain_9 : decode cX9_plain 9 = .ok (.iload_n 2, 1) := by decide +kernel
theorem dX9_plain_10 : decode cX9_plain 10 = .ok (.invokevirtual 112, 3) := by decide +kernel
theorem dX9_plain_13 : decode cX9_plain 13 = .ok (.ireturn, 1) := by decide +kernel
theorem dX9_ends_0 : decode cX9_ends 0 = .ok (.aload_n 0, 1) := by decide +kernel
theorem dX9_ends_1 : decode cX9_ends 1 = .ok (.invokevirtual 106, 3) := by decide +kernel
theorem dX9_ends_4 : decode cX9_ends 4 = .ok (.aload_n 0, 1) := by decide +kernel
theorem dX9_ends_5 : decode cX9_ends 5 = .ok (.iload_n 1, 1) := by decide +kernel
theorem dX9_ends_6 : decode cX9_ends 6 = .ok (.invokevirtual 118, 3) := by decide +kernel
theorem dX9_ends_9 : decode cX9_ends 9 = .ok (.ireturn, 1) := by decide +kernel
theorem dX9_heat_0 : decode cX9_heat 0 = .ok (.aload_n 0, 1) := by decide +kernel
theorem dX9_heat_1 : decode cX9_heat 1 = .ok (.invokevirtual 106, 3) := by decide +kernel
theorem dX9_heat_4 : decode cX9_heat 4 = .ok (.aload_n 0, 1) := by decide +kernel
theorem dX9_heat_5 : decode cX9_heat 5 = .ok (.getfield 31, 3) := by decide +kernel
theorem dX9_heat_8 : decode cX9_heat 8 = .ok (.getfield 121, 3) := by decide +kernel
theorem dX9_heat_11 : decode cX9_heat 11 = .ok (.iload_n 1, 1) := by decide +kernel
theorem dX9_heat_12 : decode cX9_heat 12 = .ok (.iload_n 2, 1) := by decide +kernel
theorem dX9_heat_13 : decode cX9_heat 13 = .ok (.invokevirtual 125, 3) := by decide +kernel
theorem dX9_heat_16 : decode cX9_heat 16 = .ok (.ireturn, 1) := by decide +kernel
theorem dX9_trace_0 : decode cX9_trace 0 = .ok (.aload_n 0, 1) := by decide +kernel
theorem dX9_trace_1 : decode cX9_trace 1 = .ok (.invokevirtual 106, 3) := by decide +kernel
theorem dX9_trace_4 : decode cX9_trace 4 = .ok (.aload_n 0, 1) := by decide +kernel
theorem dX9_trace_5 : decode cX9_trace 5 = .ok (.iload_n 1, 1) := by decide +kernel
theorem dX9_trace_6 : decode cX9_trace 6 = .ok (.iload_n 2, 1) := by decide +kernel
theorem dX9_trace_7 : decode cX9_trace 7 = .ok (.invokevirtual 130, 3) := by decide +kernel
theorem dX9_trace_10 : decode cX9_trace 10 = .ok (.ireturn, 1) := by decide +kernel
theorem dX9_entry_0 : decode cX9_entry 0 = .ok (.aload_n 0, 1) := by decide +kernel
theorem dX9_entry_1 : decode cX9_entry 1 = .ok (.invokevirtual 106, 3) := by decide +kernel
theorem dX9_entry_4 : decode cX9_entry 4 = .ok (.aload_n 0, 1) := by decide +kernel
theorem dX9_entry_5 : decode cX9_entry 5 = .ok (.iload_n 1, 1) := by decide +kernel
theorem dX9_entry_6 : decode cX9_entry 6 = .ok (.iload_n 2, 1) := by decide +kernel
theorem dX9_entry_7 : decode cX9_entry 7 = .ok (.iload_n 3, 1) := by decide +kernel
theorem dX9_entry_8 : decode cX9_entry 8 = .ok (.invokevirtual 133, 3) := by decide +kernel
theorem dX9_entry_11 : decode cX9_entry 11 = .ok (.ireturn, 1) := by decide +kernel
theorem dX9_checks_0 : decode cX9_checks 0 = .ok (.aload_n 0, 1) := by decide +kernel
theorem dX9_checks_1 : decode cX9_checks 1 = .ok (.invokevirtual 106, 3) := by decide +kernel
theorem dX9_checks_4 : decode cX9_checks 4 = .ok (.aload_n 0, 1) := by decide +kernel
theorem dX9_checks_5 : decode cX9_checks 5 = .ok (.iload_n 1, 1) := by decide +kernel
theorem dX9_checks_6 : decode cX9_checks 6 = .ok (.iload_n 2, 1) := by decide +kernel
theorem dX9_checks_7 : decode cX9_checks 7 = .ok (.invokevirtual 137, 3) := by decide +kernel
theorem dX9_checks_10 : decode cX9_checks 10 = .ok (.ireturn, 1) := by decide +kernel
theorem dX9_snapshot_0 : decode cX9_snapshot 0 = .ok (.aload_n 0, 1) := by decide +kernel
theorem dX9_snapshot_1 : decode cX9_snapshot 1 = .ok (.invokevirtual 106, 3) := by decide +kernel
theorem dX9_snapshot_4 : decode cX9_snapshot 4 = .ok (.aload_n 0, 1) := by decide +kernel
theorem dX9_snapshot_5 : decode cX9_snapshot 5 = .ok (.iload_n 1, 1) := by decide +kernel
theorem dX9_snapshot_6 : decode cX9_snapshot 6 = .ok (.iload_n 2, 1) := by decide +kernel
theorem dX9_snapshot_7 : decode cX9_snapshot 7 = .ok (.iload_n 3, 1) := by decide +kernel
theorem dX9_snapshot_8 : decode cX9_snapshot 8 = .ok (.invokevirtual 140, 3) := by decide +kernel
theorem dX9_snapshot_11 : decode cX9_snapshot 11 = .ok (.ireturn, 1) := by decide +kernel
theorem dX9_writes_0 : decode cX9_writes 0 = .ok (.aload_n 0, 1) := by decide +kernel
theorem dX9_writes_1 : decode cX9_writes 1 = .ok (.invokevirtual 106, 3) := by decide +kernel
theorem dX9_writes_4 : decode cX9_writes 4 = .ok (.aload_n 0, 1) := by decide +kernel
theorem dX9_writes_5 : decode cX9_writes 5 = .ok (.iload_n 1, 1) := by decide +kernel
theorem dX9_writes_6 : decode cX9_writes 6 = .ok (.invokevirtual 143, 3) := by decide +kernel
theorem dX9_writes_9 : decode cX9_writes 9 = .ok (.ireturn, 1) := by decide +kernel
theorem dX9_better_0 : decode cX9_better 0 = .ok (.aload_n 0, 1) := by decide +kernel
theorem dX9_better_1 : decode cX9_better 1 = .ok (.invokevirtual 146, 3) := by decide +kernel
theorem dX9_better_4 : decode cX9_better 4 = .ok (.aload_n 0, 1) := by decide +kernel
theorem dX9_better_5 : decode cX9_better 5 = .ok (.iload_n 1, 1) := by decide +kernel
theorem dX9_better_6 : decode cX9_better 6 = .ok (.invokevirtual 149, 3) := by decide +kernel
theorem dX9_better_9 : decode cX9_better 9 = .ok (.ireturn, 1) := by decide +kernel
theorem dX9_sheet_0 : decode cX9_sheet 0 = .ok (.iload_n 1, 1) := by decide +kernel
theorem dX9_sheet_1 : decode cX9_sheet 1 = .ok (.invokestatic 90, 3) := by decide +kernel
theorem dX9_sheet_4 : decode cX9_sheet 4 = .ok (.ifCond .eq 16, 3) := by decide +kernel
theorem dX9_sheet_7 : decode cX9_sheet 7 = .ok (.iload_n 2, 1) := by decide +kernel
theorem dX9_sheet_8 : decode cX9_sheet 8 = .ok (.invokestatic 152, 3) := by decide +kernel
theorem dX9_sheet_11 : decode cX9_sheet 11 = .ok (.ifCond .eq 9, 3) := by decide +kernel
theorem dX9_sheet_14 : decode cX9_sheet 14 = .ok (.iload_n 3, 1) := by decide +kernel
theorem dX9_sheet_15 : decode cX9_sheet 15 = .ok (.bipush 60, 2) := by decide +kernel
theorem dX9_sheet_17 : decode cX9_sheet 17 = .ok (.if_icmp .le 6, 3) := by decide +kernel
theorem dX9_sheet_20 : decode cX9_sheet 20 = .ok (.bipush (-2), 2) := by decide +kernel
theorem dX9_sheet_22 : decode cX9_sheet 22 = .ok (.ireturn, 1) := by decide +kernel
theorem dX9_sheet_23 : decode cX9_sheet 23 = .ok (.iload_n 3, 1) := by decide +kernel
theorem dX9_sheet_24 : decode cX9_sheet 24 = .ok (.ifCond .ge 9, 3) := by decide +kernel
theorem dX9_sheet_27 : decode cX9_sheet 27 = .ok (.aload_n 0, 1) := by decide +kernel
theorem dX9_sheet_28 : decode cX9_sheet 28 = .ok (.iconst 5, 1) := by decide +kernel
theorem dX9_sheet_29 : decode cX9_sheet 29 = .ok (.invokevirtual 97, 3) := by decide +kernel
theorem dX9_sheet_32 : decode cX9_sheet 32 = .ok (.ireturn, 1) := by decide +kernel
theorem dX9_sheet_33 : decode cX9_sheet 33 = .ok (.aload_n 0, 1) := by decide +kernel
theorem dX9_sheet_34 : decode cX9_sheet 34 = .ok (.getfield 40, 3) := by decide +kernel
theorem dX9_sheet_37 : decode cX9_sheet 37 = .ok (.iload_n 1, 1) := by decide +kernel
theorem dX9_sheet_38 : decode cX9_sheet 38 = .ok (.aaload, 1) := by decide +kernel
theorem dX9_sheet_39 : decode cX9_sheet 39 = .ok (.iload_n 2, 1) := by decide +kernel
theorem dX9_sheet_40 : decode cX9_sheet 40 = .ok (.iload_n 3, 1) := by decide +kernel
theorem dX9_sheet_41 : decode cX9_sheet 41 = .ok (.invokevirtual 155, 3) := by decide +kernel
theorem dX9_sheet_44 : decode cX9_sheet 44 = .ok (.iload_n 3, 1) := by decide +kernel
theorem dX9_sheet_45 : decode cX9_sheet 45 = .ok (.ireturn, 1) := by decide +kernel
theorem dX9_lose_0 : decode cX9_lose 0 = .ok (.iload_n 1, 1) := by decide +kernel
theorem dX9_lose_1 : decode cX9_lose 1 = .ok (.invokestatic 90, 3) := by decide +kernel
theorem dX9_lose_4 : decode cX9_lose 4 = .ok (.ifCond .ne 6, 3) := by decide +kernel
theorem dX9_lose_7 : decode cX9_lose 7 = .ok (.bipush (-2), 2) := by decide +kernel
theorem dX9_lose_9 : decode cX9_lose 9 = .ok (.ireturn, 1) := by decide +kernel
theorem dX9_lose_10 : decode cX9_lose 10 = .ok (.aload_n 0, 1) := by decide +kernel
theorem dX9_lose_11 : decode cX9_lose 11 = .ok (.getfield 40, 3) := by decide +kernel
theorem dX9_lose_14 : decode cX9_lose 14 = .ok (.iload_n 1, 1) := by decide +kernel
theorem dX9_lose_15 : decode cX9_lose 15 = .ok (.aaload, 1) := by decide +kernel
theorem dX9_lose_16 : decode cX9_lose 16 = .ok (.invokevirtual 93, 3) := by decide +kernel
theorem dX9_lose_19 : decode cX9_lose 19 = .ok (.ifCond .eq 9, 3) := by decide +kernel
theorem dX9_lose_22 : decode cX9_lose 22 = .ok (.aload_n 0, 1) := by decide +kernel
theorem dX9_lose_23 : decode cX9_lose 23 = .ok (.iconst 1, 1) := by decide +kernel
theorem dX9_lose_24 : decode cX9_lose 24 = .ok (.invokevirtual 97, 3) := by decide +kernel
theorem dX9_lose_27 : decode cX9_lose 27 = .ok (.ireturn, 1) := by decide +kernel
theorem dX9_lose_28 : decode cX9_lose 28 = .ok (.aload_n 0, 1) := by decide +kernel
theorem dX9_lose_29 : decode cX9_lose 29 = .ok (.getfield 40, 3) := by decide +kernel
theorem dX9_lose_32 : decode cX9_lose 32 = .ok (.iload_n 1, 1) := by decide +kernel
theorem dX9_lose_33 : decode cX9_lose 33 = .ok (.aaload, 1) := by decide +kernel
theorem dX9_lose_34 : decode cX9_lose 34 = .ok (.getfield 101, 3) := by decide +kernel
theorem dX9_lose_37 : decode cX9_lose 37 = .ok (.istore_n 2, 1) := by decide +kernel
theorem dX9_lose_38 : decode cX9_lose 38 = .ok (.aload_n 0, 1) := by decide +kernel
theorem dX9_lose_39 : decode cX9_lose 39 = .ok (.getfield 40, 3) := by decide +kernel
theorem dX9_lose_42 : decode cX9_lose 42 = .ok (.iload_n 1, 1) := by decide +kernel
theorem dX9_lose_43 : decode cX9_lose 43 = .ok (.aaload, 1) := by decide +kernel
theorem dX9_lose_44 : decode cX9_lose 44 = .ok (.iconst (-1), 1) := by decide +kernel
theorem dX9_lose_45 : decode cX9_lose 45 = .ok (.iconst 0, 1) := by decide +kernel
theorem dX9_lose_46 : decode cX9_lose 46 = .ok (.invokevirtual 155, 3) := by decide +kernel
theorem dX9_lose_49 : decode cX9_lose 49 = .ok (.iload_n 2, 1) := by decide +kernel
theorem dX9_lose_50 : decode cX9_lose 50 = .ok (.ireturn, 1) := by decide +kernel
theorem dX9_lay_0 : decode cX9_lay 0 = .ok (.iload_n 1, 1) := by decide +kernel
theorem dX9_lay_1 : decode cX9_lay 1 = .ok (.invokestatic 90, 3) := by decide +kernel
theorem dX9_lay_4 : decode cX9_lay 4 = .ok (.ifCond .eq 10, 3) := by decide +kernel
theorem dX9_lay_7 : decode cX9_lay 7 = .ok (.iload_n 2, 1) := by decide +kernel
theorem dX9_lay_8 : decode cX9_lay 8 = .ok (.invokestatic 152, 3) := by decide +kernel
theorem dX9_lay_11 : decode cX9_lay 11 = .ok (.ifCond .ne 6, 3) := by decide +kernel
theorem dX9_lay_14 : decode cX9_lay 14 = .ok (.bipush (-2), 2) := by decide +kernel
theorem dX9_lay_16 : decode cX9_lay 16 = .ok (.ireturn, 1) := by decide +kernel
theorem dX9_lay_17 : decode cX9_lay 17 = .ok (.aload_n 0, 1) := by decide +kernel
theorem dX9_lay_18 : decode cX9_lay 18 = .ok (.getfield 40, 3) := by decide +kernel
theorem dX9_lay_21 : decode cX9_lay 21 = .ok (.iload_n 1, 1) := by decide +kernel
theorem dX9_lay_22 : decode cX9_lay 22 = .ok (.aaload, 1) := by decide +kernel
theorem dX9_lay_23 : decode cX9_lay 23 = .ok (.iload_n 2, 1) := by decide +kernel
theorem dX9_lay_24 : decode cX9_lay 24 = .ok (.iload_n 3, 1) := by decide +kernel
theorem dX9_lay_25 : decode cX9_lay 25 = .ok (.invokevirtual 159, 3) := by decide +kernel
theorem dX9_lay_28 : decode cX9_lay 28 = .ok (.istore 5, 2) := by decide +kernel
theorem dX9_lay_30 : decode cX9_lay 30 = .ok (.iload 5, 2) := by decide +kernel
theorem dX9_lay_32 : decode cX9_lay 32 = .ok (.ifCond .eq 10, 3) := by decide +kernel
theorem dX9_lay_35 : decode cX9_lay 35 = .ok (.aload_n 0, 1) := by decide +kernel
theorem dX9_lay_36 : decode cX9_lay 36 = .ok (.iload 5, 2) := by decide +kernel
theorem dX9_lay_38 : decode cX9_lay 38 = .ok (.invokevirtual 97, 3) := by decide +kernel
theorem dX9_lay_41 : decode cX9_lay 41 = .ok (.ireturn, 1) := by decide +kernel
theorem dX9_lay_42 : decode cX9_lay 42 = .ok (.aload_n 0, 1) := by decide +kernel
theorem dX9_lay_43 : decode cX9_lay 43 = .ok (.getfield 40, 3) := by decide +kernel
theorem dX9_lay_46 : decode cX9_lay 46 = .ok (.iload_n 1, 1) := by decide +kernel
theorem dX9_lay_47 : decode cX9_lay 47 = .ok (.aaload, 1) := by decide +kernel
theorem dX9_lay_48 : decode cX9_lay 48 = .ok (.iload_n 3, 1) := by decide +kernel
theorem dX9_lay_49 : decode cX9_lay 49 = .ok (.iload 4, 2) := by decide +kernel
theorem dX9_lay_51 : decode cX9_lay 51 = .ok (.invokevirtual 162, 3) := by decide +kernel
theorem dX9_lay_54 : decode cX9_lay 54 = .ok (.iconst 1, 1) := by decide +kernel
theorem dX9_lay_55 : decode cX9_lay 55 = .ok (.ireturn, 1) := by decide +kernel
theorem dX9_get_0 : decode cX9_get 0 = .ok (.iload_n 1, 1) := by decide +kernel
theorem dX9_get_1 : decode cX9_get 1 = .ok (.invokestatic 90, 3) := by decide +kernel
theorem dX9_get_4 : decode cX9_get 4 = .ok (.ifCond .eq 10, 3) := by decide +kernel
theorem dX9_get_7 : decode cX9_get 7 = .ok (.iload_n 2, 1) := by decide +kernel
theorem dX9_get_8 : decode cX9_get 8 = .ok (.invokestatic 152, 3) := by decide +kernel
theorem dX9_get_11 : decode cX9_get 11 = .ok (.ifCond .ne 6, 3) := by decide +kernel
theorem dX9_get_14 : decode cX9_get 14 = .ok (.ldc 165, 2) := by decide +kernel
theorem dX9_get_16 : decode cX9_get 16 = .ok (.ireturn, 1) := by decide +kernel
theorem dX9_get_17 : decode cX9_get 17 = .ok (.aload_n 0, 1) := by decide +kernel
theorem dX9_get_18 : decode cX9_get 18 = .ok (.getfield 40, 3) := by decide +kernel
theorem dX9_get_21 : decode cX9_get 21 = .ok (.iload_n 1, 1) := by decide +kernel
theorem dX9_get_22 : decode cX9_get 22 = .ok (.aaload, 1) := by decide +kernel
theorem dX9_get_23 : decode cX9_get 23 = .ok (.iload_n 2, 1) := by decide +kernel
theorem dX9_get_24 : decode cX9_get 24 = .ok (.iload_n 3, 1) := by decide +kernel
theorem dX9_get_25 : decode cX9_get 25 = .ok (.invokevirtual 159, 3) := by decide +kernel
theorem dX9_get_28 : decode cX9_get 28 = .ok (.istore 4, 2) := by decide +kernel
theorem dX9_get_30 : decode cX9_get 30 = .ok (.iload 4, 2) := by decide +kernel
theorem dX9_get_32 : decode cX9_get 32 = .ok (.ifCond .eq 12, 3) := by decide +kernel
theorem dX9_get_35 : decode cX9_get 35 = .ok (.aload_n 0, 1) := by decide +kernel
theorem dX9_get_36 : decode cX9_get 36 = .ok (.iload 4, 2) := by decide +kernel
theorem dX9_get_38 : decode cX9_get 38 = .ok (.putfield 166, 3) := by decide +kernel
theorem dX9_get_41 : decode cX9_get 41 = .ok (.ldc 165, 2) := by decide +kernel
theorem dX9_get_43 : decode cX9_get 43 = .ok (.ireturn, 1) := by decide +kernel
theorem dX9_get_44 : decode cX9_get 44 = .ok (.aload_n 0, 1) := by decide +kernel
theorem dX9_get_45 : decode cX9_get 45 = .ok (.getfield 40, 3) := by decide +kernel
theorem dX9_get_48 : decode cX9_get 48 = .ok (.iload_n 1, 1) := by decide +kernel
theorem dX9_get_49 : decode cX9_get 49 = .ok (.aaload, 1) := by decide +kernel
theorem dX9_get_50 : decode cX9_get 50 = .ok (.getfield 102, 3) := by decide +kernel
theorem dX9_get_53 : decode cX9_get 53 = .ok (.iload_n 3, 1) := by decide +kernel
theorem dX9_get_54 : decode cX9_get 54 = .ok (.iaload, 1) := by decide +kernel
theorem dX9_get_55 : decode cX9_get 55 = .ok (.ireturn, 1) := by decide +kernel
theorem dX9_copy_0 : decode cX9_copy 0 = .ok (.iload_n 1, 1) := by decide +kernel
theorem dX9_copy_1 : decode cX9_copy 1 = .ok (.invokestatic 90, 3) := by decide +kernel
theorem dX9_copy_4 : decode cX9_copy 4 = .ok (.ifCond .eq 10, 3) := by decide +kernel
theorem dX9_copy_7 : decode cX9_copy 7 = .ok (.iload_n 3, 1) := by decide +kernel
theorem dX9_copy_8 : decode cX9_copy 8 = .ok (.invokestatic 90, 3) := by decide +kernel
theorem dX9_copy_11 : decode cX9_copy 11 = .ok (.ifCond .ne 6, 3) := by decide +kernel
theorem dX9_copy_14 : decode cX9_copy 14 = .ok (.bipush (-2), 2) := by decide +kernel
theorem dX9_copy_16 : decode cX9_copy 16 = .ok (.ireturn, 1) := by decide +kernel
theorem dX9_copy_17 : decode cX9_copy 17 = .ok (.aload_n 0, 1) := by decide +kernel
theorem dX9_copy_18 : decode cX9_copy 18 = .ok (.getfield 40, 3) := by decide +kernel
theorem dX9_copy_21 : decode cX9_copy 21 = .ok (.iload_n 1, 1) := by decide +kernel
theorem dX9_copy_22 : decode cX9_copy 22 = .ok (.aaload, 1) := by decide +kernel
theorem dX9_copy_23 : decode cX9_copy 23 = .ok (.astore 6, 2) := by decide +kernel
theorem dX9_copy_25 : decode cX9_copy 25 = .ok (.aload_n 0, 1) := by decide +kernel
theorem dX9_copy_26 : decode cX9_copy 26 = .ok (.getfield 40, 3) := by decide +kernel
theorem dX9_copy_29 : decode cX9_copy 29 = .ok (.iload_n 3, 1) := by decide +kernel
theorem dX9_copy_30 : decode cX9_copy 30 = .ok (.aaload, 1) := by decide +kernel
theorem dX9_copy_31 : decode cX9_copy 31 = .ok (.astore 7, 2) := by decide +kernel
theorem dX9_copy_33 : decode cX9_copy 33 = .ok (.aload 6, 2) := by decide +kernel
theorem dX9_copy_35 : decode cX9_copy 35 = .ok (.invokevirtual 93, 3) := by decide +kernel
theorem dX9_copy_38 : decode cX9_copy 38 = .ok (.ifCond .ne 11, 3) := by decide +kernel
theorem dX9_copy_41 : decode cX9_copy 41 = .ok (.aload 7, 2) := by decide +kernel
theorem dX9_copy_43 : decode cX9_copy 43 = .ok (.invokevirtual 93, 3) := by decide +kernel
theorem dX9_copy_46 : decode cX9_copy 46 = .ok (.ifCond .eq 9, 3) := by decide +kernel
theorem dX9_copy_49 : decode cX9_copy 49 = .ok (.aload_n 0, 1) := by decide +kernel
theorem dX9_copy_50 : decode cX9_copy 50 = .ok (.iconst 1, 1) := by decide +kernel
theorem dX9_copy_51 : decode cX9_copy 51 = .ok (.invokevirtual 97, 3) := by decide +kernel
theorem dX9_copy_54 : decode cX9_copy 54 = .ok (.ireturn, 1) := by decide +kernel
theorem dX9_copy_55 : decode cX9_copy 55 = .ok (.aload 6, 2) := by decide +kernel
theorem dX9_copy_57 : decode cX9_copy 57 = .ok (.getfield 169, 3) := by decide +kernel
theorem dX9_copy_60 : decode cX9_copy 60 = .ok (.aload 7, 2) := by decide +kernel
theorem dX9_copy_62 : decode cX9_copy 62 = .ok (.getfield 169, 3) := by decide +kernel
theorem dX9_copy_65 : decode cX9_copy 65 = .ok (.if_icmp .eq 9, 3) := by decide +kernel
theorem dX9_copy_68 : decode cX9_copy 68 = .ok (.aload_n 0, 1) := by decide +kernel
theorem dX9_copy_69 : decode cX9_copy 69 = .ok (.iconst 4, 1) := by decide +kernel
theorem dX9_copy_70 : decode cX9_copy 70 = .ok (.invokevirtual 97, 3) := by decide +kernel
theorem dX9_copy_73 : decode cX9_copy 73 = .ok (.ireturn, 1) := by decide +kernel
theorem dX9_copy_74 : decode cX9_copy 74 = .ok (.aload 6, 2) := by decide +kernel
theorem dX9_copy_76 : decode cX9_copy 76 = .ok (.iload_n 2, 1) := by decide +kernel
theorem dX9_copy_77 : decode cX9_copy 77 = .ok (.iload 5, 2) := by decide +kernel
theorem dX9_copy_79 : decode cX9_copy 79 = .ok (.invokevirtual 172, 3) := by decide +kernel
theorem dX9_copy_82 : decode cX9_copy 82 = .ok (.ifCond .eq 15, 3) := by decide +kernel
theorem dX9_copy_85 : decode cX9_copy 85 = .ok (.aload 7, 2) := by decide +kernel
theorem dX9_copy_87 : decode cX9_copy 87 = .ok (.iload 4, 2) := by decide +kernel
theorem dX9_copy_89 : decode cX9_copy 89 = .ok (.iload 5, 2) := by decide +kernel
theorem dX9_copy_91 : decode cX9_copy 91 = .ok (.invokevirtual 172, 3) := by decide +kernel
theorem dX9_copy_94 : decode cX9_copy 94 = .ok (.ifCond .ne 9, 3) := by decide +kernel
theorem dX9_copy_97 : decode cX9_copy 97 = .ok (.aload_n 0, 1) := by decide +kernel
theorem dX9_copy_98 : decode cX9_copy 98 = .ok (.iconst 2, 1) := by decide +kernel
theorem dX9_copy_99 : decode cX9_copy 99 = .ok (.invokevirtual 97, 3) := by decide +kernel
theorem dX9_copy_102 : decode cX9_copy 102 = .ok (.ireturn, 1) := by decide +kernel
theorem dX9_copy_103 : decode cX9_copy 103 = .ok (.aload 6, 2) := by decide +kernel
theorem dX9_copy_105 : decode cX9_copy 105 = .ok (.getfield 102, 3) := by decide +kernel
theorem dX9_copy_108 : decode cX9_copy 108 = .ok (.iload_n 2, 1) := by decide +kernel
theorem dX9_copy_109 : decode cX9_copy 109 = .ok (.aload 7, 2) := by decide +kernel
theorem dX9_copy_111 : decode cX9_copy 111 = .ok (.getfield 102, 3) := by decide +kernel
theorem dX9_copy_114 : decode cX9_copy 114 = .ok (.iload 4, 2) := by decide +kernel
theorem dX9_copy_116 : decode cX9_copy 116 = .ok (.iload 5, 2) := by decide +kernel
theorem dX9_copy_118 : decode cX9_copy 118 = .ok (.invokestatic 176, 3) := by decide +kernel
theorem dX9_copy_121 : decode cX9_copy 121 = .ok (.iconst 1, 1) := by decide +kernel
theorem dX9_copy_122 : decode cX9_copy 122 = .ok (.ireturn, 1) := by decide +kernel
theorem dX9_write_0 : decode cX9_write 0 = .ok (.aload_n 0, 1) := by decide +kernel
theorem dX9_write_1 : decode cX9_write 1 = .ok (.invokevirtual 106, 3) := by decide +kernel
theorem dX9_write_4 : decode cX9_write 4 = .ok (.aload_n 0, 1) := by decide +kernel
theorem dX9_write_5 : decode cX9_write 5 = .ok (.getfield 31, 3) := by decide +kernel
theorem dX9_write_8 : decode cX9_write 8 = .ok (.getfield 121, 3) := by decide +kernel
theorem dX9_write_11 : decode cX9_write 11 = .ok (.iload_n 1, 1) := by decide +kernel
theorem dX9_write_12 : decode cX9_write 12 = .ok (.invokevirtual 182, 3) := by decide +kernel
theorem dX9_write_15 : decode cX9_write 15 = .ok (.ifCond .eq 10, 3) := by decide +kernel
theorem dX9_write_18 : decode cX9_write 18 = .ok (.iload_n 2, 1) := by decide +kernel
theorem dX9_write_19 : decode cX9_write 19 = .ok (.invokestatic 90, 3) := by decide +kernel
theorem dX9_write_22 : decode cX9_write 22 = .ok (.ifCond .ne 6, 3) := by decide +kernel
theorem dX9_write_25 : decode cX9_write 25 = .ok (.bipush (-2), 2) := by decide +kernel
theorem dX9_write_27 : decode cX9_write 27 = .ok (.ireturn, 1) := by decide +kernel
theorem dX9_write_28 : decode cX9_write 28 = .ok (.aload_n 0, 1) := by decide +kernel
theorem dX9_write_29 : decode cX9_write 29 = .ok (.getfield 40, 3) := by decide +kernel
theorem dX9_write_32 : decode cX9_write 32 = .ok (.iload_n 2, 1) := by decide +kernel
theorem dX9_write_33 : decode cX9_write 33 = .ok (.aaload, 1) := by decide +kernel
theorem dX9_write_34 : decode cX9_write 34 = .ok (.astore_n 3, 1) := by decide +kernel
theorem dX9_write_35 : decode cX9_write 35 = .ok (.aload_n 3, 1) := by decide +kernel
theorem dX9_write_36 : decode cX9_write 36 = .ok (.invokevirtual 93, 3) := by decide +kernel
theorem dX9_write_39 : decode cX9_write 39 = .ok (.ifCond .eq 9, 3) := by decide +kernel
theorem dX9_write_42 : decode cX9_write 42 = .ok (.aload_n 0, 1) := by decide +kernel
theorem dX9_write_43 : decode cX9_write 43 = .ok (.iconst 1, 1) := by decide +kernel
theorem dX9_write_44 : decode cX9_write 44 = .ok (.invokevirtual 97, 3) := by decide +kernel
theorem dX9_write_47 : decode cX9_write 47 = .ok (.ireturn, 1) := by decide +kernel
theorem dX9_write_48 : decode cX9_write 48 = .ok (.aload_n 0, 1) := by decide +kernel
theorem dX9_write_49 : decode cX9_write 49 = .ok (.getfield 31, 3) := by decide +kernel
theorem dX9_write_52 : decode cX9_write 52 = .ok (.getfield 121, 3) := by decide +kernel
theorem dX9_write_55 : decode cX9_write 55 = .ok (.getfield 185, 3) := by decide +kernel
theorem dX9_write_58 : decode cX9_write 58 = .ok (.iload_n 1, 1) := by decide +kernel
theorem dX9_write_59 : decode cX9_write 59 = .ok (.aaload, 1) := by decide +kernel
theorem dX9_write_60 : decode cX9_write 60 = .ok (.astore 4, 2) := by decide +kernel
theorem dX9_write_62 : decode cX9_write 62 = .ok (.aload 4, 2) := by decide +kernel
theorem dX9_write_64 : decode cX9_write 64 = .ok (.getfield 189, 3) := by decide +kernel
theorem dX9_write_67 : decode cX9_write 67 = .ok (.aload_n 3, 1) := by decide +kernel
theorem dX9_write_68 : decode cX9_write 68 = .ok (.getfield 101, 3) := by decide +kernel
theorem dX9_write_71 : decode cX9_write 71 = .ok (.invokestatic 192, 3) := by decide +kernel
theorem dX9_write_74 : decode cX9_write 74 = .ok (.istore 5, 2) := by decide +kernel
theorem dX9_write_76 : decode cX9_write 76 = .ok (.iconst 0, 1) := by decide +kernel
theorem dX9_write_77 : decode cX9_write 77 = .ok (.istore 6, 2) := by decide +kernel
theorem dX9_write_79 : decode cX9_write 79 = .ok (.iload 6, 2) := by decide +kernel
theorem dX9_write_81 : decode cX9_write 81 = .ok (.iload 5, 2) := by decide +kernel
theorem dX9_write_83 : decode cX9_write 83 = .ok (.if_icmp .ge 23, 3) := by decide +kernel
theorem dX9_write_86 : decode cX9_write 86 = .ok (.aload_n 3, 1) := by decide +kernel
theorem dX9_write_87 : decode cX9_write 87 = .ok (.iload 6, 2) := by decide +kernel
theorem dX9_write_89 : decode cX9_write 89 = .ok (.aload 4, 2) := by decide +kernel
theorem dX9_write_91 : decode cX9_write 91 = .ok (.getfield 197, 3) := by decide +kernel
theorem dX9_write_94 : decode cX9_write 94 = .ok (.iload 6, 2) := by decide +kernel
theorem dX9_write_96 : decode cX9_write 96 = .ok (.iaload, 1) := by decide +kernel
theorem dX9_write_97 : decode cX9_write 97 = .ok (.invokevirtual 162, 3) := by decide +kernel
theorem dX9_write_100 : decode cX9_write 100 = .ok (.iinc 6 1, 3) := by decide +kernel
theorem dX9_write_103 : decode cX9_write 103 = .ok (.goto (-24), 3) := by decide +kernel
theorem dX9_write_106 : decode cX9_write 106 = .ok (.iload 5, 2) := by decide +kernel
theorem dX9_write_108 : decode cX9_write 108 = .ok (.ireturn, 1) := by decide +kernel
theorem dX9_count_0 : decode cX9_count 0 = .ok (.aload_n 0, 1) := by decide +kernel
theorem dX9_count_1 : decode cX9_count 1 = .ok (.invokevirtual 106, 3) := by decide +kernel
theorem dX9_count_4 : decode cX9_count 4 = .ok (.aload_n 0, 1) := by decide +kernel
theorem dX9_count_5 : decode cX9_count 5 = .ok (.iload_n 1, 1) := by decide +kernel
theorem dX9_count_6 : decode cX9_count 6 = .ok (.invokevirtual 200, 3) := by decide +kernel
theorem dX9_count_9 : decode cX9_count 9 = .ok (.ireturn, 1) := by decide +kernel
theorem dX9_digest_0 : decode cX9_digest 0 = .ok (.aload_n 0, 1) := by decide +kernel
theorem dX9_digest_1 : decode cX9_digest 1 = .ok (.invokevirtual 106, 3) := by decide +kernel
theorem dX9_digest_4 : decode cX9_digest 4 = .ok (.aload_n 0, 1) := by decide +kernel
theorem dX9_digest_5 : decode cX9_digest 5 = .ok (.invokevirtual 115, 3) := by decide +kernel
theorem dX9_digest_8 : decode cX9_digest 8 = .ok (.aload_n 0, 1) := by decide +kernel
theorem dX9_digest_9 : decode cX9_digest 9 = .ok (.invokevirtual 146, 3) := by decide +kernel
theorem dX9_digest_12 : decode cX9_digest 12 = .ok (.ldc2_w 203, 3) := by decide +kernel
theorem dX9_digest_15 : decode cX9_digest 15 = .ok (.lstore_n 1, 1) := by decide +kernel
theorem dX9_digest_16 : decode cX9_digest 16 = .ok (.iconst 0, 1) := by decide +kernel
theorem dX9_digest_17 : decode cX9_digest 17 = .ok (.istore_n 3, 1) := by decide +kernel
theorem dX9_digest_18 : decode cX9_digest 18 = .ok (.iload_n 3, 1) := by decide +kernel
theorem dX9_digest_19 : decode cX9_digest 19 = .ok (.bipush 8, 2) := by decide +kernel
theorem dX9_digest_21 : decode cX9_digest 21 = .ok (.if_icmp .ge 22, 3) := by decide +kernel
theorem dX9_digest_24 : decode cX9_digest 24 = .ok (.ldc2_w 205, 3) := by decide +kernel
theorem dX9_digest_27 : decode cX9_digest 27 = .ok (.lload_n 1, 1) := by decide +kernel
theorem dX9_digest_28 : decode cX9_digest 28 = .ok (.lmul, 1) := by decide +kernel
theorem dX9_digest_29 : decode cX9_digest 29 = .ok (.aload_n 0, 1) := by decide +kernel
theorem dX9_digest_30 : decode cX9_digest 30 = .ok (.iload_n 3, 1) := by decide +kernel
theorem dX9_digest_31 : decode cX9_digest 31 = .ok (.invokevirtual 200, 3) := by decide +kernel
theorem dX9_digest_34 : decode cX9_digest 34 = .ok (.i2l, 1) := by decide +kernel
theorem dX9_digest_35 : decode cX9_digest 35 = .ok (.ladd, 1) := by decide +kernel
theorem dX9_digest_36 : decode cX9_digest 36 = .ok (.lstore_n 1, 1) := by decide +kernel
theorem dX9_digest_37 : decode cX9_digest 37 = .ok (.iinc 3 1, 3) := by decide +kernel
theorem dX9_digest_40 : decode cX9_digest 40 = .ok (.goto (-22), 3) := by decide +kernel
theorem dX9_digest_43 : decode cX9_digest 43 = .ok (.iconst 0, 1) := by decide +kernel
theorem dX9_digest_44 : decode cX9_digest 44 = .ok (.istore_n 3, 1) := by decide +kernel
theorem dX9_digest_45 : decode cX9_digest 45 = .ok (.iload_n 3, 1) := by decide +kernel
theorem dX9_digest_46 : decode cX9_digest 46 = .ok (.bipush 6, 2) := by decide +kernel
theorem dX9_digest_48 : decode cX9_digest 48 = .ok (.if_icmp .ge 22, 3) := by decide +kernel
theorem dX9_digest_51 : decode cX9_digest 51 = .ok (.ldc2_w 205, 3) := by decide +kernel
theorem dX9_digest_54 : decode cX9_digest 54 = .ok (.lload_n 1, 1) := by decide +kernel
theorem dX9_digest_55 : decode cX9_digest 55 = .ok (.lmul, 1) := by decide +kernel
theorem dX9_digest_56 : decode cX9_digest 56 = .ok (.aload_n 0, 1) := by decide +kernel
theorem dX9_digest_57 : decode cX9_digest 57 = .ok (.iload_n 3, 1) := by decide +kernel
theorem dX9_digest_58 : decode cX9_digest 58 = .ok (.invokevirtual 118, 3) := by decide +kernel
theorem dX9_digest_61 : decode cX9_digest 61 = .ok (.i2l, 1) := by decide +kernel
theorem dX9_digest_62 : decode cX9_digest 62 = .ok (.ladd, 1) := by decide +kernel
theorem dX9_digest_63 : decode cX9_digest 63 = .ok (.lstore_n 1, 1) := by decide +kernel
theorem dX9_digest_64 : decode cX9_digest 64 = .ok (.iinc 3 1, 3) := by decide +kernel
theorem dX9_digest_67 : decode cX9_digest 67 = .ok (.goto (-22), 3) := by decide +kernel
theorem dX9_digest_70 : decode cX9_digest 70 = .ok (.iconst 0, 1) := by decide +kernel
theorem dX9_digest_71 : decode cX9_digest 71 = .ok (.istore_n 3, 1) := by decide +kernel
theorem dX9_digest_72 : decode cX9_digest 72 = .ok (.iload_n 3, 1) := by decide +kernel
theorem dX9_digest_73 : decode cX9_digest 73 = .ok (.bipush 8, 2) := by decide +kernel
theorem dX9_digest_75 : decode cX9_digest 75 = .ok (.if_icmp .ge 16, 3) := by decide +kernel
theorem dX9_digest_78 : decode cX9_digest 78 = .ok (.aload_n 0, 1) := by decide +kernel
theorem dX9_digest_79 : decode cX9_digest 79 = .ok (.lload_n 1, 1) := by decide +kernel
theorem dX9_digest_80 : decode cX9_digest 80 = .ok (.iload_n 3, 1) := by decide +kernel
theorem dX9_digest_81 : decode cX9_digest 81 = .ok (.invokevirtual 207, 3) := by decide +kernel
theorem dX9_digest_84 : decode cX9_digest 84 = .ok (.lstore_n 1, 1) := by decide +kernel
theorem dX9_digest_85 : decode cX9_digest 85 = .ok (.iinc 3 1, 3) := by decide +kernel
theorem dX9_digest_88 : decode cX9_digest 88 = .ok (.goto (-16), 3) := by decide +kernel
theorem dX9_digest_91 : decode cX9_digest 91 = .ok (.iconst 0, 1) := by decide +kernel
theorem dX9_digest_92 : decode cX9_digest 92 = .ok (.istore_n 3, 1) := by decide +kernel
theorem dX9_digest_93 : decode cX9_digest 93 = .ok (.iload_n 3, 1) := by decide +kernel
theorem dX9_digest_94 : decode cX9_digest 94 = .ok (.bipush 24, 2) := by decide +kernel
theorem dX9_digest_96 : decode cX9_digest 96 = .ok (.if_icmp .ge 16, 3) := by decide +kernel
theorem dX9_digest_99 : decode cX9_digest 99 = .ok (.aload_n 0, 1) := by decide +kernel
theorem dX9_digest_100 : decode cX9_digest 100 = .ok (.lload_n 1, 1) := by decide +kernel
theorem dX9_digest_101 : decode cX9_digest 101 = .ok (.iload_n 3, 1) := by decide +kernel
theorem dX9_digest_102 : decode cX9_digest 102 = .ok (.invokevirtual 211, 3) := by decide +kernel
theorem dX9_digest_105 : decode cX9_digest 105 = .ok (.lstore_n 1, 1) := by decide +kernel
theorem dX9_digest_106 : decode cX9_digest 106 = .ok (.iinc 3 1, 3) := by decide +kernel
theorem dX9_digest_109 : decode cX9_digest 109 = .ok (.goto (-16), 3) := by decide +kernel
theorem dX9_digest_112 : decode cX9_digest 112 = .ok (.iconst 0, 1) := by decide +kernel
theorem dX9_digest_113 : decode cX9_digest 113 = .ok (.istore_n 3, 1) := by decide +kernel
theorem dX9_digest_114 : decode cX9_digest 114 = .ok (.iload_n 3, 1) := by decide +kernel
theorem dX9_digest_115 : decode cX9_digest 115 = .ok (.bipush 8, 2) := by decide +kernel
theorem dX9_digest_117 : decode cX9_digest 117 = .ok (.if_icmp .ge 16, 3) := by decide +kernel
theorem dX9_digest_120 : decode cX9_digest 120 = .ok (.aload_n 0, 1) := by decide +kernel
theorem dX9_digest_121 : decode cX9_digest 121 = .ok (.lload_n 1, 1) := by decide +kernel
theorem dX9_digest_122 : decode cX9_digest 122 = .ok (.iload_n 3, 1) := by decide +kernel
theorem dX9_digest_123 : decode cX9_digest 123 = .ok (.invokevirtual 214, 3) := by decide +kernel
theorem dX9_digest_126 : decode cX9_digest 126 = .ok (.lstore_n 1, 1) := by decide +kernel
theorem dX9_digest_127 : decode cX9_digest 127 = .ok (.iinc 3 1, 3) := by decide +kernel
theorem dX9_digest_130 : decode cX9_digest 130 = .ok (.goto (-16), 3) := by decide +kernel
theorem dX9_digest_133 : decode cX9_digest 133 = .ok (.ldc2_w 205, 3) := by decide +kernel
theorem dX9_digest_136 : decode cX9_digest 136 = .ok (.lload_n 1, 1) := by decide +kernel
theorem dX9_digest_137 : decode cX9_digest 137 = .ok (.lmul, 1) := by decide +kernel
theorem dX9_digest_138 : decode cX9_digest 138 = .ok (.aload_n 0, 1) := by decide +kernel
theorem dX9_digest_139 : decode cX9_digest 139 = .ok (.iconst 0, 1) := by decide +kernel
theorem dX9_digest_140 : decode cX9_digest 140 = .ok (.invokevirtual 149, 3) := by decide +kernel
theorem dX9_digest_143 : decode cX9_digest 143 = .ok (.i2l, 1) := by decide +kernel
theorem dX9_digest_144 : decode cX9_digest 144 = .ok (.ladd, 1) := by decide +kernel
theorem dX9_digest_145 : decode cX9_digest 145 = .ok (.lstore_n 1, 1) := by decide +kernel
theorem dX9_digest_146 : decode cX9_digest 146 = .ok (.ldc2_w 205, 3) := by decide +kernel
theorem dX9_digest_149 : decode cX9_digest 149 = .ok (.lload_n 1, 1) := by decide +kernel
theorem dX9_digest_150 : decode cX9_digest 150 = .ok (.lmul, 1) := by decide +kernel
theorem dX9_digest_151 : decode cX9_digest 151 = .ok (.aload_n 0, 1) := by decide +kernel
theorem dX9_digest_152 : decode cX9_digest 152 = .ok (.iconst 1, 1) := by decide +kernel
theorem dX9_digest_153 : decode cX9_digest 153 = .ok (.invokevirtual 149, 3) := by decide +kernel
theorem dX9_digest_156 : decode cX9_digest 156 = .ok (.i2l, 1) := by decide +kernel
theorem dX9_digest_157 : decode cX9_digest 157 = .ok (.ladd, 1) := by decide +kernel
theorem dX9_digest_158 : decode cX9_digest 158 = .ok (.lreturn, 1) := by decide +kernel
theorem dX9_isRegister_0 : decode cX9_isRegister 0 = .ok (.iload_n 0, 1) := by decide +kernel
theorem dX9_isRegister_1 : decode cX9_isRegister 1 = .ok (.ifCond .lt 13, 3) := by decide +kernel
theorem dX9_isRegister_4 : decode cX9_isRegister 4 = .ok (.iload_n 0, 1) := by decide +kernel
theorem dX9_isRegister_5 : decode cX9_isRegister 5 = .ok (.bipush 8, 2) := by decide +kernel
theorem dX9_isRegister_7 : decode cX9_isRegister 7 = .ok (.if_icmp .ge 7, 3) := by decide +kernel
theorem dX9_isRegister_10 : decode cX9_isRegister 10 = .ok (.iconst 1, 1) := by decide +kernel
theorem dX9_isRegister_11 : decode cX9_isRegister 11 = .ok (.goto 4, 3) := by decide +kernel
theorem dX9_isRegister_14 : decode cX9_isRegister 14 = .ok (.iconst 0, 1) := by decide +kernel
theorem dX9_isRegister_15 : decode cX9_isRegister 15 = .ok (.ireturn, 1) := by decide +kernel
theorem dX9_isSheet_0 : decode cX9_isSheet 0 = .ok (.iload_n 0, 1) := by decide +kernel
theorem dX9_isSheet_1 : decode cX9_isSheet 1 = .ok (.ifCond .lt 12, 3) := by decide +kernel
theorem dX9_isSheet_4 : decode cX9_isSheet 4 = .ok (.iload_n 0, 1) := by decide +kernel
theorem dX9_isSheet_5 : decode cX9_isSheet 5 = .ok (.iconst 4, 1) := by decide +kernel
theorem dX9_isSheet_6 : decode cX9_isSheet 6 = .ok (.if_icmp .ge 7, 3) := by decide +kernel
theorem dX9_isSheet_9 : decode cX9_isSheet 9 = .ok (.iconst 1, 1) := by decide +kernel
theorem dX9_isSheet_10 : decode cX9_isSheet 10 = .ok (.goto 4, 3) := by decide +kernel
theorem dX9_isSheet_13 : decode cX9_isSheet 13 = .ok (.iconst 0, 1) := by decide +kernel
theorem dX9_isSheet_14 : decode cX9_isSheet 14 = .ok (.ireturn, 1) := by decide +kernel
theorem dX9_found_0 : decode cX9_found 0 = .ok (.aload_n 0, 1) := by decide +kernel
theorem dX9_found_1 : decode cX9_found 1 = .ok (.iload_n 1, 1) := by decide +kernel
theorem dX9_found_2 : decode cX9_found 2 = .ok (.putfield 166, 3) := by decide +kernel
theorem dX9_found_5 : decode cX9_found 5 = .ok (.bipush (-10), 2) := by decide +kernel
theorem dX9_found_7 : decode cX9_found 7 = .ok (.iload_n 1, 1) := by decide +kernel
theorem dX9_found_8 : decode cX9_found 8 = .ok (.isub, 1) := by decide +kernel
theorem dX9_found_9 : decode cX9_found 9 = .ok (.ireturn, 1) := by decide +kernel
theorem dX9_forgetRuns_0 : decode cX9_forgetRuns 0 = .ok (.aload_n 0, 1) := by decide +kernel
theorem dX9_forgetRuns_1 : decode cX9_forgetRuns 1 = .ok (.iconst 0, 1) := by decide +kernel
theorem dX9_forgetRuns_2 : decode cX9_forgetRuns 2 = .ok (.putfield 217, 3) := by decide +kernel
theorem dX9_forgetRuns_5 : decode cX9_forgetRuns 5 = .ok (.aload_n 0, 1) := by decide +kernel
theorem dX9_forgetRuns_6 : decode cX9_forgetRuns 6 = .ok (.iconst 0, 1) := by decide +kernel
theorem dX9_forgetRuns_7 : decode cX9_forgetRuns 7 = .ok (.putfield 221, 3) := by decide +kernel
theorem dX9_forgetRuns_10 : decode cX9_forgetRuns 10 = .ok (.aload_n 0, 1) := by decide +kernel
theorem dX9_forgetRuns_11 : decode cX9_forgetRuns 11 = .ok (.iconst 0, 1) := by decide +kernel
theorem dX9_forgetRuns_12 : decode cX9_forgetRuns 12 = .ok (.putfield 224, 3) := by decide +kernel
theorem dX9_forgetRuns_15 : decode cX9_forgetRuns 15 = .ok (.return_, 1) := by decide +kernel
theorem dX9_refreshRun_0 : decode cX9_refreshRun 0 = .ok (.aload_n 0, 1) := by decide +kernel
theorem dX9_refreshRun_1 : decode cX9_refreshRun 1 = .ok (.getfield 217, 3) := by decide +kernel
theorem dX9_refreshRun_4 : decode cX9_refreshRun 4 = .ok (.ifCond .ne 27, 3) := by decide +kernel
theorem dX9_refreshRun_7 : decode cX9_refreshRun 7 = .ok (.aload_n 0, 1) := by decide +kernel
theorem dX9_refreshRun_8 : decode cX9_refreshRun 8 = .ok (.getfield 31, 3) := by decide +kernel
theorem dX9_refreshRun_11 : decode cX9_refreshRun 11 = .ok (.aload_n 0, 1) := by decide +kernel
theorem dX9_refreshRun_12 : decode cX9_refreshRun 12 = .ok (.getfield 19, 3) := by decide +kernel
theorem dX9_refreshRun_15 : decode cX9_refreshRun 15 = .ok (.aload_n 0, 1) := by decide +kernel
theorem dX9_refreshRun_16 : decode cX9_refreshRun 16 = .ok (.getfield 45, 3) := by decide +kernel
theorem dX9_refreshRun_19 : decode cX9_refreshRun 19 = .ok (.aload_n 0, 1) := by decide +kernel
theorem dX9_refreshRun_20 : decode cX9_refreshRun 20 = .ok (.getfield 49, 3) := by decide +kernel
theorem dX9_refreshRun_23 : decode cX9_refreshRun 23 = .ok (.invokevirtual 227, 3) := by decide +kernel
theorem dX9_refreshRun_26 : decode cX9_refreshRun 26 = .ok (.aload_n 0, 1) := by decide +kernel
theorem dX9_refreshRun_27 : decode cX9_refreshRun 27 = .ok (.iconst 1, 1) := by decide +kernel
theorem dX9_refreshRun_28 : decode cX9_refreshRun 28 = .ok (.putfield 217, 3) := by decide +kernel
theorem dX9_refreshRun_31 : decode cX9_refreshRun 31 = .ok (.return_, 1) := by decide +kernel
theorem dX9_refreshPlain_0 : decode cX9_refreshPlain 0 = .ok (.aload_n 0, 1) := by decide +kernel
theorem dX9_refreshPlain_1 : decode cX9_refreshPlain 1 = .ok (.getfield 221, 3) := by decide +kernel
theorem dX9_refreshPlain_4 : decode cX9_refreshPlain 4 = .ok (.ifCond .ne 39, 3) := by decide +kernel
theorem dX9_refreshPlain_7 : decode cX9_refreshPlain 7 = .ok (.aload_n 0, 1) := by decide +kernel
theorem dX9_refreshPlain_8 : decode cX9_refreshPlain 8 = .ok (.getfield 35, 3) := by decide +kernel
theorem dX9_refreshPlain_11 : decode cX9_refreshPlain 11 = .ok (.aload_n 0, 1) := by decide +kernel
theorem dX9_refreshPlain_12 : decode cX9_refreshPlain 12 = .ok (.getfield 19, 3) := by decide +kernel
theorem dX9_refreshPlain_15 : decode cX9_refreshPlain 15 = .ok (.aload_n 0, 1) := by decide +kernel
theorem dX9_refreshPlain_16 : decode cX9_refreshPlain 16 = .ok (.getfield 45, 3) := by decide +kernel
theorem dX9_refreshPlain_19 : decode cX9_refreshPlain 19 = .ok (.ldc 231, 2) := by decide +kernel
theorem dX9_refreshPlain_21 : decode cX9_refreshPlain 21 = .ok (.invokevirtual 227, 3) := by decide +kernel
theorem dX9_refreshPlain_24 : decode cX9_refreshPlain 24 = .ok (.aload_n 0, 1) := by decide +kernel
theorem dX9_refreshPlain_25 : decode cX9_refreshPlain 25 = .ok (.getfield 23, 3) := by decide +kernel
theorem dX9_refreshPlain_28 : decode cX9_refreshPlain 28 = .ok (.aload_n 0, 1) := by decide +kernel
theorem dX9_refreshPlain_29 : decode cX9_refreshPlain 29 = .ok (.getfield 35, 3) := by decide +kernel
theorem dX9_refreshPlain_32 : decode cX9_refreshPlain 32 = .ok (.getfield 109, 3) := by decide +kernel
theorem dX9_refreshPlain_35 : decode cX9_refreshPlain 35 = .ok (.invokevirtual 232, 3) := by decide +kernel
theorem dX9_refreshPlain_38 : decode cX9_refreshPlain 38 = .ok (.aload_n 0, 1) := by decide +kernel
theorem dX9_refreshPlain_39 : decode cX9_refreshPlain 39 = .ok (.iconst 1, 1) := by decide +kernel
theorem dX9_refreshPlain_40 : decode cX9_refreshPlain 40 = .ok (.putfield 221, 3) := by decide +kernel
theorem dX9_refreshPlain_43 : decode cX9_refreshPlain 43 = .ok (.return_, 1) := by decide +kernel
theorem dX9_refreshBetter_0 : decode cX9_refreshBetter 0 = .ok (.aload_n 0, 1) := by decide +kernel
theorem dX9_refreshBetter_1 : decode cX9_refreshBetter 1 = .ok (.getfield 224, 3) := by decide +kernel
theorem dX9_refreshBetter_4 : decode cX9_refreshBetter 4 = .ok (.ifCond .eq 4, 3) := by decide +kernel
theorem dX9_refreshBetter_7 : decode cX9_refreshBetter 7 = .ok (.return_, 1) := by decide +kernel
theorem dX9_refreshBetter_8 : decode cX9_refreshBetter 8 = .ok (.aload_n 0, 1) := by decide +kernel
theorem dX9_refreshBetter_9 : decode cX9_refreshBetter 9 = .ok (.iconst 2, 1) := by decide +kernel
theorem dX9_refreshBetter_10 : decode cX9_refreshBetter 10 = .ok (.putfield 236, 3) := by decide +kernel
theorem dX9_refreshBetter_13 : decode cX9_refreshBetter 13 = .ok (.aload_n 0, 1) := by decide +kernel
theorem dX9_refreshBetter_14 : decode cX9_refreshBetter 14 = .ok (.iconst 0, 1) := by decide +kernel
theorem dX9_refreshBetter_15 : decode cX9_refreshBetter 15 = .ok (.putfield 239, 3) := by decide +kernel
theorem dX9_refreshBetter_18 : decode cX9_refreshBetter 18 = .ok (.iconst 2, 1) := by decide +kernel
theorem dX9_refreshBetter_19 : decode cX9_refreshBetter 19 = .ok (.istore_n 1, 1) := by decide +kernel
theorem dX9_refreshBetter_20 : decode cX9_refreshBetter 20 = .ok (.iload_n 1, 1) := by decide +kernel
theorem dX9_refreshBetter_21 : decode cX9_refreshBetter 21 = .ok (.bipush 9, 2) := by decide +kernel
theorem dX9_refreshBetter_23 : decode cX9_refreshBetter 23 = .ok (.if_icmp .gt 55, 3) := by decide +kernel
theorem dX9_refreshBetter_26 : decode cX9_refreshBetter 26 = .ok (.aload_n 0, 1) := by decide +kernel
theorem dX9_refreshBetter_27 : decode cX9_refreshBetter 27 = .ok (.getfield 35, 3) := by decide +kernel
theorem dX9_refreshBetter_30 : decode cX9_refreshBetter 30 = .ok (.aload_n 0, 1) := by decide +kernel
theorem dX9_refreshBetter_31 : decode cX9_refreshBetter 31 = .ok (.getfield 19, 3) := by decide +kernel
theorem dX9_refreshBetter_34 : decode cX9_refreshBetter 34 = .ok (.aload_n 0, 1) := by decide +kernel
theorem dX9_refreshBetter_35 : decode cX9_refreshBetter 35 = .ok (.getfield 45, 3) := by decide +kernel
theorem dX9_refreshBetter_38 : decode cX9_refreshBetter 38 = .ok (.iload_n 1, 1) := by decide +kernel
theorem dX9_refreshBetter_39 : decode cX9_refreshBetter 39 = .ok (.invokevirtual 227, 3) := by decide +kernel
theorem dX9_refreshBetter_42 : decode cX9_refreshBetter 42 = .ok (.aload_n 0, 1) := by decide +kernel
theorem dX9_refreshBetter_43 : decode cX9_refreshBetter 43 = .ok (.getfield 35, 3) := by decide +kernel
theorem dX9_refreshBetter_46 : decode cX9_refreshBetter 46 = .ok (.getfield 242, 3) := by decide +kernel
theorem dX9_refreshBetter_49 : decode cX9_refreshBetter 49 = .ok (.aload_n 0, 1) := by decide +kernel
theorem dX9_refreshBetter_50 : decode cX9_refreshBetter 50 = .ok (.getfield 239, 3) := by decide +kernel
theorem dX9_refreshBetter_53 : decode cX9_refreshBetter 53 = .ok (.if_icmp .le 19, 3) := by decide +kernel
theorem dX9_refreshBetter_56 : decode cX9_refreshBetter 56 = .ok (.aload_n 0, 1) := by decide +kernel
theorem dX9_refreshBetter_57 : decode cX9_refreshBetter 57 = .ok (.iload_n 1, 1) := by decide +kernel
theorem dX9_refreshBetter_58 : decode cX9_refreshBetter 58 = .ok (.putfield 236, 3) := by decide +kernel
theorem dX9_refreshBetter_61 : decode cX9_refreshBetter 61 = .ok (.aload_n 0, 1) := by decide +kernel
theorem dX9_refreshBetter_62 : decode cX9_refreshBetter 62 = .ok (.aload_n 0, 1) := by decide +kernel
theorem dX9_refreshBetter_63 : decode cX9_refreshBetter 63 = .ok (.getfield 35, 3) := by decide +kernel
theorem dX9_refreshBetter_66 : decode cX9_refreshBetter 66 = .ok (.getfield 242, 3) := by decide +kernel
theorem dX9_refreshBetter_69 : decode cX9_refreshBetter 69 = .ok (.putfield 239, 3) := by decide +kernel
theorem dX9_refreshBetter_72 : decode cX9_refreshBetter 72 = .ok (.iinc 1 1, 3) := by decide +kernel
theorem dX9_refreshBetter_75 : decode cX9_refreshBetter 75 = .ok (.goto (-55), 3) := by decide +kernel
theorem dX9_refreshBetter_78 : decode cX9_refreshBetter 78 = .ok (.aload_n 0, 1) := by decide +kernel
theorem dX9_refreshBetter_79 : decode cX9_refreshBetter 79 = .ok (.iconst 1, 1) := by decide +kernel
theorem dX9_refreshBetter_80 : decode cX9_refreshBetter 80 = .ok (.putfield 224, 3) := by decide +kernel
theorem dX9_refreshBetter_83 : decode cX9_refreshBetter 83 = .ok (.return_, 1) := by decide +kernel
theorem dX9_codeFact_0 : decode cX9_codeFact 0 = .ok (.aload_n 0, 1) := by decide +kernel
theorem dX9_codeFact_1 : decode cX9_codeFact 1 = .ok (.getfield 10, 3) := by decide +kernel
theorem dX9_codeFact_4 : decode cX9_codeFact 4 = .ok (.iload_n 1, 1) := by decide +kernel
theorem dX9_codeFact_5 : decode cX9_codeFact 5 = .ok (.invokevirtual 66, 3) := by decide +kernel
theorem dX9_codeFact_8 : decode cX9_codeFact 8 = .ok (.ifCond .ne 6, 3) := by decide +kernel
theorem dX9_codeFact_11 : decode cX9_codeFact 11 = .ok (.ldc 165, 2) := by decide +kernel
theorem dX9_codeFact_13 : decode cX9_codeFact 13 = .ok (.ireturn, 1) := by decide +kernel
theorem dX9_codeFact_14 : decode cX9_codeFact 14 = .ok (.iload_n 2, 1) := by decide +kernel
theorem dX9_codeFact_15 : decode cX9_codeFact 15 = .ok (.tableswitch 69 0 3 #[29, 39, 49, 59], 29) := by decide +kernel
theorem dX9_codeFact_44 : decode cX9_codeFact 44 = .ok (.aload_n 0, 1) := by decide +kernel
theorem dX9_codeFact_45 : decode cX9_codeFact 45 = .ok (.getfield 10, 3) := by decide +kernel
theorem dX9_codeFact_48 : decode cX9_codeFact 48 = .ok (.getfield 245, 3) := by decide +kernel
theorem dX9_codeFact_51 : decode cX9_codeFact 51 = .ok (.iload_n 1, 1) := by decide +kernel
theorem dX9_codeFact_52 : decode cX9_codeFact 52 = .ok (.iaload, 1) := by decide +kernel
theorem dX9_codeFact_53 : decode cX9_codeFact 53 = .ok (.ireturn, 1) := by decide +kernel
theorem dX9_codeFact_54 : decode cX9_codeFact 54 = .ok (.aload_n 0, 1) := by decide +kernel
theorem dX9_codeFact_55 : decode cX9_codeFact 55 = .ok (.getfield 10, 3) := by decide +kernel
theorem dX9_codeFact_58 : decode cX9_codeFact 58 = .ok (.getfield 248, 3) := by decide +kernel
theorem dX9_codeFact_61 : decode cX9_codeFact 61 = .ok (.iload_n 1, 1) := by decide +kernel
theorem dX9_codeFact_62 : decode cX9_codeFact 62 = .ok (.iaload, 1) := by decide +kernel
theorem dX9_codeFact_63 : decode cX9_codeFact 63 = .ok (.ireturn, 1) := by decide +kernel
theorem dX9_codeFact_64 : decode cX9_codeFact 64 = .ok (.aload_n 0, 1) := by decide +kernel
theorem dX9_codeFact_65 : decode cX9_codeFact 65 = .ok (.getfield 10, 3) := by decide +kernel
theorem dX9_codeFact_68 : decode cX9_codeFact 68 = .ok (.getfield 251, 3) := by decide +kernel
theorem dX9_codeFact_71 : decode cX9_codeFact 71 = .ok (.iload_n 1, 1) := by decide +kernel
theorem dX9_codeFact_72 : decode cX9_codeFact 72 = .ok (.iaload, 1) := by decide +kernel
theorem dX9_codeFact_73 : decode cX9_codeFact 73 = .ok (.ireturn, 1) := by decide +kernel
theorem dX9_codeFact_74 : decode cX9_codeFact 74 = .ok (.aload_n 0, 1) := by decide +kernel
theorem dX9_codeFact_75 : decode cX9_codeFact 75 = .ok (.getfield 10, 3) := by decide +kernel
theorem dX9_codeFact_78 : decode cX9_codeFact 78 = .ok (.getfield 254, 3) := by decide +kernel
theorem dX9_codeFact_81 : decode cX9_codeFact 81 = .ok (.iload_n 1, 1) := by decide +kernel
theorem dX9_codeFact_82 : decode cX9_codeFact 82 = .ok (.iaload, 1) := by decide +kernel
theorem dX9_codeFact_83 : decode cX9_codeFact 83 = .ok (.ireturn, 1) := by decide +kernel
theorem dX9_codeFact_84 : decode cX9_codeFact 84 = .ok (.ldc 165, 2) := by decide +kernel
theorem dX9_codeFact_86 : decode cX9_codeFact 86 = .ok (.ireturn, 1) := by decide +kernel
theorem dX9_endFact_0 : decode cX9_endFact 0 = .ok (.iload_n 1, 1) := by decide +kernel
theorem dX9_endFact_1 : decode cX9_endFact 1 = .ok (.tableswitch 90 0 5 #[39, 47, 55, 63, 71, 79], 39) := by decide +kernel
theorem dX9_endFact_40 : decode cX9_endFact 40 = .ok (.aload_n 0, 1) := by decide +kernel
theorem dX9_endFact_41 : decode cX9_endFact 41 = .ok (.getfield 31, 3) := by decide +kernel
theorem dX9_endFact_44 : decode cX9_endFact 44 = .ok (.getfield 257, 3) := by decide +kernel
theorem dX9_endFact_47 : decode cX9_endFact 47 = .ok (.ireturn, 1) := by decide +kernel
theorem dX9_endFact_48 : decode cX9_endFact 48 = .ok (.aload_n 0, 1) := by decide +kernel
theorem dX9_endFact_49 : decode cX9_endFact 49 = .ok (.getfield 31, 3) := by decide +kernel
theorem dX9_endFact_52 : decode cX9_endFact 52 = .ok (.getfield 260, 3) := by decide +kernel
theorem dX9_endFact_55 : decode cX9_endFact 55 = .ok (.ireturn, 1) := by decide +kernel
theorem dX9_endFact_56 : decode cX9_endFact 56 = .ok (.aload_n 0, 1) := by decide +kernel
theorem dX9_endFact_57 : decode cX9_endFact 57 = .ok (.getfield 31, 3) := by decide +kernel
theorem dX9_endFact_60 : decode cX9_endFact 60 = .ok (.getfield 262, 3) := by decide +kernel
theorem dX9_endFact_63 : decode cX9_endFact 63 = .ok (.ireturn, 1) := by decide +kernel
theorem dX9_endFact_64 : decode cX9_endFact 64 = .ok (.aload_n 0, 1) := by decide +kernel
theorem dX9_endFact_65 : decode cX9_endFact 65 = .ok (.getfield 31, 3) := by decide +kernel
theorem dX9_endFact_68 : decode cX9_endFact 68 = .ok (.getfield 242, 3) := by decide +kernel
theorem dX9_endFact_71 : decode cX9_endFact 71 = .ok (.ireturn, 1) := by decide +kernel
theorem dX9_endFact_72 : decode cX9_endFact 72 = .ok (.aload_n 0, 1) := by decide +kernel
theorem dX9_endFact_73 : decode cX9_endFact 73 = .ok (.getfield 31, 3) := by decide +kernel
theorem dX9_endFact_76 : decode cX9_endFact 76 = .ok (.getfield 265, 3) := by decide +kernel
theorem dX9_endFact_79 : decode cX9_endFact 79 = .ok (.ireturn, 1) := by decide +kernel
theorem dX9_endFact_80 : decode cX9_endFact 80 = .ok (.aload_n 0, 1) := by decide +kernel
theorem dX9_endFact_81 : decode cX9_endFact 81 = .ok (.getfield 31, 3) := by decide +kernel
theorem dX9_endFact_84 : decode cX9_endFact 84 = .ok (.getfield 121, 3) := by decide +kernel
theorem dX9_endFact_87 : decode cX9_endFact 87 = .ok (.getfield 268, 3) := by decide +kernel
theorem dX9_endFact_90 : decode cX9_endFact 90 = .ok (.ireturn, 1) := by decide +kernel
theorem dX9_endFact_91 : decode cX9_endFact 91 = .ok (.bipush (-2), 2) := by decide +kernel
theorem dX9_endFact_93 : decode cX9_endFact 93 = .ok (.ireturn, 1) := by decide +kernel
theorem dX9_traceFact_0 : decode cX9_traceFact 0 = .ok (.aload_n 0, 1) := by decide +kernel
theorem dX9_traceFact_1 : decode cX9_traceFact 1 = .ok (.getfield 31, 3) := by decide +kernel
theorem dX9_traceFact_4 : decode cX9_traceFact 4 = .ok (.getfield 121, 3) := by decide +kernel
theorem dX9_traceFact_7 : decode cX9_traceFact 7 = .ok (.iload_n 1, 1) := by decide +kernel
theorem dX9_traceFact_8 : decode cX9_traceFact 8 = .ok (.invokevirtual 182, 3) := by decide +kernel
theorem dX9_traceFact_11 : decode cX9_traceFact 11 = .ok (.ifCond .ne 6, 3) := by decide +kernel
theorem dX9_traceFact_14 : decode cX9_traceFact 14 = .ok (.bipush (-2), 2) := by decide +kernel
theorem dX9_traceFact_16 : decode cX9_traceFact 16 = .ok (.ireturn, 1) := by decide +kernel
theorem dX9_traceFact_17 : decode cX9_traceFact 17 = .ok (.aload_n 0, 1) := by decide +kernel
theorem dX9_traceFact_18 : decode cX9_traceFact 18 = .ok (.getfield 31, 3) := by decide +kernel
theorem dX9_traceFact_21 : decode cX9_traceFact 21 = .ok (.getfield 121, 3) := by decide +kernel
theorem dX9_traceFact_24 : decode cX9_traceFact 24 = .ok (.getfield 185, 3) := by decide +kernel
theorem dX9_traceFact_27 : decode cX9_traceFact 27 = .ok (.iload_n 1, 1) := by decide +kernel
theorem dX9_traceFact_28 : decode cX9_traceFact 28 = .ok (.aaload, 1) := by decide +kernel
theorem dX9_traceFact_29 : decode cX9_traceFact 29 = .ok (.astore_n 3, 1) := by decide +kernel
theorem dX9_traceFact_30 : decode cX9_traceFact 30 = .ok (.iload_n 2, 1) := by decide +kernel
theorem dX9_traceFact_31 : decode cX9_traceFact 31 = .ok (.tableswitch 58 0 4 #[33, 38, 43, 48, 53], 33) := by decide +kernel
theorem dX9_traceFact_64 : decode cX9_traceFact 64 = .ok (.aload_n 3, 1) := by decide +kernel
theorem dX9_traceFact_65 : decode cX9_traceFact 65 = .ok (.getfield 271, 3) := by decide +kernel
theorem dX9_traceFact_68 : decode cX9_traceFact 68 = .ok (.ireturn, 1) := by decide +kernel
theorem dX9_traceFact_69 : decode cX9_traceFact 69 = .ok (.aload_n 3, 1) := by decide +kernel
theorem dX9_traceFact_70 : decode cX9_traceFact 70 = .ok (.getfield 274, 3) := by decide +kernel
theorem dX9_traceFact_73 : decode cX9_traceFact 73 = .ok (.ireturn, 1) := by decide +kernel
theorem dX9_traceFact_74 : decode cX9_traceFact 74 = .ok (.aload_n 3, 1) := by decide +kernel
theorem dX9_traceFact_75 : decode cX9_traceFact 75 = .ok (.getfield 277, 3) := by decide +kernel
theorem dX9_traceFact_78 : decode cX9_traceFact 78 = .ok (.ireturn, 1) := by decide +kernel
theorem dX9_traceFact_79 : decode cX9_traceFact 79 = .ok (.aload_n 3, 1) := by decide +kernel
theorem dX9_traceFact_80 : decode cX9_traceFact 80 = .ok (.getfield 189, 3) := by decide +kernel
theorem dX9_traceFact_83 : decode cX9_traceFact 83 = .ok (.ireturn, 1) := by decide +kernel
theorem dX9_traceFact_84 : decode cX9_traceFact 84 = .ok (.aload_n 3, 1) := by decide +kernel
theorem dX9_traceFact_85 : decode cX9_traceFact 85 = .ok (.getfield 280, 3) := by decide +kernel
theorem dX9_traceFact_88 : decode cX9_traceFact 88 = .ok (.ireturn, 1) := by decide +kernel
theorem dX9_traceFact_89 : decode cX9_traceFact 89 = .ok (.bipush (-2), 2) := by decide +kernel
theorem dX9_traceFact_91 : decode cX9_traceFact 91 = .ok (.ireturn, 1) := by decide +kernel
theorem dX9_entryFact_0 : decode cX9_entryFact 0 = .ok (.aload_n 0, 1) := by decide +kernel
theorem dX9_entryFact_1 : decode cX9_entryFact 1 = .ok (.getfield 31, 3) := by decide +kernel
theorem dX9_entryFact_4 : decode cX9_entryFact 4 = .ok (.getfield 121, 3) := by decide +kernel
theorem dX9_entryFact_7 : decode cX9_entryFact 7 = .ok (.iload_n 1, 1) := by decide +kernel
theorem dX9_entryFact_8 : decode cX9_entryFact 8 = .ok (.iload_n 2, 1) := by decide +kernel
theorem dX9_entryFact_9 : decode cX9_entryFact 9 = .ok (.invokevirtual 283, 3) := by decide +kernel
theorem dX9_entryFact_12 : decode cX9_entryFact 12 = .ok (.ifCond .ne 6, 3) := by decide +kernel
theorem dX9_entryFact_15 : decode cX9_entryFact 15 = .ok (.bipush (-2), 2) := by decide +kernel
theorem dX9_entryFact_17 : decode cX9_entryFact 17 = .ok (.ireturn, 1) := by decide +kernel
theorem dX9_entryFact_18 : decode cX9_entryFact 18 = .ok (.aload_n 0, 1) := by decide +kernel
theorem dX9_entryFact_19 : decode cX9_entryFact 19 = .ok (.getfield 31, 3) := by decide +kernel
theorem dX9_entryFact_22 : decode cX9_entryFact 22 = .ok (.getfield 121, 3) := by decide +kernel
theorem dX9_entryFact_25 : decode cX9_entryFact 25 = .ok (.getfield 185, 3) := by decide +kernel
theorem dX9_entryFact_28 : decode cX9_entryFact 28 = .ok (.iload_n 1, 1) := by decide +kernel
theorem dX9_entryFact_29 : decode cX9_entryFact 29 = .ok (.aaload, 1) := by decide +kernel
theorem dX9_entryFact_30 : decode cX9_entryFact 30 = .ok (.astore 4, 2) := by decide +kernel
theorem dX9_entryFact_32 : decode cX9_entryFact 32 = .ok (.iload_n 3, 1) := by decide +kernel
theorem dX9_entryFact_33 : decode cX9_entryFact 33 = .ok (.tableswitch 87 0 5 #[39, 47, 55, 63, 71, 79], 39) := by decide +kernel
theorem dX9_entryFact_72 : decode cX9_entryFact 72 = .ok (.aload 4, 2) := by decide +kernel
theorem dX9_entryFact_74 : decode cX9_entryFact 74 = .ok (.getfield 197, 3) := by decide +kernel
theorem dX9_entryFact_77 : decode cX9_entryFact 77 = .ok (.iload_n 2, 1) := by decide +kernel
theorem dX9_entryFact_78 : decode cX9_entryFact 78 = .ok (.iaload, 1) := by decide +kernel
theorem dX9_entryFact_79 : decode cX9_entryFact 79 = .ok (.ireturn, 1) := by decide +kernel
theorem dX9_entryFact_80 : decode cX9_entryFact 80 = .ok (.aload 4, 2) := by decide +kernel
theorem dX9_entryFact_82 : decode cX9_entryFact 82 = .ok (.getfield 286, 3) := by decide +kernel
theorem dX9_entryFact_85 : decode cX9_entryFact 85 = .ok (.iload_n 2, 1) := by decide +kernel
theorem dX9_entryFact_86 : decode cX9_entryFact 86 = .ok (.iaload, 1) := by decide +kernel
theorem dX9_entryFact_87 : decode cX9_entryFact 87 = .ok (.ireturn, 1) := by decide +kernel
theorem dX9_entryFact_88 : decode cX9_entryFact 88 = .ok (.aload 4, 2) := by decide +kernel
theorem dX9_entryFact_90 : decode cX9_entryFact 90 = .ok (.getfield 289, 3) := by decide +kernel
theorem dX9_entryFact_93 : decode cX9_entryFact 93 = .ok (.iload_n 2, 1) := by decide +kernel
theorem dX9_entryFact_94 : decode cX9_entryFact 94 = .ok (.iaload, 1) := by decide +kernel
theorem dX9_entryFact_95 : decode cX9_entryFact 95 = .ok (.ireturn, 1) := by decide +kernel
theorem dX9_entryFact_96 : decode cX9_entryFact 96 = .ok (.aload 4, 2) := by decide +kernel
theorem dX9_entryFact_98 : decode cX9_entryFact 98 = .ok (.getfield 292, 3) := by decide +kernel
theorem dX9_entryFact_101 : decode cX9_entryFact 101 = .ok (.iload_n 2, 1) := by decide +kernel
theorem dX9_entryFact_102 : decode cX9_entryFact 102 = .ok (.iaload, 1) := by decide +kernel
theorem dX9_entryFact_103 : decode cX9_entryFact 103 = .ok (.ireturn, 1) := by decide +kernel
theorem dX9_entryFact_104 : decode cX9_entryFact 104 = .ok (.aload 4, 2) := by decide +kernel
theorem dX9_entryFact_106 : decode cX9_entryFact 106 = .ok (.getfield 295, 3) := by decide +kernel
theorem dX9_entryFact_109 : decode cX9_entryFact 109 = .ok (.iload_n 2, 1) := by decide +kernel
theorem dX9_entryFact_110 : decode cX9_entryFact 110 = .ok (.iaload, 1) := by decide +kernel
theorem dX9_entryFact_111 : decode cX9_entryFact 111 = .ok (.ireturn, 1) := by decide +kernel
theorem dX9_entryFact_112 : decode cX9_entryFact 112 = .ok (.aload 4, 2) := by decide +kernel
theorem dX9_entryFact_114 : decode cX9_entryFact 114 = .ok (.getfield 298, 3) := by decide +kernel
theorem dX9_entryFact_117 : decode cX9_entryFact 117 = .ok (.iload_n 2, 1) := by decide +kernel
theorem dX9_entryFact_118 : decode cX9_entryFact 118 = .ok (.iaload, 1) := by decide +kernel
theorem dX9_entryFact_119 : decode cX9_entryFact 119 = .ok (.ireturn, 1) := by decide +kernel
theorem dX9_entryFact_120 : decode cX9_entryFact 120 = .ok (.bipush (-2), 2) := by decide +kernel
theorem dX9_entryFact_122 : decode cX9_entryFact 122 = .ok (.ireturn, 1) := by decide +kernel
theorem dX9_checkFact_0 : decode cX9_checkFact 0 = .ok (.aload_n 0, 1) := by decide +kernel
theorem dX9_checkFact_1 : decode cX9_checkFact 1 = .ok (.getfield 31, 3) := by decide +kernel
theorem dX9_checkFact_4 : decode cX9_checkFact 4 = .ok (.getfield 121, 3) := by decide +kernel
theorem dX9_checkFact_7 : decode cX9_checkFact 7 = .ok (.iload_n 1, 1) := by decide +kernel
theorem dX9_checkFact_8 : decode cX9_checkFact 8 = .ok (.invokevirtual 182, 3) := by decide +kernel
theorem dX9_checkFact_11 : decode cX9_checkFact 11 = .ok (.ifCond .ne 6, 3) := by decide +kernel
theorem dX9_checkFact_14 : decode cX9_checkFact 14 = .ok (.bipush (-2), 2) := by decide +kernel
theorem dX9_checkFact_16 : decode cX9_checkFact 16 = .ok (.ireturn, 1) := by decide +kernel
theorem dX9_checkFact_17 : decode cX9_checkFact 17 = .ok (.aload_n 0, 1) := by decide +kernel
theorem dX9_checkFact_18 : decode cX9_checkFact 18 = .ok (.getfield 10, 3) := by decide +kernel
theorem dX9_checkFact_21 : decode cX9_checkFact 21 = .ok (.aload_n 0, 1) := by decide +kernel
theorem dX9_checkFact_22 : decode cX9_checkFact 22 = .ok (.getfield 31, 3) := by decide +kernel
theorem dX9_checkFact_25 : decode cX9_checkFact 25 = .ok (.getfield 121, 3) := by decide +kernel
theorem dX9_checkFact_28 : decode cX9_checkFact 28 = .ok (.getfield 185, 3) := by decide +kernel
theorem dX9_checkFact_31 : decode cX9_checkFact 31 = .ok (.iload_n 1, 1) := by decide +kernel
theorem dX9_checkFact_32 : decode cX9_checkFact 32 = .ok (.aaload, 1) := by decide +kernel
theorem dX9_checkFact_33 : decode cX9_checkFact 33 = .ok (.iload_n 2, 1) := by decide +kernel
theorem dX9_checkFact_34 : decode cX9_checkFact 34 = .ok (.invokestatic 301, 3) := by decide +kernel
theorem dX9_checkFact_37 : decode cX9_checkFact 37 = .ok (.ireturn, 1) := by decide +kernel
theorem dX9_snapshotFact_0 : decode cX9_snapshotFact 0 = .ok (.aload_n 0, 1) := by decide +kernel
theorem dX9_snapshotFact_1 : decode cX9_snapshotFact 1 = .ok (.getfield 31, 3) := by decide +kernel
theorem dX9_snapshotFact_4 : decode cX9_snapshotFact 4 = .ok (.getfield 121, 3) := by decide +kernel
theorem dX9_snapshotFact_7 : decode cX9_snapshotFact 7 = .ok (.iload_n 1, 1) := by decide +kernel
theorem dX9_snapshotFact_8 : decode cX9_snapshotFact 8 = .ok (.iload_n 2, 1) := by decide +kernel
theorem dX9_snapshotFact_9 : decode cX9_snapshotFact 9 = .ok (.invokevirtual 283, 3) := by decide +kernel
theorem dX9_snapshotFact_12 : decode cX9_snapshotFact 12 = .ok (.ifCond .eq 12, 3) := by decide +kernel
theorem dX9_snapshotFact_15 : decode cX9_snapshotFact 15 = .ok (.iload_n 3, 1) := by decide +kernel
theorem dX9_snapshotFact_16 : decode cX9_snapshotFact 16 = .ok (.ifCond .lt 8, 3) := by decide +kernel
theorem dX9_snapshotFact_19 : decode cX9_snapshotFact 19 = .ok (.iload_n 3, 1) := by decide +kernel
theorem dX9_snapshotFact_20 : decode cX9_snapshotFact 20 = .ok (.iconst 1, 1) := by decide +kernel
theorem dX9_snapshotFact_21 : decode cX9_snapshotFact 21 = .ok (.if_icmp .le 6, 3) := by decide +kernel
theorem dX9_snapshotFact_24 : decode cX9_snapshotFact 24 = .ok (.bipush (-2), 2) := by decide +kernel
theorem dX9_snapshotFact_26 : decode cX9_snapshotFact 26 = .ok (.ireturn, 1) := by decide +kernel
theorem dX9_snapshotFact_27 : decode cX9_snapshotFact 27 = .ok (.aload_n 0, 1) := by decide +kernel
theorem dX9_snapshotFact_28 : decode cX9_snapshotFact 28 = .ok (.getfield 31, 3) := by decide +kernel
theorem dX9_snapshotFact_31 : decode cX9_snapshotFact 31 = .ok (.getfield 121, 3) := by decide +kernel
theorem dX9_snapshotFact_34 : decode cX9_snapshotFact 34 = .ok (.getfield 185, 3) := by decide +kernel
theorem dX9_snapshotFact_37 : decode cX9_snapshotFact 37 = .ok (.iload_n 1, 1) := by decide +kernel
theorem dX9_snapshotFact_38 : decode cX9_snapshotFact 38 = .ok (.aaload, 1) := by decide +kernel
theorem dX9_snapshotFact_39 : decode cX9_snapshotFact 39 = .ok (.astore 4, 2) := by decide +kernel
theorem dX9_snapshotFact_41 : decode cX9_snapshotFact 41 = .ok (.aload_n 0, 1) := by decide +kernel
theorem dX9_snapshotFact_42 : decode cX9_snapshotFact 42 = .ok (.getfield 10, 3) := by decide +kernel
theorem dX9_snapshotFact_45 : decode cX9_snapshotFact 45 = .ok (.aload 4, 2) := by decide +kernel
theorem dX9_snapshotFact_47 : decode cX9_snapshotFact 47 = .ok (.iload_n 2, 1) := by decide +kernel
theorem dX9_snapshotFact_48 : decode cX9_snapshotFact 48 = .ok (.invokestatic 307, 3) := by decide +kernel
theorem dX9_snapshotFact_51 : decode cX9_snapshotFact 51 = .ok (.istore 5, 2) := by decide +kernel
theorem dX9_snapshotFact_53 : decode cX9_snapshotFact 53 = .ok (.iload_n 3, 1) := by decide +kernel
theorem dX9_snapshotFact_54 : decode cX9_snapshotFact 54 = .ok (.ifCond .ne 8, 3) := by decide +kernel
theorem dX9_snapshotFact_57 : decode cX9_snapshotFact 57 = .ok (.iload 5, 2) := by decide +kernel
theorem dX9_snapshotFact_59 : decode cX9_snapshotFact 59 = .ok (.goto 20, 3) := by decide +kernel
theorem dX9_snapshotFact_62 : decode cX9_snapshotFact 62 = .ok (.iload 5, 2) := by decide +kernel
theorem dX9_snapshotFact_64 : decode cX9_snapshotFact 64 = .ok (.aload_n 0, 1) := by decide +kernel
theorem dX9_snapshotFact_65 : decode cX9_snapshotFact 65 = .ok (.getfield 10, 3) := by decide +kernel
theorem dX9_snapshotFact_68 : decode cX9_snapshotFact 68 = .ok (.aload 4, 2) := by decide +kernel
theorem dX9_snapshotFact_70 : decode cX9_snapshotFact 70 = .ok (.iload_n 2, 1) := by decide +kernel
theorem dX9_snapshotFact_71 : decode cX9_snapshotFact 71 = .ok (.iconst 1, 1) := by decide +kernel
theorem dX9_snapshotFact_72 : decode cX9_snapshotFact 72 = .ok (.isub, 1) := by decide +kernel
theorem dX9_snapshotFact_73 : decode cX9_snapshotFact 73 = .ok (.invokestatic 307, 3) := by decide +kernel
theorem dX9_snapshotFact_76 : decode cX9_snapshotFact 76 = .ok (.iconst (-1), 1) := by decide +kernel
theorem dX9_snapshotFact_77 : decode cX9_snapshotFact 77 = .ok (.ixor, 1) := by decide +kernel
theorem dX9_snapshotFact_78 : decode cX9_snapshotFact 78 = .ok (.iand, 1) := by decide +kernel
theorem dX9_snapshotFact_79 : decode cX9_snapshotFact 79 = .ok (.ireturn, 1) := by decide +kernel
theorem dX9_writtenBy_0 : decode cX9_writtenBy 0 = .ok (.aload_n 0, 1) := by decide +kernel
theorem dX9_writtenBy_1 : decode cX9_writtenBy 1 = .ok (.getfield 31, 3) := by decide +kernel
theorem dX9_writtenBy_4 : decode cX9_writtenBy 4 = .ok (.getfield 121, 3) := by decide +kernel
theorem dX9_writtenBy_7 : decode cX9_writtenBy 7 = .ok (.iload_n 1, 1) := by decide +kernel
theorem dX9_writtenBy_8 : decode cX9_writtenBy 8 = .ok (.invokevirtual 182, 3) := by decide +kernel
theorem dX9_writtenBy_11 : decode cX9_writtenBy 11 = .ok (.ifCond .ne 6, 3) := by decide +kernel
theorem dX9_writtenBy_14 : decode cX9_writtenBy 14 = .ok (.bipush (-2), 2) := by decide +kernel
theorem dX9_writtenBy_16 : decode cX9_writtenBy 16 = .ok (.ireturn, 1) := by decide +kernel
theorem dX9_writtenBy_17 : decode cX9_writtenBy 17 = .ok (.aload_n 0, 1) := by decide +kernel
theorem dX9_writtenBy_18 : decode cX9_writtenBy 18 = .ok (.getfield 31, 3) := by decide +kernel
theorem dX9_writtenBy_21 : decode cX9_writtenBy 21 = .ok (.getfield 121, 3) := by decide +kernel
theorem dX9_writtenBy_24 : decode cX9_writtenBy 24 = .ok (.getfield 185, 3) := by decide +kernel
theorem dX9_writtenBy_27 : decode cX9_writtenBy 27 = .ok (.iload_n 1, 1) := by decide +kernel
theorem dX9_writtenBy_28 : decode cX9_writtenBy 28 = .ok (.aaload, 1) := by decide +kernel
theorem dX9_writtenBy_29 : decode cX9_writtenBy 29 = .ok (.astore_n 2, 1) := by decide +kernel
theorem dX9_writtenBy_30 : decode cX9_writtenBy 30 = .ok (.aload_n 0, 1) := by decide +kernel
theorem dX9_writtenBy_31 : decode cX9_writtenBy 31 = .ok (.getfield 10, 3) := by decide +kernel
theorem dX9_writtenBy_34 : decode cX9_writtenBy 34 = .ok (.aload_n 2, 1) := by decide +kernel
theorem dX9_writtenBy_35 : decode cX9_writtenBy 35 = .ok (.aload_n 2, 1) := by decide +kernel
theorem dX9_writtenBy_36 : decode cX9_writtenBy 36 = .ok (.getfield 189, 3) := by decide +kernel
theorem dX9_writtenBy_39 : decode cX9_writtenBy 39 = .ok (.invokestatic 307, 3) := by decide +kernel
theorem dX9_writtenBy_42 : decode cX9_writtenBy 42 = .ok (.ireturn, 1) := by decide +kernel
theorem dX9_betterFact_0 : decode cX9_betterFact 0 = .ok (.iload_n 1, 1) := by decide +kernel
theorem dX9_betterFact_1 : decode cX9_betterFact 1 = .ok (.lookupswitch 37 #[(0, 27), (1, 32)], 27) := by decide +kernel
theorem dX9_betterFact_28 : decode cX9_betterFact 28 = .ok (.aload_n 0, 1) := by decide +kernel
theorem dX9_betterFact_29 : decode cX9_betterFact 29 = .ok (.getfield 236, 3) := by decide +kernel
theorem dX9_betterFact_32 : decode cX9_betterFact 32 = .ok (.ireturn, 1) := by decide +kernel
theorem dX9_betterFact_33 : decode cX9_betterFact 33 = .ok (.aload_n 0, 1) := by decide +kernel
theorem dX9_betterFact_34 : decode cX9_betterFact 34 = .ok (.getfield 239, 3) := by decide +kernel
theorem dX9_betterFact_37 : decode cX9_betterFact 37 = .ok (.ireturn, 1) := by decide +kernel
theorem dX9_betterFact_38 : decode cX9_betterFact 38 = .ok (.bipush (-2), 2) := by decide +kernel
theorem dX9_betterFact_40 : decode cX9_betterFact 40 = .ok (.ireturn, 1) := by decide +kernel
theorem dX9_countFact_0 : decode cX9_countFact 0 = .ok (.iload_n 1, 1) := by decide +kernel
theorem dX9_countFact_1 : decode cX9_countFact 1 = .ok (.tableswitch 120 0 8 #[51, 59, 64, 69, 80, 88, 96, 104, 115], 51) := by decide +kernel
theorem dX9_countFact_52 : decode cX9_countFact 52 = .ok (.aload_n 0, 1) := by decide +kernel
theorem dX9_countFact_53 : decode cX9_countFact 53 = .ok (.getfield 10, 3) := by decide +kernel
theorem dX9_countFact_56 : decode cX9_countFact 56 = .ok (.getfield 56, 3) := by decide +kernel
theorem dX9_countFact_59 : decode cX9_countFact 59 = .ok (.ireturn, 1) := by decide +kernel
theorem dX9_countFact_60 : decode cX9_countFact 60 = .ok (.aload_n 0, 1) := by decide +kernel
theorem dX9_countFact_61 : decode cX9_countFact 61 = .ok (.getfield 45, 3) := by decide +kernel
theorem dX9_countFact_64 : decode cX9_countFact 64 = .ok (.ireturn, 1) := by decide +kernel
theorem dX9_countFact_65 : decode cX9_countFact 65 = .ok (.aload_n 0, 1) := by decide +kernel
theorem dX9_countFact_66 : decode cX9_countFact 66 = .ok (.getfield 49, 3) := by decide +kernel
theorem dX9_countFact_69 : decode cX9_countFact 69 = .ok (.ireturn, 1) := by decide +kernel
theorem dX9_countFact_70 : decode cX9_countFact 70 = .ok (.aload_n 0, 1) := by decide +kernel
theorem dX9_countFact_71 : decode cX9_countFact 71 = .ok (.getfield 31, 3) := by decide +kernel
theorem dX9_countFact_74 : decode cX9_countFact 74 = .ok (.getfield 121, 3) := by decide +kernel
theorem dX9_countFact_77 : decode cX9_countFact 77 = .ok (.getfield 310, 3) := by decide +kernel
theorem dX9_countFact_80 : decode cX9_countFact 80 = .ok (.ireturn, 1) := by decide +kernel
theorem dX9_countFact_81 : decode cX9_countFact 81 = .ok (.aload_n 0, 1) := by decide +kernel
theorem dX9_countFact_82 : decode cX9_countFact 82 = .ok (.getfield 31, 3) := by decide +kernel
theorem dX9_countFact_85 : decode cX9_countFact 85 = .ok (.getfield 262, 3) := by decide +kernel
theorem dX9_countFact_88 : decode cX9_countFact 88 = .ok (.ireturn, 1) := by decide +kernel
theorem dX9_countFact_89 : decode cX9_countFact 89 = .ok (.aload_n 0, 1) := by decide +kernel
theorem dX9_countFact_90 : decode cX9_countFact 90 = .ok (.getfield 31, 3) := by decide +kernel
theorem dX9_countFact_93 : decode cX9_countFact 93 = .ok (.getfield 242, 3) := by decide +kernel
theorem dX9_countFact_96 : decode cX9_countFact 96 = .ok (.ireturn, 1) := by decide +kernel
theorem dX9_countFact_97 : decode cX9_countFact 97 = .ok (.aload_n 0, 1) := by decide +kernel
theorem dX9_countFact_98 : decode cX9_countFact 98 = .ok (.getfield 31, 3) := by decide +kernel
theorem dX9_countFact_101 : decode cX9_countFact 101 = .ok (.getfield 265, 3) := by decide +kernel
theorem dX9_countFact_104 : decode cX9_countFact 104 = .ok (.ireturn, 1) := by decide +kernel
theorem dX9_countFact_105 : decode cX9_countFact 105 = .ok (.aload_n 0, 1) := by decide +kernel
theorem dX9_countFact_106 : decode cX9_countFact 106 = .ok (.getfield 31, 3) := by decide +kernel
theorem dX9_countFact_109 : decode cX9_countFact 109 = .ok (.getfield 121, 3) := by decide +kernel
theorem dX9_countFact_112 : decode cX9_countFact 112 = .ok (.invokevirtual 311, 3) := by decide +kernel
theorem dX9_countFact_115 : decode cX9_countFact 115 = .ok (.ireturn, 1) := by decide +kernel
theorem dX9_countFact_116 : decode cX9_countFact 116 = .ok (.aload_n 0, 1) := by decide +kernel
theorem dX9_countFact_117 : decode cX9_countFact 117 = .ok (.getfield 166, 3) := by decide +kernel
theorem dX9_countFact_120 : decode cX9_countFact 120 = .ok (.ireturn, 1) := by decide +kernel
theorem dX9_countFact_121 : decode cX9_countFact 121 = .ok (.bipush (-2), 2) := by decide +kernel
theorem dX9_countFact_123 : decode cX9_countFact 123 = .ok (.ireturn, 1) := by decide +kernel
theorem dX9_mixRegister_0 : decode cX9_mixRegister 0 = .ok (.lload_n 1, 1) := by decide +kernel
theorem dX9_mixRegister_1 : decode cX9_mixRegister 1 = .ok (.lstore 4, 2) := by decide +kernel
theorem dX9_mixRegister_3 : decode cX9_mixRegister 3 = .ok (.ldc2_w 205, 3) := by decide +kernel
theorem dX9_mixRegister_6 : decode cX9_mixRegister 6 = .ok (.lload 4, 2) := by decide +kernel
theorem dX9_mixRegister_8 : decode cX9_mixRegister 8 = .ok (.lmul, 1) := by decide +kernel
theorem dX9_mixRegister_9 : decode cX9_mixRegister 9 = .ok (.aload_n 0, 1) := by decide +kernel
theorem dX9_mixRegister_10 : decode cX9_mixRegister 10 = .ok (.getfield 31, 3) := by decide +kernel
theorem dX9_mixRegister_13 : decode cX9_mixRegister 13 = .ok (.getfield 109, 3) := by decide +kernel
theorem dX9_mixRegister_16 : decode cX9_mixRegister 16 = .ok (.iload_n 3, 1) := by decide +kernel
theorem dX9_mixRegister_17 : decode cX9_mixRegister 17 = .ok (.iconst 0, 1) := by decide +kernel
theorem dX9_mixRegister_18 : decode cX9_mixRegister 18 = .ok (.invokevirtual 112, 3) := by decide +kernel
theorem dX9_mixRegister_21 : decode cX9_mixRegister 21 = .ok (.i2l, 1) := by decide +kernel
theorem dX9_mixRegister_22 : decode cX9_mixRegister 22 = .ok (.ladd, 1) := by decide +kernel
theorem dX9_mixRegister_23 : decode cX9_mixRegister 23 = .ok (.lstore 4, 2) := by decide +kernel
theorem dX9_mixRegister_25 : decode cX9_mixRegister 25 = .ok (.ldc2_w 205, 3) := by decide +kernel
theorem dX9_mixRegister_28 : decode cX9_mixRegister 28 = .ok (.lload 4, 2) := by decide +kernel
theorem dX9_mixRegister_30 : decode cX9_mixRegister 30 = .ok (.lmul, 1) := by decide +kernel
theorem dX9_mixRegister_31 : decode cX9_mixRegister 31 = .ok (.aload_n 0, 1) := by decide +kernel
theorem dX9_mixRegister_32 : decode cX9_mixRegister 32 = .ok (.getfield 31, 3) := by decide +kernel
theorem dX9_mixRegister_35 : decode cX9_mixRegister 35 = .ok (.getfield 109, 3) := by decide +kernel
theorem dX9_mixRegister_38 : decode cX9_mixRegister 38 = .ok (.iload_n 3, 1) := by decide +kernel
theorem dX9_mixRegister_39 : decode cX9_mixRegister 39 = .ok (.iconst 1, 1) := by decide +kernel
theorem dX9_mixRegister_40 : decode cX9_mixRegister 40 = .ok (.invokevirtual 112, 3) := by decide +kernel
theorem dX9_mixRegister_43 : decode cX9_mixRegister 43 = .ok (.i2l, 1) := by decide +kernel
theorem dX9_mixRegister_44 : decode cX9_mixRegister 44 = .ok (.ladd, 1) := by decide +kernel
theorem dX9_mixRegister_45 : decode cX9_mixRegister 45 = .ok (.lstore 4, 2) := by decide +kernel
theorem dX9_mixRegister_47 : decode cX9_mixRegister 47 = .ok (.ldc2_w 205, 3) := by decide +kernel
theorem dX9_mixRegister_50 : decode cX9_mixRegister 50 = .ok (.lload 4, 2) := by decide +kernel
theorem dX9_mixRegister_52 : decode cX9_mixRegister 52 = .ok (.lmul, 1) := by decide +kernel
theorem dX9_mixRegister_53 : decode cX9_mixRegister 53 = .ok (.aload_n 0, 1) := by decide +kernel
theorem dX9_mixRegister_54 : decode cX9_mixRegister 54 = .ok (.getfield 23, 3) := by decide +kernel
theorem dX9_mixRegister_57 : decode cX9_mixRegister 57 = .ok (.iload_n 3, 1) := by decide +kernel
theorem dX9_mixRegister_58 : decode cX9_mixRegister 58 = .ok (.iconst 0, 1) := by decide +kernel
theorem dX9_mixRegister_59 : decode cX9_mixRegister 59 = .ok (.invokevirtual 112, 3) := by decide +kernel
theorem dX9_mixRegister_62 : decode cX9_mixRegister 62 = .ok (.i2l, 1) := by decide +kernel
theorem dX9_mixRegister_63 : decode cX9_mixRegister 63 = .ok (.ladd, 1) := by decide +kernel
theorem dX9_mixRegister_64 : decode cX9_mixRegister 64 = .ok (.lstore 4, 2) := by decide +kernel
theorem dX9_mixRegister_66 : decode cX9_mixRegister 66 = .ok (.ldc2_w 205, 3) := by decide +kernel
theorem dX9_mixRegister_69 : decode cX9_mixRegister 69 = .ok (.lload 4, 2) := by decide +kernel
theorem dX9_mixRegister_71 : decode cX9_mixRegister 71 = .ok (.lmul, 1) := by decide +kernel
theorem dX9_mixRegister_72 : decode cX9_mixRegister 72 = .ok (.aload_n 0, 1) := by decide +kernel
theorem dX9_mixRegister_73 : decode cX9_mixRegister 73 = .ok (.getfield 23, 3) := by decide +kernel
theorem dX9_mixRegister_76 : decode cX9_mixRegister 76 = .ok (.iload_n 3, 1) := by decide +kernel
theorem dX9_mixRegister_77 : decode cX9_mixRegister 77 = .ok (.iconst 1, 1) := by decide +kernel
theorem dX9_mixRegister_78 : decode cX9_mixRegister 78 = .ok (.invokevirtual 112, 3) := by decide +kernel
theorem dX9_mixRegister_81 : decode cX9_mixRegister 81 = .ok (.i2l, 1) := by decide +kernel
theorem dX9_mixRegister_82 : decode cX9_mixRegister 82 = .ok (.ladd, 1) := by decide +kernel
theorem dX9_mixRegister_83 : decode cX9_mixRegister 83 = .ok (.lreturn, 1) := by decide +kernel
theorem dX9_mixPoint_0 : decode cX9_mixPoint 0 = .ok (.lload_n 1, 1) := by decide +kernel
theorem dX9_mixPoint_1 : decode cX9_mixPoint 1 = .ok (.lstore 4, 2) := by decide +kernel
theorem dX9_mixPoint_3 : decode cX9_mixPoint 3 = .ok (.iconst 0, 1) := by decide +kernel
theorem dX9_mixPoint_4 : decode cX9_mixPoint 4 = .ok (.istore 6, 2) := by decide +kernel
theorem dX9_mixPoint_6 : decode cX9_mixPoint 6 = .ok (.iload 6, 2) := by decide +kernel
theorem dX9_mixPoint_8 : decode cX9_mixPoint 8 = .ok (.iconst 4, 1) := by decide +kernel
theorem dX9_mixPoint_9 : decode cX9_mixPoint 9 = .ok (.if_icmp .ge 26, 3) := by decide +kernel
theorem dX9_mixPoint_12 : decode cX9_mixPoint 12 = .ok (.ldc2_w 205, 3) := by decide +kernel
theorem dX9_mixPoint_15 : decode cX9_mixPoint 15 = .ok (.lload 4, 2) := by decide +kernel
theorem dX9_mixPoint_17 : decode cX9_mixPoint 17 = .ok (.lmul, 1) := by decide +kernel
theorem dX9_mixPoint_18 : decode cX9_mixPoint 18 = .ok (.aload_n 0, 1) := by decide +kernel
theorem dX9_mixPoint_19 : decode cX9_mixPoint 19 = .ok (.iload_n 3, 1) := by decide +kernel
theorem dX9_mixPoint_20 : decode cX9_mixPoint 20 = .ok (.iload 6, 2) := by decide +kernel
theorem dX9_mixPoint_22 : decode cX9_mixPoint 22 = .ok (.invokevirtual 74, 3) := by decide +kernel
theorem dX9_mixPoint_25 : decode cX9_mixPoint 25 = .ok (.i2l, 1) := by decide +kernel
theorem dX9_mixPoint_26 : decode cX9_mixPoint 26 = .ok (.ladd, 1) := by decide +kernel
theorem dX9_mixPoint_27 : decode cX9_mixPoint 27 = .ok (.lstore 4, 2) := by decide +kernel
theorem dX9_mixPoint_29 : decode cX9_mixPoint 29 = .ok (.iinc 6 1, 3) := by decide +kernel
theorem dX9_mixPoint_32 : decode cX9_mixPoint 32 = .ok (.goto (-26), 3) := by decide +kernel
theorem dX9_mixPoint_35 : decode cX9_mixPoint 35 = .ok (.iconst 0, 1) := by decide +kernel
theorem dX9_mixPoint_36 : decode cX9_mixPoint 36 = .ok (.istore 6, 2) := by decide +kernel
theorem dX9_mixPoint_38 : decode cX9_mixPoint 38 = .ok (.iload 6, 2) := by decide +kernel
theorem dX9_mixPoint_40 : decode cX9_mixPoint 40 = .ok (.iconst 3, 1) := by decide +kernel
theorem dX9_mixPoint_41 : decode cX9_mixPoint 41 = .ok (.if_icmp .ge 32, 3) := by decide +kernel
theorem dX9_mixPoint_44 : decode cX9_mixPoint 44 = .ok (.ldc2_w 205, 3) := by decide +kernel
theorem dX9_mixPoint_47 : decode cX9_mixPoint 47 = .ok (.lload 4, 2) := by decide +kernel
theorem dX9_mixPoint_49 : decode cX9_mixPoint 49 = .ok (.lmul, 1) := by decide +kernel
theorem dX9_mixPoint_50 : decode cX9_mixPoint 50 = .ok (.aload_n 0, 1) := by decide +kernel
theorem dX9_mixPoint_51 : decode cX9_mixPoint 51 = .ok (.getfield 31, 3) := by decide +kernel
theorem dX9_mixPoint_54 : decode cX9_mixPoint 54 = .ok (.getfield 121, 3) := by decide +kernel
theorem dX9_mixPoint_57 : decode cX9_mixPoint 57 = .ok (.iload_n 3, 1) := by decide +kernel
theorem dX9_mixPoint_58 : decode cX9_mixPoint 58 = .ok (.iload 6, 2) := by decide +kernel
theorem dX9_mixPoint_60 : decode cX9_mixPoint 60 = .ok (.invokevirtual 125, 3) := by decide +kernel
theorem dX9_mixPoint_63 : decode cX9_mixPoint 63 = .ok (.i2l, 1) := by decide +kernel
theorem dX9_mixPoint_64 : decode cX9_mixPoint 64 = .ok (.ladd, 1) := by decide +kernel
theorem dX9_mixPoint_65 : decode cX9_mixPoint 65 = .ok (.lstore 4, 2) := by decide +kernel
theorem dX9_mixPoint_67 : decode cX9_mixPoint 67 = .ok (.iinc 6 1, 3) := by decide +kernel
theorem dX9_mixPoint_70 : decode cX9_mixPoint 70 = .ok (.goto (-32), 3) := by decide +kernel
theorem dX9_mixPoint_73 : decode cX9_mixPoint 73 = .ok (.lload 4, 2) := by decide +kernel
theorem dX9_mixPoint_75 : decode cX9_mixPoint 75 = .ok (.lreturn, 1) := by decide +kernel
theorem dX9_mixTrace_0 : decode cX9_mixTrace 0 = .ok (.lload_n 1, 1) := by decide +kernel
theorem dX9_mixTrace_1 : decode cX9_mixTrace 1 = .ok (.lstore 4, 2) := by decide +kernel
theorem dX9_mixTrace_3 : decode cX9_mixTrace 3 = .ok (.iconst 0, 1) := by decide +kernel
theorem dX9_mixTrace_4 : decode cX9_mixTrace 4 = .ok (.istore 6, 2) := by decide +kernel
theorem dX9_mixTrace_6 : decode cX9_mixTrace 6 = .ok (.iload 6, 2) := by decide +kernel
theorem dX9_mixTrace_8 : decode cX9_mixTrace 8 = .ok (.iconst 5, 1) := by decide +kernel
theorem dX9_mixTrace_9 : decode cX9_mixTrace 9 = .ok (.if_icmp .ge 26, 3) := by decide +kernel
theorem dX9_mixTrace_12 : decode cX9_mixTrace 12 = .ok (.ldc2_w 205, 3) := by decide +kernel
theorem dX9_mixTrace_15 : decode cX9_mixTrace 15 = .ok (.lload 4, 2) := by decide +kernel
theorem dX9_mixTrace_17 : decode cX9_mixTrace 17 = .ok (.lmul, 1) := by decide +kernel
theorem dX9_mixTrace_18 : decode cX9_mixTrace 18 = .ok (.aload_n 0, 1) := by decide +kernel
theorem dX9_mixTrace_19 : decode cX9_mixTrace 19 = .ok (.iload_n 3, 1) := by decide +kernel
theorem dX9_mixTrace_20 : decode cX9_mixTrace 20 = .ok (.iload 6, 2) := by decide +kernel
theorem dX9_mixTrace_22 : decode cX9_mixTrace 22 = .ok (.invokevirtual 130, 3) := by decide +kernel
theorem dX9_mixTrace_25 : decode cX9_mixTrace 25 = .ok (.i2l, 1) := by decide +kernel
theorem dX9_mixTrace_26 : decode cX9_mixTrace 26 = .ok (.ladd, 1) := by decide +kernel
theorem dX9_mixTrace_27 : decode cX9_mixTrace 27 = .ok (.lstore 4, 2) := by decide +kernel
theorem dX9_mixTrace_29 : decode cX9_mixTrace 29 = .ok (.iinc 6 1, 3) := by decide +kernel
theorem dX9_mixTrace_32 : decode cX9_mixTrace 32 = .ok (.goto (-26), 3) := by decide +kernel
theorem dX9_mixTrace_35 : decode cX9_mixTrace 35 = .ok (.iconst 0, 1) := by decide +kernel
theorem dX9_mixTrace_36 : decode cX9_mixTrace 36 = .ok (.istore 6, 2) := by decide +kernel
theorem dX9_mixTrace_38 : decode cX9_mixTrace 38 = .ok (.iload 6, 2) := by decide +kernel
theorem dX9_mixTrace_40 : decode cX9_mixTrace 40 = .ok (.iconst 3, 1) := by decide +kernel
theorem dX9_mixTrace_41 : decode cX9_mixTrace 41 = .ok (.if_icmp .ge 26, 3) := by decide +kernel
theorem dX9_mixTrace_44 : decode cX9_mixTrace 44 = .ok (.ldc2_w 205, 3) := by decide +kernel
theorem dX9_mixTrace_47 : decode cX9_mixTrace 47 = .ok (.lload 4, 2) := by decide +kernel
theorem dX9_mixTrace_49 : decode cX9_mixTrace 49 = .ok (.lmul, 1) := by decide +kernel
theorem dX9_mixTrace_50 : decode cX9_mixTrace 50 = .ok (.aload_n 0, 1) := by decide +kernel
theorem dX9_mixTrace_51 : decode cX9_mixTrace 51 = .ok (.iload_n 3, 1) := by decide +kernel
theorem dX9_mixTrace_52 : decode cX9_mixTrace 52 = .ok (.iload 6, 2) := by decide +kernel
theorem dX9_mixTrace_54 : decode cX9_mixTrace 54 = .ok (.invokevirtual 137, 3) := by decide +kernel
theorem dX9_mixTrace_57 : decode cX9_mixTrace 57 = .ok (.i2l, 1) := by decide +kernel
theorem dX9_mixTrace_58 : decode cX9_mixTrace 58 = .ok (.ladd, 1) := by decide +kernel
theorem dX9_mixTrace_59 : decode cX9_mixTrace 59 = .ok (.lstore 4, 2) := by decide +kernel
theorem dX9_mixTrace_61 : decode cX9_mixTrace 61 = .ok (.iinc 6 1, 3) := by decide +kernel
theorem dX9_mixTrace_64 : decode cX9_mixTrace 64 = .ok (.goto (-26), 3) := by decide +kernel
theorem dX9_mixTrace_67 : decode cX9_mixTrace 67 = .ok (.ldc2_w 205, 3) := by decide +kernel
theorem dX9_mixTrace_70 : decode cX9_mixTrace 70 = .ok (.lload 4, 2) := by decide +kernel
theorem dX9_mixTrace_72 : decode cX9_mixTrace 72 = .ok (.lmul, 1) := by decide +kernel
theorem dX9_mixTrace_73 : decode cX9_mixTrace 73 = .ok (.aload_n 0, 1) := by decide +kernel
theorem dX9_mixTrace_74 : decode cX9_mixTrace 74 = .ok (.iload_n 3, 1) := by decide +kernel
theorem dX9_mixTrace_75 : decode cX9_mixTrace 75 = .ok (.invokevirtual 143, 3) := by decide +kernel
theorem dX9_mixTrace_78 : decode cX9_mixTrace 78 = .ok (.i2l, 1) := by decide +kernel
theorem dX9_mixTrace_79 : decode cX9_mixTrace 79 = .ok (.ladd, 1) := by decide +kernel
theorem dX9_mixTrace_80 : decode cX9_mixTrace 80 = .ok (.lstore 4, 2) := by decide +kernel
theorem dX9_mixTrace_82 : decode cX9_mixTrace 82 = .ok (.iconst 0, 1) := by decide +kernel
theorem dX9_mixTrace_83 : decode cX9_mixTrace 83 = .ok (.istore 6, 2) := by decide +kernel
theorem dX9_mixTrace_85 : decode cX9_mixTrace 85 = .ok (.iload 6, 2) := by decide +kernel
theorem dX9_mixTrace_87 : decode cX9_mixTrace 87 = .ok (.bipush 16, 2) := by decide +kernel
theorem dX9_mixTrace_89 : decode cX9_mixTrace 89 = .ok (.if_icmp .ge 80, 3) := by decide +kernel
theorem dX9_mixTrace_92 : decode cX9_mixTrace 92 = .ok (.iconst 0, 1) := by decide +kernel
theorem dX9_mixTrace_93 : decode cX9_mixTrace 93 = .ok (.istore 7, 2) := by decide +kernel
theorem dX9_mixTrace_95 : decode cX9_mixTrace 95 = .ok (.iload 7, 2) := by decide +kernel
theorem dX9_mixTrace_97 : decode cX9_mixTrace 97 = .ok (.bipush 6, 2) := by decide +kernel
theorem dX9_mixTrace_99 : decode cX9_mixTrace 99 = .ok (.if_icmp .ge 28, 3) := by decide +kernel
theorem dX9_mixTrace_102 : decode cX9_mixTrace 102 = .ok (.ldc2_w 205, 3) := by decide +kernel
theorem dX9_mixTrace_105 : decode cX9_mixTrace 105 = .ok (.lload 4, 2) := by decide +kernel
theorem dX9_mixTrace_107 : decode cX9_mixTrace 107 = .ok (.lmul, 1) := by decide +kernel
theorem dX9_mixTrace_108 : decode cX9_mixTrace 108 = .ok (.aload_n 0, 1) := by decide +kernel
theorem dX9_mixTrace_109 : decode cX9_mixTrace 109 = .ok (.iload_n 3, 1) := by decide +kernel
theorem dX9_mixTrace_110 : decode cX9_mixTrace 110 = .ok (.iload 6, 2) := by decide +kernel
theorem dX9_mixTrace_112 : decode cX9_mixTrace 112 = .ok (.iload 7, 2) := by decide +kernel
theorem dX9_mixTrace_114 : decode cX9_mixTrace 114 = .ok (.invokevirtual 133, 3) := by decide +kernel
theorem dX9_mixTrace_117 : decode cX9_mixTrace 117 = .ok (.i2l, 1) := by decide +kernel
theorem dX9_mixTrace_118 : decode cX9_mixTrace 118 = .ok (.ladd, 1) := by decide +kernel
theorem dX9_mixTrace_119 : decode cX9_mixTrace 119 = .ok (.lstore 4, 2) := by decide +kernel
theorem dX9_mixTrace_121 : decode cX9_mixTrace 121 = .ok (.iinc 7 1, 3) := by decide +kernel
theorem dX9_mixTrace_124 : decode cX9_mixTrace 124 = .ok (.goto (-29), 3) := by decide +kernel
theorem dX9_mixTrace_127 : decode cX9_mixTrace 127 = .ok (.ldc2_w 205, 3) := by decide +kernel
theorem dX9_mixTrace_130 : decode cX9_mixTrace 130 = .ok (.lload 4, 2) := by decide +kernel
theorem dX9_mixTrace_132 : decode cX9_mixTrace 132 = .ok (.lmul, 1) := by decide +kernel
theorem dX9_mixTrace_133 : decode cX9_mixTrace 133 = .ok (.aload_n 0, 1) := by decide +kernel
theorem dX9_mixTrace_134 : decode cX9_mixTrace 134 = .ok (.iload_n 3, 1) := by decide +kernel
theorem dX9_mixTrace_135 : decode cX9_mixTrace 135 = .ok (.iload 6, 2) := by decide +kernel
theorem dX9_mixTrace_137 : decode cX9_mixTrace 137 = .ok (.iconst 0, 1) := by decide +kernel
theorem dX9_mixTrace_138 : decode cX9_mixTrace 138 = .ok (.invokevirtual 140, 3) := by decide +kernel
theorem dX9_mixTrace_141 : decode cX9_mixTrace 141 = .ok (.i2l, 1) := by decide +kernel
theorem dX9_mixTrace_142 : decode cX9_mixTrace 142 = .ok (.ladd, 1) := by decide +kernel
theorem dX9_mixTrace_143 : decode cX9_mixTrace 143 = .ok (.lstore 4, 2) := by decide +kernel
theorem dX9_mixTrace_145 : decode cX9_mixTrace 145 = .ok (.ldc2_w 205, 3) := by decide +kernel
theorem dX9_mixTrace_148 : decode cX9_mixTrace 148 = .ok (.lload 4, 2) := by decide +kernel
theorem dX9_mixTrace_150 : decode cX9_mixTrace 150 = .ok (.lmul, 1) := by decide +kernel
theorem dX9_mixTrace_151 : decode cX9_mixTrace 151 = .ok (.aload_n 0, 1) := by decide +kernel
theorem dX9_mixTrace_152 : decode cX9_mixTrace 152 = .ok (.iload_n 3, 1) := by decide +kernel
theorem dX9_mixTrace_153 : decode cX9_mixTrace 153 = .ok (.iload 6, 2) := by decide +kernel
theorem dX9_mixTrace_155 : decode cX9_mixTrace 155 = .ok (.iconst 1, 1) := by decide +kernel
theorem dX9_mixTrace_156 : decode cX9_mixTrace 156 = .ok (.invokevirtual 140, 3) := by decide +kernel
theorem dX9_mixTrace_159 : decode cX9_mixTrace 159 = .ok (.i2l, 1) := by decide +kernel
theorem dX9_mixTrace_160 : decode cX9_mixTrace 160 = .ok (.ladd, 1) := by decide +kernel
theorem dX9_mixTrace_161 : decode cX9_mixTrace 161 = .ok (.lstore 4, 2) := by decide +kernel
theorem dX9_mixTrace_163 : decode cX9_mixTrace 163 = .ok (.iinc 6 1, 3) := by decide +kernel
theorem dX9_mixTrace_166 : decode cX9_mixTrace 166 = .ok (.goto (-81), 3) := by decide +kernel
theorem dX9_mixTrace_169 : decode cX9_mixTrace 169 = .ok (.lload 4, 2) := by decide +kernel
theorem dX9_mixTrace_171 : decode cX9_mixTrace 171 = .ok (.lreturn, 1) := by decide +kernel
