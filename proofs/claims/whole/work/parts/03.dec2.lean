theorem dX5_init_0 : decode cX5_init 0 = .ok (.aload_n 0, 1) := by decide +kernel
theorem dX5_init_1 : decode cX5_init 1 = .ok (.invokespecial 1, 3) := by decide +kernel
theorem dX5_init_4 : decode cX5_init 4 = .ok (.aload_n 0, 1) := by decide +kernel
theorem dX5_init_5 : decode cX5_init 5 = .ok (.bipush 8, 2) := by decide +kernel
theorem dX5_init_7 : decode cX5_init 7 = .ok (.anewarray 9, 3) := by decide +kernel
theorem dX5_init_10 : decode cX5_init 10 = .ok (.putfield 11, 3) := by decide +kernel
theorem dX5_init_13 : decode cX5_init 13 = .ok (.aload_n 0, 1) := by decide +kernel
theorem dX5_init_14 : decode cX5_init 14 = .ok (.bipush 6, 2) := by decide +kernel
theorem dX5_init_16 : decode cX5_init 16 = .ok (.newarray .int, 2) := by decide +kernel
theorem dX5_init_18 : decode cX5_init 18 = .ok (.putfield 15, 3) := by decide +kernel
theorem dX5_init_21 : decode cX5_init 21 = .ok (.aload_n 0, 1) := by decide +kernel
theorem dX5_init_22 : decode cX5_init 22 = .ok (.sipush 300, 3) := by decide +kernel
theorem dX5_init_25 : decode cX5_init 25 = .ok (.newarray .int, 2) := by decide +kernel
theorem dX5_init_27 : decode cX5_init 27 = .ok (.putfield 19, 3) := by decide +kernel
theorem dX5_init_30 : decode cX5_init 30 = .ok (.aload_n 0, 1) := by decide +kernel
theorem dX5_init_31 : decode cX5_init 31 = .ok (.new 22, 3) := by decide +kernel
theorem dX5_init_34 : decode cX5_init 34 = .ok (.dup, 1) := by decide +kernel
theorem dX5_init_35 : decode cX5_init 35 = .ok (.invokespecial 24, 3) := by decide +kernel
theorem dX5_init_38 : decode cX5_init 38 = .ok (.putfield 25, 3) := by decide +kernel
theorem dX5_init_41 : decode cX5_init 41 = .ok (.aload_n 0, 1) := by decide +kernel
theorem dX5_init_42 : decode cX5_init 42 = .ok (.new 29, 3) := by decide +kernel
theorem dX5_init_45 : decode cX5_init 45 = .ok (.dup, 1) := by decide +kernel
theorem dX5_init_46 : decode cX5_init 46 = .ok (.invokespecial 31, 3) := by decide +kernel
theorem dX5_init_49 : decode cX5_init 49 = .ok (.putfield 32, 3) := by decide +kernel
theorem dX5_init_52 : decode cX5_init 52 = .ok (.aload_n 0, 1) := by decide +kernel
theorem dX5_init_53 : decode cX5_init 53 = .ok (.bipush 20, 2) := by decide +kernel
theorem dX5_init_55 : decode cX5_init 55 = .ok (.putfield 36, 3) := by decide +kernel
theorem dX5_init_58 : decode cX5_init 58 = .ok (.aload_n 0, 1) := by decide +kernel
theorem dX5_init_59 : decode cX5_init 59 = .ok (.iconst 1, 1) := by decide +kernel
theorem dX5_init_60 : decode cX5_init 60 = .ok (.putfield 40, 3) := by decide +kernel
theorem dX5_init_63 : decode cX5_init 63 = .ok (.aload_n 0, 1) := by decide +kernel
theorem dX5_init_64 : decode cX5_init 64 = .ok (.lconst 1, 1) := by decide +kernel
theorem dX5_init_65 : decode cX5_init 65 = .ok (.putfield 43, 3) := by decide +kernel
theorem dX5_init_68 : decode cX5_init 68 = .ok (.return_, 1) := by decide +kernel
theorem dX5_builds_0 : decode cX5_builds 0 = .ok (.iload_n 1, 1) := by decide +kernel
theorem dX5_builds_1 : decode cX5_builds 1 = .ok (.aload_n 0, 1) := by decide +kernel
theorem dX5_builds_2 : decode cX5_builds 2 = .ok (.getfield 47, 3) := by decide +kernel
theorem dX5_builds_5 : decode cX5_builds 5 = .ok (.if_icmp .lt 9, 3) := by decide +kernel
theorem dX5_builds_8 : decode cX5_builds 8 = .ok (.iload_n 1, 1) := by decide +kernel
theorem dX5_builds_9 : decode cX5_builds 9 = .ok (.bipush 40, 2) := by decide +kernel
theorem dX5_builds_11 : decode cX5_builds 11 = .ok (.if_icmp .le 5, 3) := by decide +kernel
theorem dX5_builds_14 : decode cX5_builds 14 = .ok (.iconst (-1), 1) := by decide +kernel
theorem dX5_builds_15 : decode cX5_builds 15 = .ok (.ireturn, 1) := by decide +kernel
theorem dX5_builds_16 : decode cX5_builds 16 = .ok (.aload_n 0, 1) := by decide +kernel
theorem dX5_builds_17 : decode cX5_builds 17 = .ok (.iload_n 1, 1) := by decide +kernel
theorem dX5_builds_18 : decode cX5_builds 18 = .ok (.putfield 47, 3) := by decide +kernel
theorem dX5_builds_21 : decode cX5_builds 21 = .ok (.iload_n 1, 1) := by decide +kernel
theorem dX5_builds_22 : decode cX5_builds 22 = .ok (.ireturn, 1) := by decide +kernel
theorem dX5_test_0 : decode cX5_test 0 = .ok (.iload_n 1, 1) := by decide +kernel
theorem dX5_test_1 : decode cX5_test 1 = .ok (.invokestatic 50, 3) := by decide +kernel
theorem dX5_test_4 : decode cX5_test 4 = .ok (.ifCond .ne 5, 3) := by decide +kernel
theorem dX5_test_7 : decode cX5_test 7 = .ok (.iconst (-1), 1) := by decide +kernel
theorem dX5_test_8 : decode cX5_test 8 = .ok (.ireturn, 1) := by decide +kernel
theorem dX5_test_9 : decode cX5_test 9 = .ok (.aload_n 0, 1) := by decide +kernel
theorem dX5_test_10 : decode cX5_test 10 = .ok (.getfield 54, 3) := by decide +kernel
theorem dX5_test_13 : decode cX5_test 13 = .ok (.bipush 8, 2) := by decide +kernel
theorem dX5_test_15 : decode cX5_test 15 = .ok (.if_icmp .lt 6, 3) := by decide +kernel
theorem dX5_test_18 : decode cX5_test 18 = .ok (.bipush (-2), 2) := by decide +kernel
theorem dX5_test_20 : decode cX5_test 20 = .ok (.ireturn, 1) := by decide +kernel
theorem dX5_test_21 : decode cX5_test 21 = .ok (.aload_n 0, 1) := by decide +kernel
theorem dX5_test_22 : decode cX5_test 22 = .ok (.getfield 11, 3) := by decide +kernel
theorem dX5_test_25 : decode cX5_test 25 = .ok (.aload_n 0, 1) := by decide +kernel
theorem dX5_test_26 : decode cX5_test 26 = .ok (.getfield 54, 3) := by decide +kernel
theorem dX5_test_29 : decode cX5_test 29 = .ok (.new 9, 3) := by decide +kernel
theorem dX5_test_32 : decode cX5_test 32 = .ok (.dup, 1) := by decide +kernel
theorem dX5_test_33 : decode cX5_test 33 = .ok (.iload_n 1, 1) := by decide +kernel
theorem dX5_test_34 : decode cX5_test 34 = .ok (.invokespecial 57, 3) := by decide +kernel
theorem dX5_test_37 : decode cX5_test 37 = .ok (.aastore, 1) := by decide +kernel
theorem dX5_test_38 : decode cX5_test 38 = .ok (.aload_n 0, 1) := by decide +kernel
theorem dX5_test_39 : decode cX5_test 39 = .ok (.dup, 1) := by decide +kernel
theorem dX5_test_40 : decode cX5_test 40 = .ok (.getfield 54, 3) := by decide +kernel
theorem dX5_test_43 : decode cX5_test 43 = .ok (.iconst 1, 1) := by decide +kernel
theorem dX5_test_44 : decode cX5_test 44 = .ok (.iadd, 1) := by decide +kernel
theorem dX5_test_45 : decode cX5_test 45 = .ok (.putfield 54, 3) := by decide +kernel
theorem dX5_test_48 : decode cX5_test 48 = .ok (.aload_n 0, 1) := by decide +kernel
theorem dX5_test_49 : decode cX5_test 49 = .ok (.getfield 54, 3) := by decide +kernel
theorem dX5_test_52 : decode cX5_test 52 = .ok (.iconst 1, 1) := by decide +kernel
theorem dX5_test_53 : decode cX5_test 53 = .ok (.isub, 1) := by decide +kernel
theorem dX5_test_54 : decode cX5_test 54 = .ok (.ireturn, 1) := by decide +kernel
theorem dX5_is_0 : decode cX5_is 0 = .ok (.aload_n 0, 1) := by decide +kernel
theorem dX5_is_1 : decode cX5_is 1 = .ok (.iload_n 1, 1) := by decide +kernel
theorem dX5_is_2 : decode cX5_is 2 = .ok (.invokevirtual 60, 3) := by decide +kernel
theorem dX5_is_5 : decode cX5_is 5 = .ok (.astore_n 3, 1) := by decide +kernel
theorem dX5_is_6 : decode cX5_is 6 = .ok (.aload_n 3, 1) := by decide +kernel
theorem dX5_is_7 : decode cX5_is 7 = .ok (.ifnull 10, 3) := by decide +kernel
theorem dX5_is_10 : decode cX5_is 10 = .ok (.iload_n 2, 1) := by decide +kernel
theorem dX5_is_11 : decode cX5_is 11 = .ok (.invokestatic 50, 3) := by decide +kernel
theorem dX5_is_14 : decode cX5_is 14 = .ok (.ifCond .ne 5, 3) := by decide +kernel
theorem dX5_is_17 : decode cX5_is 17 = .ok (.iconst (-1), 1) := by decide +kernel
theorem dX5_is_18 : decode cX5_is 18 = .ok (.ireturn, 1) := by decide +kernel
theorem dX5_is_19 : decode cX5_is 19 = .ok (.iload_n 2, 1) := by decide +kernel
theorem dX5_is_20 : decode cX5_is 20 = .ok (.ifCond .eq 11, 3) := by decide +kernel
theorem dX5_is_23 : decode cX5_is 23 = .ok (.iload_n 2, 1) := by decide +kernel
theorem dX5_is_24 : decode cX5_is 24 = .ok (.aload_n 3, 1) := by decide +kernel
theorem dX5_is_25 : decode cX5_is 25 = .ok (.getfield 64, 3) := by decide +kernel
theorem dX5_is_28 : decode cX5_is 28 = .ok (.if_icmp .ne 7, 3) := by decide +kernel
theorem dX5_is_31 : decode cX5_is 31 = .ok (.iconst 1, 1) := by decide +kernel
theorem dX5_is_32 : decode cX5_is 32 = .ok (.goto 4, 3) := by decide +kernel
theorem dX5_is_35 : decode cX5_is 35 = .ok (.iconst 0, 1) := by decide +kernel
theorem dX5_is_36 : decode cX5_is 36 = .ok (.ireturn, 1) := by decide +kernel
theorem dX5_row_0 : decode cX5_row 0 = .ok (.aload_n 0, 1) := by decide +kernel
theorem dX5_row_1 : decode cX5_row 1 = .ok (.iload_n 1, 1) := by decide +kernel
theorem dX5_row_2 : decode cX5_row 2 = .ok (.iload_n 2, 1) := by decide +kernel
theorem dX5_row_3 : decode cX5_row 3 = .ok (.invokevirtual 67, 3) := by decide +kernel
theorem dX5_row_6 : decode cX5_row 6 = .ok (.astore_n 3, 1) := by decide +kernel
theorem dX5_row_7 : decode cX5_row 7 = .ok (.aload_n 3, 1) := by decide +kernel
theorem dX5_row_8 : decode cX5_row 8 = .ok (.ifnonnull 5, 3) := by decide +kernel
theorem dX5_row_11 : decode cX5_row 11 = .ok (.iconst (-1), 1) := by decide +kernel
theorem dX5_row_12 : decode cX5_row 12 = .ok (.ireturn, 1) := by decide +kernel
theorem dX5_row_13 : decode cX5_row 13 = .ok (.aload_n 3, 1) := by decide +kernel
theorem dX5_row_14 : decode cX5_row 14 = .ok (.getfield 71, 3) := by decide +kernel
theorem dX5_row_17 : decode cX5_row 17 = .ok (.ifCond .eq 7, 3) := by decide +kernel
theorem dX5_row_20 : decode cX5_row 20 = .ok (.iconst 1, 1) := by decide +kernel
theorem dX5_row_21 : decode cX5_row 21 = .ok (.goto 4, 3) := by decide +kernel
theorem dX5_row_24 : decode cX5_row 24 = .ok (.iconst 0, 1) := by decide +kernel
theorem dX5_row_25 : decode cX5_row 25 = .ok (.istore 4, 2) := by decide +kernel
theorem dX5_row_27 : decode cX5_row 27 = .ok (.aload_n 3, 1) := by decide +kernel
theorem dX5_row_28 : decode cX5_row 28 = .ok (.invokevirtual 77, 3) := by decide +kernel
theorem dX5_row_31 : decode cX5_row 31 = .ok (.aload_n 3, 1) := by decide +kernel
theorem dX5_row_32 : decode cX5_row 32 = .ok (.iconst 1, 1) := by decide +kernel
theorem dX5_row_33 : decode cX5_row 33 = .ok (.putfield 71, 3) := by decide +kernel
theorem dX5_row_36 : decode cX5_row 36 = .ok (.iload 4, 2) := by decide +kernel
theorem dX5_row_38 : decode cX5_row 38 = .ok (.ireturn, 1) := by decide +kernel
theorem dX5_lay_0 : decode cX5_lay 0 = .ok (.aload_n 0, 1) := by decide +kernel
theorem dX5_lay_1 : decode cX5_lay 1 = .ok (.iload_n 1, 1) := by decide +kernel
theorem dX5_lay_2 : decode cX5_lay 2 = .ok (.iload_n 2, 1) := by decide +kernel
theorem dX5_lay_3 : decode cX5_lay 3 = .ok (.invokevirtual 67, 3) := by decide +kernel
theorem dX5_lay_6 : decode cX5_lay 6 = .ok (.astore 5, 2) := by decide +kernel
theorem dX5_lay_8 : decode cX5_lay 8 = .ok (.aload 5, 2) := by decide +kernel
theorem dX5_lay_10 : decode cX5_lay 10 = .ok (.ifnull 20, 3) := by decide +kernel
theorem dX5_lay_13 : decode cX5_lay 13 = .ok (.iload 4, 2) := by decide +kernel
theorem dX5_lay_15 : decode cX5_lay 15 = .ok (.bipush (-9), 2) := by decide +kernel
theorem dX5_lay_17 : decode cX5_lay 17 = .ok (.if_icmp .eq 15, 3) := by decide +kernel
theorem dX5_lay_20 : decode cX5_lay 20 = .ok (.iload 4, 2) := by decide +kernel
theorem dX5_lay_22 : decode cX5_lay 22 = .ok (.ldc 80, 2) := by decide +kernel
theorem dX5_lay_24 : decode cX5_lay 24 = .ok (.invokestatic 81, 3) := by decide +kernel
theorem dX5_lay_27 : decode cX5_lay 27 = .ok (.ifCond .ne 5, 3) := by decide +kernel
theorem dX5_lay_30 : decode cX5_lay 30 = .ok (.iconst (-1), 1) := by decide +kernel
theorem dX5_lay_31 : decode cX5_lay 31 = .ok (.ireturn, 1) := by decide +kernel
theorem dX5_lay_32 : decode cX5_lay 32 = .ok (.aload 5, 2) := by decide +kernel
theorem dX5_lay_34 : decode cX5_lay 34 = .ok (.getfield 71, 3) := by decide +kernel
theorem dX5_lay_37 : decode cX5_lay 37 = .ok (.ifCond .ne 9, 3) := by decide +kernel
theorem dX5_lay_40 : decode cX5_lay 40 = .ok (.aload_n 0, 1) := by decide +kernel
theorem dX5_lay_41 : decode cX5_lay 41 = .ok (.iconst 1, 1) := by decide +kernel
theorem dX5_lay_42 : decode cX5_lay 42 = .ok (.invokevirtual 85, 3) := by decide +kernel
theorem dX5_lay_45 : decode cX5_lay 45 = .ok (.ireturn, 1) := by decide +kernel
theorem dX5_lay_46 : decode cX5_lay 46 = .ok (.iload_n 3, 1) := by decide +kernel
theorem dX5_lay_47 : decode cX5_lay 47 = .ok (.invokestatic 89, 3) := by decide +kernel
theorem dX5_lay_50 : decode cX5_lay 50 = .ok (.ifCond .ne 9, 3) := by decide +kernel
theorem dX5_lay_53 : decode cX5_lay 53 = .ok (.aload_n 0, 1) := by decide +kernel
theorem dX5_lay_54 : decode cX5_lay 54 = .ok (.iconst 2, 1) := by decide +kernel
theorem dX5_lay_55 : decode cX5_lay 55 = .ok (.invokevirtual 85, 3) := by decide +kernel
theorem dX5_lay_58 : decode cX5_lay 58 = .ok (.ireturn, 1) := by decide +kernel
theorem dX5_lay_59 : decode cX5_lay 59 = .ok (.aload 5, 2) := by decide +kernel
theorem dX5_lay_61 : decode cX5_lay 61 = .ok (.getfield 92, 3) := by decide +kernel
theorem dX5_lay_64 : decode cX5_lay 64 = .ok (.iload_n 3, 1) := by decide +kernel
theorem dX5_lay_65 : decode cX5_lay 65 = .ok (.iaload, 1) := by decide +kernel
theorem dX5_lay_66 : decode cX5_lay 66 = .ok (.istore 6, 2) := by decide +kernel
theorem dX5_lay_68 : decode cX5_lay 68 = .ok (.aload 5, 2) := by decide +kernel
theorem dX5_lay_70 : decode cX5_lay 70 = .ok (.getfield 92, 3) := by decide +kernel
theorem dX5_lay_73 : decode cX5_lay 73 = .ok (.iload_n 3, 1) := by decide +kernel
theorem dX5_lay_74 : decode cX5_lay 74 = .ok (.iload 4, 2) := by decide +kernel
theorem dX5_lay_76 : decode cX5_lay 76 = .ok (.iastore, 1) := by decide +kernel
theorem dX5_lay_77 : decode cX5_lay 77 = .ok (.aload 5, 2) := by decide +kernel
theorem dX5_lay_79 : decode cX5_lay 79 = .ok (.iconst 1, 1) := by decide +kernel
theorem dX5_lay_80 : decode cX5_lay 80 = .ok (.putfield 95, 3) := by decide +kernel
theorem dX5_lay_83 : decode cX5_lay 83 = .ok (.iload 6, 2) := by decide +kernel
theorem dX5_lay_85 : decode cX5_lay 85 = .ok (.ireturn, 1) := by decide +kernel
theorem dX5_at_0 : decode cX5_at 0 = .ok (.aload_n 0, 1) := by decide +kernel
theorem dX5_at_1 : decode cX5_at 1 = .ok (.iload_n 1, 1) := by decide +kernel
theorem dX5_at_2 : decode cX5_at 2 = .ok (.iload_n 2, 1) := by decide +kernel
theorem dX5_at_3 : decode cX5_at 3 = .ok (.invokevirtual 67, 3) := by decide +kernel
theorem dX5_at_6 : decode cX5_at 6 = .ok (.astore 4, 2) := by decide +kernel
theorem dX5_at_8 : decode cX5_at 8 = .ok (.aload 4, 2) := by decide +kernel
theorem dX5_at_10 : decode cX5_at 10 = .ok (.ifnull 11, 3) := by decide +kernel
theorem dX5_at_13 : decode cX5_at 13 = .ok (.aload 4, 2) := by decide +kernel
theorem dX5_at_15 : decode cX5_at 15 = .ok (.getfield 71, 3) := by decide +kernel
theorem dX5_at_18 : decode cX5_at 18 = .ok (.ifCond .ne 10, 3) := by decide +kernel
theorem dX5_at_21 : decode cX5_at 21 = .ok (.aload_n 0, 1) := by decide +kernel
theorem dX5_at_22 : decode cX5_at 22 = .ok (.aload 4, 2) := by decide +kernel
theorem dX5_at_24 : decode cX5_at 24 = .ok (.invokevirtual 98, 3) := by decide +kernel
theorem dX5_at_27 : decode cX5_at 27 = .ok (.ireturn, 1) := by decide +kernel
theorem dX5_at_28 : decode cX5_at 28 = .ok (.iload_n 3, 1) := by decide +kernel
theorem dX5_at_29 : decode cX5_at 29 = .ok (.invokestatic 89, 3) := by decide +kernel
theorem dX5_at_32 : decode cX5_at 32 = .ok (.ifCond .ne 9, 3) := by decide +kernel
theorem dX5_at_35 : decode cX5_at 35 = .ok (.aload_n 0, 1) := by decide +kernel
theorem dX5_at_36 : decode cX5_at 36 = .ok (.iconst 2, 1) := by decide +kernel
theorem dX5_at_37 : decode cX5_at 37 = .ok (.invokevirtual 85, 3) := by decide +kernel
theorem dX5_at_40 : decode cX5_at 40 = .ok (.ireturn, 1) := by decide +kernel
theorem dX5_at_41 : decode cX5_at 41 = .ok (.aload 4, 2) := by decide +kernel
theorem dX5_at_43 : decode cX5_at 43 = .ok (.getfield 92, 3) := by decide +kernel
theorem dX5_at_46 : decode cX5_at 46 = .ok (.iload_n 3, 1) := by decide +kernel
theorem dX5_at_47 : decode cX5_at 47 = .ok (.iaload, 1) := by decide +kernel
theorem dX5_at_48 : decode cX5_at 48 = .ok (.ireturn, 1) := by decide +kernel
theorem dX5_tear_0 : decode cX5_tear 0 = .ok (.aload_n 0, 1) := by decide +kernel
theorem dX5_tear_1 : decode cX5_tear 1 = .ok (.iload_n 1, 1) := by decide +kernel
theorem dX5_tear_2 : decode cX5_tear 2 = .ok (.iload_n 2, 1) := by decide +kernel
theorem dX5_tear_3 : decode cX5_tear 3 = .ok (.invokevirtual 67, 3) := by decide +kernel
theorem dX5_tear_6 : decode cX5_tear 6 = .ok (.astore_n 3, 1) := by decide +kernel
theorem dX5_tear_7 : decode cX5_tear 7 = .ok (.aload_n 3, 1) := by decide +kernel
theorem dX5_tear_8 : decode cX5_tear 8 = .ok (.ifnull 10, 3) := by decide +kernel
theorem dX5_tear_11 : decode cX5_tear 11 = .ok (.aload_n 3, 1) := by decide +kernel
theorem dX5_tear_12 : decode cX5_tear 12 = .ok (.getfield 71, 3) := by decide +kernel
theorem dX5_tear_15 : decode cX5_tear 15 = .ok (.ifCond .ne 9, 3) := by decide +kernel
theorem dX5_tear_18 : decode cX5_tear 18 = .ok (.aload_n 0, 1) := by decide +kernel
theorem dX5_tear_19 : decode cX5_tear 19 = .ok (.aload_n 3, 1) := by decide +kernel
theorem dX5_tear_20 : decode cX5_tear 20 = .ok (.invokevirtual 98, 3) := by decide +kernel
theorem dX5_tear_23 : decode cX5_tear 23 = .ok (.ireturn, 1) := by decide +kernel
theorem dX5_tear_24 : decode cX5_tear 24 = .ok (.aload_n 3, 1) := by decide +kernel
theorem dX5_tear_25 : decode cX5_tear 25 = .ok (.invokevirtual 77, 3) := by decide +kernel
theorem dX5_tear_28 : decode cX5_tear 28 = .ok (.aload_n 3, 1) := by decide +kernel
theorem dX5_tear_29 : decode cX5_tear 29 = .ok (.iconst 0, 1) := by decide +kernel
theorem dX5_tear_30 : decode cX5_tear 30 = .ok (.putfield 71, 3) := by decide +kernel
theorem dX5_tear_33 : decode cX5_tear 33 = .ok (.iconst 1, 1) := by decide +kernel
theorem dX5_tear_34 : decode cX5_tear 34 = .ok (.ireturn, 1) := by decide +kernel
theorem dX5_copy_0 : decode cX5_copy 0 = .ok (.aload_n 0, 1) := by decide +kernel
theorem dX5_copy_1 : decode cX5_copy 1 = .ok (.iload_n 1, 1) := by decide +kernel
theorem dX5_copy_2 : decode cX5_copy 2 = .ok (.iload_n 2, 1) := by decide +kernel
theorem dX5_copy_3 : decode cX5_copy 3 = .ok (.invokevirtual 67, 3) := by decide +kernel
theorem dX5_copy_6 : decode cX5_copy 6 = .ok (.astore 7, 2) := by decide +kernel
theorem dX5_copy_8 : decode cX5_copy 8 = .ok (.aload_n 0, 1) := by decide +kernel
theorem dX5_copy_9 : decode cX5_copy 9 = .ok (.iload_n 1, 1) := by decide +kernel
theorem dX5_copy_10 : decode cX5_copy 10 = .ok (.iload 4, 2) := by decide +kernel
theorem dX5_copy_12 : decode cX5_copy 12 = .ok (.invokevirtual 67, 3) := by decide +kernel
theorem dX5_copy_15 : decode cX5_copy 15 = .ok (.astore 8, 2) := by decide +kernel
theorem dX5_copy_17 : decode cX5_copy 17 = .ok (.aload 7, 2) := by decide +kernel
theorem dX5_copy_19 : decode cX5_copy 19 = .ok (.ifnull 8, 3) := by decide +kernel
theorem dX5_copy_22 : decode cX5_copy 22 = .ok (.aload 8, 2) := by decide +kernel
theorem dX5_copy_24 : decode cX5_copy 24 = .ok (.ifnonnull 5, 3) := by decide +kernel
theorem dX5_copy_27 : decode cX5_copy 27 = .ok (.iconst (-1), 1) := by decide +kernel
theorem dX5_copy_28 : decode cX5_copy 28 = .ok (.ireturn, 1) := by decide +kernel
theorem dX5_copy_29 : decode cX5_copy 29 = .ok (.iload 6, 2) := by decide +kernel
theorem dX5_copy_31 : decode cX5_copy 31 = .ok (.ifCond .ge 9, 3) := by decide +kernel
theorem dX5_copy_34 : decode cX5_copy 34 = .ok (.aload_n 0, 1) := by decide +kernel
theorem dX5_copy_35 : decode cX5_copy 35 = .ok (.iconst 5, 1) := by decide +kernel
theorem dX5_copy_36 : decode cX5_copy 36 = .ok (.invokevirtual 85, 3) := by decide +kernel
theorem dX5_copy_39 : decode cX5_copy 39 = .ok (.ireturn, 1) := by decide +kernel
theorem dX5_copy_40 : decode cX5_copy 40 = .ok (.aload 7, 2) := by decide +kernel
theorem dX5_copy_42 : decode cX5_copy 42 = .ok (.getfield 71, 3) := by decide +kernel
theorem dX5_copy_45 : decode cX5_copy 45 = .ok (.ifCond .eq 11, 3) := by decide +kernel
theorem dX5_copy_48 : decode cX5_copy 48 = .ok (.aload 8, 2) := by decide +kernel
theorem dX5_copy_50 : decode cX5_copy 50 = .ok (.getfield 71, 3) := by decide +kernel
theorem dX5_copy_53 : decode cX5_copy 53 = .ok (.ifCond .ne 9, 3) := by decide +kernel
theorem dX5_copy_56 : decode cX5_copy 56 = .ok (.aload_n 0, 1) := by decide +kernel
theorem dX5_copy_57 : decode cX5_copy 57 = .ok (.iconst 1, 1) := by decide +kernel
theorem dX5_copy_58 : decode cX5_copy 58 = .ok (.invokevirtual 85, 3) := by decide +kernel
theorem dX5_copy_61 : decode cX5_copy 61 = .ok (.ireturn, 1) := by decide +kernel
theorem dX5_copy_62 : decode cX5_copy 62 = .ok (.iload_n 3, 1) := by decide +kernel
theorem dX5_copy_63 : decode cX5_copy 63 = .ok (.iload 6, 2) := by decide +kernel
theorem dX5_copy_65 : decode cX5_copy 65 = .ok (.invokestatic 102, 3) := by decide +kernel
theorem dX5_copy_68 : decode cX5_copy 68 = .ok (.ifCond .eq 13, 3) := by decide +kernel
theorem dX5_copy_71 : decode cX5_copy 71 = .ok (.iload 5, 2) := by decide +kernel
theorem dX5_copy_73 : decode cX5_copy 73 = .ok (.iload 6, 2) := by decide +kernel
theorem dX5_copy_75 : decode cX5_copy 75 = .ok (.invokestatic 102, 3) := by decide +kernel
theorem dX5_copy_78 : decode cX5_copy 78 = .ok (.ifCond .ne 9, 3) := by decide +kernel
theorem dX5_copy_81 : decode cX5_copy 81 = .ok (.aload_n 0, 1) := by decide +kernel
theorem dX5_copy_82 : decode cX5_copy 82 = .ok (.iconst 2, 1) := by decide +kernel
theorem dX5_copy_83 : decode cX5_copy 83 = .ok (.invokevirtual 85, 3) := by decide +kernel
theorem dX5_copy_86 : decode cX5_copy 86 = .ok (.ireturn, 1) := by decide +kernel
theorem dX5_copy_87 : decode cX5_copy 87 = .ok (.aload 7, 2) := by decide +kernel
theorem dX5_copy_89 : decode cX5_copy 89 = .ok (.getfield 92, 3) := by decide +kernel
theorem dX5_copy_92 : decode cX5_copy 92 = .ok (.iload_n 3, 1) := by decide +kernel
theorem dX5_copy_93 : decode cX5_copy 93 = .ok (.aload 8, 2) := by decide +kernel
theorem dX5_copy_95 : decode cX5_copy 95 = .ok (.getfield 92, 3) := by decide +kernel
theorem dX5_copy_98 : decode cX5_copy 98 = .ok (.iload 5, 2) := by decide +kernel
theorem dX5_copy_100 : decode cX5_copy 100 = .ok (.iload 6, 2) := by decide +kernel
theorem dX5_copy_102 : decode cX5_copy 102 = .ok (.invokestatic 105, 3) := by decide +kernel
theorem dX5_copy_105 : decode cX5_copy 105 = .ok (.aload 8, 2) := by decide +kernel
theorem dX5_copy_107 : decode cX5_copy 107 = .ok (.iconst 1, 1) := by decide +kernel
theorem dX5_copy_108 : decode cX5_copy 108 = .ok (.putfield 95, 3) := by decide +kernel
theorem dX5_copy_111 : decode cX5_copy 111 = .ok (.iconst 1, 1) := by decide +kernel
theorem dX5_copy_112 : decode cX5_copy 112 = .ok (.ireturn, 1) := by decide +kernel
theorem dX5_rank_0 : decode cX5_rank 0 = .ok (.aload_n 0, 1) := by decide +kernel
theorem dX5_rank_1 : decode cX5_rank 1 = .ok (.iload_n 1, 1) := by decide +kernel
theorem dX5_rank_2 : decode cX5_rank 2 = .ok (.iload_n 2, 1) := by decide +kernel
theorem dX5_rank_3 : decode cX5_rank 3 = .ok (.invokevirtual 67, 3) := by decide +kernel
theorem dX5_rank_6 : decode cX5_rank 6 = .ok (.astore 4, 2) := by decide +kernel
theorem dX5_rank_8 : decode cX5_rank 8 = .ok (.aload 4, 2) := by decide +kernel
theorem dX5_rank_10 : decode cX5_rank 10 = .ok (.ifnull 11, 3) := by decide +kernel
theorem dX5_rank_13 : decode cX5_rank 13 = .ok (.aload 4, 2) := by decide +kernel
theorem dX5_rank_15 : decode cX5_rank 15 = .ok (.getfield 71, 3) := by decide +kernel
theorem dX5_rank_18 : decode cX5_rank 18 = .ok (.ifCond .ne 10, 3) := by decide +kernel
theorem dX5_rank_21 : decode cX5_rank 21 = .ok (.aload_n 0, 1) := by decide +kernel
theorem dX5_rank_22 : decode cX5_rank 22 = .ok (.aload 4, 2) := by decide +kernel
theorem dX5_rank_24 : decode cX5_rank 24 = .ok (.invokevirtual 98, 3) := by decide +kernel
theorem dX5_rank_27 : decode cX5_rank 27 = .ok (.ireturn, 1) := by decide +kernel
theorem dX5_rank_28 : decode cX5_rank 28 = .ok (.iload_n 3, 1) := by decide +kernel
theorem dX5_rank_29 : decode cX5_rank 29 = .ok (.invokestatic 89, 3) := by decide +kernel
theorem dX5_rank_32 : decode cX5_rank 32 = .ok (.ifCond .eq 11, 3) := by decide +kernel
theorem dX5_rank_35 : decode cX5_rank 35 = .ok (.iload_n 3, 1) := by decide +kernel
theorem dX5_rank_36 : decode cX5_rank 36 = .ok (.aload_n 0, 1) := by decide +kernel
theorem dX5_rank_37 : decode cX5_rank 37 = .ok (.getfield 47, 3) := by decide +kernel
theorem dX5_rank_40 : decode cX5_rank 40 = .ok (.if_icmp .lt 9, 3) := by decide +kernel
theorem dX5_rank_43 : decode cX5_rank 43 = .ok (.aload_n 0, 1) := by decide +kernel
theorem dX5_rank_44 : decode cX5_rank 44 = .ok (.iconst 2, 1) := by decide +kernel
theorem dX5_rank_45 : decode cX5_rank 45 = .ok (.invokevirtual 85, 3) := by decide +kernel
theorem dX5_rank_48 : decode cX5_rank 48 = .ok (.ireturn, 1) := by decide +kernel
theorem dX5_rank_49 : decode cX5_rank 49 = .ok (.aload 4, 2) := by decide +kernel
theorem dX5_rank_51 : decode cX5_rank 51 = .ok (.getfield 92, 3) := by decide +kernel
theorem dX5_rank_54 : decode cX5_rank 54 = .ok (.iload_n 3, 1) := by decide +kernel
theorem dX5_rank_55 : decode cX5_rank 55 = .ok (.iaload, 1) := by decide +kernel
theorem dX5_rank_56 : decode cX5_rank 56 = .ok (.bipush (-9), 2) := by decide +kernel
theorem dX5_rank_58 : decode cX5_rank 58 = .ok (.if_icmp .ne 9, 3) := by decide +kernel
theorem dX5_rank_61 : decode cX5_rank 61 = .ok (.aload_n 0, 1) := by decide +kernel
theorem dX5_rank_62 : decode cX5_rank 62 = .ok (.iconst 4, 1) := by decide +kernel
theorem dX5_rank_63 : decode cX5_rank 63 = .ok (.invokevirtual 85, 3) := by decide +kernel
theorem dX5_rank_66 : decode cX5_rank 66 = .ok (.ireturn, 1) := by decide +kernel
theorem dX5_rank_67 : decode cX5_rank 67 = .ok (.aload 4, 2) := by decide +kernel
theorem dX5_rank_69 : decode cX5_rank 69 = .ok (.aload 4, 2) := by decide +kernel
theorem dX5_rank_71 : decode cX5_rank 71 = .ok (.getfield 92, 3) := by decide +kernel
theorem dX5_rank_74 : decode cX5_rank 74 = .ok (.iload_n 3, 1) := by decide +kernel
theorem dX5_rank_75 : decode cX5_rank 75 = .ok (.iaload, 1) := by decide +kernel
theorem dX5_rank_76 : decode cX5_rank 76 = .ok (.aload_n 0, 1) := by decide +kernel
theorem dX5_rank_77 : decode cX5_rank 77 = .ok (.getfield 47, 3) := by decide +kernel
theorem dX5_rank_80 : decode cX5_rank 80 = .ok (.invokevirtual 111, 3) := by decide +kernel
theorem dX5_rank_83 : decode cX5_rank 83 = .ok (.ireturn, 1) := by decide +kernel
theorem dX5_mean_0 : decode cX5_mean 0 = .ok (.aload_n 0, 1) := by decide +kernel
theorem dX5_mean_1 : decode cX5_mean 1 = .ok (.iload_n 1, 1) := by decide +kernel
theorem dX5_mean_2 : decode cX5_mean 2 = .ok (.iload_n 2, 1) := by decide +kernel
theorem dX5_mean_3 : decode cX5_mean 3 = .ok (.invokevirtual 67, 3) := by decide +kernel
theorem dX5_mean_6 : decode cX5_mean 6 = .ok (.astore_n 3, 1) := by decide +kernel
theorem dX5_mean_7 : decode cX5_mean 7 = .ok (.aload_n 3, 1) := by decide +kernel
theorem dX5_mean_8 : decode cX5_mean 8 = .ok (.ifnull 10, 3) := by decide +kernel
theorem dX5_mean_11 : decode cX5_mean 11 = .ok (.aload_n 3, 1) := by decide +kernel
theorem dX5_mean_12 : decode cX5_mean 12 = .ok (.getfield 71, 3) := by decide +kernel
theorem dX5_mean_15 : decode cX5_mean 15 = .ok (.ifCond .ne 9, 3) := by decide +kernel
theorem dX5_mean_18 : decode cX5_mean 18 = .ok (.aload_n 0, 1) := by decide +kernel
theorem dX5_mean_19 : decode cX5_mean 19 = .ok (.aload_n 3, 1) := by decide +kernel
theorem dX5_mean_20 : decode cX5_mean 20 = .ok (.invokevirtual 98, 3) := by decide +kernel
theorem dX5_mean_23 : decode cX5_mean 23 = .ok (.ireturn, 1) := by decide +kernel
theorem dX5_mean_24 : decode cX5_mean 24 = .ok (.iconst 0, 1) := by decide +kernel
theorem dX5_mean_25 : decode cX5_mean 25 = .ok (.istore 4, 2) := by decide +kernel
theorem dX5_mean_27 : decode cX5_mean 27 = .ok (.iconst 0, 1) := by decide +kernel
theorem dX5_mean_28 : decode cX5_mean 28 = .ok (.istore 5, 2) := by decide +kernel
theorem dX5_mean_30 : decode cX5_mean 30 = .ok (.iconst 0, 1) := by decide +kernel
theorem dX5_mean_31 : decode cX5_mean 31 = .ok (.istore 6, 2) := by decide +kernel
theorem dX5_mean_33 : decode cX5_mean 33 = .ok (.iload 6, 2) := by decide +kernel
theorem dX5_mean_35 : decode cX5_mean 35 = .ok (.aload_n 0, 1) := by decide +kernel
theorem dX5_mean_36 : decode cX5_mean 36 = .ok (.getfield 47, 3) := by decide +kernel
theorem dX5_mean_39 : decode cX5_mean 39 = .ok (.if_icmp .ge 36, 3) := by decide +kernel
theorem dX5_mean_42 : decode cX5_mean 42 = .ok (.aload_n 3, 1) := by decide +kernel
theorem dX5_mean_43 : decode cX5_mean 43 = .ok (.getfield 92, 3) := by decide +kernel
theorem dX5_mean_46 : decode cX5_mean 46 = .ok (.iload 6, 2) := by decide +kernel
theorem dX5_mean_48 : decode cX5_mean 48 = .ok (.iaload, 1) := by decide +kernel
theorem dX5_mean_49 : decode cX5_mean 49 = .ok (.bipush (-9), 2) := by decide +kernel
theorem dX5_mean_51 : decode cX5_mean 51 = .ok (.if_icmp .eq 18, 3) := by decide +kernel
theorem dX5_mean_54 : decode cX5_mean 54 = .ok (.iload 4, 2) := by decide +kernel
theorem dX5_mean_56 : decode cX5_mean 56 = .ok (.aload_n 3, 1) := by decide +kernel
theorem dX5_mean_57 : decode cX5_mean 57 = .ok (.getfield 92, 3) := by decide +kernel
theorem dX5_mean_60 : decode cX5_mean 60 = .ok (.iload 6, 2) := by decide +kernel
theorem dX5_mean_62 : decode cX5_mean 62 = .ok (.iaload, 1) := by decide +kernel
theorem dX5_mean_63 : decode cX5_mean 63 = .ok (.iadd, 1) := by decide +kernel
theorem dX5_mean_64 : decode cX5_mean 64 = .ok (.istore 4, 2) := by decide +kernel
theorem dX5_mean_66 : decode cX5_mean 66 = .ok (.iinc 5 1, 3) := by decide +kernel
theorem dX5_mean_69 : decode cX5_mean 69 = .ok (.iinc 6 1, 3) := by decide +kernel
theorem dX5_mean_72 : decode cX5_mean 72 = .ok (.goto (-39), 3) := by decide +kernel
theorem dX5_mean_75 : decode cX5_mean 75 = .ok (.iload 5, 2) := by decide +kernel
theorem dX5_mean_77 : decode cX5_mean 77 = .ok (.ifCond .ne 11, 3) := by decide +kernel
theorem dX5_mean_80 : decode cX5_mean 80 = .ok (.aload_n 0, 1) := by decide +kernel
theorem dX5_mean_81 : decode cX5_mean 81 = .ok (.iconst 4, 1) := by decide +kernel
theorem dX5_mean_82 : decode cX5_mean 82 = .ok (.invokevirtual 85, 3) := by decide +kernel
theorem dX5_mean_85 : decode cX5_mean 85 = .ok (.goto 8, 3) := by decide +kernel
theorem dX5_mean_88 : decode cX5_mean 88 = .ok (.iload 4, 2) := by decide +kernel
theorem dX5_mean_90 : decode cX5_mean 90 = .ok (.iload 5, 2) := by decide +kernel
theorem dX5_mean_92 : decode cX5_mean 92 = .ok (.idiv, 1) := by decide +kernel
theorem dX5_mean_93 : decode cX5_mean 93 = .ok (.ireturn, 1) := by decide +kernel
theorem dX5_price_0 : decode cX5_price 0 = .ok (.iload_n 1, 1) := by decide +kernel
theorem dX5_price_1 : decode cX5_price 1 = .ok (.sipush 1000, 3) := by decide +kernel
theorem dX5_price_4 : decode cX5_price 4 = .ok (.invokestatic 81, 3) := by decide +kernel
theorem dX5_price_7 : decode cX5_price 7 = .ok (.ifCond .ne 5, 3) := by decide +kernel
theorem dX5_price_10 : decode cX5_price 10 = .ok (.iconst (-1), 1) := by decide +kernel
theorem dX5_price_11 : decode cX5_price 11 = .ok (.ireturn, 1) := by decide +kernel
theorem dX5_price_12 : decode cX5_price 12 = .ok (.aload_n 0, 1) := by decide +kernel
theorem dX5_price_13 : decode cX5_price 13 = .ok (.getfield 36, 3) := by decide +kernel
theorem dX5_price_16 : decode cX5_price 16 = .ok (.istore_n 2, 1) := by decide +kernel
theorem dX5_price_17 : decode cX5_price 17 = .ok (.aload_n 0, 1) := by decide +kernel
theorem dX5_price_18 : decode cX5_price 18 = .ok (.iload_n 1, 1) := by decide +kernel
theorem dX5_price_19 : decode cX5_price 19 = .ok (.putfield 36, 3) := by decide +kernel
theorem dX5_price_22 : decode cX5_price 22 = .ok (.iload_n 2, 1) := by decide +kernel
theorem dX5_price_23 : decode cX5_price 23 = .ok (.ireturn, 1) := by decide +kernel
theorem dX5_cuts_0 : decode cX5_cuts 0 = .ok (.aload_n 0, 1) := by decide +kernel
theorem dX5_cuts_1 : decode cX5_cuts 1 = .ok (.iload_n 1, 1) := by decide +kernel
theorem dX5_cuts_2 : decode cX5_cuts 2 = .ok (.iload_n 2, 1) := by decide +kernel
theorem dX5_cuts_3 : decode cX5_cuts 3 = .ok (.invokevirtual 67, 3) := by decide +kernel
theorem dX5_cuts_6 : decode cX5_cuts 6 = .ok (.astore_n 3, 1) := by decide +kernel
theorem dX5_cuts_7 : decode cX5_cuts 7 = .ok (.aload_n 3, 1) := by decide +kernel
theorem dX5_cuts_8 : decode cX5_cuts 8 = .ok (.ifnull 10, 3) := by decide +kernel
theorem dX5_cuts_11 : decode cX5_cuts 11 = .ok (.aload_n 3, 1) := by decide +kernel
theorem dX5_cuts_12 : decode cX5_cuts 12 = .ok (.getfield 71, 3) := by decide +kernel
theorem dX5_cuts_15 : decode cX5_cuts 15 = .ok (.ifCond .ne 9, 3) := by decide +kernel
theorem dX5_cuts_18 : decode cX5_cuts 18 = .ok (.aload_n 0, 1) := by decide +kernel
theorem dX5_cuts_19 : decode cX5_cuts 19 = .ok (.aload_n 3, 1) := by decide +kernel
theorem dX5_cuts_20 : decode cX5_cuts 20 = .ok (.invokevirtual 98, 3) := by decide +kernel
theorem dX5_cuts_23 : decode cX5_cuts 23 = .ok (.ireturn, 1) := by decide +kernel
theorem dX5_cuts_24 : decode cX5_cuts 24 = .ok (.aload_n 0, 1) := by decide +kernel
theorem dX5_cuts_25 : decode cX5_cuts 25 = .ok (.aload_n 3, 1) := by decide +kernel
theorem dX5_cuts_26 : decode cX5_cuts 26 = .ok (.invokevirtual 115, 3) := by decide +kernel
theorem dX5_cuts_29 : decode cX5_cuts 29 = .ok (.aload_n 0, 1) := by decide +kernel
theorem dX5_cuts_30 : decode cX5_cuts 30 = .ok (.aload_n 3, 1) := by decide +kernel
theorem dX5_cuts_31 : decode cX5_cuts 31 = .ok (.getfield 119, 3) := by decide +kernel
theorem dX5_cuts_34 : decode cX5_cuts 34 = .ok (.i2l, 1) := by decide +kernel
theorem dX5_cuts_35 : decode cX5_cuts 35 = .ok (.putfield 122, 3) := by decide +kernel
theorem dX5_cuts_38 : decode cX5_cuts 38 = .ok (.aload_n 3, 1) := by decide +kernel
theorem dX5_cuts_39 : decode cX5_cuts 39 = .ok (.invokevirtual 125, 3) := by decide +kernel
theorem dX5_cuts_42 : decode cX5_cuts 42 = .ok (.ireturn, 1) := by decide +kernel
theorem dX5_cut_0 : decode cX5_cut 0 = .ok (.aload_n 0, 1) := by decide +kernel
theorem dX5_cut_1 : decode cX5_cut 1 = .ok (.iload_n 1, 1) := by decide +kernel
theorem dX5_cut_2 : decode cX5_cut 2 = .ok (.iload_n 2, 1) := by decide +kernel
theorem dX5_cut_3 : decode cX5_cut 3 = .ok (.invokevirtual 67, 3) := by decide +kernel
theorem dX5_cut_6 : decode cX5_cut 6 = .ok (.astore 4, 2) := by decide +kernel
theorem dX5_cut_8 : decode cX5_cut 8 = .ok (.aload 4, 2) := by decide +kernel
theorem dX5_cut_10 : decode cX5_cut 10 = .ok (.ifnull 11, 3) := by decide +kernel
theorem dX5_cut_13 : decode cX5_cut 13 = .ok (.aload 4, 2) := by decide +kernel
theorem dX5_cut_15 : decode cX5_cut 15 = .ok (.getfield 71, 3) := by decide +kernel
theorem dX5_cut_18 : decode cX5_cut 18 = .ok (.ifCond .ne 10, 3) := by decide +kernel
theorem dX5_cut_21 : decode cX5_cut 21 = .ok (.aload_n 0, 1) := by decide +kernel
theorem dX5_cut_22 : decode cX5_cut 22 = .ok (.aload 4, 2) := by decide +kernel
theorem dX5_cut_24 : decode cX5_cut 24 = .ok (.invokevirtual 98, 3) := by decide +kernel
theorem dX5_cut_27 : decode cX5_cut 27 = .ok (.ireturn, 1) := by decide +kernel
theorem dX5_cut_28 : decode cX5_cut 28 = .ok (.aload_n 0, 1) := by decide +kernel
theorem dX5_cut_29 : decode cX5_cut 29 = .ok (.aload 4, 2) := by decide +kernel
theorem dX5_cut_31 : decode cX5_cut 31 = .ok (.invokevirtual 115, 3) := by decide +kernel
theorem dX5_cut_34 : decode cX5_cut 34 = .ok (.aload 4, 2) := by decide +kernel
theorem dX5_cut_36 : decode cX5_cut 36 = .ok (.iload_n 3, 1) := by decide +kernel
theorem dX5_cut_37 : decode cX5_cut 37 = .ok (.invokevirtual 129, 3) := by decide +kernel
theorem dX5_cut_40 : decode cX5_cut 40 = .ok (.ifCond .eq 12, 3) := by decide +kernel
theorem dX5_cut_43 : decode cX5_cut 43 = .ok (.aload 4, 2) := by decide +kernel
theorem dX5_cut_45 : decode cX5_cut 45 = .ok (.iload_n 3, 1) := by decide +kernel
theorem dX5_cut_46 : decode cX5_cut 46 = .ok (.invokevirtual 132, 3) := by decide +kernel
theorem dX5_cut_49 : decode cX5_cut 49 = .ok (.goto 5, 3) := by decide +kernel
theorem dX5_cut_52 : decode cX5_cut 52 = .ok (.bipush (-9), 2) := by decide +kernel
theorem dX5_cut_54 : decode cX5_cut 54 = .ok (.ireturn, 1) := by decide +kernel
theorem dX5_middle_0 : decode cX5_middle 0 = .ok (.aload_n 0, 1) := by decide +kernel
theorem dX5_middle_1 : decode cX5_middle 1 = .ok (.iload_n 1, 1) := by decide +kernel
theorem dX5_middle_2 : decode cX5_middle 2 = .ok (.iload_n 2, 1) := by decide +kernel
theorem dX5_middle_3 : decode cX5_middle 3 = .ok (.invokevirtual 67, 3) := by decide +kernel
theorem dX5_middle_6 : decode cX5_middle 6 = .ok (.astore 4, 2) := by decide +kernel
theorem dX5_middle_8 : decode cX5_middle 8 = .ok (.aload 4, 2) := by decide +kernel
theorem dX5_middle_10 : decode cX5_middle 10 = .ok (.ifnull 11, 3) := by decide +kernel
theorem dX5_middle_13 : decode cX5_middle 13 = .ok (.aload 4, 2) := by decide +kernel
theorem dX5_middle_15 : decode cX5_middle 15 = .ok (.getfield 71, 3) := by decide +kernel
theorem dX5_middle_18 : decode cX5_middle 18 = .ok (.ifCond .ne 10, 3) := by decide +kernel
theorem dX5_middle_21 : decode cX5_middle 21 = .ok (.aload_n 0, 1) := by decide +kernel
theorem dX5_middle_22 : decode cX5_middle 22 = .ok (.aload 4, 2) := by decide +kernel
theorem dX5_middle_24 : decode cX5_middle 24 = .ok (.invokevirtual 98, 3) := by decide +kernel
theorem dX5_middle_27 : decode cX5_middle 27 = .ok (.ireturn, 1) := by decide +kernel
theorem dX5_middle_28 : decode cX5_middle 28 = .ok (.aload_n 0, 1) := by decide +kernel
theorem dX5_middle_29 : decode cX5_middle 29 = .ok (.aload 4, 2) := by decide +kernel
theorem dX5_middle_31 : decode cX5_middle 31 = .ok (.invokevirtual 115, 3) := by decide +kernel
theorem dX5_middle_34 : decode cX5_middle 34 = .ok (.iload_n 3, 1) := by decide +kernel
theorem dX5_middle_35 : decode cX5_middle 35 = .ok (.ifCond .lt 22, 3) := by decide +kernel
theorem dX5_middle_38 : decode cX5_middle 38 = .ok (.iload_n 3, 1) := by decide +kernel
theorem dX5_middle_39 : decode cX5_middle 39 = .ok (.aload 4, 2) := by decide +kernel
theorem dX5_middle_41 : decode cX5_middle 41 = .ok (.getfield 135, 3) := by decide +kernel
theorem dX5_middle_44 : decode cX5_middle 44 = .ok (.if_icmp .ge 13, 3) := by decide +kernel
theorem dX5_middle_47 : decode cX5_middle 47 = .ok (.aload 4, 2) := by decide +kernel
theorem dX5_middle_49 : decode cX5_middle 49 = .ok (.getfield 138, 3) := by decide +kernel
theorem dX5_middle_52 : decode cX5_middle 52 = .ok (.iload_n 3, 1) := by decide +kernel
theorem dX5_middle_53 : decode cX5_middle 53 = .ok (.iaload, 1) := by decide +kernel
theorem dX5_middle_54 : decode cX5_middle 54 = .ok (.goto 5, 3) := by decide +kernel
theorem dX5_middle_57 : decode cX5_middle 57 = .ok (.bipush (-9), 2) := by decide +kernel
theorem dX5_middle_59 : decode cX5_middle 59 = .ok (.ireturn, 1) := by decide +kernel
theorem dX5_size_0 : decode cX5_size 0 = .ok (.aload_n 0, 1) := by decide +kernel
theorem dX5_size_1 : decode cX5_size 1 = .ok (.iload_n 1, 1) := by decide +kernel
theorem dX5_size_2 : decode cX5_size 2 = .ok (.iload_n 2, 1) := by decide +kernel
theorem dX5_size_3 : decode cX5_size 3 = .ok (.invokevirtual 67, 3) := by decide +kernel
theorem dX5_size_6 : decode cX5_size 6 = .ok (.astore 4, 2) := by decide +kernel
theorem dX5_size_8 : decode cX5_size 8 = .ok (.aload 4, 2) := by decide +kernel
theorem dX5_size_10 : decode cX5_size 10 = .ok (.ifnull 11, 3) := by decide +kernel
theorem dX5_size_13 : decode cX5_size 13 = .ok (.aload 4, 2) := by decide +kernel
theorem dX5_size_15 : decode cX5_size 15 = .ok (.getfield 71, 3) := by decide +kernel
theorem dX5_size_18 : decode cX5_size 18 = .ok (.ifCond .ne 10, 3) := by decide +kernel
theorem dX5_size_21 : decode cX5_size 21 = .ok (.aload_n 0, 1) := by decide +kernel
theorem dX5_size_22 : decode cX5_size 22 = .ok (.aload 4, 2) := by decide +kernel
theorem dX5_size_24 : decode cX5_size 24 = .ok (.invokevirtual 98, 3) := by decide +kernel
theorem dX5_size_27 : decode cX5_size 27 = .ok (.ireturn, 1) := by decide +kernel
theorem dX5_size_28 : decode cX5_size 28 = .ok (.aload_n 0, 1) := by decide +kernel
theorem dX5_size_29 : decode cX5_size 29 = .ok (.aload 4, 2) := by decide +kernel
theorem dX5_size_31 : decode cX5_size 31 = .ok (.invokevirtual 115, 3) := by decide +kernel
theorem dX5_size_34 : decode cX5_size 34 = .ok (.aload 4, 2) := by decide +kernel
theorem dX5_size_36 : decode cX5_size 36 = .ok (.iload_n 3, 1) := by decide +kernel
theorem dX5_size_37 : decode cX5_size 37 = .ok (.invokevirtual 129, 3) := by decide +kernel
theorem dX5_size_40 : decode cX5_size 40 = .ok (.ifCond .ne 6, 3) := by decide +kernel
theorem dX5_size_43 : decode cX5_size 43 = .ok (.bipush (-9), 2) := by decide +kernel
theorem dX5_size_45 : decode cX5_size 45 = .ok (.ireturn, 1) := by decide +kernel
theorem dX5_size_46 : decode cX5_size 46 = .ok (.aload_n 0, 1) := by decide +kernel
theorem dX5_size_47 : decode cX5_size 47 = .ok (.aload 4, 2) := by decide +kernel
theorem dX5_size_49 : decode cX5_size 49 = .ok (.iload_n 3, 1) := by decide +kernel
theorem dX5_size_50 : decode cX5_size 50 = .ok (.invokevirtual 141, 3) := by decide +kernel
theorem dX5_size_53 : decode cX5_size 53 = .ok (.i2l, 1) := by decide +kernel
theorem dX5_size_54 : decode cX5_size 54 = .ok (.putfield 122, 3) := by decide +kernel
theorem dX5_size_57 : decode cX5_size 57 = .ok (.iconst 1, 1) := by decide +kernel
theorem dX5_size_58 : decode cX5_size 58 = .ok (.ireturn, 1) := by decide +kernel
theorem dX5_reach_0 : decode cX5_reach 0 = .ok (.iload_n 1, 1) := by decide +kernel
theorem dX5_reach_1 : decode cX5_reach 1 = .ok (.iconst 5, 1) := by decide +kernel
theorem dX5_reach_2 : decode cX5_reach 2 = .ok (.invokestatic 81, 3) := by decide +kernel
theorem dX5_reach_5 : decode cX5_reach 5 = .ok (.ifCond .ne 5, 3) := by decide +kernel
theorem dX5_reach_8 : decode cX5_reach 8 = .ok (.iconst (-1), 1) := by decide +kernel
theorem dX5_reach_9 : decode cX5_reach 9 = .ok (.ireturn, 1) := by decide +kernel
theorem dX5_reach_10 : decode cX5_reach 10 = .ok (.aload_n 0, 1) := by decide +kernel
theorem dX5_reach_11 : decode cX5_reach 11 = .ok (.getfield 40, 3) := by decide +kernel
theorem dX5_reach_14 : decode cX5_reach 14 = .ok (.istore_n 2, 1) := by decide +kernel
theorem dX5_reach_15 : decode cX5_reach 15 = .ok (.aload_n 0, 1) := by decide +kernel
theorem dX5_reach_16 : decode cX5_reach 16 = .ok (.iload_n 1, 1) := by decide +kernel
theorem dX5_reach_17 : decode cX5_reach 17 = .ok (.putfield 40, 3) := by decide +kernel
theorem dX5_reach_20 : decode cX5_reach 20 = .ok (.iload_n 2, 1) := by decide +kernel
theorem dX5_reach_21 : decode cX5_reach 21 = .ok (.ireturn, 1) := by decide +kernel
theorem dX5_own_0 : decode cX5_own 0 = .ok (.aload_n 0, 1) := by decide +kernel
theorem dX5_own_1 : decode cX5_own 1 = .ok (.iload_n 1, 1) := by decide +kernel
theorem dX5_own_2 : decode cX5_own 2 = .ok (.invokevirtual 60, 3) := by decide +kernel
theorem dX5_own_5 : decode cX5_own 5 = .ok (.astore 4, 2) := by decide +kernel
theorem dX5_own_7 : decode cX5_own 7 = .ok (.aload_n 0, 1) := by decide +kernel
theorem dX5_own_8 : decode cX5_own 8 = .ok (.iload_n 1, 1) := by decide +kernel
theorem dX5_own_9 : decode cX5_own 9 = .ok (.iload_n 2, 1) := by decide +kernel
theorem dX5_own_10 : decode cX5_own 10 = .ok (.invokevirtual 67, 3) := by decide +kernel
theorem dX5_own_13 : decode cX5_own 13 = .ok (.astore 5, 2) := by decide +kernel
theorem dX5_own_15 : decode cX5_own 15 = .ok (.aload 4, 2) := by decide +kernel
theorem dX5_own_17 : decode cX5_own 17 = .ok (.ifnull 16, 3) := by decide +kernel
theorem dX5_own_20 : decode cX5_own 20 = .ok (.aload 5, 2) := by decide +kernel
theorem dX5_own_22 : decode cX5_own 22 = .ok (.ifnull 11, 3) := by decide +kernel
theorem dX5_own_25 : decode cX5_own 25 = .ok (.aload 5, 2) := by decide +kernel
theorem dX5_own_27 : decode cX5_own 27 = .ok (.getfield 71, 3) := by decide +kernel
theorem dX5_own_30 : decode cX5_own 30 = .ok (.ifCond .ne 10, 3) := by decide +kernel
theorem dX5_own_33 : decode cX5_own 33 = .ok (.aload_n 0, 1) := by decide +kernel
theorem dX5_own_34 : decode cX5_own 34 = .ok (.aload 5, 2) := by decide +kernel
theorem dX5_own_36 : decode cX5_own 36 = .ok (.invokevirtual 98, 3) := by decide +kernel
theorem dX5_own_39 : decode cX5_own 39 = .ok (.ireturn, 1) := by decide +kernel
theorem dX5_own_40 : decode cX5_own 40 = .ok (.aload_n 0, 1) := by decide +kernel
theorem dX5_own_41 : decode cX5_own 41 = .ok (.aload 4, 2) := by decide +kernel
theorem dX5_own_43 : decode cX5_own 43 = .ok (.invokevirtual 144, 3) := by decide +kernel
theorem dX5_own_46 : decode cX5_own 46 = .ok (.aload 5, 2) := by decide +kernel
theorem dX5_own_48 : decode cX5_own 48 = .ok (.iload_n 3, 1) := by decide +kernel
theorem dX5_own_49 : decode cX5_own 49 = .ok (.invokevirtual 129, 3) := by decide +kernel
theorem dX5_own_52 : decode cX5_own 52 = .ok (.ifCond .ne 6, 3) := by decide +kernel
theorem dX5_own_55 : decode cX5_own 55 = .ok (.bipush (-9), 2) := by decide +kernel
theorem dX5_own_57 : decode cX5_own 57 = .ok (.ireturn, 1) := by decide +kernel
theorem dX5_own_58 : decode cX5_own 58 = .ok (.aload_n 0, 1) := by decide +kernel
theorem dX5_own_59 : decode cX5_own 59 = .ok (.aload 4, 2) := by decide +kernel
theorem dX5_own_61 : decode cX5_own 61 = .ok (.iload_n 2, 1) := by decide +kernel
theorem dX5_own_62 : decode cX5_own 62 = .ok (.iload_n 3, 1) := by decide +kernel
theorem dX5_own_63 : decode cX5_own 63 = .ok (.invokevirtual 148, 3) := by decide +kernel
theorem dX5_own_66 : decode cX5_own 66 = .ok (.ifCond .eq 7, 3) := by decide +kernel
theorem dX5_own_69 : decode cX5_own 69 = .ok (.iconst 1, 1) := by decide +kernel
theorem dX5_own_70 : decode cX5_own 70 = .ok (.goto 4, 3) := by decide +kernel
theorem dX5_own_73 : decode cX5_own 73 = .ok (.iconst 0, 1) := by decide +kernel
theorem dX5_own_74 : decode cX5_own 74 = .ok (.ireturn, 1) := by decide +kernel
theorem dX5_undone_0 : decode cX5_undone 0 = .ok (.aload_n 0, 1) := by decide +kernel
theorem dX5_undone_1 : decode cX5_undone 1 = .ok (.iload_n 1, 1) := by decide +kernel
theorem dX5_undone_2 : decode cX5_undone 2 = .ok (.invokevirtual 60, 3) := by decide +kernel
theorem dX5_undone_5 : decode cX5_undone 5 = .ok (.astore 4, 2) := by decide +kernel
theorem dX5_undone_7 : decode cX5_undone 7 = .ok (.aload_n 0, 1) := by decide +kernel
theorem dX5_undone_8 : decode cX5_undone 8 = .ok (.iload_n 1, 1) := by decide +kernel
theorem dX5_undone_9 : decode cX5_undone 9 = .ok (.iload_n 2, 1) := by decide +kernel
theorem dX5_undone_10 : decode cX5_undone 10 = .ok (.invokevirtual 67, 3) := by decide +kernel
theorem dX5_undone_13 : decode cX5_undone 13 = .ok (.astore 5, 2) := by decide +kernel
theorem dX5_undone_15 : decode cX5_undone 15 = .ok (.aload 4, 2) := by decide +kernel
theorem dX5_undone_17 : decode cX5_undone 17 = .ok (.ifnull 16, 3) := by decide +kernel
theorem dX5_undone_20 : decode cX5_undone 20 = .ok (.aload 5, 2) := by decide +kernel
theorem dX5_undone_22 : decode cX5_undone 22 = .ok (.ifnull 11, 3) := by decide +kernel
theorem dX5_undone_25 : decode cX5_undone 25 = .ok (.aload 5, 2) := by decide +kernel
theorem dX5_undone_27 : decode cX5_undone 27 = .ok (.getfield 71, 3) := by decide +kernel
theorem dX5_undone_30 : decode cX5_undone 30 = .ok (.ifCond .ne 10, 3) := by decide +kernel
theorem dX5_undone_33 : decode cX5_undone 33 = .ok (.aload_n 0, 1) := by decide +kernel
theorem dX5_undone_34 : decode cX5_undone 34 = .ok (.aload 5, 2) := by decide +kernel
theorem dX5_undone_36 : decode cX5_undone 36 = .ok (.invokevirtual 98, 3) := by decide +kernel
theorem dX5_undone_39 : decode cX5_undone 39 = .ok (.ireturn, 1) := by decide +kernel
theorem dX5_undone_40 : decode cX5_undone 40 = .ok (.aload 4, 2) := by decide +kernel
theorem dX5_undone_42 : decode cX5_undone 42 = .ok (.getfield 64, 3) := by decide +kernel
theorem dX5_undone_45 : decode cX5_undone 45 = .ok (.iconst 1, 1) := by decide +kernel
theorem dX5_undone_46 : decode cX5_undone 46 = .ok (.if_icmp .eq 9, 3) := by decide +kernel
theorem dX5_undone_49 : decode cX5_undone 49 = .ok (.aload_n 0, 1) := by decide +kernel
theorem dX5_undone_50 : decode cX5_undone 50 = .ok (.iconst 3, 1) := by decide +kernel
theorem dX5_undone_51 : decode cX5_undone 51 = .ok (.invokevirtual 85, 3) := by decide +kernel
theorem dX5_undone_54 : decode cX5_undone 54 = .ok (.ireturn, 1) := by decide +kernel
theorem dX5_undone_55 : decode cX5_undone 55 = .ok (.aload_n 0, 1) := by decide +kernel
theorem dX5_undone_56 : decode cX5_undone 56 = .ok (.aload 5, 2) := by decide +kernel
theorem dX5_undone_58 : decode cX5_undone 58 = .ok (.invokevirtual 115, 3) := by decide +kernel
theorem dX5_undone_61 : decode cX5_undone 61 = .ok (.aload 5, 2) := by decide +kernel
theorem dX5_undone_63 : decode cX5_undone 63 = .ok (.iload_n 3, 1) := by decide +kernel
theorem dX5_undone_64 : decode cX5_undone 64 = .ok (.invokevirtual 129, 3) := by decide +kernel
theorem dX5_undone_67 : decode cX5_undone 67 = .ok (.ifCond .eq 12, 3) := by decide +kernel
theorem dX5_undone_70 : decode cX5_undone 70 = .ok (.aload 5, 2) := by decide +kernel
theorem dX5_undone_72 : decode cX5_undone 72 = .ok (.iload_n 3, 1) := by decide +kernel
theorem dX5_undone_73 : decode cX5_undone 73 = .ok (.invokevirtual 152, 3) := by decide +kernel
theorem dX5_undone_76 : decode cX5_undone 76 = .ok (.goto 5, 3) := by decide +kernel
theorem dX5_undone_79 : decode cX5_undone 79 = .ok (.bipush (-9), 2) := by decide +kernel
theorem dX5_undone_81 : decode cX5_undone 81 = .ok (.ireturn, 1) := by decide +kernel
theorem dX5_odds_0 : decode cX5_odds 0 = .ok (.aload_n 0, 1) := by decide +kernel
theorem dX5_odds_1 : decode cX5_odds 1 = .ok (.iload_n 1, 1) := by decide +kernel
theorem dX5_odds_2 : decode cX5_odds 2 = .ok (.iload_n 2, 1) := by decide +kernel
theorem dX5_odds_3 : decode cX5_odds 3 = .ok (.invokevirtual 67, 3) := by decide +kernel
theorem dX5_odds_6 : decode cX5_odds 6 = .ok (.astore 4, 2) := by decide +kernel
theorem dX5_odds_8 : decode cX5_odds 8 = .ok (.aload 4, 2) := by decide +kernel
theorem dX5_odds_10 : decode cX5_odds 10 = .ok (.ifnull 11, 3) := by decide +kernel
theorem dX5_odds_13 : decode cX5_odds 13 = .ok (.aload 4, 2) := by decide +kernel
theorem dX5_odds_15 : decode cX5_odds 15 = .ok (.getfield 71, 3) := by decide +kernel
theorem dX5_odds_18 : decode cX5_odds 18 = .ok (.ifCond .ne 10, 3) := by decide +kernel
theorem dX5_odds_21 : decode cX5_odds 21 = .ok (.aload_n 0, 1) := by decide +kernel
theorem dX5_odds_22 : decode cX5_odds 22 = .ok (.aload 4, 2) := by decide +kernel
theorem dX5_odds_24 : decode cX5_odds 24 = .ok (.invokevirtual 98, 3) := by decide +kernel
theorem dX5_odds_27 : decode cX5_odds 27 = .ok (.ireturn, 1) := by decide +kernel
theorem dX5_odds_28 : decode cX5_odds 28 = .ok (.aload_n 0, 1) := by decide +kernel
theorem dX5_odds_29 : decode cX5_odds 29 = .ok (.aload 4, 2) := by decide +kernel
theorem dX5_odds_31 : decode cX5_odds 31 = .ok (.invokevirtual 115, 3) := by decide +kernel
theorem dX5_odds_34 : decode cX5_odds 34 = .ok (.aload 4, 2) := by decide +kernel
theorem dX5_odds_36 : decode cX5_odds 36 = .ok (.iload_n 3, 1) := by decide +kernel
theorem dX5_odds_37 : decode cX5_odds 37 = .ok (.invokevirtual 129, 3) := by decide +kernel
theorem dX5_odds_40 : decode cX5_odds 40 = .ok (.ifCond .ne 6, 3) := by decide +kernel
theorem dX5_odds_43 : decode cX5_odds 43 = .ok (.bipush (-9), 2) := by decide +kernel
theorem dX5_odds_45 : decode cX5_odds 45 = .ok (.ireturn, 1) := by decide +kernel
theorem dX5_odds_46 : decode cX5_odds 46 = .ok (.aload_n 0, 1) := by decide +kernel
theorem dX5_odds_47 : decode cX5_odds 47 = .ok (.invokevirtual 155, 3) := by decide +kernel
theorem dX5_odds_50 : decode cX5_odds 50 = .ok (.astore 5, 2) := by decide +kernel
theorem dX5_odds_52 : decode cX5_odds 52 = .ok (.aload 5, 2) := by decide +kernel
theorem dX5_odds_54 : decode cX5_odds 54 = .ok (.aload 4, 2) := by decide +kernel
theorem dX5_odds_56 : decode cX5_odds 56 = .ok (.iload_n 3, 1) := by decide +kernel
theorem dX5_odds_57 : decode cX5_odds 57 = .ok (.invokevirtual 159, 3) := by decide +kernel
theorem dX5_odds_60 : decode cX5_odds 60 = .ok (.ifCond .ne 5, 3) := by decide +kernel
theorem dX5_odds_63 : decode cX5_odds 63 = .ok (.iconst 0, 1) := by decide +kernel
theorem dX5_odds_64 : decode cX5_odds 64 = .ok (.ireturn, 1) := by decide +kernel
theorem dX5_odds_65 : decode cX5_odds 65 = .ok (.aload_n 0, 1) := by decide +kernel
theorem dX5_odds_66 : decode cX5_odds 66 = .ok (.aload 5, 2) := by decide +kernel
theorem dX5_odds_68 : decode cX5_odds 68 = .ok (.getfield 165, 3) := by decide +kernel
theorem dX5_odds_71 : decode cX5_odds 71 = .ok (.i2l, 1) := by decide +kernel
theorem dX5_odds_72 : decode cX5_odds 72 = .ok (.putfield 168, 3) := by decide +kernel
theorem dX5_odds_75 : decode cX5_odds 75 = .ok (.aload_n 0, 1) := by decide +kernel
theorem dX5_odds_76 : decode cX5_odds 76 = .ok (.aload 5, 2) := by decide +kernel
theorem dX5_odds_78 : decode cX5_odds 78 = .ok (.getfield 171, 3) := by decide +kernel
theorem dX5_odds_81 : decode cX5_odds 81 = .ok (.i2l, 1) := by decide +kernel
theorem dX5_odds_82 : decode cX5_odds 82 = .ok (.putfield 43, 3) := by decide +kernel
theorem dX5_odds_85 : decode cX5_odds 85 = .ok (.iconst 1, 1) := by decide +kernel
theorem dX5_odds_86 : decode cX5_odds 86 = .ok (.ireturn, 1) := by decide +kernel
theorem dX5_cry_0 : decode cX5_cry 0 = .ok (.iload_n 1, 1) := by decide +kernel
theorem dX5_cry_1 : decode cX5_cry 1 = .ok (.ldc 80, 2) := by decide +kernel
theorem dX5_cry_3 : decode cX5_cry 3 = .ok (.invokestatic 81, 3) := by decide +kernel
theorem dX5_cry_6 : decode cX5_cry 6 = .ok (.ifCond .eq 23, 3) := by decide +kernel
theorem dX5_cry_9 : decode cX5_cry 9 = .ok (.iload_n 2, 1) := by decide +kernel
theorem dX5_cry_10 : decode cX5_cry 10 = .ok (.ldc 80, 2) := by decide +kernel
theorem dX5_cry_12 : decode cX5_cry 12 = .ok (.invokestatic 81, 3) := by decide +kernel
theorem dX5_cry_15 : decode cX5_cry 15 = .ok (.ifCond .eq 14, 3) := by decide +kernel
theorem dX5_cry_18 : decode cX5_cry 18 = .ok (.iload_n 3, 1) := by decide +kernel
theorem dX5_cry_19 : decode cX5_cry 19 = .ok (.iconst 1, 1) := by decide +kernel
theorem dX5_cry_20 : decode cX5_cry 20 = .ok (.if_icmp .lt 9, 3) := by decide +kernel
theorem dX5_cry_23 : decode cX5_cry 23 = .ok (.iload_n 3, 1) := by decide +kernel
theorem dX5_cry_24 : decode cX5_cry 24 = .ok (.ldc 80, 2) := by decide +kernel
theorem dX5_cry_26 : decode cX5_cry 26 = .ok (.if_icmp .le 5, 3) := by decide +kernel
theorem dX5_cry_29 : decode cX5_cry 29 = .ok (.iconst (-1), 1) := by decide +kernel
theorem dX5_cry_30 : decode cX5_cry 30 = .ok (.ireturn, 1) := by decide +kernel
theorem dX5_cry_31 : decode cX5_cry 31 = .ok (.aload_n 0, 1) := by decide +kernel
theorem dX5_cry_32 : decode cX5_cry 32 = .ok (.getfield 174, 3) := by decide +kernel
theorem dX5_cry_35 : decode cX5_cry 35 = .ok (.istore 4, 2) := by decide +kernel
theorem dX5_cry_37 : decode cX5_cry 37 = .ok (.iconst 0, 1) := by decide +kernel
theorem dX5_cry_38 : decode cX5_cry 38 = .ok (.istore 5, 2) := by decide +kernel
theorem dX5_cry_40 : decode cX5_cry 40 = .ok (.iconst 0, 1) := by decide +kernel
theorem dX5_cry_41 : decode cX5_cry 41 = .ok (.istore 6, 2) := by decide +kernel
theorem dX5_cry_43 : decode cX5_cry 43 = .ok (.iload 6, 2) := by decide +kernel
theorem dX5_cry_45 : decode cX5_cry 45 = .ok (.aload_n 0, 1) := by decide +kernel
theorem dX5_cry_46 : decode cX5_cry 46 = .ok (.getfield 54, 3) := by decide +kernel
theorem dX5_cry_49 : decode cX5_cry 49 = .ok (.if_icmp .ge 79, 3) := by decide +kernel
theorem dX5_cry_52 : decode cX5_cry 52 = .ok (.aload_n 0, 1) := by decide +kernel
theorem dX5_cry_53 : decode cX5_cry 53 = .ok (.getfield 11, 3) := by decide +kernel
theorem dX5_cry_56 : decode cX5_cry 56 = .ok (.iload 6, 2) := by decide +kernel
theorem dX5_cry_58 : decode cX5_cry 58 = .ok (.aaload, 1) := by decide +kernel
theorem dX5_cry_59 : decode cX5_cry 59 = .ok (.getfield 64, 3) := by decide +kernel
theorem dX5_cry_62 : decode cX5_cry 62 = .ok (.iconst 2, 1) := by decide +kernel
theorem dX5_cry_63 : decode cX5_cry 63 = .ok (.if_icmp .ne 6, 3) := by decide +kernel
theorem dX5_cry_66 : decode cX5_cry 66 = .ok (.goto 56, 3) := by decide +kernel
theorem dX5_cry_69 : decode cX5_cry 69 = .ok (.aload_n 0, 1) := by decide +kernel
theorem dX5_cry_70 : decode cX5_cry 70 = .ok (.aload_n 0, 1) := by decide +kernel
theorem dX5_cry_71 : decode cX5_cry 71 = .ok (.getfield 11, 3) := by decide +kernel
theorem dX5_cry_74 : decode cX5_cry 74 = .ok (.iload 6, 2) := by decide +kernel
theorem dX5_cry_76 : decode cX5_cry 76 = .ok (.aaload, 1) := by decide +kernel
theorem dX5_cry_77 : decode cX5_cry 77 = .ok (.invokevirtual 144, 3) := by decide +kernel
theorem dX5_cry_80 : decode cX5_cry 80 = .ok (.iconst 0, 1) := by decide +kernel
theorem dX5_cry_81 : decode cX5_cry 81 = .ok (.istore 7, 2) := by decide +kernel
theorem dX5_cry_83 : decode cX5_cry 83 = .ok (.iload 7, 2) := by decide +kernel
theorem dX5_cry_85 : decode cX5_cry 85 = .ok (.iconst 4, 1) := by decide +kernel
theorem dX5_cry_86 : decode cX5_cry 86 = .ok (.if_icmp .ge 36, 3) := by decide +kernel
theorem dX5_cry_89 : decode cX5_cry 89 = .ok (.aload_n 0, 1) := by decide +kernel
theorem dX5_cry_90 : decode cX5_cry 90 = .ok (.iload 6, 2) := by decide +kernel
theorem dX5_cry_92 : decode cX5_cry 92 = .ok (.iload 7, 2) := by decide +kernel
theorem dX5_cry_94 : decode cX5_cry 94 = .ok (.iload_n 1, 1) := by decide +kernel
theorem dX5_cry_95 : decode cX5_cry 95 = .ok (.iload_n 2, 1) := by decide +kernel
theorem dX5_cry_96 : decode cX5_cry 96 = .ok (.iload_n 3, 1) := by decide +kernel
theorem dX5_cry_97 : decode cX5_cry 97 = .ok (.invokevirtual 177, 3) := by decide +kernel
theorem dX5_cry_100 : decode cX5_cry 100 = .ok (.istore 8, 2) := by decide +kernel
theorem dX5_cry_102 : decode cX5_cry 102 = .ok (.iload 5, 2) := by decide +kernel
theorem dX5_cry_104 : decode cX5_cry 104 = .ok (.ifCond .ne 8, 3) := by decide +kernel
theorem dX5_cry_107 : decode cX5_cry 107 = .ok (.iload 8, 2) := by decide +kernel
theorem dX5_cry_109 : decode cX5_cry 109 = .ok (.goto 5, 3) := by decide +kernel
theorem dX5_cry_112 : decode cX5_cry 112 = .ok (.iload 5, 2) := by decide +kernel
theorem dX5_cry_114 : decode cX5_cry 114 = .ok (.istore 5, 2) := by decide +kernel
theorem dX5_cry_116 : decode cX5_cry 116 = .ok (.iinc 7 1, 3) := by decide +kernel
theorem dX5_cry_119 : decode cX5_cry 119 = .ok (.goto (-36), 3) := by decide +kernel
theorem dX5_cry_122 : decode cX5_cry 122 = .ok (.iinc 6 1, 3) := by decide +kernel
theorem dX5_cry_125 : decode cX5_cry 125 = .ok (.goto (-82), 3) := by decide +kernel
theorem dX5_cry_128 : decode cX5_cry 128 = .ok (.iload 5, 2) := by decide +kernel
theorem dX5_cry_130 : decode cX5_cry 130 = .ok (.ifCond .eq 10, 3) := by decide +kernel
theorem dX5_cry_133 : decode cX5_cry 133 = .ok (.aload_n 0, 1) := by decide +kernel
theorem dX5_cry_134 : decode cX5_cry 134 = .ok (.iload 5, 2) := by decide +kernel
theorem dX5_cry_136 : decode cX5_cry 136 = .ok (.i2l, 1) := by decide +kernel
theorem dX5_cry_137 : decode cX5_cry 137 = .ok (.putfield 122, 3) := by decide +kernel
theorem dX5_cry_140 : decode cX5_cry 140 = .ok (.aload_n 0, 1) := by decide +kernel
theorem dX5_cry_141 : decode cX5_cry 141 = .ok (.getfield 174, 3) := by decide +kernel
theorem dX5_cry_144 : decode cX5_cry 144 = .ok (.iload 4, 2) := by decide +kernel
theorem dX5_cry_146 : decode cX5_cry 146 = .ok (.isub, 1) := by decide +kernel
theorem dX5_cry_147 : decode cX5_cry 147 = .ok (.ireturn, 1) := by decide +kernel
theorem dX5_cried_0 : decode cX5_cried 0 = .ok (.iload_n 1, 1) := by decide +kernel
theorem dX5_cried_1 : decode cX5_cried 1 = .ok (.ifCond .lt 27, 3) := by decide +kernel
theorem dX5_cried_4 : decode cX5_cried 4 = .ok (.iload_n 1, 1) := by decide +kernel
theorem dX5_cried_5 : decode cX5_cried 5 = .ok (.aload_n 0, 1) := by decide +kernel
theorem dX5_cried_6 : decode cX5_cried 6 = .ok (.getfield 174, 3) := by decide +kernel
theorem dX5_cried_9 : decode cX5_cried 9 = .ok (.if_icmp .ge 19, 3) := by decide +kernel
theorem dX5_cried_12 : decode cX5_cried 12 = .ok (.iload_n 1, 1) := by decide +kernel
theorem dX5_cried_13 : decode cX5_cried 13 = .ok (.sipush 300, 3) := by decide +kernel
theorem dX5_cried_16 : decode cX5_cried 16 = .ok (.if_icmp .ge 12, 3) := by decide +kernel
theorem dX5_cried_19 : decode cX5_cried 19 = .ok (.aload_n 0, 1) := by decide +kernel
theorem dX5_cried_20 : decode cX5_cried 20 = .ok (.getfield 19, 3) := by decide +kernel
theorem dX5_cried_23 : decode cX5_cried 23 = .ok (.iload_n 1, 1) := by decide +kernel
theorem dX5_cried_24 : decode cX5_cried 24 = .ok (.iaload, 1) := by decide +kernel
theorem dX5_cried_25 : decode cX5_cried 25 = .ok (.goto 5, 3) := by decide +kernel
theorem dX5_cried_28 : decode cX5_cried 28 = .ok (.bipush (-9), 2) := by decide +kernel
theorem dX5_cried_30 : decode cX5_cried 30 = .ok (.ireturn, 1) := by decide +kernel
theorem dX5_halve_0 : decode cX5_halve 0 = .ok (.iload_n 1, 1) := by decide +kernel
theorem dX5_halve_1 : decode cX5_halve 1 = .ok (.ifCond .lt 16, 3) := by decide +kernel
theorem dX5_halve_4 : decode cX5_halve 4 = .ok (.iload_n 1, 1) := by decide +kernel
theorem dX5_halve_5 : decode cX5_halve 5 = .ok (.iload_n 2, 1) := by decide +kernel
theorem dX5_halve_6 : decode cX5_halve 6 = .ok (.if_icmp .ge 11, 3) := by decide +kernel
theorem dX5_halve_9 : decode cX5_halve 9 = .ok (.iload_n 2, 1) := by decide +kernel
theorem dX5_halve_10 : decode cX5_halve 10 = .ok (.aload_n 0, 1) := by decide +kernel
theorem dX5_halve_11 : decode cX5_halve 11 = .ok (.getfield 47, 3) := by decide +kernel
theorem dX5_halve_14 : decode cX5_halve 14 = .ok (.if_icmp .lt 5, 3) := by decide +kernel
theorem dX5_halve_17 : decode cX5_halve 17 = .ok (.iconst (-1), 1) := by decide +kernel
theorem dX5_halve_18 : decode cX5_halve 18 = .ok (.ireturn, 1) := by decide +kernel
theorem dX5_halve_19 : decode cX5_halve 19 = .ok (.iload_n 3, 1) := by decide +kernel
theorem dX5_halve_20 : decode cX5_halve 20 = .ok (.iconst 1, 1) := by decide +kernel
theorem dX5_halve_21 : decode cX5_halve 21 = .ok (.if_icmp .eq 15, 3) := by decide +kernel
theorem dX5_halve_24 : decode cX5_halve 24 = .ok (.iload_n 3, 1) := by decide +kernel
theorem dX5_halve_25 : decode cX5_halve 25 = .ok (.iconst 3, 1) := by decide +kernel
theorem dX5_halve_26 : decode cX5_halve 26 = .ok (.if_icmp .eq 10, 3) := by decide +kernel
theorem dX5_halve_29 : decode cX5_halve 29 = .ok (.iload_n 3, 1) := by decide +kernel
theorem dX5_halve_30 : decode cX5_halve 30 = .ok (.iconst 5, 1) := by decide +kernel
theorem dX5_halve_31 : decode cX5_halve 31 = .ok (.if_icmp .eq 5, 3) := by decide +kernel
theorem dX5_halve_34 : decode cX5_halve 34 = .ok (.iconst (-1), 1) := by decide +kernel
theorem dX5_halve_35 : decode cX5_halve 35 = .ok (.ireturn, 1) := by decide +kernel
theorem dX5_halve_36 : decode cX5_halve 36 = .ok (.aload_n 0, 1) := by decide +kernel
theorem dX5_halve_37 : decode cX5_halve 37 = .ok (.getfield 32, 3) := by decide +kernel
theorem dX5_halve_40 : decode cX5_halve 40 = .ok (.iload_n 1, 1) := by decide +kernel
theorem dX5_halve_41 : decode cX5_halve 41 = .ok (.iload_n 2, 1) := by decide +kernel
theorem dX5_halve_42 : decode cX5_halve 42 = .ok (.iload_n 3, 1) := by decide +kernel
theorem dX5_halve_43 : decode cX5_halve 43 = .ok (.invokevirtual 181, 3) := by decide +kernel
theorem dX5_halve_46 : decode cX5_halve 46 = .ok (.aload_n 0, 1) := by decide +kernel
theorem dX5_halve_47 : decode cX5_halve 47 = .ok (.getfield 32, 3) := by decide +kernel
theorem dX5_halve_50 : decode cX5_halve 50 = .ok (.invokevirtual 185, 3) := by decide +kernel
theorem dX5_halve_53 : decode cX5_halve 53 = .ok (.ireturn, 1) := by decide +kernel
theorem dX5_asks_0 : decode cX5_asks 0 = .ok (.aload_n 0, 1) := by decide +kernel
theorem dX5_asks_1 : decode cX5_asks 1 = .ok (.getfield 32, 3) := by decide +kernel
theorem dX5_asks_4 : decode cX5_asks 4 = .ok (.getfield 188, 3) := by decide +kernel
theorem dX5_asks_7 : decode cX5_asks 7 = .ok (.ifCond .ne 6, 3) := by decide +kernel
theorem dX5_asks_10 : decode cX5_asks 10 = .ok (.bipush (-4), 2) := by decide +kernel
theorem dX5_asks_12 : decode cX5_asks 12 = .ok (.ireturn, 1) := by decide +kernel
theorem dX5_asks_13 : decode cX5_asks 13 = .ok (.aload_n 0, 1) := by decide +kernel
theorem dX5_asks_14 : decode cX5_asks 14 = .ok (.getfield 32, 3) := by decide +kernel
theorem dX5_asks_17 : decode cX5_asks 17 = .ok (.invokevirtual 191, 3) := by decide +kernel
theorem dX5_asks_20 : decode cX5_asks 20 = .ok (.ifCond .eq 8, 3) := by decide +kernel
theorem dX5_asks_23 : decode cX5_asks 23 = .ok (.bipush (-9), 2) := by decide +kernel
theorem dX5_asks_25 : decode cX5_asks 25 = .ok (.goto 10, 3) := by decide +kernel
theorem dX5_asks_28 : decode cX5_asks 28 = .ok (.aload_n 0, 1) := by decide +kernel
theorem dX5_asks_29 : decode cX5_asks 29 = .ok (.getfield 32, 3) := by decide +kernel
theorem dX5_asks_32 : decode cX5_asks 32 = .ok (.invokevirtual 195, 3) := by decide +kernel
theorem dX5_asks_35 : decode cX5_asks 35 = .ok (.ireturn, 1) := by decide +kernel
theorem dX5_rerun_0 : decode cX5_rerun 0 = .ok (.aload_n 0, 1) := by decide +kernel
theorem dX5_rerun_1 : decode cX5_rerun 1 = .ok (.getfield 32, 3) := by decide +kernel
theorem dX5_rerun_4 : decode cX5_rerun 4 = .ok (.getfield 188, 3) := by decide +kernel
theorem dX5_rerun_7 : decode cX5_rerun 7 = .ok (.ifCond .eq 13, 3) := by decide +kernel
theorem dX5_rerun_10 : decode cX5_rerun 10 = .ok (.aload_n 0, 1) := by decide +kernel
theorem dX5_rerun_11 : decode cX5_rerun 11 = .ok (.getfield 32, 3) := by decide +kernel
theorem dX5_rerun_14 : decode cX5_rerun 14 = .ok (.invokevirtual 191, 3) := by decide +kernel
theorem dX5_rerun_17 : decode cX5_rerun 17 = .ok (.ifCond .eq 6, 3) := by decide +kernel
theorem dX5_rerun_20 : decode cX5_rerun 20 = .ok (.bipush (-4), 2) := by decide +kernel
theorem dX5_rerun_22 : decode cX5_rerun 22 = .ok (.ireturn, 1) := by decide +kernel
theorem dX5_rerun_23 : decode cX5_rerun 23 = .ok (.aload_n 0, 1) := by decide +kernel
theorem dX5_rerun_24 : decode cX5_rerun 24 = .ok (.getfield 32, 3) := by decide +kernel
theorem dX5_rerun_27 : decode cX5_rerun 27 = .ok (.iload_n 1, 1) := by decide +kernel
theorem dX5_rerun_28 : decode cX5_rerun 28 = .ok (.invokevirtual 198, 3) := by decide +kernel
theorem dX5_rerun_31 : decode cX5_rerun 31 = .ok (.ireturn, 1) := by decide +kernel
theorem dX5_found_0 : decode cX5_found 0 = .ok (.aload_n 0, 1) := by decide +kernel
theorem dX5_found_1 : decode cX5_found 1 = .ok (.getfield 32, 3) := by decide +kernel
theorem dX5_found_4 : decode cX5_found 4 = .ok (.getfield 188, 3) := by decide +kernel
theorem dX5_found_7 : decode cX5_found 7 = .ok (.ifCond .ne 6, 3) := by decide +kernel
theorem dX5_found_10 : decode cX5_found 10 = .ok (.bipush (-4), 2) := by decide +kernel
theorem dX5_found_12 : decode cX5_found 12 = .ok (.ireturn, 1) := by decide +kernel
theorem dX5_found_13 : decode cX5_found 13 = .ok (.aload_n 0, 1) := by decide +kernel
theorem dX5_found_14 : decode cX5_found 14 = .ok (.getfield 32, 3) := by decide +kernel
theorem dX5_found_17 : decode cX5_found 17 = .ok (.invokevirtual 191, 3) := by decide +kernel
theorem dX5_found_20 : decode cX5_found 20 = .ok (.ifCond .eq 13, 3) := by decide +kernel
theorem dX5_found_23 : decode cX5_found 23 = .ok (.aload_n 0, 1) := by decide +kernel
theorem dX5_found_24 : decode cX5_found 24 = .ok (.getfield 32, 3) := by decide +kernel
theorem dX5_found_27 : decode cX5_found 27 = .ok (.getfield 202, 3) := by decide +kernel
theorem dX5_found_30 : decode cX5_found 30 = .ok (.goto 5, 3) := by decide +kernel
theorem dX5_found_33 : decode cX5_found 33 = .ok (.bipush (-9), 2) := by decide +kernel
theorem dX5_found_35 : decode cX5_found 35 = .ok (.ireturn, 1) := by decide +kernel
theorem dX5_reruns_0 : decode cX5_reruns 0 = .ok (.aload_n 0, 1) := by decide +kernel
theorem dX5_reruns_1 : decode cX5_reruns 1 = .ok (.getfield 32, 3) := by decide +kernel
theorem dX5_reruns_4 : decode cX5_reruns 4 = .ok (.getfield 205, 3) := by decide +kernel
theorem dX5_reruns_7 : decode cX5_reruns 7 = .ok (.ireturn, 1) := by decide +kernel
theorem dX5_upper_0 : decode cX5_upper 0 = .ok (.aload_n 0, 1) := by decide +kernel
theorem dX5_upper_1 : decode cX5_upper 1 = .ok (.getfield 168, 3) := by decide +kernel
theorem dX5_upper_4 : decode cX5_upper 4 = .ok (.lreturn, 1) := by decide +kernel
theorem dX5_lower_0 : decode cX5_lower 0 = .ok (.aload_n 0, 1) := by decide +kernel
theorem dX5_lower_1 : decode cX5_lower 1 = .ok (.getfield 43, 3) := by decide +kernel
theorem dX5_lower_4 : decode cX5_lower 4 = .ok (.lreturn, 1) := by decide +kernel
theorem dX5_asked_0 : decode cX5_asked 0 = .ok (.aload_n 0, 1) := by decide +kernel
theorem dX5_asked_1 : decode cX5_asked 1 = .ok (.getfield 122, 3) := by decide +kernel
theorem dX5_asked_4 : decode cX5_asked 4 = .ok (.lreturn, 1) := by decide +kernel
theorem dX5_count_0 : decode cX5_count 0 = .ok (.iload_n 1, 1) := by decide +kernel
theorem dX5_count_1 : decode cX5_count 1 = .ok (.tableswitch 51 0 3 #[31, 36, 41, 46], 31) := by decide +kernel
theorem dX5_count_32 : decode cX5_count 32 = .ok (.aload_n 0, 1) := by decide +kernel
theorem dX5_count_33 : decode cX5_count 33 = .ok (.getfield 47, 3) := by decide +kernel
theorem dX5_count_36 : decode cX5_count 36 = .ok (.ireturn, 1) := by decide +kernel
theorem dX5_count_37 : decode cX5_count 37 = .ok (.aload_n 0, 1) := by decide +kernel
theorem dX5_count_38 : decode cX5_count 38 = .ok (.getfield 54, 3) := by decide +kernel
theorem dX5_count_41 : decode cX5_count 41 = .ok (.ireturn, 1) := by decide +kernel
theorem dX5_count_42 : decode cX5_count 42 = .ok (.aload_n 0, 1) := by decide +kernel
theorem dX5_count_43 : decode cX5_count 43 = .ok (.invokevirtual 208, 3) := by decide +kernel
theorem dX5_count_46 : decode cX5_count 46 = .ok (.ireturn, 1) := by decide +kernel
theorem dX5_count_47 : decode cX5_count 47 = .ok (.aload_n 0, 1) := by decide +kernel
theorem dX5_count_48 : decode cX5_count 48 = .ok (.getfield 174, 3) := by decide +kernel
theorem dX5_count_51 : decode cX5_count 51 = .ok (.ireturn, 1) := by decide +kernel
theorem dX5_count_52 : decode cX5_count 52 = .ok (.iconst (-1), 1) := by decide +kernel
theorem dX5_count_53 : decode cX5_count 53 = .ok (.ireturn, 1) := by decide +kernel
theorem dX5_finding_0 : decode cX5_finding 0 = .ok (.aload_n 0, 1) := by decide +kernel
theorem dX5_finding_1 : decode cX5_finding 1 = .ok (.getfield 211, 3) := by decide +kernel
theorem dX5_finding_4 : decode cX5_finding 4 = .ok (.ireturn, 1) := by decide +kernel
theorem dX5_findings_0 : decode cX5_findings 0 = .ok (.iload_n 1, 1) := by decide +kernel
theorem dX5_findings_1 : decode cX5_findings 1 = .ok (.iconst 1, 1) := by decide +kernel
theorem dX5_findings_2 : decode cX5_findings 2 = .ok (.if_icmp .lt 17, 3) := by decide +kernel
theorem dX5_findings_5 : decode cX5_findings 5 = .ok (.iload_n 1, 1) := by decide +kernel
theorem dX5_findings_6 : decode cX5_findings 6 = .ok (.iconst 5, 1) := by decide +kernel
theorem dX5_findings_7 : decode cX5_findings 7 = .ok (.if_icmp .gt 12, 3) := by decide +kernel
theorem dX5_findings_10 : decode cX5_findings 10 = .ok (.aload_n 0, 1) := by decide +kernel
theorem dX5_findings_11 : decode cX5_findings 11 = .ok (.getfield 15, 3) := by decide +kernel
theorem dX5_findings_14 : decode cX5_findings 14 = .ok (.iload_n 1, 1) := by decide +kernel
theorem dX5_findings_15 : decode cX5_findings 15 = .ok (.iaload, 1) := by decide +kernel
theorem dX5_findings_16 : decode cX5_findings 16 = .ok (.goto 4, 3) := by decide +kernel
theorem dX5_findings_19 : decode cX5_findings 19 = .ok (.iconst (-1), 1) := by decide +kernel
theorem dX5_findings_20 : decode cX5_findings 20 = .ok (.ireturn, 1) := by decide +kernel
theorem dX5_digest_0 : decode cX5_digest 0 = .ok (.ldc2_w 214, 3) := by decide +kernel
theorem dX5_digest_3 : decode cX5_digest 3 = .ok (.lstore_n 1, 1) := by decide +kernel
theorem dX5_digest_4 : decode cX5_digest 4 = .ok (.ldc2_w 216, 3) := by decide +kernel
theorem dX5_digest_7 : decode cX5_digest 7 = .ok (.lload_n 1, 1) := by decide +kernel
theorem dX5_digest_8 : decode cX5_digest 8 = .ok (.lmul, 1) := by decide +kernel
theorem dX5_digest_9 : decode cX5_digest 9 = .ok (.aload_n 0, 1) := by decide +kernel
theorem dX5_digest_10 : decode cX5_digest 10 = .ok (.getfield 47, 3) := by decide +kernel
theorem dX5_digest_13 : decode cX5_digest 13 = .ok (.i2l, 1) := by decide +kernel
theorem dX5_digest_14 : decode cX5_digest 14 = .ok (.ladd, 1) := by decide +kernel
theorem dX5_digest_15 : decode cX5_digest 15 = .ok (.lstore_n 1, 1) := by decide +kernel
theorem dX5_digest_16 : decode cX5_digest 16 = .ok (.ldc2_w 216, 3) := by decide +kernel
theorem dX5_digest_19 : decode cX5_digest 19 = .ok (.lload_n 1, 1) := by decide +kernel
theorem dX5_digest_20 : decode cX5_digest 20 = .ok (.lmul, 1) := by decide +kernel
theorem dX5_digest_21 : decode cX5_digest 21 = .ok (.aload_n 0, 1) := by decide +kernel
theorem dX5_digest_22 : decode cX5_digest 22 = .ok (.getfield 36, 3) := by decide +kernel
theorem dX5_digest_25 : decode cX5_digest 25 = .ok (.i2l, 1) := by decide +kernel
theorem dX5_digest_26 : decode cX5_digest 26 = .ok (.ladd, 1) := by decide +kernel
theorem dX5_digest_27 : decode cX5_digest 27 = .ok (.lstore_n 1, 1) := by decide +kernel
theorem dX5_digest_28 : decode cX5_digest 28 = .ok (.ldc2_w 216, 3) := by decide +kernel
theorem dX5_digest_31 : decode cX5_digest 31 = .ok (.lload_n 1, 1) := by decide +kernel
theorem dX5_digest_32 : decode cX5_digest 32 = .ok (.lmul, 1) := by decide +kernel
theorem dX5_digest_33 : decode cX5_digest 33 = .ok (.aload_n 0, 1) := by decide +kernel
theorem dX5_digest_34 : decode cX5_digest 34 = .ok (.getfield 40, 3) := by decide +kernel
theorem dX5_digest_37 : decode cX5_digest 37 = .ok (.i2l, 1) := by decide +kernel
theorem dX5_digest_38 : decode cX5_digest 38 = .ok (.ladd, 1) := by decide +kernel
theorem dX5_digest_39 : decode cX5_digest 39 = .ok (.lstore_n 1, 1) := by decide +kernel
theorem dX5_digest_40 : decode cX5_digest 40 = .ok (.iconst 0, 1) := by decide +kernel
theorem dX5_digest_41 : decode cX5_digest 41 = .ok (.istore_n 3, 1) := by decide +kernel
theorem dX5_digest_42 : decode cX5_digest 42 = .ok (.iload_n 3, 1) := by decide +kernel
theorem dX5_digest_43 : decode cX5_digest 43 = .ok (.aload_n 0, 1) := by decide +kernel
theorem dX5_digest_44 : decode cX5_digest 44 = .ok (.getfield 54, 3) := by decide +kernel
theorem dX5_digest_47 : decode cX5_digest 47 = .ok (.if_icmp .ge 58, 3) := by decide +kernel
theorem dX5_digest_50 : decode cX5_digest 50 = .ok (.ldc2_w 216, 3) := by decide +kernel
theorem dX5_digest_53 : decode cX5_digest 53 = .ok (.lload_n 1, 1) := by decide +kernel
theorem dX5_digest_54 : decode cX5_digest 54 = .ok (.lmul, 1) := by decide +kernel
theorem dX5_digest_55 : decode cX5_digest 55 = .ok (.aload_n 0, 1) := by decide +kernel
theorem dX5_digest_56 : decode cX5_digest 56 = .ok (.getfield 11, 3) := by decide +kernel
theorem dX5_digest_59 : decode cX5_digest 59 = .ok (.iload_n 3, 1) := by decide +kernel
theorem dX5_digest_60 : decode cX5_digest 60 = .ok (.aaload, 1) := by decide +kernel
theorem dX5_digest_61 : decode cX5_digest 61 = .ok (.getfield 64, 3) := by decide +kernel
theorem dX5_digest_64 : decode cX5_digest 64 = .ok (.i2l, 1) := by decide +kernel
theorem dX5_digest_65 : decode cX5_digest 65 = .ok (.ladd, 1) := by decide +kernel
theorem dX5_digest_66 : decode cX5_digest 66 = .ok (.lstore_n 1, 1) := by decide +kernel
theorem dX5_digest_67 : decode cX5_digest 67 = .ok (.iconst 0, 1) := by decide +kernel
theorem dX5_digest_68 : decode cX5_digest 68 = .ok (.istore 4, 2) := by decide +kernel
theorem dX5_digest_70 : decode cX5_digest 70 = .ok (.iload 4, 2) := by decide +kernel
theorem dX5_digest_72 : decode cX5_digest 72 = .ok (.iconst 4, 1) := by decide +kernel
theorem dX5_digest_73 : decode cX5_digest 73 = .ok (.if_icmp .ge 26, 3) := by decide +kernel
theorem dX5_digest_76 : decode cX5_digest 76 = .ok (.aload_n 0, 1) := by decide +kernel
theorem dX5_digest_77 : decode cX5_digest 77 = .ok (.getfield 11, 3) := by decide +kernel
theorem dX5_digest_80 : decode cX5_digest 80 = .ok (.iload_n 3, 1) := by decide +kernel
theorem dX5_digest_81 : decode cX5_digest 81 = .ok (.aaload, 1) := by decide +kernel
theorem dX5_digest_82 : decode cX5_digest 82 = .ok (.getfield 218, 3) := by decide +kernel
theorem dX5_digest_85 : decode cX5_digest 85 = .ok (.iload 4, 2) := by decide +kernel
theorem dX5_digest_87 : decode cX5_digest 87 = .ok (.aaload, 1) := by decide +kernel
theorem dX5_digest_88 : decode cX5_digest 88 = .ok (.lload_n 1, 1) := by decide +kernel
theorem dX5_digest_89 : decode cX5_digest 89 = .ok (.invokevirtual 222, 3) := by decide +kernel
theorem dX5_digest_92 : decode cX5_digest 92 = .ok (.lstore_n 1, 1) := by decide +kernel
theorem dX5_digest_93 : decode cX5_digest 93 = .ok (.iinc 4 1, 3) := by decide +kernel
theorem dX5_digest_96 : decode cX5_digest 96 = .ok (.goto (-26), 3) := by decide +kernel
theorem dX5_digest_99 : decode cX5_digest 99 = .ok (.iinc 3 1, 3) := by decide +kernel
theorem dX5_digest_102 : decode cX5_digest 102 = .ok (.goto (-60), 3) := by decide +kernel
theorem dX5_digest_105 : decode cX5_digest 105 = .ok (.ldc2_w 216, 3) := by decide +kernel
theorem dX5_digest_108 : decode cX5_digest 108 = .ok (.lload_n 1, 1) := by decide +kernel
theorem dX5_digest_109 : decode cX5_digest 109 = .ok (.lmul, 1) := by decide +kernel
theorem dX5_digest_110 : decode cX5_digest 110 = .ok (.aload_n 0, 1) := by decide +kernel
theorem dX5_digest_111 : decode cX5_digest 111 = .ok (.getfield 174, 3) := by decide +kernel
theorem dX5_digest_114 : decode cX5_digest 114 = .ok (.i2l, 1) := by decide +kernel
theorem dX5_digest_115 : decode cX5_digest 115 = .ok (.ladd, 1) := by decide +kernel
theorem dX5_digest_116 : decode cX5_digest 116 = .ok (.lstore_n 1, 1) := by decide +kernel
theorem dX5_digest_117 : decode cX5_digest 117 = .ok (.ldc2_w 216, 3) := by decide +kernel
theorem dX5_digest_120 : decode cX5_digest 120 = .ok (.lload_n 1, 1) := by decide +kernel
theorem dX5_digest_121 : decode cX5_digest 121 = .ok (.lmul, 1) := by decide +kernel
theorem dX5_digest_122 : decode cX5_digest 122 = .ok (.aload_n 0, 1) := by decide +kernel
theorem dX5_digest_123 : decode cX5_digest 123 = .ok (.invokevirtual 226, 3) := by decide +kernel
theorem dX5_digest_126 : decode cX5_digest 126 = .ok (.i2l, 1) := by decide +kernel
theorem dX5_digest_127 : decode cX5_digest 127 = .ok (.ladd, 1) := by decide +kernel
theorem dX5_digest_128 : decode cX5_digest 128 = .ok (.lstore_n 1, 1) := by decide +kernel
theorem dX5_digest_129 : decode cX5_digest 129 = .ok (.ldc2_w 216, 3) := by decide +kernel
theorem dX5_digest_132 : decode cX5_digest 132 = .ok (.lload_n 1, 1) := by decide +kernel
theorem dX5_digest_133 : decode cX5_digest 133 = .ok (.lmul, 1) := by decide +kernel
theorem dX5_digest_134 : decode cX5_digest 134 = .ok (.aload_n 0, 1) := by decide +kernel
theorem dX5_digest_135 : decode cX5_digest 135 = .ok (.invokevirtual 229, 3) := by decide +kernel
theorem dX5_digest_138 : decode cX5_digest 138 = .ok (.i2l, 1) := by decide +kernel
theorem dX5_digest_139 : decode cX5_digest 139 = .ok (.ladd, 1) := by decide +kernel
theorem dX5_digest_140 : decode cX5_digest 140 = .ok (.lstore_n 1, 1) := by decide +kernel
theorem dX5_digest_141 : decode cX5_digest 141 = .ok (.ldc2_w 216, 3) := by decide +kernel
theorem dX5_digest_144 : decode cX5_digest 144 = .ok (.lload_n 1, 1) := by decide +kernel
theorem dX5_digest_145 : decode cX5_digest 145 = .ok (.lmul, 1) := by decide +kernel
theorem dX5_digest_146 : decode cX5_digest 146 = .ok (.aload_n 0, 1) := by decide +kernel
theorem dX5_digest_147 : decode cX5_digest 147 = .ok (.invokevirtual 232, 3) := by decide +kernel
theorem dX5_digest_150 : decode cX5_digest 150 = .ok (.i2l, 1) := by decide +kernel
theorem dX5_digest_151 : decode cX5_digest 151 = .ok (.ladd, 1) := by decide +kernel
theorem dX5_digest_152 : decode cX5_digest 152 = .ok (.lreturn, 1) := by decide +kernel
theorem dX5_isWithin_0 : decode cX5_isWithin 0 = .ok (.iload_n 0, 1) := by decide +kernel
theorem dX5_isWithin_1 : decode cX5_isWithin 1 = .ok (.ifCond .lt 12, 3) := by decide +kernel
theorem dX5_isWithin_4 : decode cX5_isWithin 4 = .ok (.iload_n 0, 1) := by decide +kernel
theorem dX5_isWithin_5 : decode cX5_isWithin 5 = .ok (.iload_n 1, 1) := by decide +kernel
theorem dX5_isWithin_6 : decode cX5_isWithin 6 = .ok (.if_icmp .gt 7, 3) := by decide +kernel
theorem dX5_isWithin_9 : decode cX5_isWithin 9 = .ok (.iconst 1, 1) := by decide +kernel
theorem dX5_isWithin_10 : decode cX5_isWithin 10 = .ok (.goto 4, 3) := by decide +kernel
theorem dX5_isWithin_13 : decode cX5_isWithin 13 = .ok (.iconst 0, 1) := by decide +kernel
theorem dX5_isWithin_14 : decode cX5_isWithin 14 = .ok (.ireturn, 1) := by decide +kernel
theorem dX5_isKind_0 : decode cX5_isKind 0 = .ok (.iload_n 0, 1) := by decide +kernel
theorem dX5_isKind_1 : decode cX5_isKind 1 = .ok (.iconst 2, 1) := by decide +kernel
theorem dX5_isKind_2 : decode cX5_isKind 2 = .ok (.invokestatic 81, 3) := by decide +kernel
theorem dX5_isKind_5 : decode cX5_isKind 5 = .ok (.ireturn, 1) := by decide +kernel
theorem dX5_isPlace_0 : decode cX5_isPlace 0 = .ok (.iload_n 0, 1) := by decide +kernel
theorem dX5_isPlace_1 : decode cX5_isPlace 1 = .ok (.ifCond .lt 13, 3) := by decide +kernel
theorem dX5_isPlace_4 : decode cX5_isPlace 4 = .ok (.iload_n 0, 1) := by decide +kernel
theorem dX5_isPlace_5 : decode cX5_isPlace 5 = .ok (.bipush 40, 2) := by decide +kernel
theorem dX5_isPlace_7 : decode cX5_isPlace 7 = .ok (.if_icmp .ge 7, 3) := by decide +kernel
theorem dX5_isPlace_10 : decode cX5_isPlace 10 = .ok (.iconst 1, 1) := by decide +kernel
theorem dX5_isPlace_11 : decode cX5_isPlace 11 = .ok (.goto 4, 3) := by decide +kernel
theorem dX5_isPlace_14 : decode cX5_isPlace 14 = .ok (.iconst 0, 1) := by decide +kernel
theorem dX5_isPlace_15 : decode cX5_isPlace 15 = .ok (.ireturn, 1) := by decide +kernel
theorem dX5_holds_0 : decode cX5_holds 0 = .ok (.iload_n 0, 1) := by decide +kernel
theorem dX5_holds_1 : decode cX5_holds 1 = .ok (.bipush 40, 2) := by decide +kernel
theorem dX5_holds_3 : decode cX5_holds 3 = .ok (.invokestatic 81, 3) := by decide +kernel
theorem dX5_holds_6 : decode cX5_holds 6 = .ok (.ifCond .eq 15, 3) := by decide +kernel
theorem dX5_holds_9 : decode cX5_holds 9 = .ok (.iload_n 1, 1) := by decide +kernel
theorem dX5_holds_10 : decode cX5_holds 10 = .ok (.bipush 40, 2) := by decide +kernel
theorem dX5_holds_12 : decode cX5_holds 12 = .ok (.iload_n 0, 1) := by decide +kernel
theorem dX5_holds_13 : decode cX5_holds 13 = .ok (.isub, 1) := by decide +kernel
theorem dX5_holds_14 : decode cX5_holds 14 = .ok (.if_icmp .gt 7, 3) := by decide +kernel
theorem dX5_holds_17 : decode cX5_holds 17 = .ok (.iconst 1, 1) := by decide +kernel
theorem dX5_holds_18 : decode cX5_holds 18 = .ok (.goto 4, 3) := by decide +kernel
theorem dX5_holds_21 : decode cX5_holds 21 = .ok (.iconst 0, 1) := by decide +kernel
theorem dX5_holds_22 : decode cX5_holds 22 = .ok (.ireturn, 1) := by decide +kernel
theorem dX5_findTest_0 : decode cX5_findTest 0 = .ok (.iload_n 1, 1) := by decide +kernel
theorem dX5_findTest_1 : decode cX5_findTest 1 = .ok (.ifCond .lt 20, 3) := by decide +kernel
theorem dX5_findTest_4 : decode cX5_findTest 4 = .ok (.iload_n 1, 1) := by decide +kernel
theorem dX5_findTest_5 : decode cX5_findTest 5 = .ok (.aload_n 0, 1) := by decide +kernel
theorem dX5_findTest_6 : decode cX5_findTest 6 = .ok (.getfield 54, 3) := by decide +kernel
theorem dX5_findTest_9 : decode cX5_findTest 9 = .ok (.if_icmp .ge 12, 3) := by decide +kernel
theorem dX5_findTest_12 : decode cX5_findTest 12 = .ok (.aload_n 0, 1) := by decide +kernel
theorem dX5_findTest_13 : decode cX5_findTest 13 = .ok (.getfield 11, 3) := by decide +kernel
theorem dX5_findTest_16 : decode cX5_findTest 16 = .ok (.iload_n 1, 1) := by decide +kernel
theorem dX5_findTest_17 : decode cX5_findTest 17 = .ok (.aaload, 1) := by decide +kernel
theorem dX5_findTest_18 : decode cX5_findTest 18 = .ok (.goto 4, 3) := by decide +kernel
theorem dX5_findTest_21 : decode cX5_findTest 21 = .ok (.aconst_null, 1) := by decide +kernel
theorem dX5_findTest_22 : decode cX5_findTest 22 = .ok (.areturn, 1) := by decide +kernel
theorem dX5_findRow_0 : decode cX5_findRow 0 = .ok (.aload_n 0, 1) := by decide +kernel
theorem dX5_findRow_1 : decode cX5_findRow 1 = .ok (.iload_n 1, 1) := by decide +kernel
theorem dX5_findRow_2 : decode cX5_findRow 2 = .ok (.invokevirtual 60, 3) := by decide +kernel
theorem dX5_findRow_5 : decode cX5_findRow 5 = .ok (.astore_n 3, 1) := by decide +kernel
theorem dX5_findRow_6 : decode cX5_findRow 6 = .ok (.aload_n 3, 1) := by decide +kernel
theorem dX5_findRow_7 : decode cX5_findRow 7 = .ok (.ifnull 12, 3) := by decide +kernel
theorem dX5_findRow_10 : decode cX5_findRow 10 = .ok (.iload_n 2, 1) := by decide +kernel
theorem dX5_findRow_11 : decode cX5_findRow 11 = .ok (.ifCond .lt 8, 3) := by decide +kernel
theorem dX5_findRow_14 : decode cX5_findRow 14 = .ok (.iload_n 2, 1) := by decide +kernel
theorem dX5_findRow_15 : decode cX5_findRow 15 = .ok (.iconst 4, 1) := by decide +kernel
theorem dX5_findRow_16 : decode cX5_findRow 16 = .ok (.if_icmp .lt 7, 3) := by decide +kernel
theorem dX5_findRow_19 : decode cX5_findRow 19 = .ok (.aconst_null, 1) := by decide +kernel
theorem dX5_findRow_20 : decode cX5_findRow 20 = .ok (.goto 9, 3) := by decide +kernel
theorem dX5_findRow_23 : decode cX5_findRow 23 = .ok (.aload_n 3, 1) := by decide +kernel
theorem dX5_findRow_24 : decode cX5_findRow 24 = .ok (.getfield 218, 3) := by decide +kernel
theorem dX5_findRow_27 : decode cX5_findRow 27 = .ok (.iload_n 2, 1) := by decide +kernel
theorem dX5_findRow_28 : decode cX5_findRow 28 = .ok (.aaload, 1) := by decide +kernel
theorem dX5_findRow_29 : decode cX5_findRow 29 = .ok (.areturn, 1) := by decide +kernel
theorem dX5_refuseWith_0 : decode cX5_refuseWith 0 = .ok (.aload_n 0, 1) := by decide +kernel
theorem dX5_refuseWith_1 : decode cX5_refuseWith 1 = .ok (.iload_n 1, 1) := by decide +kernel
theorem dX5_refuseWith_2 : decode cX5_refuseWith 2 = .ok (.putfield 211, 3) := by decide +kernel
theorem dX5_refuseWith_5 : decode cX5_refuseWith 5 = .ok (.aload_n 0, 1) := by decide +kernel
theorem dX5_refuseWith_6 : decode cX5_refuseWith 6 = .ok (.getfield 15, 3) := by decide +kernel
theorem dX5_refuseWith_9 : decode cX5_refuseWith 9 = .ok (.iload_n 1, 1) := by decide +kernel
theorem dX5_refuseWith_10 : decode cX5_refuseWith 10 = .ok (.dup2, 1) := by decide +kernel
theorem dX5_refuseWith_11 : decode cX5_refuseWith 11 = .ok (.iaload, 1) := by decide +kernel
theorem dX5_refuseWith_12 : decode cX5_refuseWith 12 = .ok (.iconst 1, 1) := by decide +kernel
theorem dX5_refuseWith_13 : decode cX5_refuseWith 13 = .ok (.iadd, 1) := by decide +kernel
theorem dX5_refuseWith_14 : decode cX5_refuseWith 14 = .ok (.iastore, 1) := by decide +kernel
theorem dX5_refuseWith_15 : decode cX5_refuseWith 15 = .ok (.bipush (-3), 2) := by decide +kernel
theorem dX5_refuseWith_17 : decode cX5_refuseWith 17 = .ok (.ireturn, 1) := by decide +kernel
theorem dX5_refuseRow_0 : decode cX5_refuseRow 0 = .ok (.aload_n 1, 1) := by decide +kernel
theorem dX5_refuseRow_1 : decode cX5_refuseRow 1 = .ok (.ifnonnull 7, 3) := by decide +kernel
theorem dX5_refuseRow_4 : decode cX5_refuseRow 4 = .ok (.iconst (-1), 1) := by decide +kernel
theorem dX5_refuseRow_5 : decode cX5_refuseRow 5 = .ok (.goto 8, 3) := by decide +kernel
theorem dX5_refuseRow_8 : decode cX5_refuseRow 8 = .ok (.aload_n 0, 1) := by decide +kernel
theorem dX5_refuseRow_9 : decode cX5_refuseRow 9 = .ok (.iconst 1, 1) := by decide +kernel
theorem dX5_refuseRow_10 : decode cX5_refuseRow 10 = .ok (.invokevirtual 85, 3) := by decide +kernel
theorem dX5_refuseRow_13 : decode cX5_refuseRow 13 = .ok (.ireturn, 1) := by decide +kernel
theorem dX5_bringUpToDate_0 : decode cX5_bringUpToDate 0 = .ok (.aload_n 1, 1) := by decide +kernel
theorem dX5_bringUpToDate_1 : decode cX5_bringUpToDate 1 = .ok (.getfield 95, 3) := by decide +kernel
theorem dX5_bringUpToDate_4 : decode cX5_bringUpToDate 4 = .ok (.ifCond .ne 25, 3) := by decide +kernel
theorem dX5_bringUpToDate_7 : decode cX5_bringUpToDate 7 = .ok (.aload_n 1, 1) := by decide +kernel
theorem dX5_bringUpToDate_8 : decode cX5_bringUpToDate 8 = .ok (.getfield 235, 3) := by decide +kernel
theorem dX5_bringUpToDate_11 : decode cX5_bringUpToDate 11 = .ok (.aload_n 0, 1) := by decide +kernel
theorem dX5_bringUpToDate_12 : decode cX5_bringUpToDate 12 = .ok (.getfield 47, 3) := by decide +kernel
theorem dX5_bringUpToDate_15 : decode cX5_bringUpToDate 15 = .ok (.if_icmp .ne 14, 3) := by decide +kernel
theorem dX5_bringUpToDate_18 : decode cX5_bringUpToDate 18 = .ok (.aload_n 1, 1) := by decide +kernel
theorem dX5_bringUpToDate_19 : decode cX5_bringUpToDate 19 = .ok (.getfield 238, 3) := by decide +kernel
theorem dX5_bringUpToDate_22 : decode cX5_bringUpToDate 22 = .ok (.aload_n 0, 1) := by decide +kernel
theorem dX5_bringUpToDate_23 : decode cX5_bringUpToDate 23 = .ok (.getfield 36, 3) := by decide +kernel
theorem dX5_bringUpToDate_26 : decode cX5_bringUpToDate 26 = .ok (.if_icmp .eq 19, 3) := by decide +kernel
theorem dX5_bringUpToDate_29 : decode cX5_bringUpToDate 29 = .ok (.aload_n 0, 1) := by decide +kernel
theorem dX5_bringUpToDate_30 : decode cX5_bringUpToDate 30 = .ok (.getfield 25, 3) := by decide +kernel
theorem dX5_bringUpToDate_33 : decode cX5_bringUpToDate 33 = .ok (.aload_n 1, 1) := by decide +kernel
theorem dX5_bringUpToDate_34 : decode cX5_bringUpToDate 34 = .ok (.aload_n 0, 1) := by decide +kernel
theorem dX5_bringUpToDate_35 : decode cX5_bringUpToDate 35 = .ok (.getfield 47, 3) := by decide +kernel
theorem dX5_bringUpToDate_38 : decode cX5_bringUpToDate 38 = .ok (.aload_n 0, 1) := by decide +kernel
theorem dX5_bringUpToDate_39 : decode cX5_bringUpToDate 39 = .ok (.getfield 36, 3) := by decide +kernel
theorem dX5_bringUpToDate_42 : decode cX5_bringUpToDate 42 = .ok (.invokevirtual 239, 3) := by decide +kernel
theorem dX5_bringUpToDate_45 : decode cX5_bringUpToDate 45 = .ok (.return_, 1) := by decide +kernel
theorem dX5_bringRowsUpToDate_0 : decode cX5_bringRowsUpToDate 0 = .ok (.iconst 0, 1) := by decide +kernel
theorem dX5_bringRowsUpToDate_1 : decode cX5_bringRowsUpToDate 1 = .ok (.istore_n 2, 1) := by decide +kernel
theorem dX5_bringRowsUpToDate_2 : decode cX5_bringRowsUpToDate 2 = .ok (.iload_n 2, 1) := by decide +kernel
theorem dX5_bringRowsUpToDate_3 : decode cX5_bringRowsUpToDate 3 = .ok (.iconst 4, 1) := by decide +kernel
theorem dX5_bringRowsUpToDate_4 : decode cX5_bringRowsUpToDate 4 = .ok (.if_icmp .ge 31, 3) := by decide +kernel
theorem dX5_bringRowsUpToDate_7 : decode cX5_bringRowsUpToDate 7 = .ok (.aload_n 1, 1) := by decide +kernel
theorem dX5_bringRowsUpToDate_8 : decode cX5_bringRowsUpToDate 8 = .ok (.getfield 218, 3) := by decide +kernel
theorem dX5_bringRowsUpToDate_11 : decode cX5_bringRowsUpToDate 11 = .ok (.iload_n 2, 1) := by decide +kernel
theorem dX5_bringRowsUpToDate_12 : decode cX5_bringRowsUpToDate 12 = .ok (.aaload, 1) := by decide +kernel
theorem dX5_bringRowsUpToDate_13 : decode cX5_bringRowsUpToDate 13 = .ok (.getfield 71, 3) := by decide +kernel
theorem dX5_bringRowsUpToDate_16 : decode cX5_bringRowsUpToDate 16 = .ok (.ifCond .eq 13, 3) := by decide +kernel
theorem dX5_bringRowsUpToDate_19 : decode cX5_bringRowsUpToDate 19 = .ok (.aload_n 0, 1) := by decide +kernel
theorem dX5_bringRowsUpToDate_20 : decode cX5_bringRowsUpToDate 20 = .ok (.aload_n 1, 1) := by decide +kernel
theorem dX5_bringRowsUpToDate_21 : decode cX5_bringRowsUpToDate 21 = .ok (.getfield 218, 3) := by decide +kernel
theorem dX5_bringRowsUpToDate_24 : decode cX5_bringRowsUpToDate 24 = .ok (.iload_n 2, 1) := by decide +kernel
theorem dX5_bringRowsUpToDate_25 : decode cX5_bringRowsUpToDate 25 = .ok (.aaload, 1) := by decide +kernel
theorem dX5_bringRowsUpToDate_26 : decode cX5_bringRowsUpToDate 26 = .ok (.invokevirtual 115, 3) := by decide +kernel
theorem dX5_bringRowsUpToDate_29 : decode cX5_bringRowsUpToDate 29 = .ok (.iinc 2 1, 3) := by decide +kernel
theorem dX5_bringRowsUpToDate_32 : decode cX5_bringRowsUpToDate 32 = .ok (.goto (-30), 3) := by decide +kernel
theorem dX5_bringRowsUpToDate_35 : decode cX5_bringRowsUpToDate 35 = .ok (.return_, 1) := by decide +kernel
theorem dX5_readyChances_0 : decode cX5_readyChances 0 = .ok (.aload_n 0, 1) := by decide +kernel
theorem dX5_readyChances_1 : decode cX5_readyChances 1 = .ok (.getfield 243, 3) := by decide +kernel
theorem dX5_readyChances_4 : decode cX5_readyChances 4 = .ok (.ifnonnull 14, 3) := by decide +kernel
theorem dX5_readyChances_7 : decode cX5_readyChances 7 = .ok (.aload_n 0, 1) := by decide +kernel
theorem dX5_readyChances_8 : decode cX5_readyChances 8 = .ok (.new 160, 3) := by decide +kernel
theorem dX5_readyChances_11 : decode cX5_readyChances 11 = .ok (.dup, 1) := by decide +kernel
theorem dX5_readyChances_12 : decode cX5_readyChances 12 = .ok (.invokespecial 247, 3) := by decide +kernel
theorem dX5_readyChances_15 : decode cX5_readyChances 15 = .ok (.putfield 243, 3) := by decide +kernel
theorem dX5_readyChances_18 : decode cX5_readyChances 18 = .ok (.aload_n 0, 1) := by decide +kernel
theorem dX5_readyChances_19 : decode cX5_readyChances 19 = .ok (.getfield 243, 3) := by decide +kernel
theorem dX5_readyChances_22 : decode cX5_readyChances 22 = .ok (.areturn, 1) := by decide +kernel
theorem dX5_isItsOwn_0 : decode cX5_isItsOwn 0 = .ok (.aload_n 1, 1) := by decide +kernel
theorem dX5_isItsOwn_1 : decode cX5_isItsOwn 1 = .ok (.getfield 218, 3) := by decide +kernel
theorem dX5_isItsOwn_4 : decode cX5_isItsOwn 4 = .ok (.iload_n 2, 1) := by decide +kernel
theorem dX5_isItsOwn_5 : decode cX5_isItsOwn 5 = .ok (.aaload, 1) := by decide +kernel
theorem dX5_isItsOwn_6 : decode cX5_isItsOwn 6 = .ok (.astore 4, 2) := by decide +kernel
theorem dX5_isItsOwn_8 : decode cX5_isItsOwn 8 = .ok (.aload 4, 2) := by decide +kernel
theorem dX5_isItsOwn_10 : decode cX5_isItsOwn 10 = .ok (.iload_n 3, 1) := by decide +kernel
theorem dX5_isItsOwn_11 : decode cX5_isItsOwn 11 = .ok (.invokevirtual 132, 3) := by decide +kernel
theorem dX5_isItsOwn_14 : decode cX5_isItsOwn 14 = .ok (.istore 5, 2) := by decide +kernel
theorem dX5_isItsOwn_16 : decode cX5_isItsOwn 16 = .ok (.aload 4, 2) := by decide +kernel
theorem dX5_isItsOwn_18 : decode cX5_isItsOwn 18 = .ok (.iload_n 3, 1) := by decide +kernel
theorem dX5_isItsOwn_19 : decode cX5_isItsOwn 19 = .ok (.invokevirtual 141, 3) := by decide +kernel
theorem dX5_isItsOwn_22 : decode cX5_isItsOwn 22 = .ok (.invokestatic 248, 3) := by decide +kernel
theorem dX5_isItsOwn_25 : decode cX5_isItsOwn 25 = .ok (.istore 6, 2) := by decide +kernel
theorem dX5_isItsOwn_27 : decode cX5_isItsOwn 27 = .ok (.iconst 0, 1) := by decide +kernel
theorem dX5_isItsOwn_28 : decode cX5_isItsOwn 28 = .ok (.istore 7, 2) := by decide +kernel
theorem dX5_isItsOwn_30 : decode cX5_isItsOwn 30 = .ok (.iconst 0, 1) := by decide +kernel
theorem dX5_isItsOwn_31 : decode cX5_isItsOwn 31 = .ok (.istore 8, 2) := by decide +kernel
theorem dX5_isItsOwn_33 : decode cX5_isItsOwn 33 = .ok (.iload 8, 2) := by decide +kernel
theorem dX5_isItsOwn_35 : decode cX5_isItsOwn 35 = .ok (.iconst 4, 1) := by decide +kernel
theorem dX5_isItsOwn_36 : decode cX5_isItsOwn 36 = .ok (.if_icmp .ge 75, 3) := by decide +kernel
theorem dX5_isItsOwn_39 : decode cX5_isItsOwn 39 = .ok (.aload_n 1, 1) := by decide +kernel
theorem dX5_isItsOwn_40 : decode cX5_isItsOwn 40 = .ok (.getfield 218, 3) := by decide +kernel
theorem dX5_isItsOwn_43 : decode cX5_isItsOwn 43 = .ok (.iload 8, 2) := by decide +kernel
theorem dX5_isItsOwn_45 : decode cX5_isItsOwn 45 = .ok (.aaload, 1) := by decide +kernel
theorem dX5_isItsOwn_46 : decode cX5_isItsOwn 46 = .ok (.astore 9, 2) := by decide +kernel
theorem dX5_isItsOwn_48 : decode cX5_isItsOwn 48 = .ok (.iload 8, 2) := by decide +kernel
theorem dX5_isItsOwn_50 : decode cX5_isItsOwn 50 = .ok (.iload_n 2, 1) := by decide +kernel
theorem dX5_isItsOwn_51 : decode cX5_isItsOwn 51 = .ok (.if_icmp .eq 54, 3) := by decide +kernel
theorem dX5_isItsOwn_54 : decode cX5_isItsOwn 54 = .ok (.aload 9, 2) := by decide +kernel
theorem dX5_isItsOwn_56 : decode cX5_isItsOwn 56 = .ok (.getfield 71, 3) := by decide +kernel
theorem dX5_isItsOwn_59 : decode cX5_isItsOwn 59 = .ok (.ifCond .ne 6, 3) := by decide +kernel
theorem dX5_isItsOwn_62 : decode cX5_isItsOwn 62 = .ok (.goto 43, 3) := by decide +kernel
theorem dX5_isItsOwn_65 : decode cX5_isItsOwn 65 = .ok (.aload 9, 2) := by decide +kernel
theorem dX5_isItsOwn_67 : decode cX5_isItsOwn 67 = .ok (.iload 5, 2) := by decide +kernel
theorem dX5_isItsOwn_69 : decode cX5_isItsOwn 69 = .ok (.aload_n 0, 1) := by decide +kernel
theorem dX5_isItsOwn_70 : decode cX5_isItsOwn 70 = .ok (.getfield 40, 3) := by decide +kernel
theorem dX5_isItsOwn_73 : decode cX5_isItsOwn 73 = .ok (.iload 6, 2) := by decide +kernel
theorem dX5_isItsOwn_75 : decode cX5_isItsOwn 75 = .ok (.invokevirtual 253, 3) := by decide +kernel
theorem dX5_isItsOwn_78 : decode cX5_isItsOwn 78 = .ok (.ifCond .eq 5, 3) := by decide +kernel
theorem dX5_isItsOwn_81 : decode cX5_isItsOwn 81 = .ok (.iconst 0, 1) := by decide +kernel
theorem dX5_isItsOwn_82 : decode cX5_isItsOwn 82 = .ok (.ireturn, 1) := by decide +kernel
theorem dX5_isItsOwn_83 : decode cX5_isItsOwn 83 = .ok (.iload 7, 2) := by decide +kernel
theorem dX5_isItsOwn_85 : decode cX5_isItsOwn 85 = .ok (.ifCond .ne 13, 3) := by decide +kernel
theorem dX5_isItsOwn_88 : decode cX5_isItsOwn 88 = .ok (.aload 9, 2) := by decide +kernel
theorem dX5_isItsOwn_90 : decode cX5_isItsOwn 90 = .ok (.iload 5, 2) := by decide +kernel
theorem dX5_isItsOwn_92 : decode cX5_isItsOwn 92 = .ok (.invokevirtual 257, 3) := by decide +kernel
theorem dX5_isItsOwn_95 : decode cX5_isItsOwn 95 = .ok (.ifCond .eq 7, 3) := by decide +kernel
theorem dX5_isItsOwn_98 : decode cX5_isItsOwn 98 = .ok (.iconst 1, 1) := by decide +kernel
theorem dX5_isItsOwn_99 : decode cX5_isItsOwn 99 = .ok (.goto 4, 3) := by decide +kernel
theorem dX5_isItsOwn_102 : decode cX5_isItsOwn 102 = .ok (.iconst 0, 1) := by decide +kernel
theorem dX5_isItsOwn_103 : decode cX5_isItsOwn 103 = .ok (.istore 7, 2) := by decide +kernel
theorem dX5_isItsOwn_105 : decode cX5_isItsOwn 105 = .ok (.iinc 8 1, 3) := by decide +kernel
theorem dX5_isItsOwn_108 : decode cX5_isItsOwn 108 = .ok (.goto (-75), 3) := by decide +kernel
theorem dX5_isItsOwn_111 : decode cX5_isItsOwn 111 = .ok (.iload 7, 2) := by decide +kernel
theorem dX5_isItsOwn_113 : decode cX5_isItsOwn 113 = .ok (.ireturn, 1) := by decide +kernel
theorem dX5_cryRow_0 : decode cX5_cryRow 0 = .ok (.aload_n 0, 1) := by decide +kernel
theorem dX5_cryRow_1 : decode cX5_cryRow 1 = .ok (.getfield 11, 3) := by decide +kernel
theorem dX5_cryRow_4 : decode cX5_cryRow 4 = .ok (.iload_n 1, 1) := by decide +kernel
theorem dX5_cryRow_5 : decode cX5_cryRow 5 = .ok (.aaload, 1) := by decide +kernel
theorem dX5_cryRow_6 : decode cX5_cryRow 6 = .ok (.getfield 218, 3) := by decide +kernel
theorem dX5_cryRow_9 : decode cX5_cryRow 9 = .ok (.iload_n 2, 1) := by decide +kernel
theorem dX5_cryRow_10 : decode cX5_cryRow 10 = .ok (.aaload, 1) := by decide +kernel
theorem dX5_cryRow_11 : decode cX5_cryRow 11 = .ok (.astore 6, 2) := by decide +kernel
theorem dX5_cryRow_13 : decode cX5_cryRow 13 = .ok (.aload 6, 2) := by decide +kernel
theorem dX5_cryRow_15 : decode cX5_cryRow 15 = .ok (.getfield 71, 3) := by decide +kernel
theorem dX5_cryRow_18 : decode cX5_cryRow 18 = .ok (.ifCond .ne 5, 3) := by decide +kernel
theorem dX5_cryRow_21 : decode cX5_cryRow 21 = .ok (.iconst 0, 1) := by decide +kernel
theorem dX5_cryRow_22 : decode cX5_cryRow 22 = .ok (.ireturn, 1) := by decide +kernel
theorem dX5_cryRow_23 : decode cX5_cryRow 23 = .ok (.iconst 0, 1) := by decide +kernel
theorem dX5_cryRow_24 : decode cX5_cryRow 24 = .ok (.istore 7, 2) := by decide +kernel
theorem dX5_cryRow_26 : decode cX5_cryRow 26 = .ok (.iconst 0, 1) := by decide +kernel
theorem dX5_cryRow_27 : decode cX5_cryRow 27 = .ok (.istore 8, 2) := by decide +kernel
theorem dX5_cryRow_29 : decode cX5_cryRow 29 = .ok (.iload 8, 2) := by decide +kernel
theorem dX5_cryRow_31 : decode cX5_cryRow 31 = .ok (.aload 6, 2) := by decide +kernel
theorem dX5_cryRow_33 : decode cX5_cryRow 33 = .ok (.invokevirtual 125, 3) := by decide +kernel
theorem dX5_cryRow_36 : decode cX5_cryRow 36 = .ok (.if_icmp .ge 98, 3) := by decide +kernel
theorem dX5_cryRow_39 : decode cX5_cryRow 39 = .ok (.aload 6, 2) := by decide +kernel
theorem dX5_cryRow_41 : decode cX5_cryRow 41 = .ok (.iload 8, 2) := by decide +kernel
theorem dX5_cryRow_43 : decode cX5_cryRow 43 = .ok (.invokevirtual 141, 3) := by decide +kernel
theorem dX5_cryRow_46 : decode cX5_cryRow 46 = .ok (.iload_n 3, 1) := by decide +kernel
theorem dX5_cryRow_47 : decode cX5_cryRow 47 = .ok (.if_icmp .lt 81, 3) := by decide +kernel
theorem dX5_cryRow_50 : decode cX5_cryRow 50 = .ok (.aload_n 0, 1) := by decide +kernel
theorem dX5_cryRow_51 : decode cX5_cryRow 51 = .ok (.aload_n 0, 1) := by decide +kernel
theorem dX5_cryRow_52 : decode cX5_cryRow 52 = .ok (.getfield 11, 3) := by decide +kernel
theorem dX5_cryRow_55 : decode cX5_cryRow 55 = .ok (.iload_n 1, 1) := by decide +kernel
theorem dX5_cryRow_56 : decode cX5_cryRow 56 = .ok (.aaload, 1) := by decide +kernel
theorem dX5_cryRow_57 : decode cX5_cryRow 57 = .ok (.iload_n 2, 1) := by decide +kernel
theorem dX5_cryRow_58 : decode cX5_cryRow 58 = .ok (.iload 8, 2) := by decide +kernel
theorem dX5_cryRow_60 : decode cX5_cryRow 60 = .ok (.invokevirtual 260, 3) := by decide +kernel
theorem dX5_cryRow_63 : decode cX5_cryRow 63 = .ok (.ifCond .eq 65, 3) := by decide +kernel
theorem dX5_cryRow_66 : decode cX5_cryRow 66 = .ok (.aload_n 0, 1) := by decide +kernel
theorem dX5_cryRow_67 : decode cX5_cryRow 67 = .ok (.aload 6, 2) := by decide +kernel
theorem dX5_cryRow_69 : decode cX5_cryRow 69 = .ok (.iload 8, 2) := by decide +kernel
theorem dX5_cryRow_71 : decode cX5_cryRow 71 = .ok (.iload 4, 2) := by decide +kernel
theorem dX5_cryRow_73 : decode cX5_cryRow 73 = .ok (.iload 5, 2) := by decide +kernel
theorem dX5_cryRow_75 : decode cX5_cryRow 75 = .ok (.invokevirtual 263, 3) := by decide +kernel
theorem dX5_cryRow_78 : decode cX5_cryRow 78 = .ok (.ifCond .eq 50, 3) := by decide +kernel
theorem dX5_cryRow_81 : decode cX5_cryRow 81 = .ok (.sipush 1000, 3) := by decide +kernel
theorem dX5_cryRow_84 : decode cX5_cryRow 84 = .ok (.iload_n 1, 1) := by decide +kernel
theorem dX5_cryRow_85 : decode cX5_cryRow 85 = .ok (.imul, 1) := by decide +kernel
theorem dX5_cryRow_86 : decode cX5_cryRow 86 = .ok (.bipush 100, 2) := by decide +kernel
theorem dX5_cryRow_88 : decode cX5_cryRow 88 = .ok (.iload_n 2, 1) := by decide +kernel
theorem dX5_cryRow_89 : decode cX5_cryRow 89 = .ok (.imul, 1) := by decide +kernel
theorem dX5_cryRow_90 : decode cX5_cryRow 90 = .ok (.iadd, 1) := by decide +kernel
theorem dX5_cryRow_91 : decode cX5_cryRow 91 = .ok (.aload 6, 2) := by decide +kernel
theorem dX5_cryRow_93 : decode cX5_cryRow 93 = .ok (.iload 8, 2) := by decide +kernel
theorem dX5_cryRow_95 : decode cX5_cryRow 95 = .ok (.invokevirtual 132, 3) := by decide +kernel
theorem dX5_cryRow_98 : decode cX5_cryRow 98 = .ok (.iadd, 1) := by decide +kernel
theorem dX5_cryRow_99 : decode cX5_cryRow 99 = .ok (.istore 9, 2) := by decide +kernel
theorem dX5_cryRow_101 : decode cX5_cryRow 101 = .ok (.iload 7, 2) := by decide +kernel
theorem dX5_cryRow_103 : decode cX5_cryRow 103 = .ok (.ifCond .ne 8, 3) := by decide +kernel
theorem dX5_cryRow_106 : decode cX5_cryRow 106 = .ok (.iload 9, 2) := by decide +kernel
theorem dX5_cryRow_108 : decode cX5_cryRow 108 = .ok (.goto 5, 3) := by decide +kernel
theorem dX5_cryRow_111 : decode cX5_cryRow 111 = .ok (.iload 7, 2) := by decide +kernel
theorem dX5_cryRow_113 : decode cX5_cryRow 113 = .ok (.istore 7, 2) := by decide +kernel
theorem dX5_cryRow_115 : decode cX5_cryRow 115 = .ok (.aload 6, 2) := by decide +kernel
theorem dX5_cryRow_117 : decode cX5_cryRow 117 = .ok (.iload 8, 2) := by decide +kernel
theorem dX5_cryRow_119 : decode cX5_cryRow 119 = .ok (.invokevirtual 267, 3) := by decide +kernel
theorem dX5_cryRow_122 : decode cX5_cryRow 122 = .ok (.aload_n 0, 1) := by decide +kernel
theorem dX5_cryRow_123 : decode cX5_cryRow 123 = .ok (.iload 9, 2) := by decide +kernel
theorem dX5_cryRow_125 : decode cX5_cryRow 125 = .ok (.invokevirtual 270, 3) := by decide +kernel
theorem dX5_cryRow_128 : decode cX5_cryRow 128 = .ok (.iinc 8 1, 3) := by decide +kernel
theorem dX5_cryRow_131 : decode cX5_cryRow 131 = .ok (.goto (-102), 3) := by decide +kernel
theorem dX5_cryRow_134 : decode cX5_cryRow 134 = .ok (.iload 7, 2) := by decide +kernel
theorem dX5_cryRow_136 : decode cX5_cryRow 136 = .ok (.ireturn, 1) := by decide +kernel
theorem dX5_isAlarming_0 : decode cX5_isAlarming 0 = .ok (.aload_n 1, 1) := by decide +kernel
theorem dX5_isAlarming_1 : decode cX5_isAlarming 1 = .ok (.getfield 218, 3) := by decide +kernel
theorem dX5_isAlarming_4 : decode cX5_isAlarming 4 = .ok (.iload_n 2, 1) := by decide +kernel
theorem dX5_isAlarming_5 : decode cX5_isAlarming 5 = .ok (.aaload, 1) := by decide +kernel
theorem dX5_isAlarming_6 : decode cX5_isAlarming 6 = .ok (.astore 4, 2) := by decide +kernel
theorem dX5_isAlarming_8 : decode cX5_isAlarming 8 = .ok (.aload 4, 2) := by decide +kernel
theorem dX5_isAlarming_10 : decode cX5_isAlarming 10 = .ok (.iload_n 3, 1) := by decide +kernel
theorem dX5_isAlarming_11 : decode cX5_isAlarming 11 = .ok (.invokevirtual 141, 3) := by decide +kernel
theorem dX5_isAlarming_14 : decode cX5_isAlarming 14 = .ok (.ifCond .le 12, 3) := by decide +kernel
theorem dX5_isAlarming_17 : decode cX5_isAlarming 17 = .ok (.aload 4, 2) := by decide +kernel
theorem dX5_isAlarming_19 : decode cX5_isAlarming 19 = .ok (.iload_n 3, 1) := by decide +kernel
theorem dX5_isAlarming_20 : decode cX5_isAlarming 20 = .ok (.invokevirtual 273, 3) := by decide +kernel
theorem dX5_isAlarming_23 : decode cX5_isAlarming 23 = .ok (.ifCond .eq 5, 3) := by decide +kernel
theorem dX5_isAlarming_26 : decode cX5_isAlarming 26 = .ok (.iconst 0, 1) := by decide +kernel
theorem dX5_isAlarming_27 : decode cX5_isAlarming 27 = .ok (.ireturn, 1) := by decide +kernel
theorem dX5_isAlarming_28 : decode cX5_isAlarming 28 = .ok (.aload_n 1, 1) := by decide +kernel
theorem dX5_isAlarming_29 : decode cX5_isAlarming 29 = .ok (.getfield 64, 3) := by decide +kernel
theorem dX5_isAlarming_32 : decode cX5_isAlarming 32 = .ok (.iconst 1, 1) := by decide +kernel
theorem dX5_isAlarming_33 : decode cX5_isAlarming 33 = .ok (.if_icmp .ne 18, 3) := by decide +kernel
theorem dX5_isAlarming_36 : decode cX5_isAlarming 36 = .ok (.aload 4, 2) := by decide +kernel
theorem dX5_isAlarming_38 : decode cX5_isAlarming 38 = .ok (.iload_n 3, 1) := by decide +kernel
theorem dX5_isAlarming_39 : decode cX5_isAlarming 39 = .ok (.invokevirtual 152, 3) := by decide +kernel
theorem dX5_isAlarming_42 : decode cX5_isAlarming 42 = .ok (.bipush (-9), 2) := by decide +kernel
theorem dX5_isAlarming_44 : decode cX5_isAlarming 44 = .ok (.if_icmp .eq 7, 3) := by decide +kernel
theorem dX5_isAlarming_47 : decode cX5_isAlarming 47 = .ok (.iconst 1, 1) := by decide +kernel
theorem dX5_isAlarming_48 : decode cX5_isAlarming 48 = .ok (.goto 4, 3) := by decide +kernel
theorem dX5_isAlarming_51 : decode cX5_isAlarming 51 = .ok (.iconst 0, 1) := by decide +kernel
theorem dX5_isAlarming_52 : decode cX5_isAlarming 52 = .ok (.istore 5, 2) := by decide +kernel
theorem dX5_isAlarming_54 : decode cX5_isAlarming 54 = .ok (.iload 5, 2) := by decide +kernel
theorem dX5_isAlarming_56 : decode cX5_isAlarming 56 = .ok (.ifCond .ne 17, 3) := by decide +kernel
theorem dX5_isAlarming_59 : decode cX5_isAlarming 59 = .ok (.aload_n 0, 1) := by decide +kernel
theorem dX5_isAlarming_60 : decode cX5_isAlarming 60 = .ok (.aload_n 1, 1) := by decide +kernel
theorem dX5_isAlarming_61 : decode cX5_isAlarming 61 = .ok (.iload_n 2, 1) := by decide +kernel
theorem dX5_isAlarming_62 : decode cX5_isAlarming 62 = .ok (.iload_n 3, 1) := by decide +kernel
theorem dX5_isAlarming_63 : decode cX5_isAlarming 63 = .ok (.invokevirtual 148, 3) := by decide +kernel
theorem dX5_isAlarming_66 : decode cX5_isAlarming 66 = .ok (.ifCond .ne 7, 3) := by decide +kernel
theorem dX5_isAlarming_69 : decode cX5_isAlarming 69 = .ok (.iconst 1, 1) := by decide +kernel
theorem dX5_isAlarming_70 : decode cX5_isAlarming 70 = .ok (.goto 4, 3) := by decide +kernel
theorem dX5_isAlarming_73 : decode cX5_isAlarming 73 = .ok (.iconst 0, 1) := by decide +kernel
theorem dX5_isAlarming_74 : decode cX5_isAlarming 74 = .ok (.ireturn, 1) := by decide +kernel
theorem dX5_isRare_0 : decode cX5_isRare 0 = .ok (.aload_n 0, 1) := by decide +kernel
theorem dX5_isRare_1 : decode cX5_isRare 1 = .ok (.invokevirtual 155, 3) := by decide +kernel
theorem dX5_isRare_4 : decode cX5_isRare 4 = .ok (.astore 5, 2) := by decide +kernel
theorem dX5_isRare_6 : decode cX5_isRare 6 = .ok (.aload 5, 2) := by decide +kernel
theorem dX5_isRare_8 : decode cX5_isRare 8 = .ok (.aload_n 1, 1) := by decide +kernel
theorem dX5_isRare_9 : decode cX5_isRare 9 = .ok (.iload_n 2, 1) := by decide +kernel
theorem dX5_isRare_10 : decode cX5_isRare 10 = .ok (.invokevirtual 159, 3) := by decide +kernel
theorem dX5_isRare_13 : decode cX5_isRare 13 = .ok (.ifCond .eq 26, 3) := by decide +kernel
theorem dX5_isRare_16 : decode cX5_isRare 16 = .ok (.aload 5, 2) := by decide +kernel
theorem dX5_isRare_18 : decode cX5_isRare 18 = .ok (.getfield 165, 3) := by decide +kernel
theorem dX5_isRare_21 : decode cX5_isRare 21 = .ok (.i2l, 1) := by decide +kernel
theorem dX5_isRare_22 : decode cX5_isRare 22 = .ok (.iload 4, 2) := by decide +kernel
theorem dX5_isRare_24 : decode cX5_isRare 24 = .ok (.i2l, 1) := by decide +kernel
theorem dX5_isRare_25 : decode cX5_isRare 25 = .ok (.lmul, 1) := by decide +kernel
theorem dX5_isRare_26 : decode cX5_isRare 26 = .ok (.iload_n 3, 1) := by decide +kernel
theorem dX5_isRare_27 : decode cX5_isRare 27 = .ok (.i2l, 1) := by decide +kernel
theorem dX5_isRare_28 : decode cX5_isRare 28 = .ok (.aload 5, 2) := by decide +kernel
theorem dX5_isRare_30 : decode cX5_isRare 30 = .ok (.getfield 171, 3) := by decide +kernel
theorem dX5_isRare_33 : decode cX5_isRare 33 = .ok (.i2l, 1) := by decide +kernel
theorem dX5_isRare_34 : decode cX5_isRare 34 = .ok (.lmul, 1) := by decide +kernel
theorem dX5_isRare_35 : decode cX5_isRare 35 = .ok (.lcmp, 1) := by decide +kernel
theorem dX5_isRare_36 : decode cX5_isRare 36 = .ok (.ifCond .gt 7, 3) := by decide +kernel
theorem dX5_isRare_39 : decode cX5_isRare 39 = .ok (.iconst 1, 1) := by decide +kernel
theorem dX5_isRare_40 : decode cX5_isRare 40 = .ok (.goto 4, 3) := by decide +kernel
theorem dX5_isRare_43 : decode cX5_isRare 43 = .ok (.iconst 0, 1) := by decide +kernel
theorem dX5_isRare_44 : decode cX5_isRare 44 = .ok (.ireturn, 1) := by decide +kernel
theorem dX5_keepAlarm_0 : decode cX5_keepAlarm 0 = .ok (.aload_n 0, 1) := by decide +kernel
theorem dX5_keepAlarm_1 : decode cX5_keepAlarm 1 = .ok (.getfield 174, 3) := by decide +kernel
theorem dX5_keepAlarm_4 : decode cX5_keepAlarm 4 = .ok (.sipush 300, 3) := by decide +kernel
theorem dX5_keepAlarm_7 : decode cX5_keepAlarm 7 = .ok (.if_icmp .ge 13, 3) := by decide +kernel
theorem dX5_keepAlarm_10 : decode cX5_keepAlarm 10 = .ok (.aload_n 0, 1) := by decide +kernel
theorem dX5_keepAlarm_11 : decode cX5_keepAlarm 11 = .ok (.getfield 19, 3) := by decide +kernel
theorem dX5_keepAlarm_14 : decode cX5_keepAlarm 14 = .ok (.aload_n 0, 1) := by decide +kernel
theorem dX5_keepAlarm_15 : decode cX5_keepAlarm 15 = .ok (.getfield 174, 3) := by decide +kernel
theorem dX5_keepAlarm_18 : decode cX5_keepAlarm 18 = .ok (.iload_n 1, 1) := by decide +kernel
theorem dX5_keepAlarm_19 : decode cX5_keepAlarm 19 = .ok (.iastore, 1) := by decide +kernel
theorem dX5_keepAlarm_20 : decode cX5_keepAlarm 20 = .ok (.aload_n 0, 1) := by decide +kernel
theorem dX5_keepAlarm_21 : decode cX5_keepAlarm 21 = .ok (.dup, 1) := by decide +kernel
theorem dX5_keepAlarm_22 : decode cX5_keepAlarm 22 = .ok (.getfield 174, 3) := by decide +kernel
theorem dX5_keepAlarm_25 : decode cX5_keepAlarm 25 = .ok (.iconst 1, 1) := by decide +kernel
theorem dX5_keepAlarm_26 : decode cX5_keepAlarm 26 = .ok (.iadd, 1) := by decide +kernel
theorem dX5_keepAlarm_27 : decode cX5_keepAlarm 27 = .ok (.putfield 174, 3) := by decide +kernel
theorem dX5_keepAlarm_30 : decode cX5_keepAlarm 30 = .ok (.return_, 1) := by decide +kernel
theorem dX5_countRows_0 : decode cX5_countRows 0 = .ok (.iconst 0, 1) := by decide +kernel
theorem dX5_countRows_1 : decode cX5_countRows 1 = .ok (.istore_n 1, 1) := by decide +kernel
theorem dX5_countRows_2 : decode cX5_countRows 2 = .ok (.iconst 0, 1) := by decide +kernel
theorem dX5_countRows_3 : decode cX5_countRows 3 = .ok (.istore_n 2, 1) := by decide +kernel
theorem dX5_countRows_4 : decode cX5_countRows 4 = .ok (.iload_n 2, 1) := by decide +kernel
theorem dX5_countRows_5 : decode cX5_countRows 5 = .ok (.aload_n 0, 1) := by decide +kernel
theorem dX5_countRows_6 : decode cX5_countRows 6 = .ok (.getfield 54, 3) := by decide +kernel
theorem dX5_countRows_9 : decode cX5_countRows 9 = .ok (.if_icmp .ge 42, 3) := by decide +kernel
theorem dX5_countRows_12 : decode cX5_countRows 12 = .ok (.iconst 0, 1) := by decide +kernel
theorem dX5_countRows_13 : decode cX5_countRows 13 = .ok (.istore_n 3, 1) := by decide +kernel
theorem dX5_countRows_14 : decode cX5_countRows 14 = .ok (.iload_n 3, 1) := by decide +kernel
theorem dX5_countRows_15 : decode cX5_countRows 15 = .ok (.iconst 4, 1) := by decide +kernel
theorem dX5_countRows_16 : decode cX5_countRows 16 = .ok (.if_icmp .ge 29, 3) := by decide +kernel
theorem dX5_countRows_19 : decode cX5_countRows 19 = .ok (.aload_n 0, 1) := by decide +kernel
theorem dX5_countRows_20 : decode cX5_countRows 20 = .ok (.getfield 11, 3) := by decide +kernel
theorem dX5_countRows_23 : decode cX5_countRows 23 = .ok (.iload_n 2, 1) := by decide +kernel
theorem dX5_countRows_24 : decode cX5_countRows 24 = .ok (.aaload, 1) := by decide +kernel
theorem dX5_countRows_25 : decode cX5_countRows 25 = .ok (.getfield 218, 3) := by decide +kernel
theorem dX5_countRows_28 : decode cX5_countRows 28 = .ok (.iload_n 3, 1) := by decide +kernel
theorem dX5_countRows_29 : decode cX5_countRows 29 = .ok (.aaload, 1) := by decide +kernel
theorem dX5_countRows_30 : decode cX5_countRows 30 = .ok (.getfield 71, 3) := by decide +kernel
theorem dX5_countRows_33 : decode cX5_countRows 33 = .ok (.ifCond .eq 6, 3) := by decide +kernel
theorem dX5_countRows_36 : decode cX5_countRows 36 = .ok (.iinc 1 1, 3) := by decide +kernel
theorem dX5_countRows_39 : decode cX5_countRows 39 = .ok (.iinc 3 1, 3) := by decide +kernel
theorem dX5_countRows_42 : decode cX5_countRows 42 = .ok (.goto (-28), 3) := by decide +kernel
theorem dX5_countRows_45 : decode cX5_countRows 45 = .ok (.iinc 2 1, 3) := by decide +kernel
theorem dX5_countRows_48 : decode cX5_countRows 48 = .ok (.goto (-44), 3) := by decide +kernel
theorem dX5_countRows_51 : decode cX5_countRows 51 = .ok (.iload_n 1, 1) := by decide +kernel
theorem dX5_countRows_52 : decode cX5_countRows 52 = .ok (.ireturn, 1) := by decide +kernel
