theorem dX6_init_0 : decode cX6_init 0 = .ok (.aload_n 0, 1) := by decide +kernel
theorem dX6_init_1 : decode cX6_init 1 = .ok (.invokespecial 1, 3) := by decide +kernel
theorem dX6_init_4 : decode cX6_init 4 = .ok (.aload_n 0, 1) := by decide +kernel
theorem dX6_init_5 : decode cX6_init 5 = .ok (.bipush 6, 2) := by decide +kernel
theorem dX6_init_7 : decode cX6_init 7 = .ok (.newarray .int, 2) := by decide +kernel
theorem dX6_init_9 : decode cX6_init 9 = .ok (.putfield 7, 3) := by decide +kernel
theorem dX6_init_12 : decode cX6_init 12 = .ok (.aload_n 0, 1) := by decide +kernel
theorem dX6_init_13 : decode cX6_init 13 = .ok (.bipush 8, 2) := by decide +kernel
theorem dX6_init_15 : decode cX6_init 15 = .ok (.newarray .int, 2) := by decide +kernel
theorem dX6_init_17 : decode cX6_init 17 = .ok (.putfield 13, 3) := by decide +kernel
theorem dX6_init_20 : decode cX6_init 20 = .ok (.aload_n 0, 1) := by decide +kernel
theorem dX6_init_21 : decode cX6_init 21 = .ok (.bipush 32, 2) := by decide +kernel
theorem dX6_init_23 : decode cX6_init 23 = .ok (.newarray .boolean, 2) := by decide +kernel
theorem dX6_init_25 : decode cX6_init 25 = .ok (.putfield 16, 3) := by decide +kernel
theorem dX6_init_28 : decode cX6_init 28 = .ok (.aload_n 0, 1) := by decide +kernel
theorem dX6_init_29 : decode cX6_init 29 = .ok (.sipush 1280, 3) := by decide +kernel
theorem dX6_init_32 : decode cX6_init 32 = .ok (.newarray .int, 2) := by decide +kernel
theorem dX6_init_34 : decode cX6_init 34 = .ok (.putfield 20, 3) := by decide +kernel
theorem dX6_init_37 : decode cX6_init 37 = .ok (.aload_n 0, 1) := by decide +kernel
theorem dX6_init_38 : decode cX6_init 38 = .ok (.bipush 40, 2) := by decide +kernel
theorem dX6_init_40 : decode cX6_init 40 = .ok (.newarray .int, 2) := by decide +kernel
theorem dX6_init_42 : decode cX6_init 42 = .ok (.putfield 23, 3) := by decide +kernel
theorem dX6_init_45 : decode cX6_init 45 = .ok (.aload_n 0, 1) := by decide +kernel
theorem dX6_init_46 : decode cX6_init 46 = .ok (.bipush 40, 2) := by decide +kernel
theorem dX6_init_48 : decode cX6_init 48 = .ok (.newarray .int, 2) := by decide +kernel
theorem dX6_init_50 : decode cX6_init 50 = .ok (.putfield 26, 3) := by decide +kernel
theorem dX6_init_53 : decode cX6_init 53 = .ok (.aload_n 0, 1) := by decide +kernel
theorem dX6_init_54 : decode cX6_init 54 = .ok (.bipush 40, 2) := by decide +kernel
theorem dX6_init_56 : decode cX6_init 56 = .ok (.newarray .int, 2) := by decide +kernel
theorem dX6_init_58 : decode cX6_init 58 = .ok (.putfield 29, 3) := by decide +kernel
theorem dX6_init_61 : decode cX6_init 61 = .ok (.aload_n 0, 1) := by decide +kernel
theorem dX6_init_62 : decode cX6_init 62 = .ok (.bipush 40, 2) := by decide +kernel
theorem dX6_init_64 : decode cX6_init 64 = .ok (.newarray .int, 2) := by decide +kernel
theorem dX6_init_66 : decode cX6_init 66 = .ok (.putfield 32, 3) := by decide +kernel
theorem dX6_init_69 : decode cX6_init 69 = .ok (.aload_n 0, 1) := by decide +kernel
theorem dX6_init_70 : decode cX6_init 70 = .ok (.bipush 41, 2) := by decide +kernel
theorem dX6_init_72 : decode cX6_init 72 = .ok (.newarray .int, 2) := by decide +kernel
theorem dX6_init_74 : decode cX6_init 74 = .ok (.putfield 35, 3) := by decide +kernel
theorem dX6_init_77 : decode cX6_init 77 = .ok (.aload_n 0, 1) := by decide +kernel
theorem dX6_init_78 : decode cX6_init 78 = .ok (.bipush 41, 2) := by decide +kernel
theorem dX6_init_80 : decode cX6_init 80 = .ok (.newarray .int, 2) := by decide +kernel
theorem dX6_init_82 : decode cX6_init 82 = .ok (.putfield 38, 3) := by decide +kernel
theorem dX6_init_85 : decode cX6_init 85 = .ok (.aload_n 0, 1) := by decide +kernel
theorem dX6_init_86 : decode cX6_init 86 = .ok (.bipush 41, 2) := by decide +kernel
theorem dX6_init_88 : decode cX6_init 88 = .ok (.newarray .int, 2) := by decide +kernel
theorem dX6_init_90 : decode cX6_init 90 = .ok (.putfield 41, 3) := by decide +kernel
theorem dX6_init_93 : decode cX6_init 93 = .ok (.aload_n 0, 1) := by decide +kernel
theorem dX6_init_94 : decode cX6_init 94 = .ok (.bipush 41, 2) := by decide +kernel
theorem dX6_init_96 : decode cX6_init 96 = .ok (.newarray .int, 2) := by decide +kernel
theorem dX6_init_98 : decode cX6_init 98 = .ok (.putfield 44, 3) := by decide +kernel
theorem dX6_init_101 : decode cX6_init 101 = .ok (.aload_n 0, 1) := by decide +kernel
theorem dX6_init_102 : decode cX6_init 102 = .ok (.bipush 40, 2) := by decide +kernel
theorem dX6_init_104 : decode cX6_init 104 = .ok (.newarray .int, 2) := by decide +kernel
theorem dX6_init_106 : decode cX6_init 106 = .ok (.putfield 47, 3) := by decide +kernel
theorem dX6_init_109 : decode cX6_init 109 = .ok (.aload_n 0, 1) := by decide +kernel
theorem dX6_init_110 : decode cX6_init 110 = .ok (.bipush 40, 2) := by decide +kernel
theorem dX6_init_112 : decode cX6_init 112 = .ok (.newarray .int, 2) := by decide +kernel
theorem dX6_init_114 : decode cX6_init 114 = .ok (.putfield 50, 3) := by decide +kernel
theorem dX6_init_117 : decode cX6_init 117 = .ok (.aload_n 0, 1) := by decide +kernel
theorem dX6_init_118 : decode cX6_init 118 = .ok (.bipush 40, 2) := by decide +kernel
theorem dX6_init_120 : decode cX6_init 120 = .ok (.newarray .int, 2) := by decide +kernel
theorem dX6_init_122 : decode cX6_init 122 = .ok (.putfield 53, 3) := by decide +kernel
theorem dX6_init_125 : decode cX6_init 125 = .ok (.aload_n 0, 1) := by decide +kernel
theorem dX6_init_126 : decode cX6_init 126 = .ok (.bipush 40, 2) := by decide +kernel
theorem dX6_init_128 : decode cX6_init 128 = .ok (.newarray .boolean, 2) := by decide +kernel
theorem dX6_init_130 : decode cX6_init 130 = .ok (.putfield 56, 3) := by decide +kernel
theorem dX6_init_133 : decode cX6_init 133 = .ok (.aload_n 0, 1) := by decide +kernel
theorem dX6_init_134 : decode cX6_init 134 = .ok (.ldc 59, 2) := by decide +kernel
theorem dX6_init_136 : decode cX6_init 136 = .ok (.newarray .long, 2) := by decide +kernel
theorem dX6_init_138 : decode cX6_init 138 = .ok (.putfield 60, 3) := by decide +kernel
theorem dX6_init_141 : decode cX6_init 141 = .ok (.aload_n 0, 1) := by decide +kernel
theorem dX6_init_142 : decode cX6_init 142 = .ok (.sipush 300, 3) := by decide +kernel
theorem dX6_init_145 : decode cX6_init 145 = .ok (.newarray .int, 2) := by decide +kernel
theorem dX6_init_147 : decode cX6_init 147 = .ok (.putfield 64, 3) := by decide +kernel
theorem dX6_init_150 : decode cX6_init 150 = .ok (.aload_n 0, 1) := by decide +kernel
theorem dX6_init_151 : decode cX6_init 151 = .ok (.sipush 1280, 3) := by decide +kernel
theorem dX6_init_154 : decode cX6_init 154 = .ok (.newarray .boolean, 2) := by decide +kernel
theorem dX6_init_156 : decode cX6_init 156 = .ok (.putfield 67, 3) := by decide +kernel
theorem dX6_init_159 : decode cX6_init 159 = .ok (.aload_n 0, 1) := by decide +kernel
theorem dX6_init_160 : decode cX6_init 160 = .ok (.bipush 20, 2) := by decide +kernel
theorem dX6_init_162 : decode cX6_init 162 = .ok (.putfield 70, 3) := by decide +kernel
theorem dX6_init_165 : decode cX6_init 165 = .ok (.aload_n 0, 1) := by decide +kernel
theorem dX6_init_166 : decode cX6_init 166 = .ok (.iconst 1, 1) := by decide +kernel
theorem dX6_init_167 : decode cX6_init 167 = .ok (.putfield 74, 3) := by decide +kernel
theorem dX6_init_170 : decode cX6_init 170 = .ok (.aload_n 0, 1) := by decide +kernel
theorem dX6_init_171 : decode cX6_init 171 = .ok (.lconst 1, 1) := by decide +kernel
theorem dX6_init_172 : decode cX6_init 172 = .ok (.putfield 77, 3) := by decide +kernel
theorem dX6_init_175 : decode cX6_init 175 = .ok (.return_, 1) := by decide +kernel
theorem dX6_in_0 : decode cX6_in 0 = .ok (.iload_n 0, 1) := by decide +kernel
theorem dX6_in_1 : decode cX6_in 1 = .ok (.iload_n 1, 1) := by decide +kernel
theorem dX6_in_2 : decode cX6_in 2 = .ok (.if_icmp .lt 12, 3) := by decide +kernel
theorem dX6_in_5 : decode cX6_in 5 = .ok (.iload_n 0, 1) := by decide +kernel
theorem dX6_in_6 : decode cX6_in 6 = .ok (.iload_n 2, 1) := by decide +kernel
theorem dX6_in_7 : decode cX6_in 7 = .ok (.if_icmp .gt 7, 3) := by decide +kernel
theorem dX6_in_10 : decode cX6_in 10 = .ok (.iconst 1, 1) := by decide +kernel
theorem dX6_in_11 : decode cX6_in 11 = .ok (.goto 4, 3) := by decide +kernel
theorem dX6_in_14 : decode cX6_in 14 = .ok (.iconst 0, 1) := by decide +kernel
theorem dX6_in_15 : decode cX6_in 15 = .ok (.ireturn, 1) := by decide +kernel
theorem dX6_meets_0 : decode cX6_meets 0 = .ok (.aload_n 0, 1) := by decide +kernel
theorem dX6_meets_1 : decode cX6_meets 1 = .ok (.iload_n 1, 1) := by decide +kernel
theorem dX6_meets_2 : decode cX6_meets 2 = .ok (.putfield 81, 3) := by decide +kernel
theorem dX6_meets_5 : decode cX6_meets 5 = .ok (.aload_n 0, 1) := by decide +kernel
theorem dX6_meets_6 : decode cX6_meets 6 = .ok (.getfield 7, 3) := by decide +kernel
theorem dX6_meets_9 : decode cX6_meets 9 = .ok (.iload_n 1, 1) := by decide +kernel
theorem dX6_meets_10 : decode cX6_meets 10 = .ok (.dup2, 1) := by decide +kernel
theorem dX6_meets_11 : decode cX6_meets 11 = .ok (.iaload, 1) := by decide +kernel
theorem dX6_meets_12 : decode cX6_meets 12 = .ok (.iconst 1, 1) := by decide +kernel
theorem dX6_meets_13 : decode cX6_meets 13 = .ok (.iadd, 1) := by decide +kernel
theorem dX6_meets_14 : decode cX6_meets 14 = .ok (.iastore, 1) := by decide +kernel
theorem dX6_meets_15 : decode cX6_meets 15 = .ok (.bipush (-3), 2) := by decide +kernel
theorem dX6_meets_17 : decode cX6_meets 17 = .ok (.ireturn, 1) := by decide +kernel
theorem dX6_finding_0 : decode cX6_finding 0 = .ok (.aload_n 0, 1) := by decide +kernel
theorem dX6_finding_1 : decode cX6_finding 1 = .ok (.getfield 81, 3) := by decide +kernel
theorem dX6_finding_4 : decode cX6_finding 4 = .ok (.ireturn, 1) := by decide +kernel
theorem dX6_findings_0 : decode cX6_findings 0 = .ok (.iload_n 1, 1) := by decide +kernel
theorem dX6_findings_1 : decode cX6_findings 1 = .ok (.iconst 1, 1) := by decide +kernel
theorem dX6_findings_2 : decode cX6_findings 2 = .ok (.iconst 5, 1) := by decide +kernel
theorem dX6_findings_3 : decode cX6_findings 3 = .ok (.invokestatic 84, 3) := by decide +kernel
theorem dX6_findings_6 : decode cX6_findings 6 = .ok (.ifCond .eq 12, 3) := by decide +kernel
theorem dX6_findings_9 : decode cX6_findings 9 = .ok (.aload_n 0, 1) := by decide +kernel
theorem dX6_findings_10 : decode cX6_findings 10 = .ok (.getfield 7, 3) := by decide +kernel
theorem dX6_findings_13 : decode cX6_findings 13 = .ok (.iload_n 1, 1) := by decide +kernel
theorem dX6_findings_14 : decode cX6_findings 14 = .ok (.iaload, 1) := by decide +kernel
theorem dX6_findings_15 : decode cX6_findings 15 = .ok (.goto 4, 3) := by decide +kernel
theorem dX6_findings_18 : decode cX6_findings 18 = .ok (.iconst (-1), 1) := by decide +kernel
theorem dX6_findings_19 : decode cX6_findings 19 = .ok (.ireturn, 1) := by decide +kernel
theorem dX6_asked_0 : decode cX6_asked 0 = .ok (.aload_n 0, 1) := by decide +kernel
theorem dX6_asked_1 : decode cX6_asked 1 = .ok (.getfield 88, 3) := by decide +kernel
theorem dX6_asked_4 : decode cX6_asked 4 = .ok (.lreturn, 1) := by decide +kernel
theorem dX6_builds_0 : decode cX6_builds 0 = .ok (.iload_n 1, 1) := by decide +kernel
theorem dX6_builds_1 : decode cX6_builds 1 = .ok (.aload_n 0, 1) := by decide +kernel
theorem dX6_builds_2 : decode cX6_builds 2 = .ok (.getfield 91, 3) := by decide +kernel
theorem dX6_builds_5 : decode cX6_builds 5 = .ok (.bipush 40, 2) := by decide +kernel
theorem dX6_builds_7 : decode cX6_builds 7 = .ok (.invokestatic 84, 3) := by decide +kernel
theorem dX6_builds_10 : decode cX6_builds 10 = .ok (.ifCond .ne 5, 3) := by decide +kernel
theorem dX6_builds_13 : decode cX6_builds 13 = .ok (.iconst (-1), 1) := by decide +kernel
theorem dX6_builds_14 : decode cX6_builds 14 = .ok (.ireturn, 1) := by decide +kernel
theorem dX6_builds_15 : decode cX6_builds 15 = .ok (.aload_n 0, 1) := by decide +kernel
theorem dX6_builds_16 : decode cX6_builds 16 = .ok (.iload_n 1, 1) := by decide +kernel
theorem dX6_builds_17 : decode cX6_builds 17 = .ok (.putfield 91, 3) := by decide +kernel
theorem dX6_builds_20 : decode cX6_builds 20 = .ok (.iload_n 1, 1) := by decide +kernel
theorem dX6_builds_21 : decode cX6_builds 21 = .ok (.ireturn, 1) := by decide +kernel
theorem dX6_isTest_0 : decode cX6_isTest 0 = .ok (.iload_n 1, 1) := by decide +kernel
theorem dX6_isTest_1 : decode cX6_isTest 1 = .ok (.iconst 0, 1) := by decide +kernel
theorem dX6_isTest_2 : decode cX6_isTest 2 = .ok (.aload_n 0, 1) := by decide +kernel
theorem dX6_isTest_3 : decode cX6_isTest 3 = .ok (.getfield 94, 3) := by decide +kernel
theorem dX6_isTest_6 : decode cX6_isTest 6 = .ok (.iconst 1, 1) := by decide +kernel
theorem dX6_isTest_7 : decode cX6_isTest 7 = .ok (.isub, 1) := by decide +kernel
theorem dX6_isTest_8 : decode cX6_isTest 8 = .ok (.invokestatic 84, 3) := by decide +kernel
theorem dX6_isTest_11 : decode cX6_isTest 11 = .ok (.ireturn, 1) := by decide +kernel
theorem dX6_isRow_0 : decode cX6_isRow 0 = .ok (.aload_n 0, 1) := by decide +kernel
theorem dX6_isRow_1 : decode cX6_isRow 1 = .ok (.iload_n 1, 1) := by decide +kernel
theorem dX6_isRow_2 : decode cX6_isRow 2 = .ok (.invokevirtual 97, 3) := by decide +kernel
theorem dX6_isRow_5 : decode cX6_isRow 5 = .ok (.ifCond .eq 16, 3) := by decide +kernel
theorem dX6_isRow_8 : decode cX6_isRow 8 = .ok (.iload_n 2, 1) := by decide +kernel
theorem dX6_isRow_9 : decode cX6_isRow 9 = .ok (.iconst 0, 1) := by decide +kernel
theorem dX6_isRow_10 : decode cX6_isRow 10 = .ok (.iconst 3, 1) := by decide +kernel
theorem dX6_isRow_11 : decode cX6_isRow 11 = .ok (.invokestatic 84, 3) := by decide +kernel
theorem dX6_isRow_14 : decode cX6_isRow 14 = .ok (.ifCond .eq 7, 3) := by decide +kernel
theorem dX6_isRow_17 : decode cX6_isRow 17 = .ok (.iconst 1, 1) := by decide +kernel
theorem dX6_isRow_18 : decode cX6_isRow 18 = .ok (.goto 4, 3) := by decide +kernel
theorem dX6_isRow_21 : decode cX6_isRow 21 = .ok (.iconst 0, 1) := by decide +kernel
theorem dX6_isRow_22 : decode cX6_isRow 22 = .ok (.ireturn, 1) := by decide +kernel
theorem dX6_test_0 : decode cX6_test 0 = .ok (.iload_n 1, 1) := by decide +kernel
theorem dX6_test_1 : decode cX6_test 1 = .ok (.iconst 0, 1) := by decide +kernel
theorem dX6_test_2 : decode cX6_test 2 = .ok (.iconst 2, 1) := by decide +kernel
theorem dX6_test_3 : decode cX6_test 3 = .ok (.invokestatic 84, 3) := by decide +kernel
theorem dX6_test_6 : decode cX6_test 6 = .ok (.ifCond .ne 5, 3) := by decide +kernel
theorem dX6_test_9 : decode cX6_test 9 = .ok (.iconst (-1), 1) := by decide +kernel
theorem dX6_test_10 : decode cX6_test 10 = .ok (.ireturn, 1) := by decide +kernel
theorem dX6_test_11 : decode cX6_test 11 = .ok (.aload_n 0, 1) := by decide +kernel
theorem dX6_test_12 : decode cX6_test 12 = .ok (.getfield 94, 3) := by decide +kernel
theorem dX6_test_15 : decode cX6_test 15 = .ok (.bipush 8, 2) := by decide +kernel
theorem dX6_test_17 : decode cX6_test 17 = .ok (.if_icmp .ne 6, 3) := by decide +kernel
theorem dX6_test_20 : decode cX6_test 20 = .ok (.bipush (-2), 2) := by decide +kernel
theorem dX6_test_22 : decode cX6_test 22 = .ok (.ireturn, 1) := by decide +kernel
theorem dX6_test_23 : decode cX6_test 23 = .ok (.aload_n 0, 1) := by decide +kernel
theorem dX6_test_24 : decode cX6_test 24 = .ok (.getfield 13, 3) := by decide +kernel
theorem dX6_test_27 : decode cX6_test 27 = .ok (.aload_n 0, 1) := by decide +kernel
theorem dX6_test_28 : decode cX6_test 28 = .ok (.getfield 94, 3) := by decide +kernel
theorem dX6_test_31 : decode cX6_test 31 = .ok (.iload_n 1, 1) := by decide +kernel
theorem dX6_test_32 : decode cX6_test 32 = .ok (.iastore, 1) := by decide +kernel
theorem dX6_test_33 : decode cX6_test 33 = .ok (.aload_n 0, 1) := by decide +kernel
theorem dX6_test_34 : decode cX6_test 34 = .ok (.dup, 1) := by decide +kernel
theorem dX6_test_35 : decode cX6_test 35 = .ok (.getfield 94, 3) := by decide +kernel
theorem dX6_test_38 : decode cX6_test 38 = .ok (.iconst 1, 1) := by decide +kernel
theorem dX6_test_39 : decode cX6_test 39 = .ok (.iadd, 1) := by decide +kernel
theorem dX6_test_40 : decode cX6_test 40 = .ok (.putfield 94, 3) := by decide +kernel
theorem dX6_test_43 : decode cX6_test 43 = .ok (.aload_n 0, 1) := by decide +kernel
theorem dX6_test_44 : decode cX6_test 44 = .ok (.getfield 94, 3) := by decide +kernel
theorem dX6_test_47 : decode cX6_test 47 = .ok (.iconst 1, 1) := by decide +kernel
theorem dX6_test_48 : decode cX6_test 48 = .ok (.isub, 1) := by decide +kernel
theorem dX6_test_49 : decode cX6_test 49 = .ok (.ireturn, 1) := by decide +kernel
theorem dX6_is_0 : decode cX6_is 0 = .ok (.aload_n 0, 1) := by decide +kernel
theorem dX6_is_1 : decode cX6_is 1 = .ok (.iload_n 1, 1) := by decide +kernel
theorem dX6_is_2 : decode cX6_is 2 = .ok (.invokevirtual 97, 3) := by decide +kernel
theorem dX6_is_5 : decode cX6_is 5 = .ok (.ifCond .eq 12, 3) := by decide +kernel
theorem dX6_is_8 : decode cX6_is 8 = .ok (.iload_n 2, 1) := by decide +kernel
theorem dX6_is_9 : decode cX6_is 9 = .ok (.iconst 0, 1) := by decide +kernel
theorem dX6_is_10 : decode cX6_is 10 = .ok (.iconst 2, 1) := by decide +kernel
theorem dX6_is_11 : decode cX6_is 11 = .ok (.invokestatic 84, 3) := by decide +kernel
theorem dX6_is_14 : decode cX6_is 14 = .ok (.ifCond .ne 7, 3) := by decide +kernel
theorem dX6_is_17 : decode cX6_is 17 = .ok (.iconst (-1), 1) := by decide +kernel
theorem dX6_is_18 : decode cX6_is 18 = .ok (.goto 22, 3) := by decide +kernel
theorem dX6_is_21 : decode cX6_is 21 = .ok (.iload_n 2, 1) := by decide +kernel
theorem dX6_is_22 : decode cX6_is 22 = .ok (.ifCond .eq 13, 3) := by decide +kernel
theorem dX6_is_25 : decode cX6_is 25 = .ok (.aload_n 0, 1) := by decide +kernel
theorem dX6_is_26 : decode cX6_is 26 = .ok (.getfield 13, 3) := by decide +kernel
theorem dX6_is_29 : decode cX6_is 29 = .ok (.iload_n 1, 1) := by decide +kernel
theorem dX6_is_30 : decode cX6_is 30 = .ok (.iaload, 1) := by decide +kernel
theorem dX6_is_31 : decode cX6_is 31 = .ok (.iload_n 2, 1) := by decide +kernel
theorem dX6_is_32 : decode cX6_is 32 = .ok (.if_icmp .ne 7, 3) := by decide +kernel
theorem dX6_is_35 : decode cX6_is 35 = .ok (.iconst 1, 1) := by decide +kernel
theorem dX6_is_36 : decode cX6_is 36 = .ok (.goto 4, 3) := by decide +kernel
theorem dX6_is_39 : decode cX6_is 39 = .ok (.iconst 0, 1) := by decide +kernel
theorem dX6_is_40 : decode cX6_is 40 = .ok (.ireturn, 1) := by decide +kernel
theorem dX6_row_0 : decode cX6_row 0 = .ok (.aload_n 0, 1) := by decide +kernel
theorem dX6_row_1 : decode cX6_row 1 = .ok (.iload_n 1, 1) := by decide +kernel
theorem dX6_row_2 : decode cX6_row 2 = .ok (.iload_n 2, 1) := by decide +kernel
theorem dX6_row_3 : decode cX6_row 3 = .ok (.invokevirtual 101, 3) := by decide +kernel
theorem dX6_row_6 : decode cX6_row 6 = .ok (.ifCond .ne 5, 3) := by decide +kernel
theorem dX6_row_9 : decode cX6_row 9 = .ok (.iconst (-1), 1) := by decide +kernel
theorem dX6_row_10 : decode cX6_row 10 = .ok (.ireturn, 1) := by decide +kernel
theorem dX6_row_11 : decode cX6_row 11 = .ok (.iconst 4, 1) := by decide +kernel
theorem dX6_row_12 : decode cX6_row 12 = .ok (.iload_n 1, 1) := by decide +kernel
theorem dX6_row_13 : decode cX6_row 13 = .ok (.imul, 1) := by decide +kernel
theorem dX6_row_14 : decode cX6_row 14 = .ok (.iload_n 2, 1) := by decide +kernel
theorem dX6_row_15 : decode cX6_row 15 = .ok (.iadd, 1) := by decide +kernel
theorem dX6_row_16 : decode cX6_row 16 = .ok (.istore_n 3, 1) := by decide +kernel
theorem dX6_row_17 : decode cX6_row 17 = .ok (.aload_n 0, 1) := by decide +kernel
theorem dX6_row_18 : decode cX6_row 18 = .ok (.getfield 16, 3) := by decide +kernel
theorem dX6_row_21 : decode cX6_row 21 = .ok (.iload_n 3, 1) := by decide +kernel
theorem dX6_row_22 : decode cX6_row 22 = .ok (.baload, 1) := by decide +kernel
theorem dX6_row_23 : decode cX6_row 23 = .ok (.ifCond .eq 7, 3) := by decide +kernel
theorem dX6_row_26 : decode cX6_row 26 = .ok (.iconst 1, 1) := by decide +kernel
theorem dX6_row_27 : decode cX6_row 27 = .ok (.goto 4, 3) := by decide +kernel
theorem dX6_row_30 : decode cX6_row 30 = .ok (.iconst 0, 1) := by decide +kernel
theorem dX6_row_31 : decode cX6_row 31 = .ok (.istore 4, 2) := by decide +kernel
theorem dX6_row_33 : decode cX6_row 33 = .ok (.aload_n 0, 1) := by decide +kernel
theorem dX6_row_34 : decode cX6_row 34 = .ok (.getfield 16, 3) := by decide +kernel
theorem dX6_row_37 : decode cX6_row 37 = .ok (.iload_n 3, 1) := by decide +kernel
theorem dX6_row_38 : decode cX6_row 38 = .ok (.iconst 1, 1) := by decide +kernel
theorem dX6_row_39 : decode cX6_row 39 = .ok (.bastore, 1) := by decide +kernel
theorem dX6_row_40 : decode cX6_row 40 = .ok (.iconst 0, 1) := by decide +kernel
theorem dX6_row_41 : decode cX6_row 41 = .ok (.istore 5, 2) := by decide +kernel
theorem dX6_row_43 : decode cX6_row 43 = .ok (.iload 5, 2) := by decide +kernel
theorem dX6_row_45 : decode cX6_row 45 = .ok (.bipush 40, 2) := by decide +kernel
theorem dX6_row_47 : decode cX6_row 47 = .ok (.if_icmp .ge 23, 3) := by decide +kernel
theorem dX6_row_50 : decode cX6_row 50 = .ok (.aload_n 0, 1) := by decide +kernel
theorem dX6_row_51 : decode cX6_row 51 = .ok (.getfield 20, 3) := by decide +kernel
theorem dX6_row_54 : decode cX6_row 54 = .ok (.bipush 40, 2) := by decide +kernel
theorem dX6_row_56 : decode cX6_row 56 = .ok (.iload_n 3, 1) := by decide +kernel
theorem dX6_row_57 : decode cX6_row 57 = .ok (.imul, 1) := by decide +kernel
theorem dX6_row_58 : decode cX6_row 58 = .ok (.iload 5, 2) := by decide +kernel
theorem dX6_row_60 : decode cX6_row 60 = .ok (.iadd, 1) := by decide +kernel
theorem dX6_row_61 : decode cX6_row 61 = .ok (.bipush (-9), 2) := by decide +kernel
theorem dX6_row_63 : decode cX6_row 63 = .ok (.iastore, 1) := by decide +kernel
theorem dX6_row_64 : decode cX6_row 64 = .ok (.iinc 5 1, 3) := by decide +kernel
theorem dX6_row_67 : decode cX6_row 67 = .ok (.goto (-24), 3) := by decide +kernel
theorem dX6_row_70 : decode cX6_row 70 = .ok (.iload 4, 2) := by decide +kernel
theorem dX6_row_72 : decode cX6_row 72 = .ok (.ireturn, 1) := by decide +kernel
theorem dX6_lay_0 : decode cX6_lay 0 = .ok (.aload_n 0, 1) := by decide +kernel
theorem dX6_lay_1 : decode cX6_lay 1 = .ok (.iload_n 1, 1) := by decide +kernel
theorem dX6_lay_2 : decode cX6_lay 2 = .ok (.iload_n 2, 1) := by decide +kernel
theorem dX6_lay_3 : decode cX6_lay 3 = .ok (.invokevirtual 101, 3) := by decide +kernel
theorem dX6_lay_6 : decode cX6_lay 6 = .ok (.ifCond .eq 21, 3) := by decide +kernel
theorem dX6_lay_9 : decode cX6_lay 9 = .ok (.iload 4, 2) := by decide +kernel
theorem dX6_lay_11 : decode cX6_lay 11 = .ok (.bipush (-9), 2) := by decide +kernel
theorem dX6_lay_13 : decode cX6_lay 13 = .ok (.if_icmp .eq 16, 3) := by decide +kernel
theorem dX6_lay_16 : decode cX6_lay 16 = .ok (.iload 4, 2) := by decide +kernel
theorem dX6_lay_18 : decode cX6_lay 18 = .ok (.iconst 0, 1) := by decide +kernel
theorem dX6_lay_19 : decode cX6_lay 19 = .ok (.ldc 105, 2) := by decide +kernel
theorem dX6_lay_21 : decode cX6_lay 21 = .ok (.invokestatic 84, 3) := by decide +kernel
theorem dX6_lay_24 : decode cX6_lay 24 = .ok (.ifCond .ne 5, 3) := by decide +kernel
theorem dX6_lay_27 : decode cX6_lay 27 = .ok (.iconst (-1), 1) := by decide +kernel
theorem dX6_lay_28 : decode cX6_lay 28 = .ok (.ireturn, 1) := by decide +kernel
theorem dX6_lay_29 : decode cX6_lay 29 = .ok (.iconst 4, 1) := by decide +kernel
theorem dX6_lay_30 : decode cX6_lay 30 = .ok (.iload_n 1, 1) := by decide +kernel
theorem dX6_lay_31 : decode cX6_lay 31 = .ok (.imul, 1) := by decide +kernel
theorem dX6_lay_32 : decode cX6_lay 32 = .ok (.iload_n 2, 1) := by decide +kernel
theorem dX6_lay_33 : decode cX6_lay 33 = .ok (.iadd, 1) := by decide +kernel
theorem dX6_lay_34 : decode cX6_lay 34 = .ok (.istore 5, 2) := by decide +kernel
theorem dX6_lay_36 : decode cX6_lay 36 = .ok (.aload_n 0, 1) := by decide +kernel
theorem dX6_lay_37 : decode cX6_lay 37 = .ok (.getfield 16, 3) := by decide +kernel
theorem dX6_lay_40 : decode cX6_lay 40 = .ok (.iload 5, 2) := by decide +kernel
theorem dX6_lay_42 : decode cX6_lay 42 = .ok (.baload, 1) := by decide +kernel
theorem dX6_lay_43 : decode cX6_lay 43 = .ok (.ifCond .ne 9, 3) := by decide +kernel
theorem dX6_lay_46 : decode cX6_lay 46 = .ok (.aload_n 0, 1) := by decide +kernel
theorem dX6_lay_47 : decode cX6_lay 47 = .ok (.iconst 1, 1) := by decide +kernel
theorem dX6_lay_48 : decode cX6_lay 48 = .ok (.invokevirtual 106, 3) := by decide +kernel
theorem dX6_lay_51 : decode cX6_lay 51 = .ok (.ireturn, 1) := by decide +kernel
theorem dX6_lay_52 : decode cX6_lay 52 = .ok (.iload_n 3, 1) := by decide +kernel
theorem dX6_lay_53 : decode cX6_lay 53 = .ok (.iconst 0, 1) := by decide +kernel
theorem dX6_lay_54 : decode cX6_lay 54 = .ok (.bipush 39, 2) := by decide +kernel
theorem dX6_lay_56 : decode cX6_lay 56 = .ok (.invokestatic 84, 3) := by decide +kernel
theorem dX6_lay_59 : decode cX6_lay 59 = .ok (.ifCond .ne 9, 3) := by decide +kernel
theorem dX6_lay_62 : decode cX6_lay 62 = .ok (.aload_n 0, 1) := by decide +kernel
theorem dX6_lay_63 : decode cX6_lay 63 = .ok (.iconst 2, 1) := by decide +kernel
theorem dX6_lay_64 : decode cX6_lay 64 = .ok (.invokevirtual 106, 3) := by decide +kernel
theorem dX6_lay_67 : decode cX6_lay 67 = .ok (.ireturn, 1) := by decide +kernel
theorem dX6_lay_68 : decode cX6_lay 68 = .ok (.aload_n 0, 1) := by decide +kernel
theorem dX6_lay_69 : decode cX6_lay 69 = .ok (.getfield 20, 3) := by decide +kernel
theorem dX6_lay_72 : decode cX6_lay 72 = .ok (.bipush 40, 2) := by decide +kernel
theorem dX6_lay_74 : decode cX6_lay 74 = .ok (.iload 5, 2) := by decide +kernel
theorem dX6_lay_76 : decode cX6_lay 76 = .ok (.imul, 1) := by decide +kernel
theorem dX6_lay_77 : decode cX6_lay 77 = .ok (.iload_n 3, 1) := by decide +kernel
theorem dX6_lay_78 : decode cX6_lay 78 = .ok (.iadd, 1) := by decide +kernel
theorem dX6_lay_79 : decode cX6_lay 79 = .ok (.iaload, 1) := by decide +kernel
theorem dX6_lay_80 : decode cX6_lay 80 = .ok (.istore 6, 2) := by decide +kernel
theorem dX6_lay_82 : decode cX6_lay 82 = .ok (.aload_n 0, 1) := by decide +kernel
theorem dX6_lay_83 : decode cX6_lay 83 = .ok (.getfield 20, 3) := by decide +kernel
theorem dX6_lay_86 : decode cX6_lay 86 = .ok (.bipush 40, 2) := by decide +kernel
theorem dX6_lay_88 : decode cX6_lay 88 = .ok (.iload 5, 2) := by decide +kernel
theorem dX6_lay_90 : decode cX6_lay 90 = .ok (.imul, 1) := by decide +kernel
theorem dX6_lay_91 : decode cX6_lay 91 = .ok (.iload_n 3, 1) := by decide +kernel
theorem dX6_lay_92 : decode cX6_lay 92 = .ok (.iadd, 1) := by decide +kernel
theorem dX6_lay_93 : decode cX6_lay 93 = .ok (.iload 4, 2) := by decide +kernel
theorem dX6_lay_95 : decode cX6_lay 95 = .ok (.iastore, 1) := by decide +kernel
theorem dX6_lay_96 : decode cX6_lay 96 = .ok (.iload 6, 2) := by decide +kernel
theorem dX6_lay_98 : decode cX6_lay 98 = .ok (.ireturn, 1) := by decide +kernel
theorem dX6_at_0 : decode cX6_at 0 = .ok (.aload_n 0, 1) := by decide +kernel
theorem dX6_at_1 : decode cX6_at 1 = .ok (.iload_n 1, 1) := by decide +kernel
theorem dX6_at_2 : decode cX6_at 2 = .ok (.iload_n 2, 1) := by decide +kernel
theorem dX6_at_3 : decode cX6_at 3 = .ok (.invokevirtual 101, 3) := by decide +kernel
theorem dX6_at_6 : decode cX6_at 6 = .ok (.ifCond .ne 5, 3) := by decide +kernel
theorem dX6_at_9 : decode cX6_at 9 = .ok (.iconst (-1), 1) := by decide +kernel
theorem dX6_at_10 : decode cX6_at 10 = .ok (.ireturn, 1) := by decide +kernel
theorem dX6_at_11 : decode cX6_at 11 = .ok (.iconst 4, 1) := by decide +kernel
theorem dX6_at_12 : decode cX6_at 12 = .ok (.iload_n 1, 1) := by decide +kernel
theorem dX6_at_13 : decode cX6_at 13 = .ok (.imul, 1) := by decide +kernel
theorem dX6_at_14 : decode cX6_at 14 = .ok (.iload_n 2, 1) := by decide +kernel
theorem dX6_at_15 : decode cX6_at 15 = .ok (.iadd, 1) := by decide +kernel
theorem dX6_at_16 : decode cX6_at 16 = .ok (.istore 4, 2) := by decide +kernel
theorem dX6_at_18 : decode cX6_at 18 = .ok (.aload_n 0, 1) := by decide +kernel
theorem dX6_at_19 : decode cX6_at 19 = .ok (.getfield 16, 3) := by decide +kernel
theorem dX6_at_22 : decode cX6_at 22 = .ok (.iload 4, 2) := by decide +kernel
theorem dX6_at_24 : decode cX6_at 24 = .ok (.baload, 1) := by decide +kernel
theorem dX6_at_25 : decode cX6_at 25 = .ok (.ifCond .ne 9, 3) := by decide +kernel
theorem dX6_at_28 : decode cX6_at 28 = .ok (.aload_n 0, 1) := by decide +kernel
theorem dX6_at_29 : decode cX6_at 29 = .ok (.iconst 1, 1) := by decide +kernel
theorem dX6_at_30 : decode cX6_at 30 = .ok (.invokevirtual 106, 3) := by decide +kernel
theorem dX6_at_33 : decode cX6_at 33 = .ok (.ireturn, 1) := by decide +kernel
theorem dX6_at_34 : decode cX6_at 34 = .ok (.iload_n 3, 1) := by decide +kernel
theorem dX6_at_35 : decode cX6_at 35 = .ok (.iconst 0, 1) := by decide +kernel
theorem dX6_at_36 : decode cX6_at 36 = .ok (.bipush 39, 2) := by decide +kernel
theorem dX6_at_38 : decode cX6_at 38 = .ok (.invokestatic 84, 3) := by decide +kernel
theorem dX6_at_41 : decode cX6_at 41 = .ok (.ifCond .eq 18, 3) := by decide +kernel
theorem dX6_at_44 : decode cX6_at 44 = .ok (.aload_n 0, 1) := by decide +kernel
theorem dX6_at_45 : decode cX6_at 45 = .ok (.getfield 20, 3) := by decide +kernel
theorem dX6_at_48 : decode cX6_at 48 = .ok (.bipush 40, 2) := by decide +kernel
theorem dX6_at_50 : decode cX6_at 50 = .ok (.iload 4, 2) := by decide +kernel
theorem dX6_at_52 : decode cX6_at 52 = .ok (.imul, 1) := by decide +kernel
theorem dX6_at_53 : decode cX6_at 53 = .ok (.iload_n 3, 1) := by decide +kernel
theorem dX6_at_54 : decode cX6_at 54 = .ok (.iadd, 1) := by decide +kernel
theorem dX6_at_55 : decode cX6_at 55 = .ok (.iaload, 1) := by decide +kernel
theorem dX6_at_56 : decode cX6_at 56 = .ok (.goto 8, 3) := by decide +kernel
theorem dX6_at_59 : decode cX6_at 59 = .ok (.aload_n 0, 1) := by decide +kernel
theorem dX6_at_60 : decode cX6_at 60 = .ok (.iconst 2, 1) := by decide +kernel
theorem dX6_at_61 : decode cX6_at 61 = .ok (.invokevirtual 106, 3) := by decide +kernel
theorem dX6_at_64 : decode cX6_at 64 = .ok (.ireturn, 1) := by decide +kernel
theorem dX6_tear_0 : decode cX6_tear 0 = .ok (.aload_n 0, 1) := by decide +kernel
theorem dX6_tear_1 : decode cX6_tear 1 = .ok (.iload_n 1, 1) := by decide +kernel
theorem dX6_tear_2 : decode cX6_tear 2 = .ok (.iload_n 2, 1) := by decide +kernel
theorem dX6_tear_3 : decode cX6_tear 3 = .ok (.invokevirtual 101, 3) := by decide +kernel
theorem dX6_tear_6 : decode cX6_tear 6 = .ok (.ifCond .ne 5, 3) := by decide +kernel
theorem dX6_tear_9 : decode cX6_tear 9 = .ok (.iconst (-1), 1) := by decide +kernel
theorem dX6_tear_10 : decode cX6_tear 10 = .ok (.ireturn, 1) := by decide +kernel
theorem dX6_tear_11 : decode cX6_tear 11 = .ok (.aload_n 0, 1) := by decide +kernel
theorem dX6_tear_12 : decode cX6_tear 12 = .ok (.getfield 16, 3) := by decide +kernel
theorem dX6_tear_15 : decode cX6_tear 15 = .ok (.iconst 4, 1) := by decide +kernel
theorem dX6_tear_16 : decode cX6_tear 16 = .ok (.iload_n 1, 1) := by decide +kernel
theorem dX6_tear_17 : decode cX6_tear 17 = .ok (.imul, 1) := by decide +kernel
theorem dX6_tear_18 : decode cX6_tear 18 = .ok (.iload_n 2, 1) := by decide +kernel
theorem dX6_tear_19 : decode cX6_tear 19 = .ok (.iadd, 1) := by decide +kernel
theorem dX6_tear_20 : decode cX6_tear 20 = .ok (.baload, 1) := by decide +kernel
theorem dX6_tear_21 : decode cX6_tear 21 = .ok (.ifCond .ne 9, 3) := by decide +kernel
theorem dX6_tear_24 : decode cX6_tear 24 = .ok (.aload_n 0, 1) := by decide +kernel
theorem dX6_tear_25 : decode cX6_tear 25 = .ok (.iconst 1, 1) := by decide +kernel
theorem dX6_tear_26 : decode cX6_tear 26 = .ok (.invokevirtual 106, 3) := by decide +kernel
theorem dX6_tear_29 : decode cX6_tear 29 = .ok (.ireturn, 1) := by decide +kernel
theorem dX6_tear_30 : decode cX6_tear 30 = .ok (.aload_n 0, 1) := by decide +kernel
theorem dX6_tear_31 : decode cX6_tear 31 = .ok (.getfield 16, 3) := by decide +kernel
theorem dX6_tear_34 : decode cX6_tear 34 = .ok (.iconst 4, 1) := by decide +kernel
theorem dX6_tear_35 : decode cX6_tear 35 = .ok (.iload_n 1, 1) := by decide +kernel
theorem dX6_tear_36 : decode cX6_tear 36 = .ok (.imul, 1) := by decide +kernel
theorem dX6_tear_37 : decode cX6_tear 37 = .ok (.iload_n 2, 1) := by decide +kernel
theorem dX6_tear_38 : decode cX6_tear 38 = .ok (.iadd, 1) := by decide +kernel
theorem dX6_tear_39 : decode cX6_tear 39 = .ok (.iconst 0, 1) := by decide +kernel
theorem dX6_tear_40 : decode cX6_tear 40 = .ok (.bastore, 1) := by decide +kernel
theorem dX6_tear_41 : decode cX6_tear 41 = .ok (.iconst 1, 1) := by decide +kernel
theorem dX6_tear_42 : decode cX6_tear 42 = .ok (.ireturn, 1) := by decide +kernel
theorem dX6_copy_0 : decode cX6_copy 0 = .ok (.aload_n 0, 1) := by decide +kernel
theorem dX6_copy_1 : decode cX6_copy 1 = .ok (.iload_n 1, 1) := by decide +kernel
theorem dX6_copy_2 : decode cX6_copy 2 = .ok (.iload_n 2, 1) := by decide +kernel
theorem dX6_copy_3 : decode cX6_copy 3 = .ok (.invokevirtual 101, 3) := by decide +kernel
theorem dX6_copy_6 : decode cX6_copy 6 = .ok (.ifCond .eq 13, 3) := by decide +kernel
theorem dX6_copy_9 : decode cX6_copy 9 = .ok (.aload_n 0, 1) := by decide +kernel
theorem dX6_copy_10 : decode cX6_copy 10 = .ok (.iload_n 1, 1) := by decide +kernel
theorem dX6_copy_11 : decode cX6_copy 11 = .ok (.iload 4, 2) := by decide +kernel
theorem dX6_copy_13 : decode cX6_copy 13 = .ok (.invokevirtual 101, 3) := by decide +kernel
theorem dX6_copy_16 : decode cX6_copy 16 = .ok (.ifCond .ne 5, 3) := by decide +kernel
theorem dX6_copy_19 : decode cX6_copy 19 = .ok (.iconst (-1), 1) := by decide +kernel
theorem dX6_copy_20 : decode cX6_copy 20 = .ok (.ireturn, 1) := by decide +kernel
theorem dX6_copy_21 : decode cX6_copy 21 = .ok (.iload 6, 2) := by decide +kernel
theorem dX6_copy_23 : decode cX6_copy 23 = .ok (.ifCond .ge 9, 3) := by decide +kernel
theorem dX6_copy_26 : decode cX6_copy 26 = .ok (.aload_n 0, 1) := by decide +kernel
theorem dX6_copy_27 : decode cX6_copy 27 = .ok (.iconst 5, 1) := by decide +kernel
theorem dX6_copy_28 : decode cX6_copy 28 = .ok (.invokevirtual 106, 3) := by decide +kernel
theorem dX6_copy_31 : decode cX6_copy 31 = .ok (.ireturn, 1) := by decide +kernel
theorem dX6_copy_32 : decode cX6_copy 32 = .ok (.iconst 4, 1) := by decide +kernel
theorem dX6_copy_33 : decode cX6_copy 33 = .ok (.iload_n 1, 1) := by decide +kernel
theorem dX6_copy_34 : decode cX6_copy 34 = .ok (.imul, 1) := by decide +kernel
theorem dX6_copy_35 : decode cX6_copy 35 = .ok (.iload_n 2, 1) := by decide +kernel
theorem dX6_copy_36 : decode cX6_copy 36 = .ok (.iadd, 1) := by decide +kernel
theorem dX6_copy_37 : decode cX6_copy 37 = .ok (.istore 7, 2) := by decide +kernel
theorem dX6_copy_39 : decode cX6_copy 39 = .ok (.iconst 4, 1) := by decide +kernel
theorem dX6_copy_40 : decode cX6_copy 40 = .ok (.iload_n 1, 1) := by decide +kernel
theorem dX6_copy_41 : decode cX6_copy 41 = .ok (.imul, 1) := by decide +kernel
theorem dX6_copy_42 : decode cX6_copy 42 = .ok (.iload 4, 2) := by decide +kernel
theorem dX6_copy_44 : decode cX6_copy 44 = .ok (.iadd, 1) := by decide +kernel
theorem dX6_copy_45 : decode cX6_copy 45 = .ok (.istore 8, 2) := by decide +kernel
theorem dX6_copy_47 : decode cX6_copy 47 = .ok (.aload_n 0, 1) := by decide +kernel
theorem dX6_copy_48 : decode cX6_copy 48 = .ok (.getfield 16, 3) := by decide +kernel
theorem dX6_copy_51 : decode cX6_copy 51 = .ok (.iload 7, 2) := by decide +kernel
theorem dX6_copy_53 : decode cX6_copy 53 = .ok (.baload, 1) := by decide +kernel
theorem dX6_copy_54 : decode cX6_copy 54 = .ok (.ifCond .eq 13, 3) := by decide +kernel
theorem dX6_copy_57 : decode cX6_copy 57 = .ok (.aload_n 0, 1) := by decide +kernel
theorem dX6_copy_58 : decode cX6_copy 58 = .ok (.getfield 16, 3) := by decide +kernel
theorem dX6_copy_61 : decode cX6_copy 61 = .ok (.iload 8, 2) := by decide +kernel
theorem dX6_copy_63 : decode cX6_copy 63 = .ok (.baload, 1) := by decide +kernel
theorem dX6_copy_64 : decode cX6_copy 64 = .ok (.ifCond .ne 9, 3) := by decide +kernel
theorem dX6_copy_67 : decode cX6_copy 67 = .ok (.aload_n 0, 1) := by decide +kernel
theorem dX6_copy_68 : decode cX6_copy 68 = .ok (.iconst 1, 1) := by decide +kernel
theorem dX6_copy_69 : decode cX6_copy 69 = .ok (.invokevirtual 106, 3) := by decide +kernel
theorem dX6_copy_72 : decode cX6_copy 72 = .ok (.ireturn, 1) := by decide +kernel
theorem dX6_copy_73 : decode cX6_copy 73 = .ok (.iload_n 3, 1) := by decide +kernel
theorem dX6_copy_74 : decode cX6_copy 74 = .ok (.ifCond .lt 35, 3) := by decide +kernel
theorem dX6_copy_77 : decode cX6_copy 77 = .ok (.iload 5, 2) := by decide +kernel
theorem dX6_copy_79 : decode cX6_copy 79 = .ok (.ifCond .lt 30, 3) := by decide +kernel
theorem dX6_copy_82 : decode cX6_copy 82 = .ok (.iload_n 3, 1) := by decide +kernel
theorem dX6_copy_83 : decode cX6_copy 83 = .ok (.i2l, 1) := by decide +kernel
theorem dX6_copy_84 : decode cX6_copy 84 = .ok (.iload 6, 2) := by decide +kernel
theorem dX6_copy_86 : decode cX6_copy 86 = .ok (.i2l, 1) := by decide +kernel
theorem dX6_copy_87 : decode cX6_copy 87 = .ok (.ladd, 1) := by decide +kernel
theorem dX6_copy_88 : decode cX6_copy 88 = .ok (.ldc2_w 110, 3) := by decide +kernel
theorem dX6_copy_91 : decode cX6_copy 91 = .ok (.lcmp, 1) := by decide +kernel
theorem dX6_copy_92 : decode cX6_copy 92 = .ok (.ifCond .gt 17, 3) := by decide +kernel
theorem dX6_copy_95 : decode cX6_copy 95 = .ok (.iload 5, 2) := by decide +kernel
theorem dX6_copy_97 : decode cX6_copy 97 = .ok (.i2l, 1) := by decide +kernel
theorem dX6_copy_98 : decode cX6_copy 98 = .ok (.iload 6, 2) := by decide +kernel
theorem dX6_copy_100 : decode cX6_copy 100 = .ok (.i2l, 1) := by decide +kernel
theorem dX6_copy_101 : decode cX6_copy 101 = .ok (.ladd, 1) := by decide +kernel
theorem dX6_copy_102 : decode cX6_copy 102 = .ok (.ldc2_w 110, 3) := by decide +kernel
theorem dX6_copy_105 : decode cX6_copy 105 = .ok (.lcmp, 1) := by decide +kernel
theorem dX6_copy_106 : decode cX6_copy 106 = .ok (.ifCond .le 9, 3) := by decide +kernel
theorem dX6_copy_109 : decode cX6_copy 109 = .ok (.aload_n 0, 1) := by decide +kernel
theorem dX6_copy_110 : decode cX6_copy 110 = .ok (.iconst 2, 1) := by decide +kernel
theorem dX6_copy_111 : decode cX6_copy 111 = .ok (.invokevirtual 106, 3) := by decide +kernel
theorem dX6_copy_114 : decode cX6_copy 114 = .ok (.ireturn, 1) := by decide +kernel
theorem dX6_copy_115 : decode cX6_copy 115 = .ok (.iconst 0, 1) := by decide +kernel
theorem dX6_copy_116 : decode cX6_copy 116 = .ok (.istore 9, 2) := by decide +kernel
theorem dX6_copy_118 : decode cX6_copy 118 = .ok (.iload 9, 2) := by decide +kernel
theorem dX6_copy_120 : decode cX6_copy 120 = .ok (.iload 6, 2) := by decide +kernel
theorem dX6_copy_122 : decode cX6_copy 122 = .ok (.if_icmp .ge 31, 3) := by decide +kernel
theorem dX6_copy_125 : decode cX6_copy 125 = .ok (.aload_n 0, 1) := by decide +kernel
theorem dX6_copy_126 : decode cX6_copy 126 = .ok (.getfield 23, 3) := by decide +kernel
theorem dX6_copy_129 : decode cX6_copy 129 = .ok (.iload 9, 2) := by decide +kernel
theorem dX6_copy_131 : decode cX6_copy 131 = .ok (.aload_n 0, 1) := by decide +kernel
theorem dX6_copy_132 : decode cX6_copy 132 = .ok (.getfield 20, 3) := by decide +kernel
theorem dX6_copy_135 : decode cX6_copy 135 = .ok (.bipush 40, 2) := by decide +kernel
theorem dX6_copy_137 : decode cX6_copy 137 = .ok (.iload 7, 2) := by decide +kernel
theorem dX6_copy_139 : decode cX6_copy 139 = .ok (.imul, 1) := by decide +kernel
theorem dX6_copy_140 : decode cX6_copy 140 = .ok (.iload_n 3, 1) := by decide +kernel
theorem dX6_copy_141 : decode cX6_copy 141 = .ok (.iadd, 1) := by decide +kernel
theorem dX6_copy_142 : decode cX6_copy 142 = .ok (.iload 9, 2) := by decide +kernel
theorem dX6_copy_144 : decode cX6_copy 144 = .ok (.iadd, 1) := by decide +kernel
theorem dX6_copy_145 : decode cX6_copy 145 = .ok (.iaload, 1) := by decide +kernel
theorem dX6_copy_146 : decode cX6_copy 146 = .ok (.iastore, 1) := by decide +kernel
theorem dX6_copy_147 : decode cX6_copy 147 = .ok (.iinc 9 1, 3) := by decide +kernel
theorem dX6_copy_150 : decode cX6_copy 150 = .ok (.goto (-32), 3) := by decide +kernel
theorem dX6_copy_153 : decode cX6_copy 153 = .ok (.iconst 0, 1) := by decide +kernel
theorem dX6_copy_154 : decode cX6_copy 154 = .ok (.istore 9, 2) := by decide +kernel
theorem dX6_copy_156 : decode cX6_copy 156 = .ok (.iload 9, 2) := by decide +kernel
theorem dX6_copy_158 : decode cX6_copy 158 = .ok (.iload 6, 2) := by decide +kernel
theorem dX6_copy_160 : decode cX6_copy 160 = .ok (.if_icmp .ge 32, 3) := by decide +kernel
theorem dX6_copy_163 : decode cX6_copy 163 = .ok (.aload_n 0, 1) := by decide +kernel
theorem dX6_copy_164 : decode cX6_copy 164 = .ok (.getfield 20, 3) := by decide +kernel
theorem dX6_copy_167 : decode cX6_copy 167 = .ok (.bipush 40, 2) := by decide +kernel
theorem dX6_copy_169 : decode cX6_copy 169 = .ok (.iload 8, 2) := by decide +kernel
theorem dX6_copy_171 : decode cX6_copy 171 = .ok (.imul, 1) := by decide +kernel
theorem dX6_copy_172 : decode cX6_copy 172 = .ok (.iload 5, 2) := by decide +kernel
theorem dX6_copy_174 : decode cX6_copy 174 = .ok (.iadd, 1) := by decide +kernel
theorem dX6_copy_175 : decode cX6_copy 175 = .ok (.iload 9, 2) := by decide +kernel
theorem dX6_copy_177 : decode cX6_copy 177 = .ok (.iadd, 1) := by decide +kernel
theorem dX6_copy_178 : decode cX6_copy 178 = .ok (.aload_n 0, 1) := by decide +kernel
theorem dX6_copy_179 : decode cX6_copy 179 = .ok (.getfield 23, 3) := by decide +kernel
theorem dX6_copy_182 : decode cX6_copy 182 = .ok (.iload 9, 2) := by decide +kernel
theorem dX6_copy_184 : decode cX6_copy 184 = .ok (.iaload, 1) := by decide +kernel
theorem dX6_copy_185 : decode cX6_copy 185 = .ok (.iastore, 1) := by decide +kernel
theorem dX6_copy_186 : decode cX6_copy 186 = .ok (.iinc 9 1, 3) := by decide +kernel
theorem dX6_copy_189 : decode cX6_copy 189 = .ok (.goto (-33), 3) := by decide +kernel
theorem dX6_copy_192 : decode cX6_copy 192 = .ok (.iconst 1, 1) := by decide +kernel
theorem dX6_copy_193 : decode cX6_copy 193 = .ok (.ireturn, 1) := by decide +kernel
theorem dX6_layRow_0 : decode cX6_layRow 0 = .ok (.aload_n 0, 1) := by decide +kernel
theorem dX6_layRow_1 : decode cX6_layRow 1 = .ok (.iconst 0, 1) := by decide +kernel
theorem dX6_layRow_2 : decode cX6_layRow 2 = .ok (.putfield 112, 3) := by decide +kernel
theorem dX6_layRow_5 : decode cX6_layRow 5 = .ok (.iconst 0, 1) := by decide +kernel
theorem dX6_layRow_6 : decode cX6_layRow 6 = .ok (.istore_n 2, 1) := by decide +kernel
theorem dX6_layRow_7 : decode cX6_layRow 7 = .ok (.iload_n 2, 1) := by decide +kernel
theorem dX6_layRow_8 : decode cX6_layRow 8 = .ok (.aload_n 0, 1) := by decide +kernel
theorem dX6_layRow_9 : decode cX6_layRow 9 = .ok (.getfield 91, 3) := by decide +kernel
theorem dX6_layRow_12 : decode cX6_layRow 12 = .ok (.if_icmp .ge 65, 3) := by decide +kernel
theorem dX6_layRow_15 : decode cX6_layRow 15 = .ok (.aload_n 0, 1) := by decide +kernel
theorem dX6_layRow_16 : decode cX6_layRow 16 = .ok (.getfield 20, 3) := by decide +kernel
theorem dX6_layRow_19 : decode cX6_layRow 19 = .ok (.bipush 40, 2) := by decide +kernel
theorem dX6_layRow_21 : decode cX6_layRow 21 = .ok (.iload_n 1, 1) := by decide +kernel
theorem dX6_layRow_22 : decode cX6_layRow 22 = .ok (.imul, 1) := by decide +kernel
theorem dX6_layRow_23 : decode cX6_layRow 23 = .ok (.iload_n 2, 1) := by decide +kernel
theorem dX6_layRow_24 : decode cX6_layRow 24 = .ok (.iadd, 1) := by decide +kernel
theorem dX6_layRow_25 : decode cX6_layRow 25 = .ok (.iaload, 1) := by decide +kernel
theorem dX6_layRow_26 : decode cX6_layRow 26 = .ok (.bipush (-9), 2) := by decide +kernel
theorem dX6_layRow_28 : decode cX6_layRow 28 = .ok (.if_icmp .eq 43, 3) := by decide +kernel
theorem dX6_layRow_31 : decode cX6_layRow 31 = .ok (.aload_n 0, 1) := by decide +kernel
theorem dX6_layRow_32 : decode cX6_layRow 32 = .ok (.getfield 26, 3) := by decide +kernel
theorem dX6_layRow_35 : decode cX6_layRow 35 = .ok (.aload_n 0, 1) := by decide +kernel
theorem dX6_layRow_36 : decode cX6_layRow 36 = .ok (.getfield 112, 3) := by decide +kernel
theorem dX6_layRow_39 : decode cX6_layRow 39 = .ok (.iload_n 2, 1) := by decide +kernel
theorem dX6_layRow_40 : decode cX6_layRow 40 = .ok (.iastore, 1) := by decide +kernel
theorem dX6_layRow_41 : decode cX6_layRow 41 = .ok (.aload_n 0, 1) := by decide +kernel
theorem dX6_layRow_42 : decode cX6_layRow 42 = .ok (.getfield 29, 3) := by decide +kernel
theorem dX6_layRow_45 : decode cX6_layRow 45 = .ok (.aload_n 0, 1) := by decide +kernel
theorem dX6_layRow_46 : decode cX6_layRow 46 = .ok (.getfield 112, 3) := by decide +kernel
theorem dX6_layRow_49 : decode cX6_layRow 49 = .ok (.aload_n 0, 1) := by decide +kernel
theorem dX6_layRow_50 : decode cX6_layRow 50 = .ok (.getfield 20, 3) := by decide +kernel
theorem dX6_layRow_53 : decode cX6_layRow 53 = .ok (.bipush 40, 2) := by decide +kernel
theorem dX6_layRow_55 : decode cX6_layRow 55 = .ok (.iload_n 1, 1) := by decide +kernel
theorem dX6_layRow_56 : decode cX6_layRow 56 = .ok (.imul, 1) := by decide +kernel
theorem dX6_layRow_57 : decode cX6_layRow 57 = .ok (.iload_n 2, 1) := by decide +kernel
theorem dX6_layRow_58 : decode cX6_layRow 58 = .ok (.iadd, 1) := by decide +kernel
theorem dX6_layRow_59 : decode cX6_layRow 59 = .ok (.iaload, 1) := by decide +kernel
theorem dX6_layRow_60 : decode cX6_layRow 60 = .ok (.iastore, 1) := by decide +kernel
theorem dX6_layRow_61 : decode cX6_layRow 61 = .ok (.aload_n 0, 1) := by decide +kernel
theorem dX6_layRow_62 : decode cX6_layRow 62 = .ok (.dup, 1) := by decide +kernel
theorem dX6_layRow_63 : decode cX6_layRow 63 = .ok (.getfield 112, 3) := by decide +kernel
theorem dX6_layRow_66 : decode cX6_layRow 66 = .ok (.iconst 1, 1) := by decide +kernel
theorem dX6_layRow_67 : decode cX6_layRow 67 = .ok (.iadd, 1) := by decide +kernel
theorem dX6_layRow_68 : decode cX6_layRow 68 = .ok (.putfield 112, 3) := by decide +kernel
theorem dX6_layRow_71 : decode cX6_layRow 71 = .ok (.iinc 2 1, 3) := by decide +kernel
theorem dX6_layRow_74 : decode cX6_layRow 74 = .ok (.goto (-67), 3) := by decide +kernel
theorem dX6_layRow_77 : decode cX6_layRow 77 = .ok (.iconst 0, 1) := by decide +kernel
theorem dX6_layRow_78 : decode cX6_layRow 78 = .ok (.istore_n 2, 1) := by decide +kernel
theorem dX6_layRow_79 : decode cX6_layRow 79 = .ok (.iload_n 2, 1) := by decide +kernel
theorem dX6_layRow_80 : decode cX6_layRow 80 = .ok (.aload_n 0, 1) := by decide +kernel
theorem dX6_layRow_81 : decode cX6_layRow 81 = .ok (.getfield 112, 3) := by decide +kernel
theorem dX6_layRow_84 : decode cX6_layRow 84 = .ok (.if_icmp .ge 80, 3) := by decide +kernel
theorem dX6_layRow_87 : decode cX6_layRow 87 = .ok (.aload_n 0, 1) := by decide +kernel
theorem dX6_layRow_88 : decode cX6_layRow 88 = .ok (.getfield 32, 3) := by decide +kernel
theorem dX6_layRow_91 : decode cX6_layRow 91 = .ok (.iload_n 2, 1) := by decide +kernel
theorem dX6_layRow_92 : decode cX6_layRow 92 = .ok (.iconst 0, 1) := by decide +kernel
theorem dX6_layRow_93 : decode cX6_layRow 93 = .ok (.iastore, 1) := by decide +kernel
theorem dX6_layRow_94 : decode cX6_layRow 94 = .ok (.iconst 0, 1) := by decide +kernel
theorem dX6_layRow_95 : decode cX6_layRow 95 = .ok (.istore_n 3, 1) := by decide +kernel
theorem dX6_layRow_96 : decode cX6_layRow 96 = .ok (.iload_n 3, 1) := by decide +kernel
theorem dX6_layRow_97 : decode cX6_layRow 97 = .ok (.aload_n 0, 1) := by decide +kernel
theorem dX6_layRow_98 : decode cX6_layRow 98 = .ok (.getfield 112, 3) := by decide +kernel
theorem dX6_layRow_101 : decode cX6_layRow 101 = .ok (.if_icmp .ge 57, 3) := by decide +kernel
theorem dX6_layRow_104 : decode cX6_layRow 104 = .ok (.aload_n 0, 1) := by decide +kernel
theorem dX6_layRow_105 : decode cX6_layRow 105 = .ok (.getfield 32, 3) := by decide +kernel
theorem dX6_layRow_108 : decode cX6_layRow 108 = .ok (.iload_n 2, 1) := by decide +kernel
theorem dX6_layRow_109 : decode cX6_layRow 109 = .ok (.dup2, 1) := by decide +kernel
theorem dX6_layRow_110 : decode cX6_layRow 110 = .ok (.iaload, 1) := by decide +kernel
theorem dX6_layRow_111 : decode cX6_layRow 111 = .ok (.aload_n 0, 1) := by decide +kernel
theorem dX6_layRow_112 : decode cX6_layRow 112 = .ok (.getfield 29, 3) := by decide +kernel
theorem dX6_layRow_115 : decode cX6_layRow 115 = .ok (.iload_n 3, 1) := by decide +kernel
theorem dX6_layRow_116 : decode cX6_layRow 116 = .ok (.iaload, 1) := by decide +kernel
theorem dX6_layRow_117 : decode cX6_layRow 117 = .ok (.aload_n 0, 1) := by decide +kernel
theorem dX6_layRow_118 : decode cX6_layRow 118 = .ok (.getfield 29, 3) := by decide +kernel
theorem dX6_layRow_121 : decode cX6_layRow 121 = .ok (.iload_n 2, 1) := by decide +kernel
theorem dX6_layRow_122 : decode cX6_layRow 122 = .ok (.iaload, 1) := by decide +kernel
theorem dX6_layRow_123 : decode cX6_layRow 123 = .ok (.if_icmp .ge 7, 3) := by decide +kernel
theorem dX6_layRow_126 : decode cX6_layRow 126 = .ok (.iconst 2, 1) := by decide +kernel
theorem dX6_layRow_127 : decode cX6_layRow 127 = .ok (.goto 23, 3) := by decide +kernel
theorem dX6_layRow_130 : decode cX6_layRow 130 = .ok (.aload_n 0, 1) := by decide +kernel
theorem dX6_layRow_131 : decode cX6_layRow 131 = .ok (.getfield 29, 3) := by decide +kernel
theorem dX6_layRow_134 : decode cX6_layRow 134 = .ok (.iload_n 3, 1) := by decide +kernel
theorem dX6_layRow_135 : decode cX6_layRow 135 = .ok (.iaload, 1) := by decide +kernel
theorem dX6_layRow_136 : decode cX6_layRow 136 = .ok (.aload_n 0, 1) := by decide +kernel
theorem dX6_layRow_137 : decode cX6_layRow 137 = .ok (.getfield 29, 3) := by decide +kernel
theorem dX6_layRow_140 : decode cX6_layRow 140 = .ok (.iload_n 2, 1) := by decide +kernel
theorem dX6_layRow_141 : decode cX6_layRow 141 = .ok (.iaload, 1) := by decide +kernel
theorem dX6_layRow_142 : decode cX6_layRow 142 = .ok (.if_icmp .ne 7, 3) := by decide +kernel
theorem dX6_layRow_145 : decode cX6_layRow 145 = .ok (.iconst 1, 1) := by decide +kernel
theorem dX6_layRow_146 : decode cX6_layRow 146 = .ok (.goto 4, 3) := by decide +kernel
theorem dX6_layRow_149 : decode cX6_layRow 149 = .ok (.iconst 0, 1) := by decide +kernel
theorem dX6_layRow_150 : decode cX6_layRow 150 = .ok (.iadd, 1) := by decide +kernel
theorem dX6_layRow_151 : decode cX6_layRow 151 = .ok (.iastore, 1) := by decide +kernel
theorem dX6_layRow_152 : decode cX6_layRow 152 = .ok (.iinc 3 1, 3) := by decide +kernel
theorem dX6_layRow_155 : decode cX6_layRow 155 = .ok (.goto (-59), 3) := by decide +kernel
theorem dX6_layRow_158 : decode cX6_layRow 158 = .ok (.iinc 2 1, 3) := by decide +kernel
theorem dX6_layRow_161 : decode cX6_layRow 161 = .ok (.goto (-82), 3) := by decide +kernel
theorem dX6_layRow_164 : decode cX6_layRow 164 = .ok (.return_, 1) := by decide +kernel
theorem dX6_need_0 : decode cX6_need 0 = .ok (.aload_n 0, 1) := by decide +kernel
theorem dX6_need_1 : decode cX6_need 1 = .ok (.iload_n 1, 1) := by decide +kernel
theorem dX6_need_2 : decode cX6_need 2 = .ok (.iload_n 2, 1) := by decide +kernel
theorem dX6_need_3 : decode cX6_need 3 = .ok (.invokevirtual 101, 3) := by decide +kernel
theorem dX6_need_6 : decode cX6_need 6 = .ok (.ifCond .ne 5, 3) := by decide +kernel
theorem dX6_need_9 : decode cX6_need 9 = .ok (.iconst (-1), 1) := by decide +kernel
theorem dX6_need_10 : decode cX6_need 10 = .ok (.ireturn, 1) := by decide +kernel
theorem dX6_need_11 : decode cX6_need 11 = .ok (.aload_n 0, 1) := by decide +kernel
theorem dX6_need_12 : decode cX6_need 12 = .ok (.getfield 16, 3) := by decide +kernel
theorem dX6_need_15 : decode cX6_need 15 = .ok (.iconst 4, 1) := by decide +kernel
theorem dX6_need_16 : decode cX6_need 16 = .ok (.iload_n 1, 1) := by decide +kernel
theorem dX6_need_17 : decode cX6_need 17 = .ok (.imul, 1) := by decide +kernel
theorem dX6_need_18 : decode cX6_need 18 = .ok (.iload_n 2, 1) := by decide +kernel
theorem dX6_need_19 : decode cX6_need 19 = .ok (.iadd, 1) := by decide +kernel
theorem dX6_need_20 : decode cX6_need 20 = .ok (.baload, 1) := by decide +kernel
theorem dX6_need_21 : decode cX6_need 21 = .ok (.ifCond .ne 9, 3) := by decide +kernel
theorem dX6_need_24 : decode cX6_need 24 = .ok (.aload_n 0, 1) := by decide +kernel
theorem dX6_need_25 : decode cX6_need 25 = .ok (.iconst 1, 1) := by decide +kernel
theorem dX6_need_26 : decode cX6_need 26 = .ok (.invokevirtual 106, 3) := by decide +kernel
theorem dX6_need_29 : decode cX6_need 29 = .ok (.ireturn, 1) := by decide +kernel
theorem dX6_need_30 : decode cX6_need 30 = .ok (.aload_n 0, 1) := by decide +kernel
theorem dX6_need_31 : decode cX6_need 31 = .ok (.iconst 4, 1) := by decide +kernel
theorem dX6_need_32 : decode cX6_need 32 = .ok (.iload_n 1, 1) := by decide +kernel
theorem dX6_need_33 : decode cX6_need 33 = .ok (.imul, 1) := by decide +kernel
theorem dX6_need_34 : decode cX6_need 34 = .ok (.iload_n 2, 1) := by decide +kernel
theorem dX6_need_35 : decode cX6_need 35 = .ok (.iadd, 1) := by decide +kernel
theorem dX6_need_36 : decode cX6_need 36 = .ok (.invokevirtual 115, 3) := by decide +kernel
theorem dX6_need_39 : decode cX6_need 39 = .ok (.iconst 0, 1) := by decide +kernel
theorem dX6_need_40 : decode cX6_need 40 = .ok (.ireturn, 1) := by decide +kernel
theorem dX6_rank_0 : decode cX6_rank 0 = .ok (.aload_n 0, 1) := by decide +kernel
theorem dX6_rank_1 : decode cX6_rank 1 = .ok (.iload_n 1, 1) := by decide +kernel
theorem dX6_rank_2 : decode cX6_rank 2 = .ok (.iload_n 2, 1) := by decide +kernel
theorem dX6_rank_3 : decode cX6_rank 3 = .ok (.invokevirtual 119, 3) := by decide +kernel
theorem dX6_rank_6 : decode cX6_rank 6 = .ok (.istore 4, 2) := by decide +kernel
theorem dX6_rank_8 : decode cX6_rank 8 = .ok (.iload 4, 2) := by decide +kernel
theorem dX6_rank_10 : decode cX6_rank 10 = .ok (.ifCond .ge 6, 3) := by decide +kernel
theorem dX6_rank_13 : decode cX6_rank 13 = .ok (.iload 4, 2) := by decide +kernel
theorem dX6_rank_15 : decode cX6_rank 15 = .ok (.ireturn, 1) := by decide +kernel
theorem dX6_rank_16 : decode cX6_rank 16 = .ok (.iload_n 3, 1) := by decide +kernel
theorem dX6_rank_17 : decode cX6_rank 17 = .ok (.iconst 0, 1) := by decide +kernel
theorem dX6_rank_18 : decode cX6_rank 18 = .ok (.aload_n 0, 1) := by decide +kernel
theorem dX6_rank_19 : decode cX6_rank 19 = .ok (.getfield 91, 3) := by decide +kernel
theorem dX6_rank_22 : decode cX6_rank 22 = .ok (.iconst 1, 1) := by decide +kernel
theorem dX6_rank_23 : decode cX6_rank 23 = .ok (.isub, 1) := by decide +kernel
theorem dX6_rank_24 : decode cX6_rank 24 = .ok (.invokestatic 84, 3) := by decide +kernel
theorem dX6_rank_27 : decode cX6_rank 27 = .ok (.ifCond .ne 9, 3) := by decide +kernel
theorem dX6_rank_30 : decode cX6_rank 30 = .ok (.aload_n 0, 1) := by decide +kernel
theorem dX6_rank_31 : decode cX6_rank 31 = .ok (.iconst 2, 1) := by decide +kernel
theorem dX6_rank_32 : decode cX6_rank 32 = .ok (.invokevirtual 106, 3) := by decide +kernel
theorem dX6_rank_35 : decode cX6_rank 35 = .ok (.ireturn, 1) := by decide +kernel
theorem dX6_rank_36 : decode cX6_rank 36 = .ok (.iconst 0, 1) := by decide +kernel
theorem dX6_rank_37 : decode cX6_rank 37 = .ok (.istore 5, 2) := by decide +kernel
theorem dX6_rank_39 : decode cX6_rank 39 = .ok (.iload 5, 2) := by decide +kernel
theorem dX6_rank_41 : decode cX6_rank 41 = .ok (.aload_n 0, 1) := by decide +kernel
theorem dX6_rank_42 : decode cX6_rank 42 = .ok (.getfield 112, 3) := by decide +kernel
theorem dX6_rank_45 : decode cX6_rank 45 = .ok (.if_icmp .ge 28, 3) := by decide +kernel
theorem dX6_rank_48 : decode cX6_rank 48 = .ok (.aload_n 0, 1) := by decide +kernel
theorem dX6_rank_49 : decode cX6_rank 49 = .ok (.getfield 26, 3) := by decide +kernel
theorem dX6_rank_52 : decode cX6_rank 52 = .ok (.iload 5, 2) := by decide +kernel
theorem dX6_rank_54 : decode cX6_rank 54 = .ok (.iaload, 1) := by decide +kernel
theorem dX6_rank_55 : decode cX6_rank 55 = .ok (.iload_n 3, 1) := by decide +kernel
theorem dX6_rank_56 : decode cX6_rank 56 = .ok (.if_icmp .ne 11, 3) := by decide +kernel
theorem dX6_rank_59 : decode cX6_rank 59 = .ok (.aload_n 0, 1) := by decide +kernel
theorem dX6_rank_60 : decode cX6_rank 60 = .ok (.getfield 32, 3) := by decide +kernel
theorem dX6_rank_63 : decode cX6_rank 63 = .ok (.iload 5, 2) := by decide +kernel
theorem dX6_rank_65 : decode cX6_rank 65 = .ok (.iaload, 1) := by decide +kernel
theorem dX6_rank_66 : decode cX6_rank 66 = .ok (.ireturn, 1) := by decide +kernel
theorem dX6_rank_67 : decode cX6_rank 67 = .ok (.iinc 5 1, 3) := by decide +kernel
theorem dX6_rank_70 : decode cX6_rank 70 = .ok (.goto (-31), 3) := by decide +kernel
theorem dX6_rank_73 : decode cX6_rank 73 = .ok (.aload_n 0, 1) := by decide +kernel
theorem dX6_rank_74 : decode cX6_rank 74 = .ok (.iconst 4, 1) := by decide +kernel
theorem dX6_rank_75 : decode cX6_rank 75 = .ok (.invokevirtual 106, 3) := by decide +kernel
theorem dX6_rank_78 : decode cX6_rank 78 = .ok (.ireturn, 1) := by decide +kernel
theorem dX6_mean_0 : decode cX6_mean 0 = .ok (.aload_n 0, 1) := by decide +kernel
theorem dX6_mean_1 : decode cX6_mean 1 = .ok (.iload_n 1, 1) := by decide +kernel
theorem dX6_mean_2 : decode cX6_mean 2 = .ok (.iload_n 2, 1) := by decide +kernel
theorem dX6_mean_3 : decode cX6_mean 3 = .ok (.invokevirtual 119, 3) := by decide +kernel
theorem dX6_mean_6 : decode cX6_mean 6 = .ok (.istore_n 3, 1) := by decide +kernel
theorem dX6_mean_7 : decode cX6_mean 7 = .ok (.iload_n 3, 1) := by decide +kernel
theorem dX6_mean_8 : decode cX6_mean 8 = .ok (.ifCond .ge 5, 3) := by decide +kernel
theorem dX6_mean_11 : decode cX6_mean 11 = .ok (.iload_n 3, 1) := by decide +kernel
theorem dX6_mean_12 : decode cX6_mean 12 = .ok (.ireturn, 1) := by decide +kernel
theorem dX6_mean_13 : decode cX6_mean 13 = .ok (.iconst 0, 1) := by decide +kernel
theorem dX6_mean_14 : decode cX6_mean 14 = .ok (.istore 4, 2) := by decide +kernel
theorem dX6_mean_16 : decode cX6_mean 16 = .ok (.iconst 0, 1) := by decide +kernel
theorem dX6_mean_17 : decode cX6_mean 17 = .ok (.istore 5, 2) := by decide +kernel
theorem dX6_mean_19 : decode cX6_mean 19 = .ok (.iload 5, 2) := by decide +kernel
theorem dX6_mean_21 : decode cX6_mean 21 = .ok (.aload_n 0, 1) := by decide +kernel
theorem dX6_mean_22 : decode cX6_mean 22 = .ok (.getfield 112, 3) := by decide +kernel
theorem dX6_mean_25 : decode cX6_mean 25 = .ok (.if_icmp .ge 21, 3) := by decide +kernel
theorem dX6_mean_28 : decode cX6_mean 28 = .ok (.iload 4, 2) := by decide +kernel
theorem dX6_mean_30 : decode cX6_mean 30 = .ok (.aload_n 0, 1) := by decide +kernel
theorem dX6_mean_31 : decode cX6_mean 31 = .ok (.getfield 29, 3) := by decide +kernel
theorem dX6_mean_34 : decode cX6_mean 34 = .ok (.iload 5, 2) := by decide +kernel
theorem dX6_mean_36 : decode cX6_mean 36 = .ok (.iaload, 1) := by decide +kernel
theorem dX6_mean_37 : decode cX6_mean 37 = .ok (.iadd, 1) := by decide +kernel
theorem dX6_mean_38 : decode cX6_mean 38 = .ok (.istore 4, 2) := by decide +kernel
theorem dX6_mean_40 : decode cX6_mean 40 = .ok (.iinc 5 1, 3) := by decide +kernel
theorem dX6_mean_43 : decode cX6_mean 43 = .ok (.goto (-24), 3) := by decide +kernel
theorem dX6_mean_46 : decode cX6_mean 46 = .ok (.aload_n 0, 1) := by decide +kernel
theorem dX6_mean_47 : decode cX6_mean 47 = .ok (.getfield 112, 3) := by decide +kernel
theorem dX6_mean_50 : decode cX6_mean 50 = .ok (.ifCond .ne 11, 3) := by decide +kernel
theorem dX6_mean_53 : decode cX6_mean 53 = .ok (.aload_n 0, 1) := by decide +kernel
theorem dX6_mean_54 : decode cX6_mean 54 = .ok (.iconst 4, 1) := by decide +kernel
theorem dX6_mean_55 : decode cX6_mean 55 = .ok (.invokevirtual 106, 3) := by decide +kernel
theorem dX6_mean_58 : decode cX6_mean 58 = .ok (.goto 10, 3) := by decide +kernel
theorem dX6_mean_61 : decode cX6_mean 61 = .ok (.iload 4, 2) := by decide +kernel
theorem dX6_mean_63 : decode cX6_mean 63 = .ok (.aload_n 0, 1) := by decide +kernel
theorem dX6_mean_64 : decode cX6_mean 64 = .ok (.getfield 112, 3) := by decide +kernel
theorem dX6_mean_67 : decode cX6_mean 67 = .ok (.idiv, 1) := by decide +kernel
theorem dX6_mean_68 : decode cX6_mean 68 = .ok (.ireturn, 1) := by decide +kernel
theorem dX6_costOf_0 : decode cX6_costOf 0 = .ok (.iconst 0, 1) := by decide +kernel
theorem dX6_costOf_1 : decode cX6_costOf 1 = .ok (.istore_n 3, 1) := by decide +kernel
theorem dX6_costOf_2 : decode cX6_costOf 2 = .ok (.iload_n 1, 1) := by decide +kernel
theorem dX6_costOf_3 : decode cX6_costOf 3 = .ok (.istore 4, 2) := by decide +kernel
theorem dX6_costOf_5 : decode cX6_costOf 5 = .ok (.iload 4, 2) := by decide +kernel
theorem dX6_costOf_7 : decode cX6_costOf 7 = .ok (.iload_n 2, 1) := by decide +kernel
theorem dX6_costOf_8 : decode cX6_costOf 8 = .ok (.if_icmp .ge 75, 3) := by decide +kernel
theorem dX6_costOf_11 : decode cX6_costOf 11 = .ok (.iload_n 3, 1) := by decide +kernel
theorem dX6_costOf_12 : decode cX6_costOf 12 = .ok (.istore 5, 2) := by decide +kernel
theorem dX6_costOf_14 : decode cX6_costOf 14 = .ok (.iload 5, 2) := by decide +kernel
theorem dX6_costOf_16 : decode cX6_costOf 16 = .ok (.ifCond .le 49, 3) := by decide +kernel
theorem dX6_costOf_19 : decode cX6_costOf 19 = .ok (.aload_n 0, 1) := by decide +kernel
theorem dX6_costOf_20 : decode cX6_costOf 20 = .ok (.getfield 32, 3) := by decide +kernel
theorem dX6_costOf_23 : decode cX6_costOf 23 = .ok (.aload_n 0, 1) := by decide +kernel
theorem dX6_costOf_24 : decode cX6_costOf 24 = .ok (.getfield 50, 3) := by decide +kernel
theorem dX6_costOf_27 : decode cX6_costOf 27 = .ok (.iload 5, 2) := by decide +kernel
theorem dX6_costOf_29 : decode cX6_costOf 29 = .ok (.iconst 1, 1) := by decide +kernel
theorem dX6_costOf_30 : decode cX6_costOf 30 = .ok (.isub, 1) := by decide +kernel
theorem dX6_costOf_31 : decode cX6_costOf 31 = .ok (.iaload, 1) := by decide +kernel
theorem dX6_costOf_32 : decode cX6_costOf 32 = .ok (.iaload, 1) := by decide +kernel
theorem dX6_costOf_33 : decode cX6_costOf 33 = .ok (.aload_n 0, 1) := by decide +kernel
theorem dX6_costOf_34 : decode cX6_costOf 34 = .ok (.getfield 32, 3) := by decide +kernel
theorem dX6_costOf_37 : decode cX6_costOf 37 = .ok (.iload 4, 2) := by decide +kernel
theorem dX6_costOf_39 : decode cX6_costOf 39 = .ok (.iaload, 1) := by decide +kernel
theorem dX6_costOf_40 : decode cX6_costOf 40 = .ok (.if_icmp .le 25, 3) := by decide +kernel
theorem dX6_costOf_43 : decode cX6_costOf 43 = .ok (.aload_n 0, 1) := by decide +kernel
theorem dX6_costOf_44 : decode cX6_costOf 44 = .ok (.getfield 50, 3) := by decide +kernel
theorem dX6_costOf_47 : decode cX6_costOf 47 = .ok (.iload 5, 2) := by decide +kernel
theorem dX6_costOf_49 : decode cX6_costOf 49 = .ok (.aload_n 0, 1) := by decide +kernel
theorem dX6_costOf_50 : decode cX6_costOf 50 = .ok (.getfield 50, 3) := by decide +kernel
theorem dX6_costOf_53 : decode cX6_costOf 53 = .ok (.iload 5, 2) := by decide +kernel
theorem dX6_costOf_55 : decode cX6_costOf 55 = .ok (.iconst 1, 1) := by decide +kernel
theorem dX6_costOf_56 : decode cX6_costOf 56 = .ok (.isub, 1) := by decide +kernel
theorem dX6_costOf_57 : decode cX6_costOf 57 = .ok (.iaload, 1) := by decide +kernel
theorem dX6_costOf_58 : decode cX6_costOf 58 = .ok (.iastore, 1) := by decide +kernel
theorem dX6_costOf_59 : decode cX6_costOf 59 = .ok (.iinc 5 (-1), 3) := by decide +kernel
theorem dX6_costOf_62 : decode cX6_costOf 62 = .ok (.goto (-48), 3) := by decide +kernel
theorem dX6_costOf_65 : decode cX6_costOf 65 = .ok (.aload_n 0, 1) := by decide +kernel
theorem dX6_costOf_66 : decode cX6_costOf 66 = .ok (.getfield 50, 3) := by decide +kernel
theorem dX6_costOf_69 : decode cX6_costOf 69 = .ok (.iload 5, 2) := by decide +kernel
theorem dX6_costOf_71 : decode cX6_costOf 71 = .ok (.iload 4, 2) := by decide +kernel
theorem dX6_costOf_73 : decode cX6_costOf 73 = .ok (.iastore, 1) := by decide +kernel
theorem dX6_costOf_74 : decode cX6_costOf 74 = .ok (.iinc 3 1, 3) := by decide +kernel
theorem dX6_costOf_77 : decode cX6_costOf 77 = .ok (.iinc 4 1, 3) := by decide +kernel
theorem dX6_costOf_80 : decode cX6_costOf 80 = .ok (.goto (-75), 3) := by decide +kernel
theorem dX6_costOf_83 : decode cX6_costOf 83 = .ok (.aload_n 0, 1) := by decide +kernel
theorem dX6_costOf_84 : decode cX6_costOf 84 = .ok (.aload_n 0, 1) := by decide +kernel
theorem dX6_costOf_85 : decode cX6_costOf 85 = .ok (.getfield 50, 3) := by decide +kernel
theorem dX6_costOf_88 : decode cX6_costOf 88 = .ok (.iload_n 3, 1) := by decide +kernel
theorem dX6_costOf_89 : decode cX6_costOf 89 = .ok (.iconst 2, 1) := by decide +kernel
theorem dX6_costOf_90 : decode cX6_costOf 90 = .ok (.idiv, 1) := by decide +kernel
theorem dX6_costOf_91 : decode cX6_costOf 91 = .ok (.iaload, 1) := by decide +kernel
theorem dX6_costOf_92 : decode cX6_costOf 92 = .ok (.putfield 123, 3) := by decide +kernel
theorem dX6_costOf_95 : decode cX6_costOf 95 = .ok (.iconst 0, 1) := by decide +kernel
theorem dX6_costOf_96 : decode cX6_costOf 96 = .ok (.istore 4, 2) := by decide +kernel
theorem dX6_costOf_98 : decode cX6_costOf 98 = .ok (.iload_n 1, 1) := by decide +kernel
theorem dX6_costOf_99 : decode cX6_costOf 99 = .ok (.istore 5, 2) := by decide +kernel
theorem dX6_costOf_101 : decode cX6_costOf 101 = .ok (.iload 5, 2) := by decide +kernel
theorem dX6_costOf_103 : decode cX6_costOf 103 = .ok (.iload_n 2, 1) := by decide +kernel
theorem dX6_costOf_104 : decode cX6_costOf 104 = .ok (.if_icmp .ge 46, 3) := by decide +kernel
theorem dX6_costOf_107 : decode cX6_costOf 107 = .ok (.aload_n 0, 1) := by decide +kernel
theorem dX6_costOf_108 : decode cX6_costOf 108 = .ok (.getfield 32, 3) := by decide +kernel
theorem dX6_costOf_111 : decode cX6_costOf 111 = .ok (.iload 5, 2) := by decide +kernel
theorem dX6_costOf_113 : decode cX6_costOf 113 = .ok (.iaload, 1) := by decide +kernel
theorem dX6_costOf_114 : decode cX6_costOf 114 = .ok (.aload_n 0, 1) := by decide +kernel
theorem dX6_costOf_115 : decode cX6_costOf 115 = .ok (.getfield 32, 3) := by decide +kernel
theorem dX6_costOf_118 : decode cX6_costOf 118 = .ok (.aload_n 0, 1) := by decide +kernel
theorem dX6_costOf_119 : decode cX6_costOf 119 = .ok (.getfield 123, 3) := by decide +kernel
theorem dX6_costOf_122 : decode cX6_costOf 122 = .ok (.iaload, 1) := by decide +kernel
theorem dX6_costOf_123 : decode cX6_costOf 123 = .ok (.isub, 1) := by decide +kernel
theorem dX6_costOf_124 : decode cX6_costOf 124 = .ok (.istore 6, 2) := by decide +kernel
theorem dX6_costOf_126 : decode cX6_costOf 126 = .ok (.iload 4, 2) := by decide +kernel
theorem dX6_costOf_128 : decode cX6_costOf 128 = .ok (.iload 6, 2) := by decide +kernel
theorem dX6_costOf_130 : decode cX6_costOf 130 = .ok (.ifCond .ge 9, 3) := by decide +kernel
theorem dX6_costOf_133 : decode cX6_costOf 133 = .ok (.iload 6, 2) := by decide +kernel
theorem dX6_costOf_135 : decode cX6_costOf 135 = .ok (.ineg, 1) := by decide +kernel
theorem dX6_costOf_136 : decode cX6_costOf 136 = .ok (.goto 5, 3) := by decide +kernel
theorem dX6_costOf_139 : decode cX6_costOf 139 = .ok (.iload 6, 2) := by decide +kernel
theorem dX6_costOf_141 : decode cX6_costOf 141 = .ok (.iadd, 1) := by decide +kernel
theorem dX6_costOf_142 : decode cX6_costOf 142 = .ok (.istore 4, 2) := by decide +kernel
theorem dX6_costOf_144 : decode cX6_costOf 144 = .ok (.iinc 5 1, 3) := by decide +kernel
theorem dX6_costOf_147 : decode cX6_costOf 147 = .ok (.goto (-46), 3) := by decide +kernel
theorem dX6_costOf_150 : decode cX6_costOf 150 = .ok (.iload 4, 2) := by decide +kernel
theorem dX6_costOf_152 : decode cX6_costOf 152 = .ok (.ireturn, 1) := by decide +kernel
theorem dX6_layCuts_0 : decode cX6_layCuts 0 = .ok (.aload_n 0, 1) := by decide +kernel
theorem dX6_layCuts_1 : decode cX6_layCuts 1 = .ok (.iload_n 1, 1) := by decide +kernel
theorem dX6_layCuts_2 : decode cX6_layCuts 2 = .ok (.invokevirtual 126, 3) := by decide +kernel
theorem dX6_layCuts_5 : decode cX6_layCuts 5 = .ok (.aload_n 0, 1) := by decide +kernel
theorem dX6_layCuts_6 : decode cX6_layCuts 6 = .ok (.getfield 35, 3) := by decide +kernel
theorem dX6_layCuts_9 : decode cX6_layCuts 9 = .ok (.aload_n 0, 1) := by decide +kernel
theorem dX6_layCuts_10 : decode cX6_layCuts 10 = .ok (.getfield 112, 3) := by decide +kernel
theorem dX6_layCuts_13 : decode cX6_layCuts 13 = .ok (.iconst 0, 1) := by decide +kernel
theorem dX6_layCuts_14 : decode cX6_layCuts 14 = .ok (.iastore, 1) := by decide +kernel
theorem dX6_layCuts_15 : decode cX6_layCuts 15 = .ok (.aload_n 0, 1) := by decide +kernel
theorem dX6_layCuts_16 : decode cX6_layCuts 16 = .ok (.getfield 38, 3) := by decide +kernel
theorem dX6_layCuts_19 : decode cX6_layCuts 19 = .ok (.aload_n 0, 1) := by decide +kernel
theorem dX6_layCuts_20 : decode cX6_layCuts 20 = .ok (.getfield 112, 3) := by decide +kernel
theorem dX6_layCuts_23 : decode cX6_layCuts 23 = .ok (.iconst 0, 1) := by decide +kernel
theorem dX6_layCuts_24 : decode cX6_layCuts 24 = .ok (.iastore, 1) := by decide +kernel
theorem dX6_layCuts_25 : decode cX6_layCuts 25 = .ok (.aload_n 0, 1) := by decide +kernel
theorem dX6_layCuts_26 : decode cX6_layCuts 26 = .ok (.getfield 112, 3) := by decide +kernel
theorem dX6_layCuts_29 : decode cX6_layCuts 29 = .ok (.iconst 1, 1) := by decide +kernel
theorem dX6_layCuts_30 : decode cX6_layCuts 30 = .ok (.isub, 1) := by decide +kernel
theorem dX6_layCuts_31 : decode cX6_layCuts 31 = .ok (.istore_n 2, 1) := by decide +kernel
theorem dX6_layCuts_32 : decode cX6_layCuts 32 = .ok (.iload_n 2, 1) := by decide +kernel
theorem dX6_layCuts_33 : decode cX6_layCuts 33 = .ok (.ifCond .lt 156, 3) := by decide +kernel
theorem dX6_layCuts_36 : decode cX6_layCuts 36 = .ok (.aload_n 0, 1) := by decide +kernel
theorem dX6_layCuts_37 : decode cX6_layCuts 37 = .ok (.getfield 41, 3) := by decide +kernel
theorem dX6_layCuts_40 : decode cX6_layCuts 40 = .ok (.iload_n 2, 1) := by decide +kernel
theorem dX6_layCuts_41 : decode cX6_layCuts 41 = .ok (.bipush (-9), 2) := by decide +kernel
theorem dX6_layCuts_43 : decode cX6_layCuts 43 = .ok (.iastore, 1) := by decide +kernel
theorem dX6_layCuts_44 : decode cX6_layCuts 44 = .ok (.iload_n 2, 1) := by decide +kernel
theorem dX6_layCuts_45 : decode cX6_layCuts 45 = .ok (.iconst 1, 1) := by decide +kernel
theorem dX6_layCuts_46 : decode cX6_layCuts 46 = .ok (.iadd, 1) := by decide +kernel
theorem dX6_layCuts_47 : decode cX6_layCuts 47 = .ok (.istore_n 3, 1) := by decide +kernel
theorem dX6_layCuts_48 : decode cX6_layCuts 48 = .ok (.iload_n 3, 1) := by decide +kernel
theorem dX6_layCuts_49 : decode cX6_layCuts 49 = .ok (.aload_n 0, 1) := by decide +kernel
theorem dX6_layCuts_50 : decode cX6_layCuts 50 = .ok (.getfield 112, 3) := by decide +kernel
theorem dX6_layCuts_53 : decode cX6_layCuts 53 = .ok (.if_icmp .gt 130, 3) := by decide +kernel
theorem dX6_layCuts_56 : decode cX6_layCuts 56 = .ok (.aload_n 0, 1) := by decide +kernel
theorem dX6_layCuts_57 : decode cX6_layCuts 57 = .ok (.iload_n 2, 1) := by decide +kernel
theorem dX6_layCuts_58 : decode cX6_layCuts 58 = .ok (.iload_n 3, 1) := by decide +kernel
theorem dX6_layCuts_59 : decode cX6_layCuts 59 = .ok (.invokevirtual 129, 3) := by decide +kernel
theorem dX6_layCuts_62 : decode cX6_layCuts 62 = .ok (.iload_n 3, 1) := by decide +kernel
theorem dX6_layCuts_63 : decode cX6_layCuts 63 = .ok (.aload_n 0, 1) := by decide +kernel
theorem dX6_layCuts_64 : decode cX6_layCuts 64 = .ok (.getfield 112, 3) := by decide +kernel
theorem dX6_layCuts_67 : decode cX6_layCuts 67 = .ok (.if_icmp .ge 17, 3) := by decide +kernel
theorem dX6_layCuts_70 : decode cX6_layCuts 70 = .ok (.aload_n 0, 1) := by decide +kernel
theorem dX6_layCuts_71 : decode cX6_layCuts 71 = .ok (.getfield 70, 3) := by decide +kernel
theorem dX6_layCuts_74 : decode cX6_layCuts 74 = .ok (.aload_n 0, 1) := by decide +kernel
theorem dX6_layCuts_75 : decode cX6_layCuts 75 = .ok (.getfield 35, 3) := by decide +kernel
theorem dX6_layCuts_78 : decode cX6_layCuts 78 = .ok (.iload_n 3, 1) := by decide +kernel
theorem dX6_layCuts_79 : decode cX6_layCuts 79 = .ok (.iaload, 1) := by decide +kernel
theorem dX6_layCuts_80 : decode cX6_layCuts 80 = .ok (.iadd, 1) := by decide +kernel
theorem dX6_layCuts_81 : decode cX6_layCuts 81 = .ok (.goto 4, 3) := by decide +kernel
theorem dX6_layCuts_84 : decode cX6_layCuts 84 = .ok (.iconst 0, 1) := by decide +kernel
theorem dX6_layCuts_85 : decode cX6_layCuts 85 = .ok (.iadd, 1) := by decide +kernel
theorem dX6_layCuts_86 : decode cX6_layCuts 86 = .ok (.istore 4, 2) := by decide +kernel
theorem dX6_layCuts_88 : decode cX6_layCuts 88 = .ok (.iload_n 3, 1) := by decide +kernel
theorem dX6_layCuts_89 : decode cX6_layCuts 89 = .ok (.aload_n 0, 1) := by decide +kernel
theorem dX6_layCuts_90 : decode cX6_layCuts 90 = .ok (.getfield 112, 3) := by decide +kernel
theorem dX6_layCuts_93 : decode cX6_layCuts 93 = .ok (.if_icmp .ge 14, 3) := by decide +kernel
theorem dX6_layCuts_96 : decode cX6_layCuts 96 = .ok (.iconst 1, 1) := by decide +kernel
theorem dX6_layCuts_97 : decode cX6_layCuts 97 = .ok (.aload_n 0, 1) := by decide +kernel
theorem dX6_layCuts_98 : decode cX6_layCuts 98 = .ok (.getfield 38, 3) := by decide +kernel
theorem dX6_layCuts_101 : decode cX6_layCuts 101 = .ok (.iload_n 3, 1) := by decide +kernel
theorem dX6_layCuts_102 : decode cX6_layCuts 102 = .ok (.iaload, 1) := by decide +kernel
theorem dX6_layCuts_103 : decode cX6_layCuts 103 = .ok (.iadd, 1) := by decide +kernel
theorem dX6_layCuts_104 : decode cX6_layCuts 104 = .ok (.goto 4, 3) := by decide +kernel
theorem dX6_layCuts_107 : decode cX6_layCuts 107 = .ok (.iconst 0, 1) := by decide +kernel
theorem dX6_layCuts_108 : decode cX6_layCuts 108 = .ok (.istore 5, 2) := by decide +kernel
theorem dX6_layCuts_110 : decode cX6_layCuts 110 = .ok (.aload_n 0, 1) := by decide +kernel
theorem dX6_layCuts_111 : decode cX6_layCuts 111 = .ok (.getfield 41, 3) := by decide +kernel
theorem dX6_layCuts_114 : decode cX6_layCuts 114 = .ok (.iload_n 2, 1) := by decide +kernel
theorem dX6_layCuts_115 : decode cX6_layCuts 115 = .ok (.iaload, 1) := by decide +kernel
theorem dX6_layCuts_116 : decode cX6_layCuts 116 = .ok (.bipush (-9), 2) := by decide +kernel
theorem dX6_layCuts_118 : decode cX6_layCuts 118 = .ok (.if_icmp .eq 36, 3) := by decide +kernel
theorem dX6_layCuts_121 : decode cX6_layCuts 121 = .ok (.iload 4, 2) := by decide +kernel
theorem dX6_layCuts_123 : decode cX6_layCuts 123 = .ok (.aload_n 0, 1) := by decide +kernel
theorem dX6_layCuts_124 : decode cX6_layCuts 124 = .ok (.getfield 35, 3) := by decide +kernel
theorem dX6_layCuts_127 : decode cX6_layCuts 127 = .ok (.iload_n 2, 1) := by decide +kernel
theorem dX6_layCuts_128 : decode cX6_layCuts 128 = .ok (.iaload, 1) := by decide +kernel
theorem dX6_layCuts_129 : decode cX6_layCuts 129 = .ok (.if_icmp .lt 25, 3) := by decide +kernel
theorem dX6_layCuts_132 : decode cX6_layCuts 132 = .ok (.iload 4, 2) := by decide +kernel
theorem dX6_layCuts_134 : decode cX6_layCuts 134 = .ok (.aload_n 0, 1) := by decide +kernel
theorem dX6_layCuts_135 : decode cX6_layCuts 135 = .ok (.getfield 35, 3) := by decide +kernel
theorem dX6_layCuts_138 : decode cX6_layCuts 138 = .ok (.iload_n 2, 1) := by decide +kernel
theorem dX6_layCuts_139 : decode cX6_layCuts 139 = .ok (.iaload, 1) := by decide +kernel
theorem dX6_layCuts_140 : decode cX6_layCuts 140 = .ok (.if_icmp .ne 37, 3) := by decide +kernel
theorem dX6_layCuts_143 : decode cX6_layCuts 143 = .ok (.iload 5, 2) := by decide +kernel
theorem dX6_layCuts_145 : decode cX6_layCuts 145 = .ok (.aload_n 0, 1) := by decide +kernel
theorem dX6_layCuts_146 : decode cX6_layCuts 146 = .ok (.getfield 38, 3) := by decide +kernel
theorem dX6_layCuts_149 : decode cX6_layCuts 149 = .ok (.iload_n 2, 1) := by decide +kernel
theorem dX6_layCuts_150 : decode cX6_layCuts 150 = .ok (.iaload, 1) := by decide +kernel
theorem dX6_layCuts_151 : decode cX6_layCuts 151 = .ok (.if_icmp .ge 26, 3) := by decide +kernel
theorem dX6_layCuts_154 : decode cX6_layCuts 154 = .ok (.aload_n 0, 1) := by decide +kernel
theorem dX6_layCuts_155 : decode cX6_layCuts 155 = .ok (.getfield 35, 3) := by decide +kernel
theorem dX6_layCuts_158 : decode cX6_layCuts 158 = .ok (.iload_n 2, 1) := by decide +kernel
theorem dX6_layCuts_159 : decode cX6_layCuts 159 = .ok (.iload 4, 2) := by decide +kernel
theorem dX6_layCuts_161 : decode cX6_layCuts 161 = .ok (.iastore, 1) := by decide +kernel
theorem dX6_layCuts_162 : decode cX6_layCuts 162 = .ok (.aload_n 0, 1) := by decide +kernel
theorem dX6_layCuts_163 : decode cX6_layCuts 163 = .ok (.getfield 38, 3) := by decide +kernel
theorem dX6_layCuts_166 : decode cX6_layCuts 166 = .ok (.iload_n 2, 1) := by decide +kernel
theorem dX6_layCuts_167 : decode cX6_layCuts 167 = .ok (.iload 5, 2) := by decide +kernel
theorem dX6_layCuts_169 : decode cX6_layCuts 169 = .ok (.iastore, 1) := by decide +kernel
theorem dX6_layCuts_170 : decode cX6_layCuts 170 = .ok (.aload_n 0, 1) := by decide +kernel
theorem dX6_layCuts_171 : decode cX6_layCuts 171 = .ok (.getfield 41, 3) := by decide +kernel
theorem dX6_layCuts_174 : decode cX6_layCuts 174 = .ok (.iload_n 2, 1) := by decide +kernel
theorem dX6_layCuts_175 : decode cX6_layCuts 175 = .ok (.iload_n 3, 1) := by decide +kernel
theorem dX6_layCuts_176 : decode cX6_layCuts 176 = .ok (.iastore, 1) := by decide +kernel
theorem dX6_layCuts_177 : decode cX6_layCuts 177 = .ok (.iinc 3 1, 3) := by decide +kernel
theorem dX6_layCuts_180 : decode cX6_layCuts 180 = .ok (.goto (-132), 3) := by decide +kernel
theorem dX6_layCuts_183 : decode cX6_layCuts 183 = .ok (.iinc 2 (-1), 3) := by decide +kernel
theorem dX6_layCuts_186 : decode cX6_layCuts 186 = .ok (.goto (-154), 3) := by decide +kernel
theorem dX6_layCuts_189 : decode cX6_layCuts 189 = .ok (.aload_n 0, 1) := by decide +kernel
theorem dX6_layCuts_190 : decode cX6_layCuts 190 = .ok (.iconst 0, 1) := by decide +kernel
theorem dX6_layCuts_191 : decode cX6_layCuts 191 = .ok (.putfield 132, 3) := by decide +kernel
theorem dX6_layCuts_194 : decode cX6_layCuts 194 = .ok (.iconst 0, 1) := by decide +kernel
theorem dX6_layCuts_195 : decode cX6_layCuts 195 = .ok (.istore_n 2, 1) := by decide +kernel
theorem dX6_layCuts_196 : decode cX6_layCuts 196 = .ok (.iload_n 2, 1) := by decide +kernel
theorem dX6_layCuts_197 : decode cX6_layCuts 197 = .ok (.aload_n 0, 1) := by decide +kernel
theorem dX6_layCuts_198 : decode cX6_layCuts 198 = .ok (.getfield 112, 3) := by decide +kernel
theorem dX6_layCuts_201 : decode cX6_layCuts 201 = .ok (.if_icmp .ge 63, 3) := by decide +kernel
theorem dX6_layCuts_204 : decode cX6_layCuts 204 = .ok (.aload_n 0, 1) := by decide +kernel
theorem dX6_layCuts_205 : decode cX6_layCuts 205 = .ok (.iload_n 2, 1) := by decide +kernel
theorem dX6_layCuts_206 : decode cX6_layCuts 206 = .ok (.aload_n 0, 1) := by decide +kernel
theorem dX6_layCuts_207 : decode cX6_layCuts 207 = .ok (.getfield 41, 3) := by decide +kernel
theorem dX6_layCuts_210 : decode cX6_layCuts 210 = .ok (.iload_n 2, 1) := by decide +kernel
theorem dX6_layCuts_211 : decode cX6_layCuts 211 = .ok (.iaload, 1) := by decide +kernel
theorem dX6_layCuts_212 : decode cX6_layCuts 212 = .ok (.invokevirtual 129, 3) := by decide +kernel
theorem dX6_layCuts_215 : decode cX6_layCuts 215 = .ok (.istore_n 3, 1) := by decide +kernel
theorem dX6_layCuts_216 : decode cX6_layCuts 216 = .ok (.aload_n 0, 1) := by decide +kernel
theorem dX6_layCuts_217 : decode cX6_layCuts 217 = .ok (.getfield 44, 3) := by decide +kernel
theorem dX6_layCuts_220 : decode cX6_layCuts 220 = .ok (.aload_n 0, 1) := by decide +kernel
theorem dX6_layCuts_221 : decode cX6_layCuts 221 = .ok (.getfield 132, 3) := by decide +kernel
theorem dX6_layCuts_224 : decode cX6_layCuts 224 = .ok (.iload_n 2, 1) := by decide +kernel
theorem dX6_layCuts_225 : decode cX6_layCuts 225 = .ok (.iastore, 1) := by decide +kernel
theorem dX6_layCuts_226 : decode cX6_layCuts 226 = .ok (.aload_n 0, 1) := by decide +kernel
theorem dX6_layCuts_227 : decode cX6_layCuts 227 = .ok (.getfield 47, 3) := by decide +kernel
theorem dX6_layCuts_230 : decode cX6_layCuts 230 = .ok (.aload_n 0, 1) := by decide +kernel
theorem dX6_layCuts_231 : decode cX6_layCuts 231 = .ok (.getfield 132, 3) := by decide +kernel
theorem dX6_layCuts_234 : decode cX6_layCuts 234 = .ok (.aload_n 0, 1) := by decide +kernel
theorem dX6_layCuts_235 : decode cX6_layCuts 235 = .ok (.getfield 29, 3) := by decide +kernel
theorem dX6_layCuts_238 : decode cX6_layCuts 238 = .ok (.aload_n 0, 1) := by decide +kernel
theorem dX6_layCuts_239 : decode cX6_layCuts 239 = .ok (.getfield 123, 3) := by decide +kernel
theorem dX6_layCuts_242 : decode cX6_layCuts 242 = .ok (.iaload, 1) := by decide +kernel
theorem dX6_layCuts_243 : decode cX6_layCuts 243 = .ok (.iastore, 1) := by decide +kernel
theorem dX6_layCuts_244 : decode cX6_layCuts 244 = .ok (.aload_n 0, 1) := by decide +kernel
theorem dX6_layCuts_245 : decode cX6_layCuts 245 = .ok (.dup, 1) := by decide +kernel
theorem dX6_layCuts_246 : decode cX6_layCuts 246 = .ok (.getfield 132, 3) := by decide +kernel
theorem dX6_layCuts_249 : decode cX6_layCuts 249 = .ok (.iconst 1, 1) := by decide +kernel
theorem dX6_layCuts_250 : decode cX6_layCuts 250 = .ok (.iadd, 1) := by decide +kernel
theorem dX6_layCuts_251 : decode cX6_layCuts 251 = .ok (.putfield 132, 3) := by decide +kernel
theorem dX6_layCuts_254 : decode cX6_layCuts 254 = .ok (.aload_n 0, 1) := by decide +kernel
theorem dX6_layCuts_255 : decode cX6_layCuts 255 = .ok (.getfield 41, 3) := by decide +kernel
theorem dX6_layCuts_258 : decode cX6_layCuts 258 = .ok (.iload_n 2, 1) := by decide +kernel
theorem dX6_layCuts_259 : decode cX6_layCuts 259 = .ok (.iaload, 1) := by decide +kernel
theorem dX6_layCuts_260 : decode cX6_layCuts 260 = .ok (.istore_n 2, 1) := by decide +kernel
theorem dX6_layCuts_261 : decode cX6_layCuts 261 = .ok (.goto (-65), 3) := by decide +kernel
theorem dX6_layCuts_264 : decode cX6_layCuts 264 = .ok (.aload_n 0, 1) := by decide +kernel
theorem dX6_layCuts_265 : decode cX6_layCuts 265 = .ok (.getfield 44, 3) := by decide +kernel
theorem dX6_layCuts_268 : decode cX6_layCuts 268 = .ok (.aload_n 0, 1) := by decide +kernel
theorem dX6_layCuts_269 : decode cX6_layCuts 269 = .ok (.getfield 132, 3) := by decide +kernel
theorem dX6_layCuts_272 : decode cX6_layCuts 272 = .ok (.aload_n 0, 1) := by decide +kernel
theorem dX6_layCuts_273 : decode cX6_layCuts 273 = .ok (.getfield 112, 3) := by decide +kernel
theorem dX6_layCuts_276 : decode cX6_layCuts 276 = .ok (.iastore, 1) := by decide +kernel
theorem dX6_layCuts_277 : decode cX6_layCuts 277 = .ok (.return_, 1) := by decide +kernel
theorem dX6_isCut_0 : decode cX6_isCut 0 = .ok (.iload_n 1, 1) := by decide +kernel
theorem dX6_isCut_1 : decode cX6_isCut 1 = .ok (.ifCond .lt 17, 3) := by decide +kernel
theorem dX6_isCut_4 : decode cX6_isCut 4 = .ok (.iload_n 1, 1) := by decide +kernel
theorem dX6_isCut_5 : decode cX6_isCut 5 = .ok (.aload_n 0, 1) := by decide +kernel
theorem dX6_isCut_6 : decode cX6_isCut 6 = .ok (.getfield 132, 3) := by decide +kernel
theorem dX6_isCut_9 : decode cX6_isCut 9 = .ok (.iconst 1, 1) := by decide +kernel
theorem dX6_isCut_10 : decode cX6_isCut 10 = .ok (.isub, 1) := by decide +kernel
theorem dX6_isCut_11 : decode cX6_isCut 11 = .ok (.if_icmp .ge 7, 3) := by decide +kernel
theorem dX6_isCut_14 : decode cX6_isCut 14 = .ok (.iconst 1, 1) := by decide +kernel
theorem dX6_isCut_15 : decode cX6_isCut 15 = .ok (.goto 4, 3) := by decide +kernel
theorem dX6_isCut_18 : decode cX6_isCut 18 = .ok (.iconst 0, 1) := by decide +kernel
theorem dX6_isCut_19 : decode cX6_isCut 19 = .ok (.ireturn, 1) := by decide +kernel
theorem dX6_buildOfCut_0 : decode cX6_buildOfCut 0 = .ok (.aload_n 0, 1) := by decide +kernel
theorem dX6_buildOfCut_1 : decode cX6_buildOfCut 1 = .ok (.getfield 26, 3) := by decide +kernel
theorem dX6_buildOfCut_4 : decode cX6_buildOfCut 4 = .ok (.aload_n 0, 1) := by decide +kernel
theorem dX6_buildOfCut_5 : decode cX6_buildOfCut 5 = .ok (.getfield 44, 3) := by decide +kernel
theorem dX6_buildOfCut_8 : decode cX6_buildOfCut 8 = .ok (.iload_n 1, 1) := by decide +kernel
theorem dX6_buildOfCut_9 : decode cX6_buildOfCut 9 = .ok (.iconst 1, 1) := by decide +kernel
theorem dX6_buildOfCut_10 : decode cX6_buildOfCut 10 = .ok (.iadd, 1) := by decide +kernel
theorem dX6_buildOfCut_11 : decode cX6_buildOfCut 11 = .ok (.iaload, 1) := by decide +kernel
theorem dX6_buildOfCut_12 : decode cX6_buildOfCut 12 = .ok (.iaload, 1) := by decide +kernel
theorem dX6_buildOfCut_13 : decode cX6_buildOfCut 13 = .ok (.ireturn, 1) := by decide +kernel
theorem dX6_sizeOf_0 : decode cX6_sizeOf 0 = .ok (.aload_n 0, 1) := by decide +kernel
theorem dX6_sizeOf_1 : decode cX6_sizeOf 1 = .ok (.getfield 47, 3) := by decide +kernel
theorem dX6_sizeOf_4 : decode cX6_sizeOf 4 = .ok (.iload_n 1, 1) := by decide +kernel
theorem dX6_sizeOf_5 : decode cX6_sizeOf 5 = .ok (.iconst 1, 1) := by decide +kernel
theorem dX6_sizeOf_6 : decode cX6_sizeOf 6 = .ok (.iadd, 1) := by decide +kernel
theorem dX6_sizeOf_7 : decode cX6_sizeOf 7 = .ok (.iaload, 1) := by decide +kernel
theorem dX6_sizeOf_8 : decode cX6_sizeOf 8 = .ok (.aload_n 0, 1) := by decide +kernel
theorem dX6_sizeOf_9 : decode cX6_sizeOf 9 = .ok (.getfield 47, 3) := by decide +kernel
theorem dX6_sizeOf_12 : decode cX6_sizeOf 12 = .ok (.iload_n 1, 1) := by decide +kernel
theorem dX6_sizeOf_13 : decode cX6_sizeOf 13 = .ok (.iaload, 1) := by decide +kernel
theorem dX6_sizeOf_14 : decode cX6_sizeOf 14 = .ok (.isub, 1) := by decide +kernel
theorem dX6_sizeOf_15 : decode cX6_sizeOf 15 = .ok (.ireturn, 1) := by decide +kernel
theorem dX6_price_0 : decode cX6_price 0 = .ok (.iload_n 1, 1) := by decide +kernel
theorem dX6_price_1 : decode cX6_price 1 = .ok (.iconst 0, 1) := by decide +kernel
theorem dX6_price_2 : decode cX6_price 2 = .ok (.sipush 1000, 3) := by decide +kernel
theorem dX6_price_5 : decode cX6_price 5 = .ok (.invokestatic 84, 3) := by decide +kernel
theorem dX6_price_8 : decode cX6_price 8 = .ok (.ifCond .ne 5, 3) := by decide +kernel
theorem dX6_price_11 : decode cX6_price 11 = .ok (.iconst (-1), 1) := by decide +kernel
theorem dX6_price_12 : decode cX6_price 12 = .ok (.ireturn, 1) := by decide +kernel
theorem dX6_price_13 : decode cX6_price 13 = .ok (.aload_n 0, 1) := by decide +kernel
theorem dX6_price_14 : decode cX6_price 14 = .ok (.getfield 70, 3) := by decide +kernel
theorem dX6_price_17 : decode cX6_price 17 = .ok (.istore_n 2, 1) := by decide +kernel
theorem dX6_price_18 : decode cX6_price 18 = .ok (.aload_n 0, 1) := by decide +kernel
theorem dX6_price_19 : decode cX6_price 19 = .ok (.iload_n 1, 1) := by decide +kernel
theorem dX6_price_20 : decode cX6_price 20 = .ok (.putfield 70, 3) := by decide +kernel
theorem dX6_price_23 : decode cX6_price 23 = .ok (.iload_n 2, 1) := by decide +kernel
theorem dX6_price_24 : decode cX6_price 24 = .ok (.ireturn, 1) := by decide +kernel
theorem dX6_cuts_0 : decode cX6_cuts 0 = .ok (.aload_n 0, 1) := by decide +kernel
theorem dX6_cuts_1 : decode cX6_cuts 1 = .ok (.iload_n 1, 1) := by decide +kernel
theorem dX6_cuts_2 : decode cX6_cuts 2 = .ok (.iload_n 2, 1) := by decide +kernel
theorem dX6_cuts_3 : decode cX6_cuts 3 = .ok (.invokevirtual 119, 3) := by decide +kernel
theorem dX6_cuts_6 : decode cX6_cuts 6 = .ok (.istore_n 3, 1) := by decide +kernel
theorem dX6_cuts_7 : decode cX6_cuts 7 = .ok (.iload_n 3, 1) := by decide +kernel
theorem dX6_cuts_8 : decode cX6_cuts 8 = .ok (.ifCond .ge 5, 3) := by decide +kernel
theorem dX6_cuts_11 : decode cX6_cuts 11 = .ok (.iload_n 3, 1) := by decide +kernel
theorem dX6_cuts_12 : decode cX6_cuts 12 = .ok (.ireturn, 1) := by decide +kernel
theorem dX6_cuts_13 : decode cX6_cuts 13 = .ok (.aload_n 0, 1) := by decide +kernel
theorem dX6_cuts_14 : decode cX6_cuts 14 = .ok (.aload_n 0, 1) := by decide +kernel
theorem dX6_cuts_15 : decode cX6_cuts 15 = .ok (.getfield 112, 3) := by decide +kernel
theorem dX6_cuts_18 : decode cX6_cuts 18 = .ok (.ifCond .ne 7, 3) := by decide +kernel
theorem dX6_cuts_21 : decode cX6_cuts 21 = .ok (.lconst 0, 1) := by decide +kernel
theorem dX6_cuts_22 : decode cX6_cuts 22 = .ok (.goto 10, 3) := by decide +kernel
theorem dX6_cuts_25 : decode cX6_cuts 25 = .ok (.aload_n 0, 1) := by decide +kernel
theorem dX6_cuts_26 : decode cX6_cuts 26 = .ok (.getfield 35, 3) := by decide +kernel
theorem dX6_cuts_29 : decode cX6_cuts 29 = .ok (.iconst 0, 1) := by decide +kernel
theorem dX6_cuts_30 : decode cX6_cuts 30 = .ok (.iaload, 1) := by decide +kernel
theorem dX6_cuts_31 : decode cX6_cuts 31 = .ok (.i2l, 1) := by decide +kernel
theorem dX6_cuts_32 : decode cX6_cuts 32 = .ok (.putfield 88, 3) := by decide +kernel
theorem dX6_cuts_35 : decode cX6_cuts 35 = .ok (.aload_n 0, 1) := by decide +kernel
theorem dX6_cuts_36 : decode cX6_cuts 36 = .ok (.getfield 112, 3) := by decide +kernel
theorem dX6_cuts_39 : decode cX6_cuts 39 = .ok (.ifCond .ne 7, 3) := by decide +kernel
theorem dX6_cuts_42 : decode cX6_cuts 42 = .ok (.iconst 0, 1) := by decide +kernel
theorem dX6_cuts_43 : decode cX6_cuts 43 = .ok (.goto 9, 3) := by decide +kernel
theorem dX6_cuts_46 : decode cX6_cuts 46 = .ok (.aload_n 0, 1) := by decide +kernel
theorem dX6_cuts_47 : decode cX6_cuts 47 = .ok (.getfield 132, 3) := by decide +kernel
theorem dX6_cuts_50 : decode cX6_cuts 50 = .ok (.iconst 1, 1) := by decide +kernel
theorem dX6_cuts_51 : decode cX6_cuts 51 = .ok (.isub, 1) := by decide +kernel
theorem dX6_cuts_52 : decode cX6_cuts 52 = .ok (.ireturn, 1) := by decide +kernel
theorem dX6_cut_0 : decode cX6_cut 0 = .ok (.aload_n 0, 1) := by decide +kernel
theorem dX6_cut_1 : decode cX6_cut 1 = .ok (.iload_n 1, 1) := by decide +kernel
theorem dX6_cut_2 : decode cX6_cut 2 = .ok (.iload_n 2, 1) := by decide +kernel
theorem dX6_cut_3 : decode cX6_cut 3 = .ok (.invokevirtual 119, 3) := by decide +kernel
theorem dX6_cut_6 : decode cX6_cut 6 = .ok (.istore 4, 2) := by decide +kernel
theorem dX6_cut_8 : decode cX6_cut 8 = .ok (.iload 4, 2) := by decide +kernel
theorem dX6_cut_10 : decode cX6_cut 10 = .ok (.ifCond .ge 8, 3) := by decide +kernel
theorem dX6_cut_13 : decode cX6_cut 13 = .ok (.iload 4, 2) := by decide +kernel
theorem dX6_cut_15 : decode cX6_cut 15 = .ok (.goto 21, 3) := by decide +kernel
theorem dX6_cut_18 : decode cX6_cut 18 = .ok (.aload_n 0, 1) := by decide +kernel
theorem dX6_cut_19 : decode cX6_cut 19 = .ok (.iload_n 3, 1) := by decide +kernel
theorem dX6_cut_20 : decode cX6_cut 20 = .ok (.invokevirtual 135, 3) := by decide +kernel
theorem dX6_cut_23 : decode cX6_cut 23 = .ok (.ifCond .eq 11, 3) := by decide +kernel
theorem dX6_cut_26 : decode cX6_cut 26 = .ok (.aload_n 0, 1) := by decide +kernel
theorem dX6_cut_27 : decode cX6_cut 27 = .ok (.iload_n 3, 1) := by decide +kernel
theorem dX6_cut_28 : decode cX6_cut 28 = .ok (.invokevirtual 138, 3) := by decide +kernel
theorem dX6_cut_31 : decode cX6_cut 31 = .ok (.goto 5, 3) := by decide +kernel
theorem dX6_cut_34 : decode cX6_cut 34 = .ok (.bipush (-9), 2) := by decide +kernel
theorem dX6_cut_36 : decode cX6_cut 36 = .ok (.ireturn, 1) := by decide +kernel
theorem dX6_middle_0 : decode cX6_middle 0 = .ok (.aload_n 0, 1) := by decide +kernel
theorem dX6_middle_1 : decode cX6_middle 1 = .ok (.iload_n 1, 1) := by decide +kernel
theorem dX6_middle_2 : decode cX6_middle 2 = .ok (.iload_n 2, 1) := by decide +kernel
theorem dX6_middle_3 : decode cX6_middle 3 = .ok (.invokevirtual 119, 3) := by decide +kernel
theorem dX6_middle_6 : decode cX6_middle 6 = .ok (.istore 4, 2) := by decide +kernel
theorem dX6_middle_8 : decode cX6_middle 8 = .ok (.iload 4, 2) := by decide +kernel
theorem dX6_middle_10 : decode cX6_middle 10 = .ok (.ifCond .ge 8, 3) := by decide +kernel
theorem dX6_middle_13 : decode cX6_middle 13 = .ok (.iload 4, 2) := by decide +kernel
theorem dX6_middle_15 : decode cX6_middle 15 = .ok (.goto 28, 3) := by decide +kernel
theorem dX6_middle_18 : decode cX6_middle 18 = .ok (.iload_n 3, 1) := by decide +kernel
theorem dX6_middle_19 : decode cX6_middle 19 = .ok (.iconst 0, 1) := by decide +kernel
theorem dX6_middle_20 : decode cX6_middle 20 = .ok (.aload_n 0, 1) := by decide +kernel
theorem dX6_middle_21 : decode cX6_middle 21 = .ok (.getfield 132, 3) := by decide +kernel
theorem dX6_middle_24 : decode cX6_middle 24 = .ok (.iconst 1, 1) := by decide +kernel
theorem dX6_middle_25 : decode cX6_middle 25 = .ok (.isub, 1) := by decide +kernel
theorem dX6_middle_26 : decode cX6_middle 26 = .ok (.invokestatic 84, 3) := by decide +kernel
theorem dX6_middle_29 : decode cX6_middle 29 = .ok (.ifCond .eq 12, 3) := by decide +kernel
theorem dX6_middle_32 : decode cX6_middle 32 = .ok (.aload_n 0, 1) := by decide +kernel
theorem dX6_middle_33 : decode cX6_middle 33 = .ok (.getfield 47, 3) := by decide +kernel
theorem dX6_middle_36 : decode cX6_middle 36 = .ok (.iload_n 3, 1) := by decide +kernel
theorem dX6_middle_37 : decode cX6_middle 37 = .ok (.iaload, 1) := by decide +kernel
theorem dX6_middle_38 : decode cX6_middle 38 = .ok (.goto 5, 3) := by decide +kernel
theorem dX6_middle_41 : decode cX6_middle 41 = .ok (.bipush (-9), 2) := by decide +kernel
theorem dX6_middle_43 : decode cX6_middle 43 = .ok (.ireturn, 1) := by decide +kernel
theorem dX6_size_0 : decode cX6_size 0 = .ok (.aload_n 0, 1) := by decide +kernel
theorem dX6_size_1 : decode cX6_size 1 = .ok (.iload_n 1, 1) := by decide +kernel
theorem dX6_size_2 : decode cX6_size 2 = .ok (.iload_n 2, 1) := by decide +kernel
theorem dX6_size_3 : decode cX6_size 3 = .ok (.invokevirtual 119, 3) := by decide +kernel
theorem dX6_size_6 : decode cX6_size 6 = .ok (.istore 4, 2) := by decide +kernel
theorem dX6_size_8 : decode cX6_size 8 = .ok (.iload 4, 2) := by decide +kernel
theorem dX6_size_10 : decode cX6_size 10 = .ok (.ifCond .ge 6, 3) := by decide +kernel
theorem dX6_size_13 : decode cX6_size 13 = .ok (.iload 4, 2) := by decide +kernel
theorem dX6_size_15 : decode cX6_size 15 = .ok (.ireturn, 1) := by decide +kernel
theorem dX6_size_16 : decode cX6_size 16 = .ok (.aload_n 0, 1) := by decide +kernel
theorem dX6_size_17 : decode cX6_size 17 = .ok (.iload_n 3, 1) := by decide +kernel
theorem dX6_size_18 : decode cX6_size 18 = .ok (.invokevirtual 135, 3) := by decide +kernel
theorem dX6_size_21 : decode cX6_size 21 = .ok (.ifCond .ne 6, 3) := by decide +kernel
theorem dX6_size_24 : decode cX6_size 24 = .ok (.bipush (-9), 2) := by decide +kernel
theorem dX6_size_26 : decode cX6_size 26 = .ok (.ireturn, 1) := by decide +kernel
theorem dX6_size_27 : decode cX6_size 27 = .ok (.aload_n 0, 1) := by decide +kernel
theorem dX6_size_28 : decode cX6_size 28 = .ok (.aload_n 0, 1) := by decide +kernel
theorem dX6_size_29 : decode cX6_size 29 = .ok (.iload_n 3, 1) := by decide +kernel
theorem dX6_size_30 : decode cX6_size 30 = .ok (.invokevirtual 141, 3) := by decide +kernel
theorem dX6_size_33 : decode cX6_size 33 = .ok (.i2l, 1) := by decide +kernel
theorem dX6_size_34 : decode cX6_size 34 = .ok (.putfield 88, 3) := by decide +kernel
theorem dX6_size_37 : decode cX6_size 37 = .ok (.iconst 1, 1) := by decide +kernel
theorem dX6_size_38 : decode cX6_size 38 = .ok (.ireturn, 1) := by decide +kernel
theorem dX6_reach_0 : decode cX6_reach 0 = .ok (.iload_n 1, 1) := by decide +kernel
theorem dX6_reach_1 : decode cX6_reach 1 = .ok (.iconst 0, 1) := by decide +kernel
theorem dX6_reach_2 : decode cX6_reach 2 = .ok (.iconst 5, 1) := by decide +kernel
theorem dX6_reach_3 : decode cX6_reach 3 = .ok (.invokestatic 84, 3) := by decide +kernel
theorem dX6_reach_6 : decode cX6_reach 6 = .ok (.ifCond .ne 5, 3) := by decide +kernel
theorem dX6_reach_9 : decode cX6_reach 9 = .ok (.iconst (-1), 1) := by decide +kernel
theorem dX6_reach_10 : decode cX6_reach 10 = .ok (.ireturn, 1) := by decide +kernel
theorem dX6_reach_11 : decode cX6_reach 11 = .ok (.aload_n 0, 1) := by decide +kernel
theorem dX6_reach_12 : decode cX6_reach 12 = .ok (.getfield 74, 3) := by decide +kernel
theorem dX6_reach_15 : decode cX6_reach 15 = .ok (.istore_n 2, 1) := by decide +kernel
theorem dX6_reach_16 : decode cX6_reach 16 = .ok (.aload_n 0, 1) := by decide +kernel
theorem dX6_reach_17 : decode cX6_reach 17 = .ok (.iload_n 1, 1) := by decide +kernel
theorem dX6_reach_18 : decode cX6_reach 18 = .ok (.putfield 74, 3) := by decide +kernel
theorem dX6_reach_21 : decode cX6_reach 21 = .ok (.iload_n 2, 1) := by decide +kernel
