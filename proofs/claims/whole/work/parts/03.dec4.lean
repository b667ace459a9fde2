theorem dX6_reach_22 : decode cX6_reach 22 = .ok (.ireturn, 1) := by decide +kernel
theorem dX6_showsNear_0 : decode cX6_showsNear 0 = .ok (.iconst 0, 1) := by decide +kernel
theorem dX6_showsNear_1 : decode cX6_showsNear 1 = .ok (.istore_n 3, 1) := by decide +kernel
theorem dX6_showsNear_2 : decode cX6_showsNear 2 = .ok (.iconst 0, 1) := by decide +kernel
theorem dX6_showsNear_3 : decode cX6_showsNear 3 = .ok (.istore 4, 2) := by decide +kernel
theorem dX6_showsNear_5 : decode cX6_showsNear 5 = .ok (.aload_n 0, 1) := by decide +kernel
theorem dX6_showsNear_6 : decode cX6_showsNear 6 = .ok (.iload 4, 2) := by decide +kernel
theorem dX6_showsNear_8 : decode cX6_showsNear 8 = .ok (.invokevirtual 135, 3) := by decide +kernel
theorem dX6_showsNear_11 : decode cX6_showsNear 11 = .ok (.ifCond .eq 86, 3) := by decide +kernel
theorem dX6_showsNear_14 : decode cX6_showsNear 14 = .ok (.aload_n 0, 1) := by decide +kernel
theorem dX6_showsNear_15 : decode cX6_showsNear 15 = .ok (.iload 4, 2) := by decide +kernel
theorem dX6_showsNear_17 : decode cX6_showsNear 17 = .ok (.invokevirtual 138, 3) := by decide +kernel
theorem dX6_showsNear_20 : decode cX6_showsNear 20 = .ok (.iload_n 1, 1) := by decide +kernel
theorem dX6_showsNear_21 : decode cX6_showsNear 21 = .ok (.isub, 1) := by decide +kernel
theorem dX6_showsNear_22 : decode cX6_showsNear 22 = .ok (.istore 5, 2) := by decide +kernel
theorem dX6_showsNear_24 : decode cX6_showsNear 24 = .ok (.iload 5, 2) := by decide +kernel
theorem dX6_showsNear_26 : decode cX6_showsNear 26 = .ok (.aload_n 0, 1) := by decide +kernel
theorem dX6_showsNear_27 : decode cX6_showsNear 27 = .ok (.getfield 74, 3) := by decide +kernel
theorem dX6_showsNear_30 : decode cX6_showsNear 30 = .ok (.if_icmp .gt 17, 3) := by decide +kernel
theorem dX6_showsNear_33 : decode cX6_showsNear 33 = .ok (.iload 5, 2) := by decide +kernel
theorem dX6_showsNear_35 : decode cX6_showsNear 35 = .ok (.ineg, 1) := by decide +kernel
theorem dX6_showsNear_36 : decode cX6_showsNear 36 = .ok (.aload_n 0, 1) := by decide +kernel
theorem dX6_showsNear_37 : decode cX6_showsNear 37 = .ok (.getfield 74, 3) := by decide +kernel
theorem dX6_showsNear_40 : decode cX6_showsNear 40 = .ok (.if_icmp .gt 7, 3) := by decide +kernel
theorem dX6_showsNear_43 : decode cX6_showsNear 43 = .ok (.iconst 1, 1) := by decide +kernel
theorem dX6_showsNear_44 : decode cX6_showsNear 44 = .ok (.goto 4, 3) := by decide +kernel
theorem dX6_showsNear_47 : decode cX6_showsNear 47 = .ok (.iconst 0, 1) := by decide +kernel
theorem dX6_showsNear_48 : decode cX6_showsNear 48 = .ok (.istore 6, 2) := by decide +kernel
theorem dX6_showsNear_50 : decode cX6_showsNear 50 = .ok (.iload_n 3, 1) := by decide +kernel
theorem dX6_showsNear_51 : decode cX6_showsNear 51 = .ok (.ifCond .ne 34, 3) := by decide +kernel
theorem dX6_showsNear_54 : decode cX6_showsNear 54 = .ok (.iload 6, 2) := by decide +kernel
theorem dX6_showsNear_56 : decode cX6_showsNear 56 = .ok (.ifCond .eq 33, 3) := by decide +kernel
theorem dX6_showsNear_59 : decode cX6_showsNear 59 = .ok (.iload_n 2, 1) := by decide +kernel
theorem dX6_showsNear_60 : decode cX6_showsNear 60 = .ok (.ifCond .le 12, 3) := by decide +kernel
theorem dX6_showsNear_63 : decode cX6_showsNear 63 = .ok (.aload_n 0, 1) := by decide +kernel
theorem dX6_showsNear_64 : decode cX6_showsNear 64 = .ok (.iload 4, 2) := by decide +kernel
theorem dX6_showsNear_66 : decode cX6_showsNear 66 = .ok (.invokevirtual 141, 3) := by decide +kernel
theorem dX6_showsNear_69 : decode cX6_showsNear 69 = .ok (.ifCond .gt 16, 3) := by decide +kernel
theorem dX6_showsNear_72 : decode cX6_showsNear 72 = .ok (.iload_n 2, 1) := by decide +kernel
theorem dX6_showsNear_73 : decode cX6_showsNear 73 = .ok (.ifCond .ge 16, 3) := by decide +kernel
theorem dX6_showsNear_76 : decode cX6_showsNear 76 = .ok (.aload_n 0, 1) := by decide +kernel
theorem dX6_showsNear_77 : decode cX6_showsNear 77 = .ok (.iload 4, 2) := by decide +kernel
theorem dX6_showsNear_79 : decode cX6_showsNear 79 = .ok (.invokevirtual 141, 3) := by decide +kernel
theorem dX6_showsNear_82 : decode cX6_showsNear 82 = .ok (.ifCond .ge 7, 3) := by decide +kernel
theorem dX6_showsNear_85 : decode cX6_showsNear 85 = .ok (.iconst 1, 1) := by decide +kernel
theorem dX6_showsNear_86 : decode cX6_showsNear 86 = .ok (.goto 4, 3) := by decide +kernel
theorem dX6_showsNear_89 : decode cX6_showsNear 89 = .ok (.iconst 0, 1) := by decide +kernel
theorem dX6_showsNear_90 : decode cX6_showsNear 90 = .ok (.istore_n 3, 1) := by decide +kernel
theorem dX6_showsNear_91 : decode cX6_showsNear 91 = .ok (.iinc 4 1, 3) := by decide +kernel
theorem dX6_showsNear_94 : decode cX6_showsNear 94 = .ok (.goto (-89), 3) := by decide +kernel
theorem dX6_showsNear_97 : decode cX6_showsNear 97 = .ok (.iload_n 3, 1) := by decide +kernel
theorem dX6_showsNear_98 : decode cX6_showsNear 98 = .ok (.ireturn, 1) := by decide +kernel
theorem dX6_couldShow_0 : decode cX6_couldShow 0 = .ok (.aload_n 0, 1) := by decide +kernel
theorem dX6_couldShow_1 : decode cX6_couldShow 1 = .ok (.getfield 112, 3) := by decide +kernel
theorem dX6_couldShow_4 : decode cX6_couldShow 4 = .ok (.ifCond .le 32, 3) := by decide +kernel
theorem dX6_couldShow_7 : decode cX6_couldShow 7 = .ok (.aload_n 0, 1) := by decide +kernel
theorem dX6_couldShow_8 : decode cX6_couldShow 8 = .ok (.getfield 26, 3) := by decide +kernel
theorem dX6_couldShow_11 : decode cX6_couldShow 11 = .ok (.iconst 0, 1) := by decide +kernel
theorem dX6_couldShow_12 : decode cX6_couldShow 12 = .ok (.iaload, 1) := by decide +kernel
theorem dX6_couldShow_13 : decode cX6_couldShow 13 = .ok (.iload_n 1, 1) := by decide +kernel
theorem dX6_couldShow_14 : decode cX6_couldShow 14 = .ok (.if_icmp .ge 22, 3) := by decide +kernel
theorem dX6_couldShow_17 : decode cX6_couldShow 17 = .ok (.aload_n 0, 1) := by decide +kernel
theorem dX6_couldShow_18 : decode cX6_couldShow 18 = .ok (.getfield 26, 3) := by decide +kernel
theorem dX6_couldShow_21 : decode cX6_couldShow 21 = .ok (.aload_n 0, 1) := by decide +kernel
theorem dX6_couldShow_22 : decode cX6_couldShow 22 = .ok (.getfield 112, 3) := by decide +kernel
theorem dX6_couldShow_25 : decode cX6_couldShow 25 = .ok (.iconst 1, 1) := by decide +kernel
theorem dX6_couldShow_26 : decode cX6_couldShow 26 = .ok (.isub, 1) := by decide +kernel
theorem dX6_couldShow_27 : decode cX6_couldShow 27 = .ok (.iaload, 1) := by decide +kernel
theorem dX6_couldShow_28 : decode cX6_couldShow 28 = .ok (.iload_n 1, 1) := by decide +kernel
theorem dX6_couldShow_29 : decode cX6_couldShow 29 = .ok (.if_icmp .lt 7, 3) := by decide +kernel
theorem dX6_couldShow_32 : decode cX6_couldShow 32 = .ok (.iconst 1, 1) := by decide +kernel
theorem dX6_couldShow_33 : decode cX6_couldShow 33 = .ok (.goto 4, 3) := by decide +kernel
theorem dX6_couldShow_36 : decode cX6_couldShow 36 = .ok (.iconst 0, 1) := by decide +kernel
theorem dX6_couldShow_37 : decode cX6_couldShow 37 = .ok (.ireturn, 1) := by decide +kernel
theorem dX6_isOwn_0 : decode cX6_isOwn 0 = .ok (.aload_n 0, 1) := by decide +kernel
theorem dX6_isOwn_1 : decode cX6_isOwn 1 = .ok (.iload_n 3, 1) := by decide +kernel
theorem dX6_isOwn_2 : decode cX6_isOwn 2 = .ok (.invokevirtual 138, 3) := by decide +kernel
theorem dX6_isOwn_5 : decode cX6_isOwn 5 = .ok (.istore 4, 2) := by decide +kernel
theorem dX6_isOwn_7 : decode cX6_isOwn 7 = .ok (.aload_n 0, 1) := by decide +kernel
theorem dX6_isOwn_8 : decode cX6_isOwn 8 = .ok (.iload_n 3, 1) := by decide +kernel
theorem dX6_isOwn_9 : decode cX6_isOwn 9 = .ok (.invokevirtual 141, 3) := by decide +kernel
theorem dX6_isOwn_12 : decode cX6_isOwn 12 = .ok (.istore 5, 2) := by decide +kernel
theorem dX6_isOwn_14 : decode cX6_isOwn 14 = .ok (.iconst 0, 1) := by decide +kernel
theorem dX6_isOwn_15 : decode cX6_isOwn 15 = .ok (.istore 6, 2) := by decide +kernel
theorem dX6_isOwn_17 : decode cX6_isOwn 17 = .ok (.iconst 0, 1) := by decide +kernel
theorem dX6_isOwn_18 : decode cX6_isOwn 18 = .ok (.istore 7, 2) := by decide +kernel
theorem dX6_isOwn_20 : decode cX6_isOwn 20 = .ok (.iconst 0, 1) := by decide +kernel
theorem dX6_isOwn_21 : decode cX6_isOwn 21 = .ok (.istore 8, 2) := by decide +kernel
theorem dX6_isOwn_23 : decode cX6_isOwn 23 = .ok (.iload 8, 2) := by decide +kernel
theorem dX6_isOwn_25 : decode cX6_isOwn 25 = .ok (.iconst 4, 1) := by decide +kernel
theorem dX6_isOwn_26 : decode cX6_isOwn 26 = .ok (.if_icmp .ge 83, 3) := by decide +kernel
theorem dX6_isOwn_29 : decode cX6_isOwn 29 = .ok (.iload 8, 2) := by decide +kernel
theorem dX6_isOwn_31 : decode cX6_isOwn 31 = .ok (.iload_n 2, 1) := by decide +kernel
theorem dX6_isOwn_32 : decode cX6_isOwn 32 = .ok (.if_icmp .eq 71, 3) := by decide +kernel
theorem dX6_isOwn_35 : decode cX6_isOwn 35 = .ok (.aload_n 0, 1) := by decide +kernel
theorem dX6_isOwn_36 : decode cX6_isOwn 36 = .ok (.getfield 16, 3) := by decide +kernel
theorem dX6_isOwn_39 : decode cX6_isOwn 39 = .ok (.iconst 4, 1) := by decide +kernel
theorem dX6_isOwn_40 : decode cX6_isOwn 40 = .ok (.iload_n 1, 1) := by decide +kernel
theorem dX6_isOwn_41 : decode cX6_isOwn 41 = .ok (.imul, 1) := by decide +kernel
theorem dX6_isOwn_42 : decode cX6_isOwn 42 = .ok (.iload 8, 2) := by decide +kernel
theorem dX6_isOwn_44 : decode cX6_isOwn 44 = .ok (.iadd, 1) := by decide +kernel
theorem dX6_isOwn_45 : decode cX6_isOwn 45 = .ok (.baload, 1) := by decide +kernel
theorem dX6_isOwn_46 : decode cX6_isOwn 46 = .ok (.ifCond .eq 57, 3) := by decide +kernel
theorem dX6_isOwn_49 : decode cX6_isOwn 49 = .ok (.aload_n 0, 1) := by decide +kernel
theorem dX6_isOwn_50 : decode cX6_isOwn 50 = .ok (.iconst 4, 1) := by decide +kernel
theorem dX6_isOwn_51 : decode cX6_isOwn 51 = .ok (.iload_n 1, 1) := by decide +kernel
theorem dX6_isOwn_52 : decode cX6_isOwn 52 = .ok (.imul, 1) := by decide +kernel
theorem dX6_isOwn_53 : decode cX6_isOwn 53 = .ok (.iload 8, 2) := by decide +kernel
theorem dX6_isOwn_55 : decode cX6_isOwn 55 = .ok (.iadd, 1) := by decide +kernel
theorem dX6_isOwn_56 : decode cX6_isOwn 56 = .ok (.invokevirtual 115, 3) := by decide +kernel
theorem dX6_isOwn_59 : decode cX6_isOwn 59 = .ok (.iload 6, 2) := by decide +kernel
theorem dX6_isOwn_61 : decode cX6_isOwn 61 = .ok (.ifCond .ne 14, 3) := by decide +kernel
theorem dX6_isOwn_64 : decode cX6_isOwn 64 = .ok (.aload_n 0, 1) := by decide +kernel
theorem dX6_isOwn_65 : decode cX6_isOwn 65 = .ok (.iload 4, 2) := by decide +kernel
theorem dX6_isOwn_67 : decode cX6_isOwn 67 = .ok (.iload 5, 2) := by decide +kernel
theorem dX6_isOwn_69 : decode cX6_isOwn 69 = .ok (.invokevirtual 144, 3) := by decide +kernel
theorem dX6_isOwn_72 : decode cX6_isOwn 72 = .ok (.ifCond .eq 7, 3) := by decide +kernel
theorem dX6_isOwn_75 : decode cX6_isOwn 75 = .ok (.iconst 1, 1) := by decide +kernel
theorem dX6_isOwn_76 : decode cX6_isOwn 76 = .ok (.goto 4, 3) := by decide +kernel
theorem dX6_isOwn_79 : decode cX6_isOwn 79 = .ok (.iconst 0, 1) := by decide +kernel
theorem dX6_isOwn_80 : decode cX6_isOwn 80 = .ok (.istore 6, 2) := by decide +kernel
theorem dX6_isOwn_82 : decode cX6_isOwn 82 = .ok (.iload 7, 2) := by decide +kernel
theorem dX6_isOwn_84 : decode cX6_isOwn 84 = .ok (.ifCond .ne 12, 3) := by decide +kernel
theorem dX6_isOwn_87 : decode cX6_isOwn 87 = .ok (.aload_n 0, 1) := by decide +kernel
theorem dX6_isOwn_88 : decode cX6_isOwn 88 = .ok (.iload 4, 2) := by decide +kernel
theorem dX6_isOwn_90 : decode cX6_isOwn 90 = .ok (.invokevirtual 147, 3) := by decide +kernel
theorem dX6_isOwn_93 : decode cX6_isOwn 93 = .ok (.ifCond .eq 7, 3) := by decide +kernel
theorem dX6_isOwn_96 : decode cX6_isOwn 96 = .ok (.iconst 1, 1) := by decide +kernel
theorem dX6_isOwn_97 : decode cX6_isOwn 97 = .ok (.goto 4, 3) := by decide +kernel
theorem dX6_isOwn_100 : decode cX6_isOwn 100 = .ok (.iconst 0, 1) := by decide +kernel
theorem dX6_isOwn_101 : decode cX6_isOwn 101 = .ok (.istore 7, 2) := by decide +kernel
theorem dX6_isOwn_103 : decode cX6_isOwn 103 = .ok (.iinc 8 1, 3) := by decide +kernel
theorem dX6_isOwn_106 : decode cX6_isOwn 106 = .ok (.goto (-83), 3) := by decide +kernel
theorem dX6_isOwn_109 : decode cX6_isOwn 109 = .ok (.iload 7, 2) := by decide +kernel
theorem dX6_isOwn_111 : decode cX6_isOwn 111 = .ok (.ifCond .eq 12, 3) := by decide +kernel
theorem dX6_isOwn_114 : decode cX6_isOwn 114 = .ok (.iload 6, 2) := by decide +kernel
theorem dX6_isOwn_116 : decode cX6_isOwn 116 = .ok (.ifCond .ne 7, 3) := by decide +kernel
theorem dX6_isOwn_119 : decode cX6_isOwn 119 = .ok (.iconst 1, 1) := by decide +kernel
theorem dX6_isOwn_120 : decode cX6_isOwn 120 = .ok (.goto 4, 3) := by decide +kernel
theorem dX6_isOwn_123 : decode cX6_isOwn 123 = .ok (.iconst 0, 1) := by decide +kernel
theorem dX6_isOwn_124 : decode cX6_isOwn 124 = .ok (.ireturn, 1) := by decide +kernel
theorem dX6_own_0 : decode cX6_own 0 = .ok (.aload_n 0, 1) := by decide +kernel
theorem dX6_own_1 : decode cX6_own 1 = .ok (.iload_n 1, 1) := by decide +kernel
theorem dX6_own_2 : decode cX6_own 2 = .ok (.iload_n 2, 1) := by decide +kernel
theorem dX6_own_3 : decode cX6_own 3 = .ok (.invokevirtual 119, 3) := by decide +kernel
theorem dX6_own_6 : decode cX6_own 6 = .ok (.istore 4, 2) := by decide +kernel
theorem dX6_own_8 : decode cX6_own 8 = .ok (.iload 4, 2) := by decide +kernel
theorem dX6_own_10 : decode cX6_own 10 = .ok (.ifCond .ge 8, 3) := by decide +kernel
theorem dX6_own_13 : decode cX6_own 13 = .ok (.iload 4, 2) := by decide +kernel
theorem dX6_own_15 : decode cX6_own 15 = .ok (.goto 31, 3) := by decide +kernel
theorem dX6_own_18 : decode cX6_own 18 = .ok (.aload_n 0, 1) := by decide +kernel
theorem dX6_own_19 : decode cX6_own 19 = .ok (.iload_n 3, 1) := by decide +kernel
theorem dX6_own_20 : decode cX6_own 20 = .ok (.invokevirtual 135, 3) := by decide +kernel
theorem dX6_own_23 : decode cX6_own 23 = .ok (.ifCond .ne 8, 3) := by decide +kernel
theorem dX6_own_26 : decode cX6_own 26 = .ok (.bipush (-9), 2) := by decide +kernel
theorem dX6_own_28 : decode cX6_own 28 = .ok (.goto 18, 3) := by decide +kernel
theorem dX6_own_31 : decode cX6_own 31 = .ok (.aload_n 0, 1) := by decide +kernel
theorem dX6_own_32 : decode cX6_own 32 = .ok (.iload_n 1, 1) := by decide +kernel
theorem dX6_own_33 : decode cX6_own 33 = .ok (.iload_n 2, 1) := by decide +kernel
theorem dX6_own_34 : decode cX6_own 34 = .ok (.iload_n 3, 1) := by decide +kernel
theorem dX6_own_35 : decode cX6_own 35 = .ok (.invokevirtual 150, 3) := by decide +kernel
theorem dX6_own_38 : decode cX6_own 38 = .ok (.ifCond .eq 7, 3) := by decide +kernel
theorem dX6_own_41 : decode cX6_own 41 = .ok (.iconst 1, 1) := by decide +kernel
theorem dX6_own_42 : decode cX6_own 42 = .ok (.goto 4, 3) := by decide +kernel
theorem dX6_own_45 : decode cX6_own 45 = .ok (.iconst 0, 1) := by decide +kernel
theorem dX6_own_46 : decode cX6_own 46 = .ok (.ireturn, 1) := by decide +kernel
theorem dX6_layPairs_0 : decode cX6_layPairs 0 = .ok (.iconst 0, 1) := by decide +kernel
theorem dX6_layPairs_1 : decode cX6_layPairs 1 = .ok (.istore_n 1, 1) := by decide +kernel
theorem dX6_layPairs_2 : decode cX6_layPairs 2 = .ok (.iload_n 1, 1) := by decide +kernel
theorem dX6_layPairs_3 : decode cX6_layPairs 3 = .ok (.bipush 40, 2) := by decide +kernel
theorem dX6_layPairs_5 : decode cX6_layPairs 5 = .ok (.if_icmp .ge 24, 3) := by decide +kernel
theorem dX6_layPairs_8 : decode cX6_layPairs 8 = .ok (.aload_n 0, 1) := by decide +kernel
theorem dX6_layPairs_9 : decode cX6_layPairs 9 = .ok (.getfield 53, 3) := by decide +kernel
theorem dX6_layPairs_12 : decode cX6_layPairs 12 = .ok (.iload_n 1, 1) := by decide +kernel
theorem dX6_layPairs_13 : decode cX6_layPairs 13 = .ok (.bipush (-9), 2) := by decide +kernel
theorem dX6_layPairs_15 : decode cX6_layPairs 15 = .ok (.iastore, 1) := by decide +kernel
theorem dX6_layPairs_16 : decode cX6_layPairs 16 = .ok (.aload_n 0, 1) := by decide +kernel
theorem dX6_layPairs_17 : decode cX6_layPairs 17 = .ok (.getfield 56, 3) := by decide +kernel
theorem dX6_layPairs_20 : decode cX6_layPairs 20 = .ok (.iload_n 1, 1) := by decide +kernel
theorem dX6_layPairs_21 : decode cX6_layPairs 21 = .ok (.iconst 0, 1) := by decide +kernel
theorem dX6_layPairs_22 : decode cX6_layPairs 22 = .ok (.bastore, 1) := by decide +kernel
theorem dX6_layPairs_23 : decode cX6_layPairs 23 = .ok (.iinc 1 1, 3) := by decide +kernel
theorem dX6_layPairs_26 : decode cX6_layPairs 26 = .ok (.goto (-24), 3) := by decide +kernel
theorem dX6_layPairs_29 : decode cX6_layPairs 29 = .ok (.iconst 0, 1) := by decide +kernel
theorem dX6_layPairs_30 : decode cX6_layPairs 30 = .ok (.istore_n 1, 1) := by decide +kernel
theorem dX6_layPairs_31 : decode cX6_layPairs 31 = .ok (.aload_n 0, 1) := by decide +kernel
theorem dX6_layPairs_32 : decode cX6_layPairs 32 = .ok (.iload_n 1, 1) := by decide +kernel
theorem dX6_layPairs_33 : decode cX6_layPairs 33 = .ok (.invokevirtual 135, 3) := by decide +kernel
theorem dX6_layPairs_36 : decode cX6_layPairs 36 = .ok (.ifCond .eq 119, 3) := by decide +kernel
theorem dX6_layPairs_39 : decode cX6_layPairs 39 = .ok (.iload_n 1, 1) := by decide +kernel
theorem dX6_layPairs_40 : decode cX6_layPairs 40 = .ok (.iconst 1, 1) := by decide +kernel
theorem dX6_layPairs_41 : decode cX6_layPairs 41 = .ok (.iadd, 1) := by decide +kernel
theorem dX6_layPairs_42 : decode cX6_layPairs 42 = .ok (.istore_n 2, 1) := by decide +kernel
theorem dX6_layPairs_43 : decode cX6_layPairs 43 = .ok (.aload_n 0, 1) := by decide +kernel
theorem dX6_layPairs_44 : decode cX6_layPairs 44 = .ok (.iload_n 2, 1) := by decide +kernel
theorem dX6_layPairs_45 : decode cX6_layPairs 45 = .ok (.invokevirtual 135, 3) := by decide +kernel
theorem dX6_layPairs_48 : decode cX6_layPairs 48 = .ok (.ifCond .eq 101, 3) := by decide +kernel
theorem dX6_layPairs_51 : decode cX6_layPairs 51 = .ok (.aload_n 0, 1) := by decide +kernel
theorem dX6_layPairs_52 : decode cX6_layPairs 52 = .ok (.iload_n 1, 1) := by decide +kernel
theorem dX6_layPairs_53 : decode cX6_layPairs 53 = .ok (.invokevirtual 141, 3) := by decide +kernel
theorem dX6_layPairs_56 : decode cX6_layPairs 56 = .ok (.ifCond .le 93, 3) := by decide +kernel
theorem dX6_layPairs_59 : decode cX6_layPairs 59 = .ok (.aload_n 0, 1) := by decide +kernel
theorem dX6_layPairs_60 : decode cX6_layPairs 60 = .ok (.getfield 53, 3) := by decide +kernel
theorem dX6_layPairs_63 : decode cX6_layPairs 63 = .ok (.iload_n 1, 1) := by decide +kernel
theorem dX6_layPairs_64 : decode cX6_layPairs 64 = .ok (.iaload, 1) := by decide +kernel
theorem dX6_layPairs_65 : decode cX6_layPairs 65 = .ok (.bipush (-9), 2) := by decide +kernel
theorem dX6_layPairs_67 : decode cX6_layPairs 67 = .ok (.if_icmp .ne 82, 3) := by decide +kernel
theorem dX6_layPairs_70 : decode cX6_layPairs 70 = .ok (.aload_n 0, 1) := by decide +kernel
theorem dX6_layPairs_71 : decode cX6_layPairs 71 = .ok (.iload_n 2, 1) := by decide +kernel
theorem dX6_layPairs_72 : decode cX6_layPairs 72 = .ok (.invokevirtual 141, 3) := by decide +kernel
theorem dX6_layPairs_75 : decode cX6_layPairs 75 = .ok (.ineg, 1) := by decide +kernel
theorem dX6_layPairs_76 : decode cX6_layPairs 76 = .ok (.aload_n 0, 1) := by decide +kernel
theorem dX6_layPairs_77 : decode cX6_layPairs 77 = .ok (.iload_n 1, 1) := by decide +kernel
theorem dX6_layPairs_78 : decode cX6_layPairs 78 = .ok (.invokevirtual 141, 3) := by decide +kernel
theorem dX6_layPairs_81 : decode cX6_layPairs 81 = .ok (.isub, 1) := by decide +kernel
theorem dX6_layPairs_82 : decode cX6_layPairs 82 = .ok (.istore_n 3, 1) := by decide +kernel
theorem dX6_layPairs_83 : decode cX6_layPairs 83 = .ok (.iload_n 3, 1) := by decide +kernel
theorem dX6_layPairs_84 : decode cX6_layPairs 84 = .ok (.ifCond .ge 8, 3) := by decide +kernel
theorem dX6_layPairs_87 : decode cX6_layPairs 87 = .ok (.iload_n 3, 1) := by decide +kernel
theorem dX6_layPairs_88 : decode cX6_layPairs 88 = .ok (.ineg, 1) := by decide +kernel
theorem dX6_layPairs_89 : decode cX6_layPairs 89 = .ok (.goto 4, 3) := by decide +kernel
theorem dX6_layPairs_92 : decode cX6_layPairs 92 = .ok (.iload_n 3, 1) := by decide +kernel
theorem dX6_layPairs_93 : decode cX6_layPairs 93 = .ok (.istore 4, 2) := by decide +kernel
theorem dX6_layPairs_95 : decode cX6_layPairs 95 = .ok (.aload_n 0, 1) := by decide +kernel
theorem dX6_layPairs_96 : decode cX6_layPairs 96 = .ok (.iload_n 2, 1) := by decide +kernel
theorem dX6_layPairs_97 : decode cX6_layPairs 97 = .ok (.invokevirtual 141, 3) := by decide +kernel
theorem dX6_layPairs_100 : decode cX6_layPairs 100 = .ok (.ifCond .ge 43, 3) := by decide +kernel
theorem dX6_layPairs_103 : decode cX6_layPairs 103 = .ok (.aload_n 0, 1) := by decide +kernel
theorem dX6_layPairs_104 : decode cX6_layPairs 104 = .ok (.getfield 56, 3) := by decide +kernel
theorem dX6_layPairs_107 : decode cX6_layPairs 107 = .ok (.iload_n 2, 1) := by decide +kernel
theorem dX6_layPairs_108 : decode cX6_layPairs 108 = .ok (.baload, 1) := by decide +kernel
theorem dX6_layPairs_109 : decode cX6_layPairs 109 = .ok (.ifCond .ne 34, 3) := by decide +kernel
theorem dX6_layPairs_112 : decode cX6_layPairs 112 = .ok (.ldc2_w 153, 3) := by decide +kernel
theorem dX6_layPairs_115 : decode cX6_layPairs 115 = .ok (.iload 4, 2) := by decide +kernel
theorem dX6_layPairs_117 : decode cX6_layPairs 117 = .ok (.i2l, 1) := by decide +kernel
theorem dX6_layPairs_118 : decode cX6_layPairs 118 = .ok (.lmul, 1) := by decide +kernel
theorem dX6_layPairs_119 : decode cX6_layPairs 119 = .ok (.aload_n 0, 1) := by decide +kernel
theorem dX6_layPairs_120 : decode cX6_layPairs 120 = .ok (.iload_n 1, 1) := by decide +kernel
theorem dX6_layPairs_121 : decode cX6_layPairs 121 = .ok (.invokevirtual 141, 3) := by decide +kernel
theorem dX6_layPairs_124 : decode cX6_layPairs 124 = .ok (.i2l, 1) := by decide +kernel
theorem dX6_layPairs_125 : decode cX6_layPairs 125 = .ok (.lcmp, 1) := by decide +kernel
theorem dX6_layPairs_126 : decode cX6_layPairs 126 = .ok (.ifCond .gt 17, 3) := by decide +kernel
theorem dX6_layPairs_129 : decode cX6_layPairs 129 = .ok (.aload_n 0, 1) := by decide +kernel
theorem dX6_layPairs_130 : decode cX6_layPairs 130 = .ok (.getfield 53, 3) := by decide +kernel
theorem dX6_layPairs_133 : decode cX6_layPairs 133 = .ok (.iload_n 1, 1) := by decide +kernel
theorem dX6_layPairs_134 : decode cX6_layPairs 134 = .ok (.iload_n 2, 1) := by decide +kernel
theorem dX6_layPairs_135 : decode cX6_layPairs 135 = .ok (.iastore, 1) := by decide +kernel
theorem dX6_layPairs_136 : decode cX6_layPairs 136 = .ok (.aload_n 0, 1) := by decide +kernel
theorem dX6_layPairs_137 : decode cX6_layPairs 137 = .ok (.getfield 56, 3) := by decide +kernel
theorem dX6_layPairs_140 : decode cX6_layPairs 140 = .ok (.iload_n 2, 1) := by decide +kernel
theorem dX6_layPairs_141 : decode cX6_layPairs 141 = .ok (.iconst 1, 1) := by decide +kernel
theorem dX6_layPairs_142 : decode cX6_layPairs 142 = .ok (.bastore, 1) := by decide +kernel
theorem dX6_layPairs_143 : decode cX6_layPairs 143 = .ok (.iinc 2 1, 3) := by decide +kernel
theorem dX6_layPairs_146 : decode cX6_layPairs 146 = .ok (.goto (-103), 3) := by decide +kernel
theorem dX6_layPairs_149 : decode cX6_layPairs 149 = .ok (.iinc 1 1, 3) := by decide +kernel
theorem dX6_layPairs_152 : decode cX6_layPairs 152 = .ok (.goto (-121), 3) := by decide +kernel
theorem dX6_layPairs_155 : decode cX6_layPairs 155 = .ok (.return_, 1) := by decide +kernel
theorem dX6_undone_0 : decode cX6_undone 0 = .ok (.aload_n 0, 1) := by decide +kernel
theorem dX6_undone_1 : decode cX6_undone 1 = .ok (.iload_n 1, 1) := by decide +kernel
theorem dX6_undone_2 : decode cX6_undone 2 = .ok (.iload_n 2, 1) := by decide +kernel
theorem dX6_undone_3 : decode cX6_undone 3 = .ok (.invokevirtual 119, 3) := by decide +kernel
theorem dX6_undone_6 : decode cX6_undone 6 = .ok (.istore 4, 2) := by decide +kernel
theorem dX6_undone_8 : decode cX6_undone 8 = .ok (.iload 4, 2) := by decide +kernel
theorem dX6_undone_10 : decode cX6_undone 10 = .ok (.ifCond .ge 6, 3) := by decide +kernel
theorem dX6_undone_13 : decode cX6_undone 13 = .ok (.iload 4, 2) := by decide +kernel
theorem dX6_undone_15 : decode cX6_undone 15 = .ok (.ireturn, 1) := by decide +kernel
theorem dX6_undone_16 : decode cX6_undone 16 = .ok (.aload_n 0, 1) := by decide +kernel
theorem dX6_undone_17 : decode cX6_undone 17 = .ok (.getfield 13, 3) := by decide +kernel
theorem dX6_undone_20 : decode cX6_undone 20 = .ok (.iload_n 1, 1) := by decide +kernel
theorem dX6_undone_21 : decode cX6_undone 21 = .ok (.iaload, 1) := by decide +kernel
theorem dX6_undone_22 : decode cX6_undone 22 = .ok (.iconst 1, 1) := by decide +kernel
theorem dX6_undone_23 : decode cX6_undone 23 = .ok (.if_icmp .eq 9, 3) := by decide +kernel
theorem dX6_undone_26 : decode cX6_undone 26 = .ok (.aload_n 0, 1) := by decide +kernel
theorem dX6_undone_27 : decode cX6_undone 27 = .ok (.iconst 3, 1) := by decide +kernel
theorem dX6_undone_28 : decode cX6_undone 28 = .ok (.invokevirtual 106, 3) := by decide +kernel
theorem dX6_undone_31 : decode cX6_undone 31 = .ok (.ireturn, 1) := by decide +kernel
theorem dX6_undone_32 : decode cX6_undone 32 = .ok (.aload_n 0, 1) := by decide +kernel
theorem dX6_undone_33 : decode cX6_undone 33 = .ok (.invokevirtual 155, 3) := by decide +kernel
theorem dX6_undone_36 : decode cX6_undone 36 = .ok (.aload_n 0, 1) := by decide +kernel
theorem dX6_undone_37 : decode cX6_undone 37 = .ok (.iload_n 3, 1) := by decide +kernel
theorem dX6_undone_38 : decode cX6_undone 38 = .ok (.invokevirtual 135, 3) := by decide +kernel
theorem dX6_undone_41 : decode cX6_undone 41 = .ok (.ifCond .eq 12, 3) := by decide +kernel
theorem dX6_undone_44 : decode cX6_undone 44 = .ok (.aload_n 0, 1) := by decide +kernel
theorem dX6_undone_45 : decode cX6_undone 45 = .ok (.getfield 53, 3) := by decide +kernel
theorem dX6_undone_48 : decode cX6_undone 48 = .ok (.iload_n 3, 1) := by decide +kernel
theorem dX6_undone_49 : decode cX6_undone 49 = .ok (.iaload, 1) := by decide +kernel
theorem dX6_undone_50 : decode cX6_undone 50 = .ok (.goto 5, 3) := by decide +kernel
theorem dX6_undone_53 : decode cX6_undone 53 = .ok (.bipush (-9), 2) := by decide +kernel
theorem dX6_undone_55 : decode cX6_undone 55 = .ok (.ireturn, 1) := by decide +kernel
theorem dX6_layOdds_0 : decode cX6_layOdds 0 = .ok (.aload_n 0, 1) := by decide +kernel
theorem dX6_layOdds_1 : decode cX6_layOdds 1 = .ok (.getfield 44, 3) := by decide +kernel
theorem dX6_layOdds_4 : decode cX6_layOdds 4 = .ok (.iload_n 1, 1) := by decide +kernel
theorem dX6_layOdds_5 : decode cX6_layOdds 5 = .ok (.iaload, 1) := by decide +kernel
theorem dX6_layOdds_6 : decode cX6_layOdds 6 = .ok (.istore_n 2, 1) := by decide +kernel
theorem dX6_layOdds_7 : decode cX6_layOdds 7 = .ok (.aload_n 0, 1) := by decide +kernel
theorem dX6_layOdds_8 : decode cX6_layOdds 8 = .ok (.getfield 44, 3) := by decide +kernel
theorem dX6_layOdds_11 : decode cX6_layOdds 11 = .ok (.iload_n 1, 1) := by decide +kernel
theorem dX6_layOdds_12 : decode cX6_layOdds 12 = .ok (.iconst 2, 1) := by decide +kernel
theorem dX6_layOdds_13 : decode cX6_layOdds 13 = .ok (.iadd, 1) := by decide +kernel
theorem dX6_layOdds_14 : decode cX6_layOdds 14 = .ok (.iaload, 1) := by decide +kernel
theorem dX6_layOdds_15 : decode cX6_layOdds 15 = .ok (.istore_n 3, 1) := by decide +kernel
theorem dX6_layOdds_16 : decode cX6_layOdds 16 = .ok (.iload_n 3, 1) := by decide +kernel
theorem dX6_layOdds_17 : decode cX6_layOdds 17 = .ok (.iload_n 2, 1) := by decide +kernel
theorem dX6_layOdds_18 : decode cX6_layOdds 18 = .ok (.isub, 1) := by decide +kernel
theorem dX6_layOdds_19 : decode cX6_layOdds 19 = .ok (.istore 4, 2) := by decide +kernel
theorem dX6_layOdds_21 : decode cX6_layOdds 21 = .ok (.iload 4, 2) := by decide +kernel
theorem dX6_layOdds_23 : decode cX6_layOdds 23 = .ok (.bipush 20, 2) := by decide +kernel
theorem dX6_layOdds_25 : decode cX6_layOdds 25 = .ok (.if_icmp .le 5, 3) := by decide +kernel
theorem dX6_layOdds_28 : decode cX6_layOdds 28 = .ok (.iconst 0, 1) := by decide +kernel
theorem dX6_layOdds_29 : decode cX6_layOdds 29 = .ok (.ireturn, 1) := by decide +kernel
theorem dX6_layOdds_30 : decode cX6_layOdds 30 = .ok (.iload_n 3, 1) := by decide +kernel
theorem dX6_layOdds_31 : decode cX6_layOdds 31 = .ok (.aload_n 0, 1) := by decide +kernel
theorem dX6_layOdds_32 : decode cX6_layOdds 32 = .ok (.getfield 44, 3) := by decide +kernel
theorem dX6_layOdds_35 : decode cX6_layOdds 35 = .ok (.iload_n 1, 1) := by decide +kernel
theorem dX6_layOdds_36 : decode cX6_layOdds 36 = .ok (.iconst 1, 1) := by decide +kernel
theorem dX6_layOdds_37 : decode cX6_layOdds 37 = .ok (.iadd, 1) := by decide +kernel
theorem dX6_layOdds_38 : decode cX6_layOdds 38 = .ok (.iaload, 1) := by decide +kernel
theorem dX6_layOdds_39 : decode cX6_layOdds 39 = .ok (.isub, 1) := by decide +kernel
theorem dX6_layOdds_40 : decode cX6_layOdds 40 = .ok (.istore 5, 2) := by decide +kernel
theorem dX6_layOdds_42 : decode cX6_layOdds 42 = .ok (.iconst 0, 1) := by decide +kernel
theorem dX6_layOdds_43 : decode cX6_layOdds 43 = .ok (.istore 6, 2) := by decide +kernel
theorem dX6_layOdds_45 : decode cX6_layOdds 45 = .ok (.aload_n 0, 1) := by decide +kernel
theorem dX6_layOdds_46 : decode cX6_layOdds 46 = .ok (.getfield 44, 3) := by decide +kernel
theorem dX6_layOdds_49 : decode cX6_layOdds 49 = .ok (.iload_n 1, 1) := by decide +kernel
theorem dX6_layOdds_50 : decode cX6_layOdds 50 = .ok (.iconst 1, 1) := by decide +kernel
theorem dX6_layOdds_51 : decode cX6_layOdds 51 = .ok (.iadd, 1) := by decide +kernel
theorem dX6_layOdds_52 : decode cX6_layOdds 52 = .ok (.iaload, 1) := by decide +kernel
theorem dX6_layOdds_53 : decode cX6_layOdds 53 = .ok (.istore 7, 2) := by decide +kernel
theorem dX6_layOdds_55 : decode cX6_layOdds 55 = .ok (.iload 7, 2) := by decide +kernel
theorem dX6_layOdds_57 : decode cX6_layOdds 57 = .ok (.iload_n 3, 1) := by decide +kernel
theorem dX6_layOdds_58 : decode cX6_layOdds 58 = .ok (.if_icmp .ge 21, 3) := by decide +kernel
theorem dX6_layOdds_61 : decode cX6_layOdds 61 = .ok (.iload 6, 2) := by decide +kernel
theorem dX6_layOdds_63 : decode cX6_layOdds 63 = .ok (.aload_n 0, 1) := by decide +kernel
theorem dX6_layOdds_64 : decode cX6_layOdds 64 = .ok (.getfield 32, 3) := by decide +kernel
theorem dX6_layOdds_67 : decode cX6_layOdds 67 = .ok (.iload 7, 2) := by decide +kernel
theorem dX6_layOdds_69 : decode cX6_layOdds 69 = .ok (.iaload, 1) := by decide +kernel
theorem dX6_layOdds_70 : decode cX6_layOdds 70 = .ok (.iadd, 1) := by decide +kernel
theorem dX6_layOdds_71 : decode cX6_layOdds 71 = .ok (.istore 6, 2) := by decide +kernel
theorem dX6_layOdds_73 : decode cX6_layOdds 73 = .ok (.iinc 7 1, 3) := by decide +kernel
theorem dX6_layOdds_76 : decode cX6_layOdds 76 = .ok (.goto (-21), 3) := by decide +kernel
theorem dX6_layOdds_79 : decode cX6_layOdds 79 = .ok (.iconst 0, 1) := by decide +kernel
theorem dX6_layOdds_80 : decode cX6_layOdds 80 = .ok (.istore 7, 2) := by decide +kernel
theorem dX6_layOdds_82 : decode cX6_layOdds 82 = .ok (.iload 7, 2) := by decide +kernel
theorem dX6_layOdds_84 : decode cX6_layOdds 84 = .ok (.ldc 59, 2) := by decide +kernel
theorem dX6_layOdds_86 : decode cX6_layOdds 86 = .ok (.if_icmp .ge 17, 3) := by decide +kernel
theorem dX6_layOdds_89 : decode cX6_layOdds 89 = .ok (.aload_n 0, 1) := by decide +kernel
theorem dX6_layOdds_90 : decode cX6_layOdds 90 = .ok (.getfield 60, 3) := by decide +kernel
theorem dX6_layOdds_93 : decode cX6_layOdds 93 = .ok (.iload 7, 2) := by decide +kernel
theorem dX6_layOdds_95 : decode cX6_layOdds 95 = .ok (.lconst 0, 1) := by decide +kernel
theorem dX6_layOdds_96 : decode cX6_layOdds 96 = .ok (.lastore, 1) := by decide +kernel
theorem dX6_layOdds_97 : decode cX6_layOdds 97 = .ok (.iinc 7 1, 3) := by decide +kernel
theorem dX6_layOdds_100 : decode cX6_layOdds 100 = .ok (.goto (-18), 3) := by decide +kernel
theorem dX6_layOdds_103 : decode cX6_layOdds 103 = .ok (.aload_n 0, 1) := by decide +kernel
theorem dX6_layOdds_104 : decode cX6_layOdds 104 = .ok (.getfield 60, 3) := by decide +kernel
theorem dX6_layOdds_107 : decode cX6_layOdds 107 = .ok (.iconst 0, 1) := by decide +kernel
theorem dX6_layOdds_108 : decode cX6_layOdds 108 = .ok (.lconst 1, 1) := by decide +kernel
theorem dX6_layOdds_109 : decode cX6_layOdds 109 = .ok (.lastore, 1) := by decide +kernel
theorem dX6_layOdds_110 : decode cX6_layOdds 110 = .ok (.iload_n 2, 1) := by decide +kernel
theorem dX6_layOdds_111 : decode cX6_layOdds 111 = .ok (.istore 7, 2) := by decide +kernel
theorem dX6_layOdds_113 : decode cX6_layOdds 113 = .ok (.iload 7, 2) := by decide +kernel
theorem dX6_layOdds_115 : decode cX6_layOdds 115 = .ok (.iload_n 3, 1) := by decide +kernel
theorem dX6_layOdds_116 : decode cX6_layOdds 116 = .ok (.if_icmp .ge 92, 3) := by decide +kernel
theorem dX6_layOdds_119 : decode cX6_layOdds 119 = .ok (.iload 7, 2) := by decide +kernel
theorem dX6_layOdds_121 : decode cX6_layOdds 121 = .ok (.iload_n 2, 1) := by decide +kernel
theorem dX6_layOdds_122 : decode cX6_layOdds 122 = .ok (.isub, 1) := by decide +kernel
theorem dX6_layOdds_123 : decode cX6_layOdds 123 = .ok (.istore 8, 2) := by decide +kernel
theorem dX6_layOdds_125 : decode cX6_layOdds 125 = .ok (.iload 8, 2) := by decide +kernel
theorem dX6_layOdds_127 : decode cX6_layOdds 127 = .ok (.ifCond .lt 75, 3) := by decide +kernel
theorem dX6_layOdds_130 : decode cX6_layOdds 130 = .ok (.iconst 0, 1) := by decide +kernel
theorem dX6_layOdds_131 : decode cX6_layOdds 131 = .ok (.istore 9, 2) := by decide +kernel
theorem dX6_layOdds_133 : decode cX6_layOdds 133 = .ok (.iload 9, 2) := by decide +kernel
theorem dX6_layOdds_135 : decode cX6_layOdds 135 = .ok (.aload_n 0, 1) := by decide +kernel
theorem dX6_layOdds_136 : decode cX6_layOdds 136 = .ok (.getfield 32, 3) := by decide +kernel
theorem dX6_layOdds_139 : decode cX6_layOdds 139 = .ok (.iload 7, 2) := by decide +kernel
theorem dX6_layOdds_141 : decode cX6_layOdds 141 = .ok (.iaload, 1) := by decide +kernel
theorem dX6_layOdds_142 : decode cX6_layOdds 142 = .ok (.iadd, 1) := by decide +kernel
theorem dX6_layOdds_143 : decode cX6_layOdds 143 = .ok (.sipush 1700, 3) := by decide +kernel
theorem dX6_layOdds_146 : decode cX6_layOdds 146 = .ok (.if_icmp .ge 50, 3) := by decide +kernel
theorem dX6_layOdds_149 : decode cX6_layOdds 149 = .ok (.aload_n 0, 1) := by decide +kernel
theorem dX6_layOdds_150 : decode cX6_layOdds 150 = .ok (.getfield 60, 3) := by decide +kernel
theorem dX6_layOdds_153 : decode cX6_layOdds 153 = .ok (.sipush 1700, 3) := by decide +kernel
theorem dX6_layOdds_156 : decode cX6_layOdds 156 = .ok (.iload 8, 2) := by decide +kernel
theorem dX6_layOdds_158 : decode cX6_layOdds 158 = .ok (.iconst 1, 1) := by decide +kernel
theorem dX6_layOdds_159 : decode cX6_layOdds 159 = .ok (.iadd, 1) := by decide +kernel
theorem dX6_layOdds_160 : decode cX6_layOdds 160 = .ok (.imul, 1) := by decide +kernel
theorem dX6_layOdds_161 : decode cX6_layOdds 161 = .ok (.iload 9, 2) := by decide +kernel
theorem dX6_layOdds_163 : decode cX6_layOdds 163 = .ok (.iadd, 1) := by decide +kernel
theorem dX6_layOdds_164 : decode cX6_layOdds 164 = .ok (.aload_n 0, 1) := by decide +kernel
theorem dX6_layOdds_165 : decode cX6_layOdds 165 = .ok (.getfield 32, 3) := by decide +kernel
theorem dX6_layOdds_168 : decode cX6_layOdds 168 = .ok (.iload 7, 2) := by decide +kernel
theorem dX6_layOdds_170 : decode cX6_layOdds 170 = .ok (.iaload, 1) := by decide +kernel
theorem dX6_layOdds_171 : decode cX6_layOdds 171 = .ok (.iadd, 1) := by decide +kernel
theorem dX6_layOdds_172 : decode cX6_layOdds 172 = .ok (.dup2, 1) := by decide +kernel
theorem dX6_layOdds_173 : decode cX6_layOdds 173 = .ok (.laload, 1) := by decide +kernel
theorem dX6_layOdds_174 : decode cX6_layOdds 174 = .ok (.aload_n 0, 1) := by decide +kernel
theorem dX6_layOdds_175 : decode cX6_layOdds 175 = .ok (.getfield 60, 3) := by decide +kernel
theorem dX6_layOdds_178 : decode cX6_layOdds 178 = .ok (.sipush 1700, 3) := by decide +kernel
theorem dX6_layOdds_181 : decode cX6_layOdds 181 = .ok (.iload 8, 2) := by decide +kernel
theorem dX6_layOdds_183 : decode cX6_layOdds 183 = .ok (.imul, 1) := by decide +kernel
theorem dX6_layOdds_184 : decode cX6_layOdds 184 = .ok (.iload 9, 2) := by decide +kernel
theorem dX6_layOdds_186 : decode cX6_layOdds 186 = .ok (.iadd, 1) := by decide +kernel
theorem dX6_layOdds_187 : decode cX6_layOdds 187 = .ok (.laload, 1) := by decide +kernel
theorem dX6_layOdds_188 : decode cX6_layOdds 188 = .ok (.ladd, 1) := by decide +kernel
theorem dX6_layOdds_189 : decode cX6_layOdds 189 = .ok (.lastore, 1) := by decide +kernel
theorem dX6_layOdds_190 : decode cX6_layOdds 190 = .ok (.iinc 9 1, 3) := by decide +kernel
theorem dX6_layOdds_193 : decode cX6_layOdds 193 = .ok (.goto (-60), 3) := by decide +kernel
theorem dX6_layOdds_196 : decode cX6_layOdds 196 = .ok (.iinc 8 (-1), 3) := by decide +kernel
theorem dX6_layOdds_199 : decode cX6_layOdds 199 = .ok (.goto (-74), 3) := by decide +kernel
theorem dX6_layOdds_202 : decode cX6_layOdds 202 = .ok (.iinc 7 1, 3) := by decide +kernel
theorem dX6_layOdds_205 : decode cX6_layOdds 205 = .ok (.goto (-92), 3) := by decide +kernel
theorem dX6_layOdds_208 : decode cX6_layOdds 208 = .ok (.aload_n 0, 1) := by decide +kernel
theorem dX6_layOdds_209 : decode cX6_layOdds 209 = .ok (.lconst 0, 1) := by decide +kernel
theorem dX6_layOdds_210 : decode cX6_layOdds 210 = .ok (.putfield 158, 3) := by decide +kernel
theorem dX6_layOdds_213 : decode cX6_layOdds 213 = .ok (.aload_n 0, 1) := by decide +kernel
theorem dX6_layOdds_214 : decode cX6_layOdds 214 = .ok (.lconst 0, 1) := by decide +kernel
theorem dX6_layOdds_215 : decode cX6_layOdds 215 = .ok (.putfield 161, 3) := by decide +kernel
theorem dX6_layOdds_218 : decode cX6_layOdds 218 = .ok (.aload_n 0, 1) := by decide +kernel
theorem dX6_layOdds_219 : decode cX6_layOdds 219 = .ok (.iload_n 1, 1) := by decide +kernel
theorem dX6_layOdds_220 : decode cX6_layOdds 220 = .ok (.invokevirtual 141, 3) := by decide +kernel
theorem dX6_layOdds_223 : decode cX6_layOdds 223 = .ok (.ifCond .ge 7, 3) := by decide +kernel
theorem dX6_layOdds_226 : decode cX6_layOdds 226 = .ok (.iconst 1, 1) := by decide +kernel
theorem dX6_layOdds_227 : decode cX6_layOdds 227 = .ok (.goto 4, 3) := by decide +kernel
theorem dX6_layOdds_230 : decode cX6_layOdds 230 = .ok (.iconst 0, 1) := by decide +kernel
theorem dX6_layOdds_231 : decode cX6_layOdds 231 = .ok (.istore 7, 2) := by decide +kernel
theorem dX6_layOdds_233 : decode cX6_layOdds 233 = .ok (.iconst 0, 1) := by decide +kernel
theorem dX6_layOdds_234 : decode cX6_layOdds 234 = .ok (.istore 8, 2) := by decide +kernel
theorem dX6_layOdds_236 : decode cX6_layOdds 236 = .ok (.iload 8, 2) := by decide +kernel
theorem dX6_layOdds_238 : decode cX6_layOdds 238 = .ok (.sipush 1700, 3) := by decide +kernel
theorem dX6_layOdds_241 : decode cX6_layOdds 241 = .ok (.if_icmp .ge 79, 3) := by decide +kernel
theorem dX6_layOdds_244 : decode cX6_layOdds 244 = .ok (.aload_n 0, 1) := by decide +kernel
theorem dX6_layOdds_245 : decode cX6_layOdds 245 = .ok (.getfield 60, 3) := by decide +kernel
theorem dX6_layOdds_248 : decode cX6_layOdds 248 = .ok (.sipush 1700, 3) := by decide +kernel
theorem dX6_layOdds_251 : decode cX6_layOdds 251 = .ok (.iload 5, 2) := by decide +kernel
theorem dX6_layOdds_253 : decode cX6_layOdds 253 = .ok (.imul, 1) := by decide +kernel
theorem dX6_layOdds_254 : decode cX6_layOdds 254 = .ok (.iload 8, 2) := by decide +kernel
theorem dX6_layOdds_256 : decode cX6_layOdds 256 = .ok (.iadd, 1) := by decide +kernel
theorem dX6_layOdds_257 : decode cX6_layOdds 257 = .ok (.laload, 1) := by decide +kernel
theorem dX6_layOdds_258 : decode cX6_layOdds 258 = .ok (.lstore 9, 2) := by decide +kernel
theorem dX6_layOdds_260 : decode cX6_layOdds 260 = .ok (.aload_n 0, 1) := by decide +kernel
theorem dX6_layOdds_261 : decode cX6_layOdds 261 = .ok (.dup, 1) := by decide +kernel
theorem dX6_layOdds_262 : decode cX6_layOdds 262 = .ok (.getfield 161, 3) := by decide +kernel
theorem dX6_layOdds_265 : decode cX6_layOdds 265 = .ok (.lload 9, 2) := by decide +kernel
theorem dX6_layOdds_267 : decode cX6_layOdds 267 = .ok (.ladd, 1) := by decide +kernel
theorem dX6_layOdds_268 : decode cX6_layOdds 268 = .ok (.putfield 161, 3) := by decide +kernel
theorem dX6_layOdds_271 : decode cX6_layOdds 271 = .ok (.aload_n 0, 1) := by decide +kernel
theorem dX6_layOdds_272 : decode cX6_layOdds 272 = .ok (.dup, 1) := by decide +kernel
theorem dX6_layOdds_273 : decode cX6_layOdds 273 = .ok (.getfield 158, 3) := by decide +kernel
theorem dX6_layOdds_276 : decode cX6_layOdds 276 = .ok (.iload 7, 2) := by decide +kernel
theorem dX6_layOdds_278 : decode cX6_layOdds 278 = .ok (.ifCond .eq 19, 3) := by decide +kernel
theorem dX6_layOdds_281 : decode cX6_layOdds 281 = .ok (.iload 8, 2) := by decide +kernel
theorem dX6_layOdds_283 : decode cX6_layOdds 283 = .ok (.iload 6, 2) := by decide +kernel
theorem dX6_layOdds_285 : decode cX6_layOdds 285 = .ok (.if_icmp .gt 8, 3) := by decide +kernel
theorem dX6_layOdds_288 : decode cX6_layOdds 288 = .ok (.lload 9, 2) := by decide +kernel
theorem dX6_layOdds_290 : decode cX6_layOdds 290 = .ok (.goto 20, 3) := by decide +kernel
theorem dX6_layOdds_293 : decode cX6_layOdds 293 = .ok (.lconst 0, 1) := by decide +kernel
theorem dX6_layOdds_294 : decode cX6_layOdds 294 = .ok (.goto 16, 3) := by decide +kernel
theorem dX6_layOdds_297 : decode cX6_layOdds 297 = .ok (.iload 8, 2) := by decide +kernel
theorem dX6_layOdds_299 : decode cX6_layOdds 299 = .ok (.iload 6, 2) := by decide +kernel
theorem dX6_layOdds_301 : decode cX6_layOdds 301 = .ok (.if_icmp .lt 8, 3) := by decide +kernel
theorem dX6_layOdds_304 : decode cX6_layOdds 304 = .ok (.lload 9, 2) := by decide +kernel
theorem dX6_layOdds_306 : decode cX6_layOdds 306 = .ok (.goto 4, 3) := by decide +kernel
theorem dX6_layOdds_309 : decode cX6_layOdds 309 = .ok (.lconst 0, 1) := by decide +kernel
theorem dX6_layOdds_310 : decode cX6_layOdds 310 = .ok (.ladd, 1) := by decide +kernel
theorem dX6_layOdds_311 : decode cX6_layOdds 311 = .ok (.putfield 158, 3) := by decide +kernel
theorem dX6_layOdds_314 : decode cX6_layOdds 314 = .ok (.iinc 8 1, 3) := by decide +kernel
theorem dX6_layOdds_317 : decode cX6_layOdds 317 = .ok (.goto (-81), 3) := by decide +kernel
theorem dX6_layOdds_320 : decode cX6_layOdds 320 = .ok (.iconst 1, 1) := by decide +kernel
theorem dX6_layOdds_321 : decode cX6_layOdds 321 = .ok (.ireturn, 1) := by decide +kernel
theorem dX6_gcd_0 : decode cX6_gcd 0 = .ok (.lload_n 0, 1) := by decide +kernel
theorem dX6_gcd_1 : decode cX6_gcd 1 = .ok (.lstore 4, 2) := by decide +kernel
theorem dX6_gcd_3 : decode cX6_gcd 3 = .ok (.lload_n 2, 1) := by decide +kernel
theorem dX6_gcd_4 : decode cX6_gcd 4 = .ok (.lstore 6, 2) := by decide +kernel
theorem dX6_gcd_6 : decode cX6_gcd 6 = .ok (.lload 6, 2) := by decide +kernel
theorem dX6_gcd_8 : decode cX6_gcd 8 = .ok (.lconst 0, 1) := by decide +kernel
theorem dX6_gcd_9 : decode cX6_gcd 9 = .ok (.lcmp, 1) := by decide +kernel
theorem dX6_gcd_10 : decode cX6_gcd 10 = .ok (.ifCond .eq 21, 3) := by decide +kernel
theorem dX6_gcd_13 : decode cX6_gcd 13 = .ok (.lload 4, 2) := by decide +kernel
theorem dX6_gcd_15 : decode cX6_gcd 15 = .ok (.lload 6, 2) := by decide +kernel
theorem dX6_gcd_17 : decode cX6_gcd 17 = .ok (.lrem, 1) := by decide +kernel
theorem dX6_gcd_18 : decode cX6_gcd 18 = .ok (.lstore 8, 2) := by decide +kernel
theorem dX6_gcd_20 : decode cX6_gcd 20 = .ok (.lload 6, 2) := by decide +kernel
theorem dX6_gcd_22 : decode cX6_gcd 22 = .ok (.lstore 4, 2) := by decide +kernel
theorem dX6_gcd_24 : decode cX6_gcd 24 = .ok (.lload 8, 2) := by decide +kernel
theorem dX6_gcd_26 : decode cX6_gcd 26 = .ok (.lstore 6, 2) := by decide +kernel
theorem dX6_gcd_28 : decode cX6_gcd 28 = .ok (.goto (-22), 3) := by decide +kernel
theorem dX6_gcd_31 : decode cX6_gcd 31 = .ok (.lload 4, 2) := by decide +kernel
theorem dX6_gcd_33 : decode cX6_gcd 33 = .ok (.lreturn, 1) := by decide +kernel
theorem dX6_odds_0 : decode cX6_odds 0 = .ok (.aload_n 0, 1) := by decide +kernel
theorem dX6_odds_1 : decode cX6_odds 1 = .ok (.iload_n 1, 1) := by decide +kernel
theorem dX6_odds_2 : decode cX6_odds 2 = .ok (.iload_n 2, 1) := by decide +kernel
theorem dX6_odds_3 : decode cX6_odds 3 = .ok (.invokevirtual 119, 3) := by decide +kernel
theorem dX6_odds_6 : decode cX6_odds 6 = .ok (.istore 4, 2) := by decide +kernel
theorem dX6_odds_8 : decode cX6_odds 8 = .ok (.iload 4, 2) := by decide +kernel
theorem dX6_odds_10 : decode cX6_odds 10 = .ok (.ifCond .ge 6, 3) := by decide +kernel
theorem dX6_odds_13 : decode cX6_odds 13 = .ok (.iload 4, 2) := by decide +kernel
theorem dX6_odds_15 : decode cX6_odds 15 = .ok (.ireturn, 1) := by decide +kernel
theorem dX6_odds_16 : decode cX6_odds 16 = .ok (.aload_n 0, 1) := by decide +kernel
theorem dX6_odds_17 : decode cX6_odds 17 = .ok (.iload_n 3, 1) := by decide +kernel
theorem dX6_odds_18 : decode cX6_odds 18 = .ok (.invokevirtual 135, 3) := by decide +kernel
theorem dX6_odds_21 : decode cX6_odds 21 = .ok (.ifCond .ne 6, 3) := by decide +kernel
theorem dX6_odds_24 : decode cX6_odds 24 = .ok (.bipush (-9), 2) := by decide +kernel
theorem dX6_odds_26 : decode cX6_odds 26 = .ok (.ireturn, 1) := by decide +kernel
theorem dX6_odds_27 : decode cX6_odds 27 = .ok (.aload_n 0, 1) := by decide +kernel
theorem dX6_odds_28 : decode cX6_odds 28 = .ok (.iload_n 3, 1) := by decide +kernel
theorem dX6_odds_29 : decode cX6_odds 29 = .ok (.invokevirtual 164, 3) := by decide +kernel
theorem dX6_odds_32 : decode cX6_odds 32 = .ok (.ifCond .ne 5, 3) := by decide +kernel
theorem dX6_odds_35 : decode cX6_odds 35 = .ok (.iconst 0, 1) := by decide +kernel
theorem dX6_odds_36 : decode cX6_odds 36 = .ok (.ireturn, 1) := by decide +kernel
theorem dX6_odds_37 : decode cX6_odds 37 = .ok (.aload_n 0, 1) := by decide +kernel
theorem dX6_odds_38 : decode cX6_odds 38 = .ok (.getfield 158, 3) := by decide +kernel
theorem dX6_odds_41 : decode cX6_odds 41 = .ok (.aload_n 0, 1) := by decide +kernel
theorem dX6_odds_42 : decode cX6_odds 42 = .ok (.getfield 161, 3) := by decide +kernel
theorem dX6_odds_45 : decode cX6_odds 45 = .ok (.invokestatic 167, 3) := by decide +kernel
theorem dX6_odds_48 : decode cX6_odds 48 = .ok (.lstore 5, 2) := by decide +kernel
theorem dX6_odds_50 : decode cX6_odds 50 = .ok (.aload_n 0, 1) := by decide +kernel
theorem dX6_odds_51 : decode cX6_odds 51 = .ok (.aload_n 0, 1) := by decide +kernel
theorem dX6_odds_52 : decode cX6_odds 52 = .ok (.getfield 158, 3) := by decide +kernel
theorem dX6_odds_55 : decode cX6_odds 55 = .ok (.lload 5, 2) := by decide +kernel
theorem dX6_odds_57 : decode cX6_odds 57 = .ok (.ldiv, 1) := by decide +kernel
theorem dX6_odds_58 : decode cX6_odds 58 = .ok (.putfield 171, 3) := by decide +kernel
theorem dX6_odds_61 : decode cX6_odds 61 = .ok (.aload_n 0, 1) := by decide +kernel
theorem dX6_odds_62 : decode cX6_odds 62 = .ok (.aload_n 0, 1) := by decide +kernel
theorem dX6_odds_63 : decode cX6_odds 63 = .ok (.getfield 161, 3) := by decide +kernel
theorem dX6_odds_66 : decode cX6_odds 66 = .ok (.lload 5, 2) := by decide +kernel
theorem dX6_odds_68 : decode cX6_odds 68 = .ok (.ldiv, 1) := by decide +kernel
theorem dX6_odds_69 : decode cX6_odds 69 = .ok (.putfield 77, 3) := by decide +kernel
theorem dX6_odds_72 : decode cX6_odds 72 = .ok (.iconst 1, 1) := by decide +kernel
theorem dX6_odds_73 : decode cX6_odds 73 = .ok (.ireturn, 1) := by decide +kernel
theorem dX6_upper_0 : decode cX6_upper 0 = .ok (.aload_n 0, 1) := by decide +kernel
theorem dX6_upper_1 : decode cX6_upper 1 = .ok (.getfield 171, 3) := by decide +kernel
theorem dX6_upper_4 : decode cX6_upper 4 = .ok (.lreturn, 1) := by decide +kernel
theorem dX6_lower_0 : decode cX6_lower 0 = .ok (.aload_n 0, 1) := by decide +kernel
theorem dX6_lower_1 : decode cX6_lower 1 = .ok (.getfield 77, 3) := by decide +kernel
theorem dX6_lower_4 : decode cX6_lower 4 = .ok (.lreturn, 1) := by decide +kernel
theorem dX6_isLoud_0 : decode cX6_isLoud 0 = .ok (.aload_n 0, 1) := by decide +kernel
theorem dX6_isLoud_1 : decode cX6_isLoud 1 = .ok (.iload_n 3, 1) := by decide +kernel
theorem dX6_isLoud_2 : decode cX6_isLoud 2 = .ok (.invokevirtual 141, 3) := by decide +kernel
theorem dX6_isLoud_5 : decode cX6_isLoud 5 = .ok (.ifCond .le 13, 3) := by decide +kernel
theorem dX6_isLoud_8 : decode cX6_isLoud 8 = .ok (.aload_n 0, 1) := by decide +kernel
theorem dX6_isLoud_9 : decode cX6_isLoud 9 = .ok (.iload_n 3, 1) := by decide +kernel
theorem dX6_isLoud_10 : decode cX6_isLoud 10 = .ok (.invokevirtual 141, 3) := by decide +kernel
theorem dX6_isLoud_13 : decode cX6_isLoud 13 = .ok (.iload 4, 2) := by decide +kernel
theorem dX6_isLoud_15 : decode cX6_isLoud 15 = .ok (.if_icmp .ge 5, 3) := by decide +kernel
theorem dX6_isLoud_18 : decode cX6_isLoud 18 = .ok (.iconst 0, 1) := by decide +kernel
theorem dX6_isLoud_19 : decode cX6_isLoud 19 = .ok (.ireturn, 1) := by decide +kernel
theorem dX6_isLoud_20 : decode cX6_isLoud 20 = .ok (.aload_n 0, 1) := by decide +kernel
theorem dX6_isLoud_21 : decode cX6_isLoud 21 = .ok (.invokevirtual 155, 3) := by decide +kernel
theorem dX6_isLoud_24 : decode cX6_isLoud 24 = .ok (.aload_n 0, 1) := by decide +kernel
theorem dX6_isLoud_25 : decode cX6_isLoud 25 = .ok (.getfield 13, 3) := by decide +kernel
theorem dX6_isLoud_28 : decode cX6_isLoud 28 = .ok (.iload_n 1, 1) := by decide +kernel
theorem dX6_isLoud_29 : decode cX6_isLoud 29 = .ok (.iaload, 1) := by decide +kernel
theorem dX6_isLoud_30 : decode cX6_isLoud 30 = .ok (.iconst 1, 1) := by decide +kernel
theorem dX6_isLoud_31 : decode cX6_isLoud 31 = .ok (.if_icmp .ne 16, 3) := by decide +kernel
theorem dX6_isLoud_34 : decode cX6_isLoud 34 = .ok (.aload_n 0, 1) := by decide +kernel
theorem dX6_isLoud_35 : decode cX6_isLoud 35 = .ok (.getfield 53, 3) := by decide +kernel
theorem dX6_isLoud_38 : decode cX6_isLoud 38 = .ok (.iload_n 3, 1) := by decide +kernel
theorem dX6_isLoud_39 : decode cX6_isLoud 39 = .ok (.iaload, 1) := by decide +kernel
theorem dX6_isLoud_40 : decode cX6_isLoud 40 = .ok (.bipush (-9), 2) := by decide +kernel
theorem dX6_isLoud_42 : decode cX6_isLoud 42 = .ok (.if_icmp .eq 5, 3) := by decide +kernel
theorem dX6_isLoud_45 : decode cX6_isLoud 45 = .ok (.iconst 0, 1) := by decide +kernel
theorem dX6_isLoud_46 : decode cX6_isLoud 46 = .ok (.ireturn, 1) := by decide +kernel
theorem dX6_isLoud_47 : decode cX6_isLoud 47 = .ok (.aload_n 0, 1) := by decide +kernel
theorem dX6_isLoud_48 : decode cX6_isLoud 48 = .ok (.iload_n 3, 1) := by decide +kernel
theorem dX6_isLoud_49 : decode cX6_isLoud 49 = .ok (.invokevirtual 164, 3) := by decide +kernel
theorem dX6_isLoud_52 : decode cX6_isLoud 52 = .ok (.ifCond .eq 23, 3) := by decide +kernel
theorem dX6_isLoud_55 : decode cX6_isLoud 55 = .ok (.aload_n 0, 1) := by decide +kernel
theorem dX6_isLoud_56 : decode cX6_isLoud 56 = .ok (.getfield 158, 3) := by decide +kernel
theorem dX6_isLoud_59 : decode cX6_isLoud 59 = .ok (.iload 6, 2) := by decide +kernel
theorem dX6_isLoud_61 : decode cX6_isLoud 61 = .ok (.i2l, 1) := by decide +kernel
theorem dX6_isLoud_62 : decode cX6_isLoud 62 = .ok (.lmul, 1) := by decide +kernel
theorem dX6_isLoud_63 : decode cX6_isLoud 63 = .ok (.aload_n 0, 1) := by decide +kernel
theorem dX6_isLoud_64 : decode cX6_isLoud 64 = .ok (.getfield 161, 3) := by decide +kernel
theorem dX6_isLoud_67 : decode cX6_isLoud 67 = .ok (.iload 5, 2) := by decide +kernel
theorem dX6_isLoud_69 : decode cX6_isLoud 69 = .ok (.i2l, 1) := by decide +kernel
theorem dX6_isLoud_70 : decode cX6_isLoud 70 = .ok (.lmul, 1) := by decide +kernel
theorem dX6_isLoud_71 : decode cX6_isLoud 71 = .ok (.lcmp, 1) := by decide +kernel
theorem dX6_isLoud_72 : decode cX6_isLoud 72 = .ok (.ifCond .gt 7, 3) := by decide +kernel
theorem dX6_isLoud_75 : decode cX6_isLoud 75 = .ok (.iconst 1, 1) := by decide +kernel
theorem dX6_isLoud_76 : decode cX6_isLoud 76 = .ok (.goto 4, 3) := by decide +kernel
theorem dX6_isLoud_79 : decode cX6_isLoud 79 = .ok (.iconst 0, 1) := by decide +kernel
theorem dX6_isLoud_80 : decode cX6_isLoud 80 = .ok (.ireturn, 1) := by decide +kernel
theorem dX6_cryOf_0 : decode cX6_cryOf 0 = .ok (.iconst 4, 1) := by decide +kernel
theorem dX6_cryOf_1 : decode cX6_cryOf 1 = .ok (.iload_n 1, 1) := by decide +kernel
theorem dX6_cryOf_2 : decode cX6_cryOf 2 = .ok (.imul, 1) := by decide +kernel
theorem dX6_cryOf_3 : decode cX6_cryOf 3 = .ok (.iload_n 2, 1) := by decide +kernel
theorem dX6_cryOf_4 : decode cX6_cryOf 4 = .ok (.iadd, 1) := by decide +kernel
theorem dX6_cryOf_5 : decode cX6_cryOf 5 = .ok (.istore 6, 2) := by decide +kernel
theorem dX6_cryOf_7 : decode cX6_cryOf 7 = .ok (.iconst 0, 1) := by decide +kernel
theorem dX6_cryOf_8 : decode cX6_cryOf 8 = .ok (.istore 7, 2) := by decide +kernel
theorem dX6_cryOf_10 : decode cX6_cryOf 10 = .ok (.aload_n 0, 1) := by decide +kernel
theorem dX6_cryOf_11 : decode cX6_cryOf 11 = .ok (.iload 6, 2) := by decide +kernel
theorem dX6_cryOf_13 : decode cX6_cryOf 13 = .ok (.invokevirtual 115, 3) := by decide +kernel
theorem dX6_cryOf_16 : decode cX6_cryOf 16 = .ok (.aload_n 0, 1) := by decide +kernel
theorem dX6_cryOf_17 : decode cX6_cryOf 17 = .ok (.getfield 132, 3) := by decide +kernel
theorem dX6_cryOf_20 : decode cX6_cryOf 20 = .ok (.iconst 1, 1) := by decide +kernel
theorem dX6_cryOf_21 : decode cX6_cryOf 21 = .ok (.isub, 1) := by decide +kernel
theorem dX6_cryOf_22 : decode cX6_cryOf 22 = .ok (.istore 8, 2) := by decide +kernel
theorem dX6_cryOf_24 : decode cX6_cryOf 24 = .ok (.iconst 0, 1) := by decide +kernel
theorem dX6_cryOf_25 : decode cX6_cryOf 25 = .ok (.istore 9, 2) := by decide +kernel
theorem dX6_cryOf_27 : decode cX6_cryOf 27 = .ok (.iload 9, 2) := by decide +kernel
theorem dX6_cryOf_29 : decode cX6_cryOf 29 = .ok (.iload 8, 2) := by decide +kernel
theorem dX6_cryOf_31 : decode cX6_cryOf 31 = .ok (.if_icmp .ge 158, 3) := by decide +kernel
theorem dX6_cryOf_34 : decode cX6_cryOf 34 = .ok (.aload_n 0, 1) := by decide +kernel
theorem dX6_cryOf_35 : decode cX6_cryOf 35 = .ok (.iload 6, 2) := by decide +kernel
theorem dX6_cryOf_37 : decode cX6_cryOf 37 = .ok (.invokevirtual 115, 3) := by decide +kernel
theorem dX6_cryOf_40 : decode cX6_cryOf 40 = .ok (.aload_n 0, 1) := by decide +kernel
theorem dX6_cryOf_41 : decode cX6_cryOf 41 = .ok (.iload 9, 2) := by decide +kernel
theorem dX6_cryOf_43 : decode cX6_cryOf 43 = .ok (.invokevirtual 138, 3) := by decide +kernel
theorem dX6_cryOf_46 : decode cX6_cryOf 46 = .ok (.istore 10, 2) := by decide +kernel
theorem dX6_cryOf_48 : decode cX6_cryOf 48 = .ok (.aload_n 0, 1) := by decide +kernel
theorem dX6_cryOf_49 : decode cX6_cryOf 49 = .ok (.iload_n 1, 1) := by decide +kernel
theorem dX6_cryOf_50 : decode cX6_cryOf 50 = .ok (.iload_n 2, 1) := by decide +kernel
theorem dX6_cryOf_51 : decode cX6_cryOf 51 = .ok (.iload 9, 2) := by decide +kernel
theorem dX6_cryOf_53 : decode cX6_cryOf 53 = .ok (.iload_n 3, 1) := by decide +kernel
theorem dX6_cryOf_54 : decode cX6_cryOf 54 = .ok (.iload 4, 2) := by decide +kernel
theorem dX6_cryOf_56 : decode cX6_cryOf 56 = .ok (.iload 5, 2) := by decide +kernel
theorem dX6_cryOf_58 : decode cX6_cryOf 58 = .ok (.invokevirtual 174, 3) := by decide +kernel
theorem dX6_cryOf_61 : decode cX6_cryOf 61 = .ok (.ifCond .eq 122, 3) := by decide +kernel
theorem dX6_cryOf_64 : decode cX6_cryOf 64 = .ok (.aload_n 0, 1) := by decide +kernel
theorem dX6_cryOf_65 : decode cX6_cryOf 65 = .ok (.iload_n 1, 1) := by decide +kernel
theorem dX6_cryOf_66 : decode cX6_cryOf 66 = .ok (.iload_n 2, 1) := by decide +kernel
theorem dX6_cryOf_67 : decode cX6_cryOf 67 = .ok (.iload 9, 2) := by decide +kernel
theorem dX6_cryOf_69 : decode cX6_cryOf 69 = .ok (.invokevirtual 150, 3) := by decide +kernel
theorem dX6_cryOf_72 : decode cX6_cryOf 72 = .ok (.ifCond .ne 111, 3) := by decide +kernel
theorem dX6_cryOf_75 : decode cX6_cryOf 75 = .ok (.aload_n 0, 1) := by decide +kernel
theorem dX6_cryOf_76 : decode cX6_cryOf 76 = .ok (.getfield 67, 3) := by decide +kernel
theorem dX6_cryOf_79 : decode cX6_cryOf 79 = .ok (.bipush 40, 2) := by decide +kernel
theorem dX6_cryOf_81 : decode cX6_cryOf 81 = .ok (.iload 6, 2) := by decide +kernel
theorem dX6_cryOf_83 : decode cX6_cryOf 83 = .ok (.imul, 1) := by decide +kernel
theorem dX6_cryOf_84 : decode cX6_cryOf 84 = .ok (.iload 10, 2) := by decide +kernel
theorem dX6_cryOf_86 : decode cX6_cryOf 86 = .ok (.iadd, 1) := by decide +kernel
theorem dX6_cryOf_87 : decode cX6_cryOf 87 = .ok (.baload, 1) := by decide +kernel
theorem dX6_cryOf_88 : decode cX6_cryOf 88 = .ok (.ifCond .ne 95, 3) := by decide +kernel
theorem dX6_cryOf_91 : decode cX6_cryOf 91 = .ok (.aload_n 0, 1) := by decide +kernel
theorem dX6_cryOf_92 : decode cX6_cryOf 92 = .ok (.getfield 67, 3) := by decide +kernel
theorem dX6_cryOf_95 : decode cX6_cryOf 95 = .ok (.bipush 40, 2) := by decide +kernel
theorem dX6_cryOf_97 : decode cX6_cryOf 97 = .ok (.iload 6, 2) := by decide +kernel
theorem dX6_cryOf_99 : decode cX6_cryOf 99 = .ok (.imul, 1) := by decide +kernel
theorem dX6_cryOf_100 : decode cX6_cryOf 100 = .ok (.iload 10, 2) := by decide +kernel
theorem dX6_cryOf_102 : decode cX6_cryOf 102 = .ok (.iadd, 1) := by decide +kernel
theorem dX6_cryOf_103 : decode cX6_cryOf 103 = .ok (.iconst 1, 1) := by decide +kernel
theorem dX6_cryOf_104 : decode cX6_cryOf 104 = .ok (.bastore, 1) := by decide +kernel
theorem dX6_cryOf_105 : decode cX6_cryOf 105 = .ok (.aload_n 0, 1) := by decide +kernel
theorem dX6_cryOf_106 : decode cX6_cryOf 106 = .ok (.getfield 178, 3) := by decide +kernel
theorem dX6_cryOf_109 : decode cX6_cryOf 109 = .ok (.sipush 300, 3) := by decide +kernel
theorem dX6_cryOf_112 : decode cX6_cryOf 112 = .ok (.if_icmp .ge 25, 3) := by decide +kernel
theorem dX6_cryOf_115 : decode cX6_cryOf 115 = .ok (.aload_n 0, 1) := by decide +kernel
theorem dX6_cryOf_116 : decode cX6_cryOf 116 = .ok (.getfield 64, 3) := by decide +kernel
theorem dX6_cryOf_119 : decode cX6_cryOf 119 = .ok (.aload_n 0, 1) := by decide +kernel
theorem dX6_cryOf_120 : decode cX6_cryOf 120 = .ok (.getfield 178, 3) := by decide +kernel
theorem dX6_cryOf_123 : decode cX6_cryOf 123 = .ok (.sipush 1000, 3) := by decide +kernel
theorem dX6_cryOf_126 : decode cX6_cryOf 126 = .ok (.iload_n 1, 1) := by decide +kernel
theorem dX6_cryOf_127 : decode cX6_cryOf 127 = .ok (.imul, 1) := by decide +kernel
theorem dX6_cryOf_128 : decode cX6_cryOf 128 = .ok (.bipush 100, 2) := by decide +kernel
theorem dX6_cryOf_130 : decode cX6_cryOf 130 = .ok (.iload_n 2, 1) := by decide +kernel
theorem dX6_cryOf_131 : decode cX6_cryOf 131 = .ok (.imul, 1) := by decide +kernel
theorem dX6_cryOf_132 : decode cX6_cryOf 132 = .ok (.iadd, 1) := by decide +kernel
theorem dX6_cryOf_133 : decode cX6_cryOf 133 = .ok (.iload 10, 2) := by decide +kernel
theorem dX6_cryOf_135 : decode cX6_cryOf 135 = .ok (.iadd, 1) := by decide +kernel
theorem dX6_cryOf_136 : decode cX6_cryOf 136 = .ok (.iastore, 1) := by decide +kernel
theorem dX6_cryOf_137 : decode cX6_cryOf 137 = .ok (.aload_n 0, 1) := by decide +kernel
theorem dX6_cryOf_138 : decode cX6_cryOf 138 = .ok (.dup, 1) := by decide +kernel
theorem dX6_cryOf_139 : decode cX6_cryOf 139 = .ok (.getfield 178, 3) := by decide +kernel
theorem dX6_cryOf_142 : decode cX6_cryOf 142 = .ok (.iconst 1, 1) := by decide +kernel
theorem dX6_cryOf_143 : decode cX6_cryOf 143 = .ok (.iadd, 1) := by decide +kernel
theorem dX6_cryOf_144 : decode cX6_cryOf 144 = .ok (.putfield 178, 3) := by decide +kernel
theorem dX6_cryOf_147 : decode cX6_cryOf 147 = .ok (.aload_n 0, 1) := by decide +kernel
theorem dX6_cryOf_148 : decode cX6_cryOf 148 = .ok (.aload_n 0, 1) := by decide +kernel
theorem dX6_cryOf_149 : decode cX6_cryOf 149 = .ok (.getfield 181, 3) := by decide +kernel
theorem dX6_cryOf_152 : decode cX6_cryOf 152 = .ok (.bipush (-9), 2) := by decide +kernel
theorem dX6_cryOf_154 : decode cX6_cryOf 154 = .ok (.if_icmp .ne 19, 3) := by decide +kernel
theorem dX6_cryOf_157 : decode cX6_cryOf 157 = .ok (.sipush 1000, 3) := by decide +kernel
theorem dX6_cryOf_160 : decode cX6_cryOf 160 = .ok (.iload_n 1, 1) := by decide +kernel
theorem dX6_cryOf_161 : decode cX6_cryOf 161 = .ok (.imul, 1) := by decide +kernel
theorem dX6_cryOf_162 : decode cX6_cryOf 162 = .ok (.bipush 100, 2) := by decide +kernel
theorem dX6_cryOf_164 : decode cX6_cryOf 164 = .ok (.iload_n 2, 1) := by decide +kernel
theorem dX6_cryOf_165 : decode cX6_cryOf 165 = .ok (.imul, 1) := by decide +kernel
theorem dX6_cryOf_166 : decode cX6_cryOf 166 = .ok (.iadd, 1) := by decide +kernel
theorem dX6_cryOf_167 : decode cX6_cryOf 167 = .ok (.iload 10, 2) := by decide +kernel
theorem dX6_cryOf_169 : decode cX6_cryOf 169 = .ok (.iadd, 1) := by decide +kernel
theorem dX6_cryOf_170 : decode cX6_cryOf 170 = .ok (.goto 7, 3) := by decide +kernel
theorem dX6_cryOf_173 : decode cX6_cryOf 173 = .ok (.aload_n 0, 1) := by decide +kernel
theorem dX6_cryOf_174 : decode cX6_cryOf 174 = .ok (.getfield 181, 3) := by decide +kernel
theorem dX6_cryOf_177 : decode cX6_cryOf 177 = .ok (.putfield 181, 3) := by decide +kernel
theorem dX6_cryOf_180 : decode cX6_cryOf 180 = .ok (.iinc 7 1, 3) := by decide +kernel
theorem dX6_cryOf_183 : decode cX6_cryOf 183 = .ok (.iinc 9 1, 3) := by decide +kernel
theorem dX6_cryOf_186 : decode cX6_cryOf 186 = .ok (.goto (-159), 3) := by decide +kernel
theorem dX6_cryOf_189 : decode cX6_cryOf 189 = .ok (.iload 7, 2) := by decide +kernel
theorem dX6_cryOf_191 : decode cX6_cryOf 191 = .ok (.ireturn, 1) := by decide +kernel
theorem dX6_cry_0 : decode cX6_cry 0 = .ok (.iload_n 1, 1) := by decide +kernel
theorem dX6_cry_1 : decode cX6_cry 1 = .ok (.iconst 0, 1) := by decide +kernel
theorem dX6_cry_2 : decode cX6_cry 2 = .ok (.ldc 105, 2) := by decide +kernel
theorem dX6_cry_4 : decode cX6_cry 4 = .ok (.invokestatic 84, 3) := by decide +kernel
theorem dX6_cry_7 : decode cX6_cry 7 = .ok (.ifCond .eq 23, 3) := by decide +kernel
theorem dX6_cry_10 : decode cX6_cry 10 = .ok (.iload_n 2, 1) := by decide +kernel
theorem dX6_cry_11 : decode cX6_cry 11 = .ok (.iconst 0, 1) := by decide +kernel
theorem dX6_cry_12 : decode cX6_cry 12 = .ok (.ldc 105, 2) := by decide +kernel
theorem dX6_cry_14 : decode cX6_cry 14 = .ok (.invokestatic 84, 3) := by decide +kernel
theorem dX6_cry_17 : decode cX6_cry 17 = .ok (.ifCond .eq 13, 3) := by decide +kernel
theorem dX6_cry_20 : decode cX6_cry 20 = .ok (.iload_n 3, 1) := by decide +kernel
theorem dX6_cry_21 : decode cX6_cry 21 = .ok (.iconst 1, 1) := by decide +kernel
theorem dX6_cry_22 : decode cX6_cry 22 = .ok (.ldc 105, 2) := by decide +kernel
theorem dX6_cry_24 : decode cX6_cry 24 = .ok (.invokestatic 84, 3) := by decide +kernel
theorem dX6_cry_27 : decode cX6_cry 27 = .ok (.ifCond .ne 5, 3) := by decide +kernel
theorem dX6_cry_30 : decode cX6_cry 30 = .ok (.iconst (-1), 1) := by decide +kernel
theorem dX6_cry_31 : decode cX6_cry 31 = .ok (.ireturn, 1) := by decide +kernel
theorem dX6_cry_32 : decode cX6_cry 32 = .ok (.iconst 0, 1) := by decide +kernel
theorem dX6_cry_33 : decode cX6_cry 33 = .ok (.istore 4, 2) := by decide +kernel
theorem dX6_cry_35 : decode cX6_cry 35 = .ok (.aload_n 0, 1) := by decide +kernel
theorem dX6_cry_36 : decode cX6_cry 36 = .ok (.bipush (-9), 2) := by decide +kernel
theorem dX6_cry_38 : decode cX6_cry 38 = .ok (.putfield 181, 3) := by decide +kernel
theorem dX6_cry_41 : decode cX6_cry 41 = .ok (.iconst 0, 1) := by decide +kernel
theorem dX6_cry_42 : decode cX6_cry 42 = .ok (.istore 5, 2) := by decide +kernel
theorem dX6_cry_44 : decode cX6_cry 44 = .ok (.iload 5, 2) := by decide +kernel
theorem dX6_cry_46 : decode cX6_cry 46 = .ok (.aload_n 0, 1) := by decide +kernel
theorem dX6_cry_47 : decode cX6_cry 47 = .ok (.getfield 94, 3) := by decide +kernel
theorem dX6_cry_50 : decode cX6_cry 50 = .ok (.if_icmp .ge 70, 3) := by decide +kernel
theorem dX6_cry_53 : decode cX6_cry 53 = .ok (.iconst 0, 1) := by decide +kernel
theorem dX6_cry_54 : decode cX6_cry 54 = .ok (.istore 6, 2) := by decide +kernel
theorem dX6_cry_56 : decode cX6_cry 56 = .ok (.iload 6, 2) := by decide +kernel
theorem dX6_cry_58 : decode cX6_cry 58 = .ok (.iconst 4, 1) := by decide +kernel
theorem dX6_cry_59 : decode cX6_cry 59 = .ok (.if_icmp .ge 55, 3) := by decide +kernel
theorem dX6_cry_62 : decode cX6_cry 62 = .ok (.aload_n 0, 1) := by decide +kernel
theorem dX6_cry_63 : decode cX6_cry 63 = .ok (.getfield 13, 3) := by decide +kernel
theorem dX6_cry_66 : decode cX6_cry 66 = .ok (.iload 5, 2) := by decide +kernel
theorem dX6_cry_68 : decode cX6_cry 68 = .ok (.iaload, 1) := by decide +kernel
theorem dX6_cry_69 : decode cX6_cry 69 = .ok (.iconst 2, 1) := by decide +kernel
theorem dX6_cry_70 : decode cX6_cry 70 = .ok (.if_icmp .eq 44, 3) := by decide +kernel
theorem dX6_cry_73 : decode cX6_cry 73 = .ok (.iload 4, 2) := by decide +kernel
theorem dX6_cry_75 : decode cX6_cry 75 = .ok (.aload_n 0, 1) := by decide +kernel
theorem dX6_cry_76 : decode cX6_cry 76 = .ok (.getfield 16, 3) := by decide +kernel
theorem dX6_cry_79 : decode cX6_cry 79 = .ok (.iconst 4, 1) := by decide +kernel
theorem dX6_cry_80 : decode cX6_cry 80 = .ok (.iload 5, 2) := by decide +kernel
theorem dX6_cry_82 : decode cX6_cry 82 = .ok (.imul, 1) := by decide +kernel
theorem dX6_cry_83 : decode cX6_cry 83 = .ok (.iload 6, 2) := by decide +kernel
theorem dX6_cry_85 : decode cX6_cry 85 = .ok (.iadd, 1) := by decide +kernel
theorem dX6_cry_86 : decode cX6_cry 86 = .ok (.baload, 1) := by decide +kernel
theorem dX6_cry_87 : decode cX6_cry 87 = .ok (.ifCond .eq 17, 3) := by decide +kernel
theorem dX6_cry_90 : decode cX6_cry 90 = .ok (.aload_n 0, 1) := by decide +kernel
theorem dX6_cry_91 : decode cX6_cry 91 = .ok (.iload 5, 2) := by decide +kernel
theorem dX6_cry_93 : decode cX6_cry 93 = .ok (.iload 6, 2) := by decide +kernel
theorem dX6_cry_95 : decode cX6_cry 95 = .ok (.iload_n 1, 1) := by decide +kernel
theorem dX6_cry_96 : decode cX6_cry 96 = .ok (.iload_n 2, 1) := by decide +kernel
theorem dX6_cry_97 : decode cX6_cry 97 = .ok (.iload_n 3, 1) := by decide +kernel
theorem dX6_cry_98 : decode cX6_cry 98 = .ok (.invokevirtual 184, 3) := by decide +kernel
theorem dX6_cry_101 : decode cX6_cry 101 = .ok (.goto 4, 3) := by decide +kernel
theorem dX6_cry_104 : decode cX6_cry 104 = .ok (.iconst 0, 1) := by decide +kernel
theorem dX6_cry_105 : decode cX6_cry 105 = .ok (.iadd, 1) := by decide +kernel
theorem dX6_cry_106 : decode cX6_cry 106 = .ok (.istore 4, 2) := by decide +kernel
theorem dX6_cry_108 : decode cX6_cry 108 = .ok (.iinc 6 1, 3) := by decide +kernel
theorem dX6_cry_111 : decode cX6_cry 111 = .ok (.goto (-55), 3) := by decide +kernel
theorem dX6_cry_114 : decode cX6_cry 114 = .ok (.iinc 5 1, 3) := by decide +kernel
theorem dX6_cry_117 : decode cX6_cry 117 = .ok (.goto (-73), 3) := by decide +kernel
theorem dX6_cry_120 : decode cX6_cry 120 = .ok (.aload_n 0, 1) := by decide +kernel
theorem dX6_cry_121 : decode cX6_cry 121 = .ok (.iload 4, 2) := by decide +kernel
theorem dX6_cry_123 : decode cX6_cry 123 = .ok (.ifCond .ne 10, 3) := by decide +kernel
theorem dX6_cry_126 : decode cX6_cry 126 = .ok (.aload_n 0, 1) := by decide +kernel
theorem dX6_cry_127 : decode cX6_cry 127 = .ok (.getfield 88, 3) := by decide +kernel
theorem dX6_cry_130 : decode cX6_cry 130 = .ok (.goto 8, 3) := by decide +kernel
theorem dX6_cry_133 : decode cX6_cry 133 = .ok (.aload_n 0, 1) := by decide +kernel
theorem dX6_cry_134 : decode cX6_cry 134 = .ok (.getfield 181, 3) := by decide +kernel
theorem dX6_cry_137 : decode cX6_cry 137 = .ok (.i2l, 1) := by decide +kernel
theorem dX6_cry_138 : decode cX6_cry 138 = .ok (.putfield 88, 3) := by decide +kernel
theorem dX6_cry_141 : decode cX6_cry 141 = .ok (.iload 4, 2) := by decide +kernel
theorem dX6_cry_143 : decode cX6_cry 143 = .ok (.ireturn, 1) := by decide +kernel
theorem dX6_cried_0 : decode cX6_cried 0 = .ok (.iload_n 1, 1) := by decide +kernel
theorem dX6_cried_1 : decode cX6_cried 1 = .ok (.iconst 0, 1) := by decide +kernel
theorem dX6_cried_2 : decode cX6_cried 2 = .ok (.aload_n 0, 1) := by decide +kernel
theorem dX6_cried_3 : decode cX6_cried 3 = .ok (.getfield 178, 3) := by decide +kernel
theorem dX6_cried_6 : decode cX6_cried 6 = .ok (.sipush 300, 3) := by decide +kernel
theorem dX6_cried_9 : decode cX6_cried 9 = .ok (.if_icmp .ge 10, 3) := by decide +kernel
theorem dX6_cried_12 : decode cX6_cried 12 = .ok (.aload_n 0, 1) := by decide +kernel
theorem dX6_cried_13 : decode cX6_cried 13 = .ok (.getfield 178, 3) := by decide +kernel
theorem dX6_cried_16 : decode cX6_cried 16 = .ok (.goto 6, 3) := by decide +kernel
theorem dX6_cried_19 : decode cX6_cried 19 = .ok (.sipush 300, 3) := by decide +kernel
theorem dX6_cried_22 : decode cX6_cried 22 = .ok (.iconst 1, 1) := by decide +kernel
theorem dX6_cried_23 : decode cX6_cried 23 = .ok (.isub, 1) := by decide +kernel
theorem dX6_cried_24 : decode cX6_cried 24 = .ok (.invokestatic 84, 3) := by decide +kernel
theorem dX6_cried_27 : decode cX6_cried 27 = .ok (.ifCond .eq 12, 3) := by decide +kernel
theorem dX6_cried_30 : decode cX6_cried 30 = .ok (.aload_n 0, 1) := by decide +kernel
theorem dX6_cried_31 : decode cX6_cried 31 = .ok (.getfield 64, 3) := by decide +kernel
theorem dX6_cried_34 : decode cX6_cried 34 = .ok (.iload_n 1, 1) := by decide +kernel
theorem dX6_cried_35 : decode cX6_cried 35 = .ok (.iaload, 1) := by decide +kernel
theorem dX6_cried_36 : decode cX6_cried 36 = .ok (.goto 5, 3) := by decide +kernel
theorem dX6_cried_39 : decode cX6_cried 39 = .ok (.bipush (-9), 2) := by decide +kernel
theorem dX6_cried_41 : decode cX6_cried 41 = .ok (.ireturn, 1) := by decide +kernel
theorem dX6_middleBuild_0 : decode cX6_middleBuild 0 = .ok (.aload_n 0, 1) := by decide +kernel
theorem dX6_middleBuild_1 : decode cX6_middleBuild 1 = .ok (.getfield 188, 3) := by decide +kernel
theorem dX6_middleBuild_4 : decode cX6_middleBuild 4 = .ok (.aload_n 0, 1) := by decide +kernel
theorem dX6_middleBuild_5 : decode cX6_middleBuild 5 = .ok (.getfield 191, 3) := by decide +kernel
theorem dX6_middleBuild_8 : decode cX6_middleBuild 8 = .ok (.aload_n 0, 1) := by decide +kernel
theorem dX6_middleBuild_9 : decode cX6_middleBuild 9 = .ok (.getfield 188, 3) := by decide +kernel
theorem dX6_middleBuild_12 : decode cX6_middleBuild 12 = .ok (.isub, 1) := by decide +kernel
theorem dX6_middleBuild_13 : decode cX6_middleBuild 13 = .ok (.iconst 2, 1) := by decide +kernel
theorem dX6_middleBuild_14 : decode cX6_middleBuild 14 = .ok (.idiv, 1) := by decide +kernel
theorem dX6_middleBuild_15 : decode cX6_middleBuild 15 = .ok (.iadd, 1) := by decide +kernel
theorem dX6_middleBuild_16 : decode cX6_middleBuild 16 = .ok (.ireturn, 1) := by decide +kernel
theorem dX6_halve_0 : decode cX6_halve 0 = .ok (.iload_n 1, 1) := by decide +kernel
theorem dX6_halve_1 : decode cX6_halve 1 = .ok (.ifCond .lt 31, 3) := by decide +kernel
theorem dX6_halve_4 : decode cX6_halve 4 = .ok (.iload_n 1, 1) := by decide +kernel
theorem dX6_halve_5 : decode cX6_halve 5 = .ok (.iload_n 2, 1) := by decide +kernel
theorem dX6_halve_6 : decode cX6_halve 6 = .ok (.if_icmp .ge 26, 3) := by decide +kernel
theorem dX6_halve_9 : decode cX6_halve 9 = .ok (.iload_n 2, 1) := by decide +kernel
theorem dX6_halve_10 : decode cX6_halve 10 = .ok (.aload_n 0, 1) := by decide +kernel
theorem dX6_halve_11 : decode cX6_halve 11 = .ok (.getfield 91, 3) := by decide +kernel
theorem dX6_halve_14 : decode cX6_halve 14 = .ok (.if_icmp .ge 18, 3) := by decide +kernel
theorem dX6_halve_17 : decode cX6_halve 17 = .ok (.iload_n 3, 1) := by decide +kernel
theorem dX6_halve_18 : decode cX6_halve 18 = .ok (.iconst 1, 1) := by decide +kernel
theorem dX6_halve_19 : decode cX6_halve 19 = .ok (.if_icmp .eq 15, 3) := by decide +kernel
theorem dX6_halve_22 : decode cX6_halve 22 = .ok (.iload_n 3, 1) := by decide +kernel
theorem dX6_halve_23 : decode cX6_halve 23 = .ok (.iconst 3, 1) := by decide +kernel
theorem dX6_halve_24 : decode cX6_halve 24 = .ok (.if_icmp .eq 10, 3) := by decide +kernel
theorem dX6_halve_27 : decode cX6_halve 27 = .ok (.iload_n 3, 1) := by decide +kernel
theorem dX6_halve_28 : decode cX6_halve 28 = .ok (.iconst 5, 1) := by decide +kernel
theorem dX6_halve_29 : decode cX6_halve 29 = .ok (.if_icmp .eq 5, 3) := by decide +kernel
theorem dX6_halve_32 : decode cX6_halve 32 = .ok (.iconst (-1), 1) := by decide +kernel
theorem dX6_halve_33 : decode cX6_halve 33 = .ok (.ireturn, 1) := by decide +kernel
theorem dX6_halve_34 : decode cX6_halve 34 = .ok (.aload_n 0, 1) := by decide +kernel
theorem dX6_halve_35 : decode cX6_halve 35 = .ok (.iconst 1, 1) := by decide +kernel
theorem dX6_halve_36 : decode cX6_halve 36 = .ok (.putfield 194, 3) := by decide +kernel
theorem dX6_halve_39 : decode cX6_halve 39 = .ok (.aload_n 0, 1) := by decide +kernel
theorem dX6_halve_40 : decode cX6_halve 40 = .ok (.iload_n 1, 1) := by decide +kernel
theorem dX6_halve_41 : decode cX6_halve 41 = .ok (.putfield 188, 3) := by decide +kernel
theorem dX6_halve_44 : decode cX6_halve 44 = .ok (.aload_n 0, 1) := by decide +kernel
theorem dX6_halve_45 : decode cX6_halve 45 = .ok (.iload_n 2, 1) := by decide +kernel
theorem dX6_halve_46 : decode cX6_halve 46 = .ok (.putfield 191, 3) := by decide +kernel
theorem dX6_halve_49 : decode cX6_halve 49 = .ok (.aload_n 0, 1) := by decide +kernel
theorem dX6_halve_50 : decode cX6_halve 50 = .ok (.iload_n 3, 1) := by decide +kernel
theorem dX6_halve_51 : decode cX6_halve 51 = .ok (.putfield 198, 3) := by decide +kernel
theorem dX6_halve_54 : decode cX6_halve 54 = .ok (.aload_n 0, 1) := by decide +kernel
theorem dX6_halve_55 : decode cX6_halve 55 = .ok (.iconst 0, 1) := by decide +kernel
theorem dX6_halve_56 : decode cX6_halve 56 = .ok (.putfield 201, 3) := by decide +kernel
theorem dX6_halve_59 : decode cX6_halve 59 = .ok (.aload_n 0, 1) := by decide +kernel
theorem dX6_halve_60 : decode cX6_halve 60 = .ok (.iconst 0, 1) := by decide +kernel
theorem dX6_halve_61 : decode cX6_halve 61 = .ok (.putfield 204, 3) := by decide +kernel
theorem dX6_halve_64 : decode cX6_halve 64 = .ok (.aload_n 0, 1) := by decide +kernel
theorem dX6_halve_65 : decode cX6_halve 65 = .ok (.iconst 0, 1) := by decide +kernel
theorem dX6_halve_66 : decode cX6_halve 66 = .ok (.putfield 207, 3) := by decide +kernel
theorem dX6_halve_69 : decode cX6_halve 69 = .ok (.iconst 0, 1) := by decide +kernel
theorem dX6_halve_70 : decode cX6_halve 70 = .ok (.istore 4, 2) := by decide +kernel
theorem dX6_halve_72 : decode cX6_halve 72 = .ok (.iload_n 2, 1) := by decide +kernel
theorem dX6_halve_73 : decode cX6_halve 73 = .ok (.iload_n 1, 1) := by decide +kernel
theorem dX6_halve_74 : decode cX6_halve 74 = .ok (.isub, 1) := by decide +kernel
theorem dX6_halve_75 : decode cX6_halve 75 = .ok (.istore 5, 2) := by decide +kernel
theorem dX6_halve_77 : decode cX6_halve 77 = .ok (.iload 5, 2) := by decide +kernel
theorem dX6_halve_79 : decode cX6_halve 79 = .ok (.iconst 1, 1) := by decide +kernel
theorem dX6_halve_80 : decode cX6_halve 80 = .ok (.if_icmp .le 18, 3) := by decide +kernel
theorem dX6_halve_83 : decode cX6_halve 83 = .ok (.iinc 4 1, 3) := by decide +kernel
theorem dX6_halve_86 : decode cX6_halve 86 = .ok (.iload 5, 2) := by decide +kernel
theorem dX6_halve_88 : decode cX6_halve 88 = .ok (.iload 5, 2) := by decide +kernel
theorem dX6_halve_90 : decode cX6_halve 90 = .ok (.iconst 2, 1) := by decide +kernel
theorem dX6_halve_91 : decode cX6_halve 91 = .ok (.idiv, 1) := by decide +kernel
theorem dX6_halve_92 : decode cX6_halve 92 = .ok (.isub, 1) := by decide +kernel
theorem dX6_halve_93 : decode cX6_halve 93 = .ok (.istore 5, 2) := by decide +kernel
theorem dX6_halve_95 : decode cX6_halve 95 = .ok (.goto (-18), 3) := by decide +kernel
theorem dX6_halve_98 : decode cX6_halve 98 = .ok (.iload 4, 2) := by decide +kernel
theorem dX6_halve_100 : decode cX6_halve 100 = .ok (.iload_n 3, 1) := by decide +kernel
theorem dX6_halve_101 : decode cX6_halve 101 = .ok (.imul, 1) := by decide +kernel
theorem dX6_halve_102 : decode cX6_halve 102 = .ok (.ireturn, 1) := by decide +kernel
theorem dX6_hasEnded_0 : decode cX6_hasEnded 0 = .ok (.aload_n 0, 1) := by decide +kernel
theorem dX6_hasEnded_1 : decode cX6_hasEnded 1 = .ok (.getfield 191, 3) := by decide +kernel
theorem dX6_hasEnded_4 : decode cX6_hasEnded 4 = .ok (.aload_n 0, 1) := by decide +kernel
theorem dX6_hasEnded_5 : decode cX6_hasEnded 5 = .ok (.getfield 188, 3) := by decide +kernel
theorem dX6_hasEnded_8 : decode cX6_hasEnded 8 = .ok (.iconst 1, 1) := by decide +kernel
theorem dX6_hasEnded_9 : decode cX6_hasEnded 9 = .ok (.iadd, 1) := by decide +kernel
theorem dX6_hasEnded_10 : decode cX6_hasEnded 10 = .ok (.if_icmp .ne 7, 3) := by decide +kernel
theorem dX6_hasEnded_13 : decode cX6_hasEnded 13 = .ok (.iconst 1, 1) := by decide +kernel
theorem dX6_hasEnded_14 : decode cX6_hasEnded 14 = .ok (.goto 4, 3) := by decide +kernel
theorem dX6_hasEnded_17 : decode cX6_hasEnded 17 = .ok (.iconst 0, 1) := by decide +kernel
theorem dX6_hasEnded_18 : decode cX6_hasEnded 18 = .ok (.ireturn, 1) := by decide +kernel
theorem dX6_asks_0 : decode cX6_asks 0 = .ok (.aload_n 0, 1) := by decide +kernel
theorem dX6_asks_1 : decode cX6_asks 1 = .ok (.getfield 194, 3) := by decide +kernel
theorem dX6_asks_4 : decode cX6_asks 4 = .ok (.ifCond .ne 8, 3) := by decide +kernel
theorem dX6_asks_7 : decode cX6_asks 7 = .ok (.bipush (-4), 2) := by decide +kernel
theorem dX6_asks_9 : decode cX6_asks 9 = .ok (.goto 19, 3) := by decide +kernel
theorem dX6_asks_12 : decode cX6_asks 12 = .ok (.aload_n 0, 1) := by decide +kernel
theorem dX6_asks_13 : decode cX6_asks 13 = .ok (.invokevirtual 210, 3) := by decide +kernel
theorem dX6_asks_16 : decode cX6_asks 16 = .ok (.ifCond .eq 8, 3) := by decide +kernel
theorem dX6_asks_19 : decode cX6_asks 19 = .ok (.bipush (-9), 2) := by decide +kernel
theorem dX6_asks_21 : decode cX6_asks 21 = .ok (.goto 7, 3) := by decide +kernel
theorem dX6_asks_24 : decode cX6_asks 24 = .ok (.aload_n 0, 1) := by decide +kernel
theorem dX6_asks_25 : decode cX6_asks 25 = .ok (.invokevirtual 214, 3) := by decide +kernel
theorem dX6_asks_28 : decode cX6_asks 28 = .ok (.ireturn, 1) := by decide +kernel
theorem dX6_rerun_0 : decode cX6_rerun 0 = .ok (.aload_n 0, 1) := by decide +kernel
theorem dX6_rerun_1 : decode cX6_rerun 1 = .ok (.getfield 194, 3) := by decide +kernel
theorem dX6_rerun_4 : decode cX6_rerun 4 = .ok (.ifCond .eq 10, 3) := by decide +kernel
theorem dX6_rerun_7 : decode cX6_rerun 7 = .ok (.aload_n 0, 1) := by decide +kernel
theorem dX6_rerun_8 : decode cX6_rerun 8 = .ok (.invokevirtual 210, 3) := by decide +kernel
theorem dX6_rerun_11 : decode cX6_rerun 11 = .ok (.ifCond .eq 6, 3) := by decide +kernel
theorem dX6_rerun_14 : decode cX6_rerun 14 = .ok (.bipush (-4), 2) := by decide +kernel
theorem dX6_rerun_16 : decode cX6_rerun 16 = .ok (.ireturn, 1) := by decide +kernel
theorem dX6_rerun_17 : decode cX6_rerun 17 = .ok (.aload_n 0, 1) := by decide +kernel
theorem dX6_rerun_18 : decode cX6_rerun 18 = .ok (.dup, 1) := by decide +kernel
theorem dX6_rerun_19 : decode cX6_rerun 19 = .ok (.getfield 204, 3) := by decide +kernel
theorem dX6_rerun_22 : decode cX6_rerun 22 = .ok (.iconst 1, 1) := by decide +kernel
theorem dX6_rerun_23 : decode cX6_rerun 23 = .ok (.iadd, 1) := by decide +kernel
theorem dX6_rerun_24 : decode cX6_rerun 24 = .ok (.putfield 204, 3) := by decide +kernel
theorem dX6_rerun_27 : decode cX6_rerun 27 = .ok (.aload_n 0, 1) := by decide +kernel
theorem dX6_rerun_28 : decode cX6_rerun 28 = .ok (.dup, 1) := by decide +kernel
theorem dX6_rerun_29 : decode cX6_rerun 29 = .ok (.getfield 207, 3) := by decide +kernel
theorem dX6_rerun_32 : decode cX6_rerun 32 = .ok (.iconst 1, 1) := by decide +kernel
theorem dX6_rerun_33 : decode cX6_rerun 33 = .ok (.iadd, 1) := by decide +kernel
theorem dX6_rerun_34 : decode cX6_rerun 34 = .ok (.putfield 207, 3) := by decide +kernel
theorem dX6_rerun_37 : decode cX6_rerun 37 = .ok (.aload_n 0, 1) := by decide +kernel
theorem dX6_rerun_38 : decode cX6_rerun 38 = .ok (.dup, 1) := by decide +kernel
theorem dX6_rerun_39 : decode cX6_rerun 39 = .ok (.getfield 201, 3) := by decide +kernel
theorem dX6_rerun_42 : decode cX6_rerun 42 = .ok (.iload_n 1, 1) := by decide +kernel
theorem dX6_rerun_43 : decode cX6_rerun 43 = .ok (.ifCond .eq 7, 3) := by decide +kernel
theorem dX6_rerun_46 : decode cX6_rerun 46 = .ok (.iconst 1, 1) := by decide +kernel
theorem dX6_rerun_47 : decode cX6_rerun 47 = .ok (.goto 4, 3) := by decide +kernel
theorem dX6_rerun_50 : decode cX6_rerun 50 = .ok (.iconst 0, 1) := by decide +kernel
theorem dX6_rerun_51 : decode cX6_rerun 51 = .ok (.iadd, 1) := by decide +kernel
theorem dX6_rerun_52 : decode cX6_rerun 52 = .ok (.putfield 201, 3) := by decide +kernel
theorem dX6_rerun_55 : decode cX6_rerun 55 = .ok (.aload_n 0, 1) := by decide +kernel
theorem dX6_rerun_56 : decode cX6_rerun 56 = .ok (.getfield 204, 3) := by decide +kernel
theorem dX6_rerun_59 : decode cX6_rerun 59 = .ok (.aload_n 0, 1) := by decide +kernel
theorem dX6_rerun_60 : decode cX6_rerun 60 = .ok (.getfield 198, 3) := by decide +kernel
theorem dX6_rerun_63 : decode cX6_rerun 63 = .ok (.if_icmp .ge 13, 3) := by decide +kernel
theorem dX6_rerun_66 : decode cX6_rerun 66 = .ok (.aload_n 0, 1) := by decide +kernel
theorem dX6_rerun_67 : decode cX6_rerun 67 = .ok (.getfield 198, 3) := by decide +kernel
theorem dX6_rerun_70 : decode cX6_rerun 70 = .ok (.aload_n 0, 1) := by decide +kernel
theorem dX6_rerun_71 : decode cX6_rerun 71 = .ok (.getfield 204, 3) := by decide +kernel
theorem dX6_rerun_74 : decode cX6_rerun 74 = .ok (.isub, 1) := by decide +kernel
theorem dX6_rerun_75 : decode cX6_rerun 75 = .ok (.ireturn, 1) := by decide +kernel
theorem dX6_rerun_76 : decode cX6_rerun 76 = .ok (.iconst 2, 1) := by decide +kernel
theorem dX6_rerun_77 : decode cX6_rerun 77 = .ok (.aload_n 0, 1) := by decide +kernel
theorem dX6_rerun_78 : decode cX6_rerun 78 = .ok (.getfield 201, 3) := by decide +kernel
theorem dX6_rerun_81 : decode cX6_rerun 81 = .ok (.imul, 1) := by decide +kernel
theorem dX6_rerun_82 : decode cX6_rerun 82 = .ok (.aload_n 0, 1) := by decide +kernel
theorem dX6_rerun_83 : decode cX6_rerun 83 = .ok (.getfield 198, 3) := by decide +kernel
theorem dX6_rerun_86 : decode cX6_rerun 86 = .ok (.if_icmp .le 14, 3) := by decide +kernel
theorem dX6_rerun_89 : decode cX6_rerun 89 = .ok (.aload_n 0, 1) := by decide +kernel
theorem dX6_rerun_90 : decode cX6_rerun 90 = .ok (.aload_n 0, 1) := by decide +kernel
theorem dX6_rerun_91 : decode cX6_rerun 91 = .ok (.invokevirtual 214, 3) := by decide +kernel
theorem dX6_rerun_94 : decode cX6_rerun 94 = .ok (.putfield 191, 3) := by decide +kernel
theorem dX6_rerun_97 : decode cX6_rerun 97 = .ok (.goto 11, 3) := by decide +kernel
theorem dX6_rerun_100 : decode cX6_rerun 100 = .ok (.aload_n 0, 1) := by decide +kernel
theorem dX6_rerun_101 : decode cX6_rerun 101 = .ok (.aload_n 0, 1) := by decide +kernel
theorem dX6_rerun_102 : decode cX6_rerun 102 = .ok (.invokevirtual 214, 3) := by decide +kernel
theorem dX6_rerun_105 : decode cX6_rerun 105 = .ok (.putfield 188, 3) := by decide +kernel
theorem dX6_rerun_108 : decode cX6_rerun 108 = .ok (.aload_n 0, 1) := by decide +kernel
theorem dX6_rerun_109 : decode cX6_rerun 109 = .ok (.iconst 0, 1) := by decide +kernel
theorem dX6_rerun_110 : decode cX6_rerun 110 = .ok (.putfield 204, 3) := by decide +kernel
theorem dX6_rerun_113 : decode cX6_rerun 113 = .ok (.aload_n 0, 1) := by decide +kernel
theorem dX6_rerun_114 : decode cX6_rerun 114 = .ok (.iconst 0, 1) := by decide +kernel
theorem dX6_rerun_115 : decode cX6_rerun 115 = .ok (.putfield 201, 3) := by decide +kernel
theorem dX6_rerun_118 : decode cX6_rerun 118 = .ok (.iconst 0, 1) := by decide +kernel
theorem dX6_rerun_119 : decode cX6_rerun 119 = .ok (.ireturn, 1) := by decide +kernel
theorem dX6_found_0 : decode cX6_found 0 = .ok (.aload_n 0, 1) := by decide +kernel
theorem dX6_found_1 : decode cX6_found 1 = .ok (.getfield 194, 3) := by decide +kernel
theorem dX6_found_4 : decode cX6_found 4 = .ok (.ifCond .ne 8, 3) := by decide +kernel
theorem dX6_found_7 : decode cX6_found 7 = .ok (.bipush (-4), 2) := by decide +kernel
theorem dX6_found_9 : decode cX6_found 9 = .ok (.goto 19, 3) := by decide +kernel
theorem dX6_found_12 : decode cX6_found 12 = .ok (.aload_n 0, 1) := by decide +kernel
theorem dX6_found_13 : decode cX6_found 13 = .ok (.invokevirtual 210, 3) := by decide +kernel
theorem dX6_found_16 : decode cX6_found 16 = .ok (.ifCond .eq 10, 3) := by decide +kernel
theorem dX6_found_19 : decode cX6_found 19 = .ok (.aload_n 0, 1) := by decide +kernel
theorem dX6_found_20 : decode cX6_found 20 = .ok (.getfield 191, 3) := by decide +kernel
theorem dX6_found_23 : decode cX6_found 23 = .ok (.goto 5, 3) := by decide +kernel
theorem dX6_found_26 : decode cX6_found 26 = .ok (.bipush (-9), 2) := by decide +kernel
theorem dX6_found_28 : decode cX6_found 28 = .ok (.ireturn, 1) := by decide +kernel
theorem dX6_reruns_0 : decode cX6_reruns 0 = .ok (.aload_n 0, 1) := by decide +kernel
theorem dX6_reruns_1 : decode cX6_reruns 1 = .ok (.getfield 207, 3) := by decide +kernel
theorem dX6_reruns_4 : decode cX6_reruns 4 = .ok (.ireturn, 1) := by decide +kernel
theorem dX6_count_0 : decode cX6_count 0 = .ok (.iconst 0, 1) := by decide +kernel
theorem dX6_count_1 : decode cX6_count 1 = .ok (.istore_n 2, 1) := by decide +kernel
theorem dX6_count_2 : decode cX6_count 2 = .ok (.iconst 0, 1) := by decide +kernel
theorem dX6_count_3 : decode cX6_count 3 = .ok (.istore_n 3, 1) := by decide +kernel
theorem dX6_count_4 : decode cX6_count 4 = .ok (.iload_n 3, 1) := by decide +kernel
theorem dX6_count_5 : decode cX6_count 5 = .ok (.bipush 32, 2) := by decide +kernel
theorem dX6_count_7 : decode cX6_count 7 = .ok (.if_icmp .ge 26, 3) := by decide +kernel
theorem dX6_count_10 : decode cX6_count 10 = .ok (.iload_n 2, 1) := by decide +kernel
theorem dX6_count_11 : decode cX6_count 11 = .ok (.aload_n 0, 1) := by decide +kernel
theorem dX6_count_12 : decode cX6_count 12 = .ok (.getfield 16, 3) := by decide +kernel
theorem dX6_count_15 : decode cX6_count 15 = .ok (.iload_n 3, 1) := by decide +kernel
theorem dX6_count_16 : decode cX6_count 16 = .ok (.baload, 1) := by decide +kernel
theorem dX6_count_17 : decode cX6_count 17 = .ok (.ifCond .eq 7, 3) := by decide +kernel
theorem dX6_count_20 : decode cX6_count 20 = .ok (.iconst 1, 1) := by decide +kernel
theorem dX6_count_21 : decode cX6_count 21 = .ok (.goto 4, 3) := by decide +kernel
theorem dX6_count_24 : decode cX6_count 24 = .ok (.iconst 0, 1) := by decide +kernel
theorem dX6_count_25 : decode cX6_count 25 = .ok (.iadd, 1) := by decide +kernel
theorem dX6_count_26 : decode cX6_count 26 = .ok (.istore_n 2, 1) := by decide +kernel
theorem dX6_count_27 : decode cX6_count 27 = .ok (.iinc 3 1, 3) := by decide +kernel
theorem dX6_count_30 : decode cX6_count 30 = .ok (.goto (-26), 3) := by decide +kernel
theorem dX6_count_33 : decode cX6_count 33 = .ok (.iload_n 1, 1) := by decide +kernel
theorem dX6_count_34 : decode cX6_count 34 = .ok (.ifCond .ne 10, 3) := by decide +kernel
theorem dX6_count_37 : decode cX6_count 37 = .ok (.aload_n 0, 1) := by decide +kernel
theorem dX6_count_38 : decode cX6_count 38 = .ok (.getfield 91, 3) := by decide +kernel
theorem dX6_count_41 : decode cX6_count 41 = .ok (.goto 37, 3) := by decide +kernel
theorem dX6_count_44 : decode cX6_count 44 = .ok (.iload_n 1, 1) := by decide +kernel
theorem dX6_count_45 : decode cX6_count 45 = .ok (.iconst 1, 1) := by decide +kernel
theorem dX6_count_46 : decode cX6_count 46 = .ok (.if_icmp .ne 10, 3) := by decide +kernel
theorem dX6_count_49 : decode cX6_count 49 = .ok (.aload_n 0, 1) := by decide +kernel
theorem dX6_count_50 : decode cX6_count 50 = .ok (.getfield 94, 3) := by decide +kernel
theorem dX6_count_53 : decode cX6_count 53 = .ok (.goto 25, 3) := by decide +kernel
theorem dX6_count_56 : decode cX6_count 56 = .ok (.iload_n 1, 1) := by decide +kernel
theorem dX6_count_57 : decode cX6_count 57 = .ok (.iconst 2, 1) := by decide +kernel
theorem dX6_count_58 : decode cX6_count 58 = .ok (.if_icmp .ne 7, 3) := by decide +kernel
theorem dX6_count_61 : decode cX6_count 61 = .ok (.iload_n 2, 1) := by decide +kernel
theorem dX6_count_62 : decode cX6_count 62 = .ok (.goto 16, 3) := by decide +kernel
theorem dX6_count_65 : decode cX6_count 65 = .ok (.iload_n 1, 1) := by decide +kernel
theorem dX6_count_66 : decode cX6_count 66 = .ok (.iconst 3, 1) := by decide +kernel
theorem dX6_count_67 : decode cX6_count 67 = .ok (.if_icmp .ne 10, 3) := by decide +kernel
theorem dX6_count_70 : decode cX6_count 70 = .ok (.aload_n 0, 1) := by decide +kernel
theorem dX6_count_71 : decode cX6_count 71 = .ok (.getfield 178, 3) := by decide +kernel
theorem dX6_count_74 : decode cX6_count 74 = .ok (.goto 4, 3) := by decide +kernel
theorem dX6_count_77 : decode cX6_count 77 = .ok (.iconst (-1), 1) := by decide +kernel
theorem dX6_count_78 : decode cX6_count 78 = .ok (.ireturn, 1) := by decide +kernel
theorem dX6_digest_0 : decode cX6_digest 0 = .ok (.ldc2_w 218, 3) := by decide +kernel
theorem dX6_digest_3 : decode cX6_digest 3 = .ok (.ldc2_w 218, 3) := by decide +kernel
theorem dX6_digest_6 : decode cX6_digest 6 = .ok (.ldc2_w 220, 3) := by decide +kernel
theorem dX6_digest_9 : decode cX6_digest 9 = .ok (.aload_n 0, 1) := by decide +kernel
theorem dX6_digest_10 : decode cX6_digest 10 = .ok (.getfield 91, 3) := by decide +kernel
theorem dX6_digest_13 : decode cX6_digest 13 = .ok (.i2l, 1) := by decide +kernel
theorem dX6_digest_14 : decode cX6_digest 14 = .ok (.ladd, 1) := by decide +kernel
theorem dX6_digest_15 : decode cX6_digest 15 = .ok (.lmul, 1) := by decide +kernel
theorem dX6_digest_16 : decode cX6_digest 16 = .ok (.aload_n 0, 1) := by decide +kernel
theorem dX6_digest_17 : decode cX6_digest 17 = .ok (.getfield 70, 3) := by decide +kernel
theorem dX6_digest_20 : decode cX6_digest 20 = .ok (.i2l, 1) := by decide +kernel
theorem dX6_digest_21 : decode cX6_digest 21 = .ok (.ladd, 1) := by decide +kernel
theorem dX6_digest_22 : decode cX6_digest 22 = .ok (.lmul, 1) := by decide +kernel
theorem dX6_digest_23 : decode cX6_digest 23 = .ok (.aload_n 0, 1) := by decide +kernel
theorem dX6_digest_24 : decode cX6_digest 24 = .ok (.getfield 74, 3) := by decide +kernel
theorem dX6_digest_27 : decode cX6_digest 27 = .ok (.i2l, 1) := by decide +kernel
theorem dX6_digest_28 : decode cX6_digest 28 = .ok (.ladd, 1) := by decide +kernel
theorem dX6_digest_29 : decode cX6_digest 29 = .ok (.lstore_n 1, 1) := by decide +kernel
theorem dX6_digest_30 : decode cX6_digest 30 = .ok (.iconst 0, 1) := by decide +kernel
theorem dX6_digest_31 : decode cX6_digest 31 = .ok (.istore_n 3, 1) := by decide +kernel
theorem dX6_digest_32 : decode cX6_digest 32 = .ok (.iload_n 3, 1) := by decide +kernel
theorem dX6_digest_33 : decode cX6_digest 33 = .ok (.aload_n 0, 1) := by decide +kernel
theorem dX6_digest_34 : decode cX6_digest 34 = .ok (.getfield 94, 3) := by decide +kernel
theorem dX6_digest_37 : decode cX6_digest 37 = .ok (.if_icmp .ge 111, 3) := by decide +kernel
theorem dX6_digest_40 : decode cX6_digest 40 = .ok (.ldc2_w 218, 3) := by decide +kernel
theorem dX6_digest_43 : decode cX6_digest 43 = .ok (.lload_n 1, 1) := by decide +kernel
theorem dX6_digest_44 : decode cX6_digest 44 = .ok (.lmul, 1) := by decide +kernel
theorem dX6_digest_45 : decode cX6_digest 45 = .ok (.aload_n 0, 1) := by decide +kernel
theorem dX6_digest_46 : decode cX6_digest 46 = .ok (.getfield 13, 3) := by decide +kernel
theorem dX6_digest_49 : decode cX6_digest 49 = .ok (.iload_n 3, 1) := by decide +kernel
theorem dX6_digest_50 : decode cX6_digest 50 = .ok (.iaload, 1) := by decide +kernel
theorem dX6_digest_51 : decode cX6_digest 51 = .ok (.i2l, 1) := by decide +kernel
theorem dX6_digest_52 : decode cX6_digest 52 = .ok (.ladd, 1) := by decide +kernel
theorem dX6_digest_53 : decode cX6_digest 53 = .ok (.lstore_n 1, 1) := by decide +kernel
theorem dX6_digest_54 : decode cX6_digest 54 = .ok (.iconst 0, 1) := by decide +kernel
theorem dX6_digest_55 : decode cX6_digest 55 = .ok (.istore 4, 2) := by decide +kernel
theorem dX6_digest_57 : decode cX6_digest 57 = .ok (.iload 4, 2) := by decide +kernel
theorem dX6_digest_59 : decode cX6_digest 59 = .ok (.iconst 4, 1) := by decide +kernel
theorem dX6_digest_60 : decode cX6_digest 60 = .ok (.if_icmp .ge 82, 3) := by decide +kernel
theorem dX6_digest_63 : decode cX6_digest 63 = .ok (.iconst 4, 1) := by decide +kernel
theorem dX6_digest_64 : decode cX6_digest 64 = .ok (.iload_n 3, 1) := by decide +kernel
theorem dX6_digest_65 : decode cX6_digest 65 = .ok (.imul, 1) := by decide +kernel
theorem dX6_digest_66 : decode cX6_digest 66 = .ok (.iload 4, 2) := by decide +kernel
theorem dX6_digest_68 : decode cX6_digest 68 = .ok (.iadd, 1) := by decide +kernel
theorem dX6_digest_69 : decode cX6_digest 69 = .ok (.istore 5, 2) := by decide +kernel
theorem dX6_digest_71 : decode cX6_digest 71 = .ok (.aload_n 0, 1) := by decide +kernel
theorem dX6_digest_72 : decode cX6_digest 72 = .ok (.getfield 16, 3) := by decide +kernel
theorem dX6_digest_75 : decode cX6_digest 75 = .ok (.iload 5, 2) := by decide +kernel
theorem dX6_digest_77 : decode cX6_digest 77 = .ok (.baload, 1) := by decide +kernel
theorem dX6_digest_78 : decode cX6_digest 78 = .ok (.ifCond .ne 11, 3) := by decide +kernel
theorem dX6_digest_81 : decode cX6_digest 81 = .ok (.ldc2_w 218, 3) := by decide +kernel
theorem dX6_digest_84 : decode cX6_digest 84 = .ok (.lload_n 1, 1) := by decide +kernel
theorem dX6_digest_85 : decode cX6_digest 85 = .ok (.lmul, 1) := by decide +kernel
theorem dX6_digest_86 : decode cX6_digest 86 = .ok (.lconst 1, 1) := by decide +kernel
theorem dX6_digest_87 : decode cX6_digest 87 = .ok (.lsub, 1) := by decide +kernel
theorem dX6_digest_88 : decode cX6_digest 88 = .ok (.lstore_n 1, 1) := by decide +kernel
theorem dX6_digest_89 : decode cX6_digest 89 = .ok (.iconst 0, 1) := by decide +kernel
theorem dX6_digest_90 : decode cX6_digest 90 = .ok (.istore 6, 2) := by decide +kernel
theorem dX6_digest_92 : decode cX6_digest 92 = .ok (.iload 6, 2) := by decide +kernel
theorem dX6_digest_94 : decode cX6_digest 94 = .ok (.bipush 40, 2) := by decide +kernel
theorem dX6_digest_96 : decode cX6_digest 96 = .ok (.if_icmp .ge 40, 3) := by decide +kernel
theorem dX6_digest_99 : decode cX6_digest 99 = .ok (.aload_n 0, 1) := by decide +kernel
theorem dX6_digest_100 : decode cX6_digest 100 = .ok (.getfield 16, 3) := by decide +kernel
theorem dX6_digest_103 : decode cX6_digest 103 = .ok (.iload 5, 2) := by decide +kernel
theorem dX6_digest_105 : decode cX6_digest 105 = .ok (.baload, 1) := by decide +kernel
theorem dX6_digest_106 : decode cX6_digest 106 = .ok (.ifCond .eq 30, 3) := by decide +kernel
theorem dX6_digest_109 : decode cX6_digest 109 = .ok (.ldc2_w 218, 3) := by decide +kernel
theorem dX6_digest_112 : decode cX6_digest 112 = .ok (.lload_n 1, 1) := by decide +kernel
theorem dX6_digest_113 : decode cX6_digest 113 = .ok (.lmul, 1) := by decide +kernel
theorem dX6_digest_114 : decode cX6_digest 114 = .ok (.aload_n 0, 1) := by decide +kernel
theorem dX6_digest_115 : decode cX6_digest 115 = .ok (.getfield 20, 3) := by decide +kernel
theorem dX6_digest_118 : decode cX6_digest 118 = .ok (.bipush 40, 2) := by decide +kernel
theorem dX6_digest_120 : decode cX6_digest 120 = .ok (.iload 5, 2) := by decide +kernel
theorem dX6_digest_122 : decode cX6_digest 122 = .ok (.imul, 1) := by decide +kernel
theorem dX6_digest_123 : decode cX6_digest 123 = .ok (.iload 6, 2) := by decide +kernel
theorem dX6_digest_125 : decode cX6_digest 125 = .ok (.iadd, 1) := by decide +kernel
theorem dX6_digest_126 : decode cX6_digest 126 = .ok (.iaload, 1) := by decide +kernel
theorem dX6_digest_127 : decode cX6_digest 127 = .ok (.i2l, 1) := by decide +kernel
theorem dX6_digest_128 : decode cX6_digest 128 = .ok (.ladd, 1) := by decide +kernel
theorem dX6_digest_129 : decode cX6_digest 129 = .ok (.lstore_n 1, 1) := by decide +kernel
theorem dX6_digest_130 : decode cX6_digest 130 = .ok (.iinc 6 1, 3) := by decide +kernel
theorem dX6_digest_133 : decode cX6_digest 133 = .ok (.goto (-41), 3) := by decide +kernel
theorem dX6_digest_136 : decode cX6_digest 136 = .ok (.iinc 4 1, 3) := by decide +kernel
theorem dX6_digest_139 : decode cX6_digest 139 = .ok (.goto (-82), 3) := by decide +kernel
theorem dX6_digest_142 : decode cX6_digest 142 = .ok (.iinc 3 1, 3) := by decide +kernel
theorem dX6_digest_145 : decode cX6_digest 145 = .ok (.goto (-113), 3) := by decide +kernel
theorem dX6_digest_148 : decode cX6_digest 148 = .ok (.ldc2_w 218, 3) := by decide +kernel
theorem dX6_digest_151 : decode cX6_digest 151 = .ok (.ldc2_w 218, 3) := by decide +kernel
theorem dX6_digest_154 : decode cX6_digest 154 = .ok (.ldc2_w 218, 3) := by decide +kernel
theorem dX6_digest_157 : decode cX6_digest 157 = .ok (.ldc2_w 218, 3) := by decide +kernel
theorem dX6_digest_160 : decode cX6_digest 160 = .ok (.lload_n 1, 1) := by decide +kernel
theorem dX6_digest_161 : decode cX6_digest 161 = .ok (.lmul, 1) := by decide +kernel
theorem dX6_digest_162 : decode cX6_digest 162 = .ok (.aload_n 0, 1) := by decide +kernel
theorem dX6_digest_163 : decode cX6_digest 163 = .ok (.getfield 178, 3) := by decide +kernel
theorem dX6_digest_166 : decode cX6_digest 166 = .ok (.i2l, 1) := by decide +kernel
theorem dX6_digest_167 : decode cX6_digest 167 = .ok (.ladd, 1) := by decide +kernel
theorem dX6_digest_168 : decode cX6_digest 168 = .ok (.lmul, 1) := by decide +kernel
theorem dX6_digest_169 : decode cX6_digest 169 = .ok (.aload_n 0, 1) := by decide +kernel
theorem dX6_digest_170 : decode cX6_digest 170 = .ok (.invokevirtual 222, 3) := by decide +kernel
theorem dX6_digest_173 : decode cX6_digest 173 = .ok (.i2l, 1) := by decide +kernel
theorem dX6_digest_174 : decode cX6_digest 174 = .ok (.ladd, 1) := by decide +kernel
theorem dX6_digest_175 : decode cX6_digest 175 = .ok (.lmul, 1) := by decide +kernel
theorem dX6_digest_176 : decode cX6_digest 176 = .ok (.aload_n 0, 1) := by decide +kernel
theorem dX6_digest_177 : decode cX6_digest 177 = .ok (.invokevirtual 225, 3) := by decide +kernel
theorem dX6_digest_180 : decode cX6_digest 180 = .ok (.i2l, 1) := by decide +kernel
theorem dX6_digest_181 : decode cX6_digest 181 = .ok (.ladd, 1) := by decide +kernel
theorem dX6_digest_182 : decode cX6_digest 182 = .ok (.lmul, 1) := by decide +kernel
theorem dX6_digest_183 : decode cX6_digest 183 = .ok (.aload_n 0, 1) := by decide +kernel
theorem dX6_digest_184 : decode cX6_digest 184 = .ok (.getfield 207, 3) := by decide +kernel
theorem dX6_digest_187 : decode cX6_digest 187 = .ok (.i2l, 1) := by decide +kernel
theorem dX6_digest_188 : decode cX6_digest 188 = .ok (.ladd, 1) := by decide +kernel
theorem dX6_digest_189 : decode cX6_digest 189 = .ok (.lreturn, 1) := by decide +kernel
