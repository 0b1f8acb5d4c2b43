theorem dX2_firstWrong_0 : decode cX2_firstWrong 0 = .ok (.aload_n 0, 1) := by decide +kernel
theorem dX2_firstWrong_1 : decode cX2_firstWrong 1 = .ok (.iconst 0, 1) := by decide +kernel
theorem dX2_firstWrong_2 : decode cX2_firstWrong 2 = .ok (.putfield 22, 3) := by decide +kernel
theorem dX2_firstWrong_5 : decode cX2_firstWrong 5 = .ok (.aload_n 0, 1) := by decide +kernel
theorem dX2_firstWrong_6 : decode cX2_firstWrong 6 = .ok (.getfield 18, 3) := by decide +kernel
theorem dX2_firstWrong_9 : decode cX2_firstWrong 9 = .ok (.invokevirtual 26, 3) := by decide +kernel
theorem dX2_firstWrong_12 : decode cX2_firstWrong 12 = .ok (.iconst 0, 1) := by decide +kernel
theorem dX2_firstWrong_13 : decode cX2_firstWrong 13 = .ok (.istore_n 1, 1) := by decide +kernel
theorem dX2_firstWrong_14 : decode cX2_firstWrong 14 = .ok (.iload_n 1, 1) := by decide +kernel
theorem dX2_firstWrong_15 : decode cX2_firstWrong 15 = .ok (.sipush 240, 3) := by decide +kernel
theorem dX2_firstWrong_18 : decode cX2_firstWrong 18 = .ok (.if_icmp .gt 44, 3) := by decide +kernel
theorem dX2_firstWrong_21 : decode cX2_firstWrong 21 = .ok (.aload_n 0, 1) := by decide +kernel
theorem dX2_firstWrong_22 : decode cX2_firstWrong 22 = .ok (.invokevirtual 29, 3) := by decide +kernel
theorem dX2_firstWrong_25 : decode cX2_firstWrong 25 = .ok (.ifCond .ne 8, 3) := by decide +kernel
theorem dX2_firstWrong_28 : decode cX2_firstWrong 28 = .ok (.aload_n 0, 1) := by decide +kernel
theorem dX2_firstWrong_29 : decode cX2_firstWrong 29 = .ok (.getfield 22, 3) := by decide +kernel
theorem dX2_firstWrong_32 : decode cX2_firstWrong 32 = .ok (.ireturn, 1) := by decide +kernel
theorem dX2_firstWrong_33 : decode cX2_firstWrong 33 = .ok (.aload_n 0, 1) := by decide +kernel
theorem dX2_firstWrong_34 : decode cX2_firstWrong 34 = .ok (.invokevirtual 33, 3) := by decide +kernel
theorem dX2_firstWrong_37 : decode cX2_firstWrong 37 = .ok (.ifCond .ne 5, 3) := by decide +kernel
theorem dX2_firstWrong_40 : decode cX2_firstWrong 40 = .ok (.iconst (-1), 1) := by decide +kernel
theorem dX2_firstWrong_41 : decode cX2_firstWrong 41 = .ok (.ireturn, 1) := by decide +kernel
theorem dX2_firstWrong_42 : decode cX2_firstWrong 42 = .ok (.aload_n 0, 1) := by decide +kernel
theorem dX2_firstWrong_43 : decode cX2_firstWrong 43 = .ok (.bipush 59, 2) := by decide +kernel
theorem dX2_firstWrong_45 : decode cX2_firstWrong 45 = .ok (.invokevirtual 37, 3) := by decide +kernel
theorem dX2_firstWrong_48 : decode cX2_firstWrong 48 = .ok (.ifCond .ne 8, 3) := by decide +kernel
theorem dX2_firstWrong_51 : decode cX2_firstWrong 51 = .ok (.aload_n 0, 1) := by decide +kernel
theorem dX2_firstWrong_52 : decode cX2_firstWrong 52 = .ok (.getfield 22, 3) := by decide +kernel
theorem dX2_firstWrong_55 : decode cX2_firstWrong 55 = .ok (.ireturn, 1) := by decide +kernel
theorem dX2_firstWrong_56 : decode cX2_firstWrong 56 = .ok (.iinc 1 1, 3) := by decide +kernel
theorem dX2_firstWrong_59 : decode cX2_firstWrong 59 = .ok (.goto (-45), 3) := by decide +kernel
theorem dX2_firstWrong_62 : decode cX2_firstWrong 62 = .ok (.aload_n 0, 1) := by decide +kernel
theorem dX2_firstWrong_63 : decode cX2_firstWrong 63 = .ok (.getfield 22, 3) := by decide +kernel
theorem dX2_firstWrong_66 : decode cX2_firstWrong 66 = .ok (.ireturn, 1) := by decide +kernel
theorem dX2_readClause_0 : decode cX2_readClause 0 = .ok (.aload_n 0, 1) := by decide +kernel
theorem dX2_readClause_1 : decode cX2_readClause 1 = .ok (.bipush 121, 2) := by decide +kernel
theorem dX2_readClause_3 : decode cX2_readClause 3 = .ok (.invokevirtual 37, 3) := by decide +kernel
theorem dX2_readClause_6 : decode cX2_readClause 6 = .ok (.ifCond .eq 12, 3) := by decide +kernel
theorem dX2_readClause_9 : decode cX2_readClause 9 = .ok (.aload_n 0, 1) := by decide +kernel
theorem dX2_readClause_10 : decode cX2_readClause 10 = .ok (.bipush 58, 2) := by decide +kernel
theorem dX2_readClause_12 : decode cX2_readClause 12 = .ok (.invokevirtual 37, 3) := by decide +kernel
theorem dX2_readClause_15 : decode cX2_readClause 15 = .ok (.ifCond .ne 5, 3) := by decide +kernel
theorem dX2_readClause_18 : decode cX2_readClause 18 = .ok (.iconst 0, 1) := by decide +kernel
theorem dX2_readClause_19 : decode cX2_readClause 19 = .ok (.ireturn, 1) := by decide +kernel
theorem dX2_readClause_20 : decode cX2_readClause 20 = .ok (.aload_n 0, 1) := by decide +kernel
theorem dX2_readClause_21 : decode cX2_readClause 21 = .ok (.invokevirtual 33, 3) := by decide +kernel
theorem dX2_readClause_24 : decode cX2_readClause 24 = .ok (.bipush 33, 2) := by decide +kernel
theorem dX2_readClause_26 : decode cX2_readClause 26 = .ok (.if_icmp .eq 16, 3) := by decide +kernel
theorem dX2_readClause_29 : decode cX2_readClause 29 = .ok (.aload_n 0, 1) := by decide +kernel
theorem dX2_readClause_30 : decode cX2_readClause 30 = .ok (.invokevirtual 33, 3) := by decide +kernel
theorem dX2_readClause_33 : decode cX2_readClause 33 = .ok (.bipush 40, 2) := by decide +kernel
theorem dX2_readClause_35 : decode cX2_readClause 35 = .ok (.if_icmp .eq 7, 3) := by decide +kernel
theorem dX2_readClause_38 : decode cX2_readClause 38 = .ok (.iconst 1, 1) := by decide +kernel
theorem dX2_readClause_39 : decode cX2_readClause 39 = .ok (.goto 4, 3) := by decide +kernel
theorem dX2_readClause_42 : decode cX2_readClause 42 = .ok (.iconst 0, 1) := by decide +kernel
theorem dX2_readClause_43 : decode cX2_readClause 43 = .ok (.istore_n 1, 1) := by decide +kernel
theorem dX2_readClause_44 : decode cX2_readClause 44 = .ok (.iload_n 1, 1) := by decide +kernel
theorem dX2_readClause_45 : decode cX2_readClause 45 = .ok (.ifCond .eq 13, 3) := by decide +kernel
theorem dX2_readClause_48 : decode cX2_readClause 48 = .ok (.aload_n 0, 1) := by decide +kernel
theorem dX2_readClause_49 : decode cX2_readClause 49 = .ok (.iconst 0, 1) := by decide +kernel
theorem dX2_readClause_50 : decode cX2_readClause 50 = .ok (.invokevirtual 41, 3) := by decide +kernel
theorem dX2_readClause_53 : decode cX2_readClause 53 = .ok (.ifCond .ne 5, 3) := by decide +kernel
theorem dX2_readClause_56 : decode cX2_readClause 56 = .ok (.iconst 0, 1) := by decide +kernel
theorem dX2_readClause_57 : decode cX2_readClause 57 = .ok (.ireturn, 1) := by decide +kernel
theorem dX2_readClause_58 : decode cX2_readClause 58 = .ok (.iload_n 1, 1) := by decide +kernel
theorem dX2_readClause_59 : decode cX2_readClause 59 = .ok (.ifCond .eq 13, 3) := by decide +kernel
theorem dX2_readClause_62 : decode cX2_readClause 62 = .ok (.aload_n 0, 1) := by decide +kernel
theorem dX2_readClause_63 : decode cX2_readClause 63 = .ok (.invokevirtual 33, 3) := by decide +kernel
theorem dX2_readClause_66 : decode cX2_readClause 66 = .ok (.invokestatic 44, 3) := by decide +kernel
theorem dX2_readClause_69 : decode cX2_readClause 69 = .ok (.ifCond .eq 70, 3) := by decide +kernel
theorem dX2_readClause_72 : decode cX2_readClause 72 = .ok (.aload_n 0, 1) := by decide +kernel
theorem dX2_readClause_73 : decode cX2_readClause 73 = .ok (.iconst 0, 1) := by decide +kernel
theorem dX2_readClause_74 : decode cX2_readClause 74 = .ok (.iload_n 1, 1) := by decide +kernel
theorem dX2_readClause_75 : decode cX2_readClause 75 = .ok (.invokevirtual 47, 3) := by decide +kernel
theorem dX2_readClause_78 : decode cX2_readClause 78 = .ok (.ifCond .eq 12, 3) := by decide +kernel
theorem dX2_readClause_81 : decode cX2_readClause 81 = .ok (.aload_n 0, 1) := by decide +kernel
theorem dX2_readClause_82 : decode cX2_readClause 82 = .ok (.bipush 63, 2) := by decide +kernel
theorem dX2_readClause_84 : decode cX2_readClause 84 = .ok (.invokevirtual 37, 3) := by decide +kernel
theorem dX2_readClause_87 : decode cX2_readClause 87 = .ok (.ifCond .ne 5, 3) := by decide +kernel
theorem dX2_readClause_90 : decode cX2_readClause 90 = .ok (.iconst 0, 1) := by decide +kernel
theorem dX2_readClause_91 : decode cX2_readClause 91 = .ok (.ireturn, 1) := by decide +kernel
theorem dX2_readClause_92 : decode cX2_readClause 92 = .ok (.aload_n 0, 1) := by decide +kernel
theorem dX2_readClause_93 : decode cX2_readClause 93 = .ok (.getfield 18, 3) := by decide +kernel
theorem dX2_readClause_96 : decode cX2_readClause 96 = .ok (.invokevirtual 51, 3) := by decide +kernel
theorem dX2_readClause_99 : decode cX2_readClause 99 = .ok (.istore_n 2, 1) := by decide +kernel
theorem dX2_readClause_100 : decode cX2_readClause 100 = .ok (.aload_n 0, 1) := by decide +kernel
theorem dX2_readClause_101 : decode cX2_readClause 101 = .ok (.getfield 18, 3) := by decide +kernel
theorem dX2_readClause_104 : decode cX2_readClause 104 = .ok (.sipush (-1000), 3) := by decide +kernel
theorem dX2_readClause_107 : decode cX2_readClause 107 = .ok (.invokevirtual 54, 3) := by decide +kernel
theorem dX2_readClause_110 : decode cX2_readClause 110 = .ok (.aload_n 0, 1) := by decide +kernel
theorem dX2_readClause_111 : decode cX2_readClause 111 = .ok (.iconst 0, 1) := by decide +kernel
theorem dX2_readClause_112 : decode cX2_readClause 112 = .ok (.invokevirtual 41, 3) := by decide +kernel
theorem dX2_readClause_115 : decode cX2_readClause 115 = .ok (.ifCond .ne 5, 3) := by decide +kernel
theorem dX2_readClause_118 : decode cX2_readClause 118 = .ok (.iconst 0, 1) := by decide +kernel
theorem dX2_readClause_119 : decode cX2_readClause 119 = .ok (.ireturn, 1) := by decide +kernel
theorem dX2_readClause_120 : decode cX2_readClause 120 = .ok (.aload_n 0, 1) := by decide +kernel
theorem dX2_readClause_121 : decode cX2_readClause 121 = .ok (.getfield 18, 3) := by decide +kernel
theorem dX2_readClause_124 : decode cX2_readClause 124 = .ok (.bipush (-59), 2) := by decide +kernel
theorem dX2_readClause_126 : decode cX2_readClause 126 = .ok (.invokevirtual 54, 3) := by decide +kernel
theorem dX2_readClause_129 : decode cX2_readClause 129 = .ok (.aload_n 0, 1) := by decide +kernel
theorem dX2_readClause_130 : decode cX2_readClause 130 = .ok (.getfield 18, 3) := by decide +kernel
theorem dX2_readClause_133 : decode cX2_readClause 133 = .ok (.iload_n 2, 1) := by decide +kernel
theorem dX2_readClause_134 : decode cX2_readClause 134 = .ok (.invokevirtual 58, 3) := by decide +kernel
theorem dX2_readClause_137 : decode cX2_readClause 137 = .ok (.iconst 1, 1) := by decide +kernel
theorem dX2_readClause_138 : decode cX2_readClause 138 = .ok (.ireturn, 1) := by decide +kernel
theorem dX2_readClause_139 : decode cX2_readClause 139 = .ok (.aload_n 0, 1) := by decide +kernel
theorem dX2_readClause_140 : decode cX2_readClause 140 = .ok (.getfield 18, 3) := by decide +kernel
theorem dX2_readClause_143 : decode cX2_readClause 143 = .ok (.bipush (-59), 2) := by decide +kernel
theorem dX2_readClause_145 : decode cX2_readClause 145 = .ok (.invokevirtual 54, 3) := by decide +kernel
theorem dX2_readClause_148 : decode cX2_readClause 148 = .ok (.iconst 1, 1) := by decide +kernel
theorem dX2_readClause_149 : decode cX2_readClause 149 = .ok (.ireturn, 1) := by decide +kernel
theorem dX2_readCondition_0 : decode cX2_readCondition 0 = .ok (.aload_n 0, 1) := by decide +kernel
theorem dX2_readCondition_1 : decode cX2_readCondition 1 = .ok (.iload_n 1, 1) := by decide +kernel
theorem dX2_readCondition_2 : decode cX2_readCondition 2 = .ok (.iload_n 2, 1) := by decide +kernel
theorem dX2_readCondition_3 : decode cX2_readCondition 3 = .ok (.invokevirtual 61, 3) := by decide +kernel
theorem dX2_readCondition_6 : decode cX2_readCondition 6 = .ok (.ifCond .ne 5, 3) := by decide +kernel
theorem dX2_readCondition_9 : decode cX2_readCondition 9 = .ok (.iconst 0, 1) := by decide +kernel
theorem dX2_readCondition_10 : decode cX2_readCondition 10 = .ok (.ireturn, 1) := by decide +kernel
theorem dX2_readCondition_11 : decode cX2_readCondition 11 = .ok (.iconst 0, 1) := by decide +kernel
theorem dX2_readCondition_12 : decode cX2_readCondition 12 = .ok (.istore_n 3, 1) := by decide +kernel
theorem dX2_readCondition_13 : decode cX2_readCondition 13 = .ok (.iload_n 3, 1) := by decide +kernel
theorem dX2_readCondition_14 : decode cX2_readCondition 14 = .ok (.sipush 240, 3) := by decide +kernel
theorem dX2_readCondition_17 : decode cX2_readCondition 17 = .ok (.if_icmp .ge 48, 3) := by decide +kernel
theorem dX2_readCondition_20 : decode cX2_readCondition 20 = .ok (.aload_n 0, 1) := by decide +kernel
theorem dX2_readCondition_21 : decode cX2_readCondition 21 = .ok (.invokevirtual 33, 3) := by decide +kernel
theorem dX2_readCondition_24 : decode cX2_readCondition 24 = .ok (.bipush 124, 2) := by decide +kernel
theorem dX2_readCondition_26 : decode cX2_readCondition 26 = .ok (.if_icmp .ne 39, 3) := by decide +kernel
theorem dX2_readCondition_29 : decode cX2_readCondition 29 = .ok (.aload_n 0, 1) := by decide +kernel
theorem dX2_readCondition_30 : decode cX2_readCondition 30 = .ok (.dup, 1) := by decide +kernel
theorem dX2_readCondition_31 : decode cX2_readCondition 31 = .ok (.getfield 22, 3) := by decide +kernel
theorem dX2_readCondition_34 : decode cX2_readCondition 34 = .ok (.iconst 1, 1) := by decide +kernel
theorem dX2_readCondition_35 : decode cX2_readCondition 35 = .ok (.iadd, 1) := by decide +kernel
theorem dX2_readCondition_36 : decode cX2_readCondition 36 = .ok (.putfield 22, 3) := by decide +kernel
theorem dX2_readCondition_39 : decode cX2_readCondition 39 = .ok (.aload_n 0, 1) := by decide +kernel
theorem dX2_readCondition_40 : decode cX2_readCondition 40 = .ok (.iload_n 1, 1) := by decide +kernel
theorem dX2_readCondition_41 : decode cX2_readCondition 41 = .ok (.iconst 0, 1) := by decide +kernel
theorem dX2_readCondition_42 : decode cX2_readCondition 42 = .ok (.invokevirtual 61, 3) := by decide +kernel
theorem dX2_readCondition_45 : decode cX2_readCondition 45 = .ok (.ifCond .ne 5, 3) := by decide +kernel
theorem dX2_readCondition_48 : decode cX2_readCondition 48 = .ok (.iconst 0, 1) := by decide +kernel
theorem dX2_readCondition_49 : decode cX2_readCondition 49 = .ok (.ireturn, 1) := by decide +kernel
theorem dX2_readCondition_50 : decode cX2_readCondition 50 = .ok (.aload_n 0, 1) := by decide +kernel
theorem dX2_readCondition_51 : decode cX2_readCondition 51 = .ok (.getfield 18, 3) := by decide +kernel
theorem dX2_readCondition_54 : decode cX2_readCondition 54 = .ok (.bipush (-124), 2) := by decide +kernel
theorem dX2_readCondition_56 : decode cX2_readCondition 56 = .ok (.invokevirtual 54, 3) := by decide +kernel
theorem dX2_readCondition_59 : decode cX2_readCondition 59 = .ok (.iinc 3 1, 3) := by decide +kernel
theorem dX2_readCondition_62 : decode cX2_readCondition 62 = .ok (.goto (-49), 3) := by decide +kernel
theorem dX2_readCondition_65 : decode cX2_readCondition 65 = .ok (.iconst 1, 1) := by decide +kernel
theorem dX2_readCondition_66 : decode cX2_readCondition 66 = .ok (.ireturn, 1) := by decide +kernel
theorem dX2_readTruth_0 : decode cX2_readTruth 0 = .ok (.aload_n 0, 1) := by decide +kernel
theorem dX2_readTruth_1 : decode cX2_readTruth 1 = .ok (.iload_n 1, 1) := by decide +kernel
theorem dX2_readTruth_2 : decode cX2_readTruth 2 = .ok (.iload_n 2, 1) := by decide +kernel
theorem dX2_readTruth_3 : decode cX2_readTruth 3 = .ok (.invokevirtual 64, 3) := by decide +kernel
theorem dX2_readTruth_6 : decode cX2_readTruth 6 = .ok (.ifCond .ne 5, 3) := by decide +kernel
theorem dX2_readTruth_9 : decode cX2_readTruth 9 = .ok (.iconst 0, 1) := by decide +kernel
theorem dX2_readTruth_10 : decode cX2_readTruth 10 = .ok (.ireturn, 1) := by decide +kernel
theorem dX2_readTruth_11 : decode cX2_readTruth 11 = .ok (.iconst 0, 1) := by decide +kernel
theorem dX2_readTruth_12 : decode cX2_readTruth 12 = .ok (.istore_n 3, 1) := by decide +kernel
theorem dX2_readTruth_13 : decode cX2_readTruth 13 = .ok (.iload_n 3, 1) := by decide +kernel
theorem dX2_readTruth_14 : decode cX2_readTruth 14 = .ok (.sipush 240, 3) := by decide +kernel
theorem dX2_readTruth_17 : decode cX2_readTruth 17 = .ok (.if_icmp .ge 48, 3) := by decide +kernel
theorem dX2_readTruth_20 : decode cX2_readTruth 20 = .ok (.aload_n 0, 1) := by decide +kernel
theorem dX2_readTruth_21 : decode cX2_readTruth 21 = .ok (.invokevirtual 33, 3) := by decide +kernel
theorem dX2_readTruth_24 : decode cX2_readTruth 24 = .ok (.bipush 38, 2) := by decide +kernel
theorem dX2_readTruth_26 : decode cX2_readTruth 26 = .ok (.if_icmp .ne 39, 3) := by decide +kernel
theorem dX2_readTruth_29 : decode cX2_readTruth 29 = .ok (.aload_n 0, 1) := by decide +kernel
theorem dX2_readTruth_30 : decode cX2_readTruth 30 = .ok (.dup, 1) := by decide +kernel
theorem dX2_readTruth_31 : decode cX2_readTruth 31 = .ok (.getfield 22, 3) := by decide +kernel
theorem dX2_readTruth_34 : decode cX2_readTruth 34 = .ok (.iconst 1, 1) := by decide +kernel
theorem dX2_readTruth_35 : decode cX2_readTruth 35 = .ok (.iadd, 1) := by decide +kernel
theorem dX2_readTruth_36 : decode cX2_readTruth 36 = .ok (.putfield 22, 3) := by decide +kernel
theorem dX2_readTruth_39 : decode cX2_readTruth 39 = .ok (.aload_n 0, 1) := by decide +kernel
theorem dX2_readTruth_40 : decode cX2_readTruth 40 = .ok (.iload_n 1, 1) := by decide +kernel
theorem dX2_readTruth_41 : decode cX2_readTruth 41 = .ok (.iconst 0, 1) := by decide +kernel
theorem dX2_readTruth_42 : decode cX2_readTruth 42 = .ok (.invokevirtual 64, 3) := by decide +kernel
theorem dX2_readTruth_45 : decode cX2_readTruth 45 = .ok (.ifCond .ne 5, 3) := by decide +kernel
theorem dX2_readTruth_48 : decode cX2_readTruth 48 = .ok (.iconst 0, 1) := by decide +kernel
theorem dX2_readTruth_49 : decode cX2_readTruth 49 = .ok (.ireturn, 1) := by decide +kernel
theorem dX2_readTruth_50 : decode cX2_readTruth 50 = .ok (.aload_n 0, 1) := by decide +kernel
theorem dX2_readTruth_51 : decode cX2_readTruth 51 = .ok (.getfield 18, 3) := by decide +kernel
theorem dX2_readTruth_54 : decode cX2_readTruth 54 = .ok (.bipush (-38), 2) := by decide +kernel
theorem dX2_readTruth_56 : decode cX2_readTruth 56 = .ok (.invokevirtual 54, 3) := by decide +kernel
theorem dX2_readTruth_59 : decode cX2_readTruth 59 = .ok (.iinc 3 1, 3) := by decide +kernel
theorem dX2_readTruth_62 : decode cX2_readTruth 62 = .ok (.goto (-49), 3) := by decide +kernel
theorem dX2_readTruth_65 : decode cX2_readTruth 65 = .ok (.iconst 1, 1) := by decide +kernel
theorem dX2_readTruth_66 : decode cX2_readTruth 66 = .ok (.ireturn, 1) := by decide +kernel
theorem dX2_readUnit_0 : decode cX2_readUnit 0 = .ok (.aload_n 0, 1) := by decide +kernel
theorem dX2_readUnit_1 : decode cX2_readUnit 1 = .ok (.invokevirtual 33, 3) := by decide +kernel
theorem dX2_readUnit_4 : decode cX2_readUnit 4 = .ok (.istore_n 3, 1) := by decide +kernel
theorem dX2_readUnit_5 : decode cX2_readUnit 5 = .ok (.iload_n 2, 1) := by decide +kernel
theorem dX2_readUnit_6 : decode cX2_readUnit 6 = .ok (.ifCond .ne 89, 3) := by decide +kernel
theorem dX2_readUnit_9 : decode cX2_readUnit 9 = .ok (.iload_n 3, 1) := by decide +kernel
theorem dX2_readUnit_10 : decode cX2_readUnit 10 = .ok (.bipush 33, 2) := by decide +kernel
theorem dX2_readUnit_12 : decode cX2_readUnit 12 = .ok (.if_icmp .eq 9, 3) := by decide +kernel
theorem dX2_readUnit_15 : decode cX2_readUnit 15 = .ok (.iload_n 3, 1) := by decide +kernel
theorem dX2_readUnit_16 : decode cX2_readUnit 16 = .ok (.bipush 40, 2) := by decide +kernel
theorem dX2_readUnit_18 : decode cX2_readUnit 18 = .ok (.if_icmp .ne 77, 3) := by decide +kernel
theorem dX2_readUnit_21 : decode cX2_readUnit 21 = .ok (.iload_n 1, 1) := by decide +kernel
theorem dX2_readUnit_22 : decode cX2_readUnit 22 = .ok (.bipush 6, 2) := by decide +kernel
theorem dX2_readUnit_24 : decode cX2_readUnit 24 = .ok (.if_icmp .lt 5, 3) := by decide +kernel
theorem dX2_readUnit_27 : decode cX2_readUnit 27 = .ok (.iconst 0, 1) := by decide +kernel
theorem dX2_readUnit_28 : decode cX2_readUnit 28 = .ok (.ireturn, 1) := by decide +kernel
theorem dX2_readUnit_29 : decode cX2_readUnit 29 = .ok (.aload_n 0, 1) := by decide +kernel
theorem dX2_readUnit_30 : decode cX2_readUnit 30 = .ok (.dup, 1) := by decide +kernel
theorem dX2_readUnit_31 : decode cX2_readUnit 31 = .ok (.getfield 22, 3) := by decide +kernel
theorem dX2_readUnit_34 : decode cX2_readUnit 34 = .ok (.iconst 1, 1) := by decide +kernel
theorem dX2_readUnit_35 : decode cX2_readUnit 35 = .ok (.iadd, 1) := by decide +kernel
theorem dX2_readUnit_36 : decode cX2_readUnit 36 = .ok (.putfield 22, 3) := by decide +kernel
theorem dX2_readUnit_39 : decode cX2_readUnit 39 = .ok (.iload_n 3, 1) := by decide +kernel
theorem dX2_readUnit_40 : decode cX2_readUnit 40 = .ok (.bipush 40, 2) := by decide +kernel
theorem dX2_readUnit_42 : decode cX2_readUnit 42 = .ok (.if_icmp .ne 29, 3) := by decide +kernel
theorem dX2_readUnit_45 : decode cX2_readUnit 45 = .ok (.aload_n 0, 1) := by decide +kernel
theorem dX2_readUnit_46 : decode cX2_readUnit 46 = .ok (.iload_n 1, 1) := by decide +kernel
theorem dX2_readUnit_47 : decode cX2_readUnit 47 = .ok (.iconst 1, 1) := by decide +kernel
theorem dX2_readUnit_48 : decode cX2_readUnit 48 = .ok (.iadd, 1) := by decide +kernel
theorem dX2_readUnit_49 : decode cX2_readUnit 49 = .ok (.iconst 0, 1) := by decide +kernel
theorem dX2_readUnit_50 : decode cX2_readUnit 50 = .ok (.invokevirtual 47, 3) := by decide +kernel
theorem dX2_readUnit_53 : decode cX2_readUnit 53 = .ok (.ifCond .eq 16, 3) := by decide +kernel
theorem dX2_readUnit_56 : decode cX2_readUnit 56 = .ok (.aload_n 0, 1) := by decide +kernel
theorem dX2_readUnit_57 : decode cX2_readUnit 57 = .ok (.bipush 41, 2) := by decide +kernel
theorem dX2_readUnit_59 : decode cX2_readUnit 59 = .ok (.invokevirtual 37, 3) := by decide +kernel
theorem dX2_readUnit_62 : decode cX2_readUnit 62 = .ok (.ifCond .eq 7, 3) := by decide +kernel
theorem dX2_readUnit_65 : decode cX2_readUnit 65 = .ok (.iconst 1, 1) := by decide +kernel
theorem dX2_readUnit_66 : decode cX2_readUnit 66 = .ok (.goto 4, 3) := by decide +kernel
theorem dX2_readUnit_69 : decode cX2_readUnit 69 = .ok (.iconst 0, 1) := by decide +kernel
theorem dX2_readUnit_70 : decode cX2_readUnit 70 = .ok (.ireturn, 1) := by decide +kernel
theorem dX2_readUnit_71 : decode cX2_readUnit 71 = .ok (.aload_n 0, 1) := by decide +kernel
theorem dX2_readUnit_72 : decode cX2_readUnit 72 = .ok (.iload_n 1, 1) := by decide +kernel
theorem dX2_readUnit_73 : decode cX2_readUnit 73 = .ok (.iconst 1, 1) := by decide +kernel
theorem dX2_readUnit_74 : decode cX2_readUnit 74 = .ok (.iadd, 1) := by decide +kernel
theorem dX2_readUnit_75 : decode cX2_readUnit 75 = .ok (.iconst 0, 1) := by decide +kernel
theorem dX2_readUnit_76 : decode cX2_readUnit 76 = .ok (.invokevirtual 64, 3) := by decide +kernel
theorem dX2_readUnit_79 : decode cX2_readUnit 79 = .ok (.ifCond .ne 5, 3) := by decide +kernel
theorem dX2_readUnit_82 : decode cX2_readUnit 82 = .ok (.iconst 0, 1) := by decide +kernel
theorem dX2_readUnit_83 : decode cX2_readUnit 83 = .ok (.ireturn, 1) := by decide +kernel
theorem dX2_readUnit_84 : decode cX2_readUnit 84 = .ok (.aload_n 0, 1) := by decide +kernel
theorem dX2_readUnit_85 : decode cX2_readUnit 85 = .ok (.getfield 18, 3) := by decide +kernel
theorem dX2_readUnit_88 : decode cX2_readUnit 88 = .ok (.bipush (-33), 2) := by decide +kernel
theorem dX2_readUnit_90 : decode cX2_readUnit 90 = .ok (.invokevirtual 54, 3) := by decide +kernel
theorem dX2_readUnit_93 : decode cX2_readUnit 93 = .ok (.iconst 1, 1) := by decide +kernel
theorem dX2_readUnit_94 : decode cX2_readUnit 94 = .ok (.ireturn, 1) := by decide +kernel
theorem dX2_readUnit_95 : decode cX2_readUnit 95 = .ok (.iload_n 2, 1) := by decide +kernel
theorem dX2_readUnit_96 : decode cX2_readUnit 96 = .ok (.ifCond .ne 13, 3) := by decide +kernel
theorem dX2_readUnit_99 : decode cX2_readUnit 99 = .ok (.aload_n 0, 1) := by decide +kernel
theorem dX2_readUnit_100 : decode cX2_readUnit 100 = .ok (.iload_n 1, 1) := by decide +kernel
theorem dX2_readUnit_101 : decode cX2_readUnit 101 = .ok (.invokevirtual 41, 3) := by decide +kernel
theorem dX2_readUnit_104 : decode cX2_readUnit 104 = .ok (.ifCond .ne 5, 3) := by decide +kernel
theorem dX2_readUnit_107 : decode cX2_readUnit 107 = .ok (.iconst 0, 1) := by decide +kernel
theorem dX2_readUnit_108 : decode cX2_readUnit 108 = .ok (.ireturn, 1) := by decide +kernel
theorem dX2_readUnit_109 : decode cX2_readUnit 109 = .ok (.aload_n 0, 1) := by decide +kernel
theorem dX2_readUnit_110 : decode cX2_readUnit 110 = .ok (.invokevirtual 33, 3) := by decide +kernel
theorem dX2_readUnit_113 : decode cX2_readUnit 113 = .ok (.istore 4, 2) := by decide +kernel
theorem dX2_readUnit_115 : decode cX2_readUnit 115 = .ok (.iload 4, 2) := by decide +kernel
theorem dX2_readUnit_117 : decode cX2_readUnit 117 = .ok (.invokestatic 44, 3) := by decide +kernel
theorem dX2_readUnit_120 : decode cX2_readUnit 120 = .ok (.ifCond .ne 5, 3) := by decide +kernel
theorem dX2_readUnit_123 : decode cX2_readUnit 123 = .ok (.iconst 0, 1) := by decide +kernel
theorem dX2_readUnit_124 : decode cX2_readUnit 124 = .ok (.ireturn, 1) := by decide +kernel
theorem dX2_readUnit_125 : decode cX2_readUnit 125 = .ok (.aload_n 0, 1) := by decide +kernel
theorem dX2_readUnit_126 : decode cX2_readUnit 126 = .ok (.dup, 1) := by decide +kernel
theorem dX2_readUnit_127 : decode cX2_readUnit 127 = .ok (.getfield 22, 3) := by decide +kernel
theorem dX2_readUnit_130 : decode cX2_readUnit 130 = .ok (.iconst 1, 1) := by decide +kernel
theorem dX2_readUnit_131 : decode cX2_readUnit 131 = .ok (.iadd, 1) := by decide +kernel
theorem dX2_readUnit_132 : decode cX2_readUnit 132 = .ok (.putfield 22, 3) := by decide +kernel
theorem dX2_readUnit_135 : decode cX2_readUnit 135 = .ok (.aload_n 0, 1) := by decide +kernel
theorem dX2_readUnit_136 : decode cX2_readUnit 136 = .ok (.iload_n 1, 1) := by decide +kernel
theorem dX2_readUnit_137 : decode cX2_readUnit 137 = .ok (.invokevirtual 41, 3) := by decide +kernel
theorem dX2_readUnit_140 : decode cX2_readUnit 140 = .ok (.ifCond .ne 5, 3) := by decide +kernel
theorem dX2_readUnit_143 : decode cX2_readUnit 143 = .ok (.iconst 0, 1) := by decide +kernel
theorem dX2_readUnit_144 : decode cX2_readUnit 144 = .ok (.ireturn, 1) := by decide +kernel
theorem dX2_readUnit_145 : decode cX2_readUnit 145 = .ok (.aload_n 0, 1) := by decide +kernel
theorem dX2_readUnit_146 : decode cX2_readUnit 146 = .ok (.getfield 18, 3) := by decide +kernel
theorem dX2_readUnit_149 : decode cX2_readUnit 149 = .ok (.iload 4, 2) := by decide +kernel
theorem dX2_readUnit_151 : decode cX2_readUnit 151 = .ok (.ineg, 1) := by decide +kernel
theorem dX2_readUnit_152 : decode cX2_readUnit 152 = .ok (.invokevirtual 54, 3) := by decide +kernel
theorem dX2_readUnit_155 : decode cX2_readUnit 155 = .ok (.iconst 1, 1) := by decide +kernel
theorem dX2_readUnit_156 : decode cX2_readUnit 156 = .ok (.ireturn, 1) := by decide +kernel
theorem dX2_readSum_0 : decode cX2_readSum 0 = .ok (.aload_n 0, 1) := by decide +kernel
theorem dX2_readSum_1 : decode cX2_readSum 1 = .ok (.iload_n 1, 1) := by decide +kernel
theorem dX2_readSum_2 : decode cX2_readSum 2 = .ok (.invokevirtual 67, 3) := by decide +kernel
theorem dX2_readSum_5 : decode cX2_readSum 5 = .ok (.ifCond .ne 5, 3) := by decide +kernel
theorem dX2_readSum_8 : decode cX2_readSum 8 = .ok (.iconst 0, 1) := by decide +kernel
theorem dX2_readSum_9 : decode cX2_readSum 9 = .ok (.ireturn, 1) := by decide +kernel
theorem dX2_readSum_10 : decode cX2_readSum 10 = .ok (.iconst 0, 1) := by decide +kernel
theorem dX2_readSum_11 : decode cX2_readSum 11 = .ok (.istore_n 2, 1) := by decide +kernel
theorem dX2_readSum_12 : decode cX2_readSum 12 = .ok (.iload_n 2, 1) := by decide +kernel
theorem dX2_readSum_13 : decode cX2_readSum 13 = .ok (.sipush 240, 3) := by decide +kernel
theorem dX2_readSum_16 : decode cX2_readSum 16 = .ok (.if_icmp .ge 61, 3) := by decide +kernel
theorem dX2_readSum_19 : decode cX2_readSum 19 = .ok (.aload_n 0, 1) := by decide +kernel
theorem dX2_readSum_20 : decode cX2_readSum 20 = .ok (.invokevirtual 33, 3) := by decide +kernel
theorem dX2_readSum_23 : decode cX2_readSum 23 = .ok (.bipush 43, 2) := by decide +kernel
theorem dX2_readSum_25 : decode cX2_readSum 25 = .ok (.if_icmp .eq 12, 3) := by decide +kernel
theorem dX2_readSum_28 : decode cX2_readSum 28 = .ok (.aload_n 0, 1) := by decide +kernel
theorem dX2_readSum_29 : decode cX2_readSum 29 = .ok (.invokevirtual 33, 3) := by decide +kernel
theorem dX2_readSum_32 : decode cX2_readSum 32 = .ok (.bipush 45, 2) := by decide +kernel
theorem dX2_readSum_34 : decode cX2_readSum 34 = .ok (.if_icmp .ne 43, 3) := by decide +kernel
theorem dX2_readSum_37 : decode cX2_readSum 37 = .ok (.aload_n 0, 1) := by decide +kernel
theorem dX2_readSum_38 : decode cX2_readSum 38 = .ok (.invokevirtual 33, 3) := by decide +kernel
theorem dX2_readSum_41 : decode cX2_readSum 41 = .ok (.istore_n 3, 1) := by decide +kernel
theorem dX2_readSum_42 : decode cX2_readSum 42 = .ok (.aload_n 0, 1) := by decide +kernel
theorem dX2_readSum_43 : decode cX2_readSum 43 = .ok (.dup, 1) := by decide +kernel
theorem dX2_readSum_44 : decode cX2_readSum 44 = .ok (.getfield 22, 3) := by decide +kernel
theorem dX2_readSum_47 : decode cX2_readSum 47 = .ok (.iconst 1, 1) := by decide +kernel
theorem dX2_readSum_48 : decode cX2_readSum 48 = .ok (.iadd, 1) := by decide +kernel
theorem dX2_readSum_49 : decode cX2_readSum 49 = .ok (.putfield 22, 3) := by decide +kernel
theorem dX2_readSum_52 : decode cX2_readSum 52 = .ok (.aload_n 0, 1) := by decide +kernel
theorem dX2_readSum_53 : decode cX2_readSum 53 = .ok (.iload_n 1, 1) := by decide +kernel
theorem dX2_readSum_54 : decode cX2_readSum 54 = .ok (.invokevirtual 67, 3) := by decide +kernel
theorem dX2_readSum_57 : decode cX2_readSum 57 = .ok (.ifCond .ne 5, 3) := by decide +kernel
theorem dX2_readSum_60 : decode cX2_readSum 60 = .ok (.iconst 0, 1) := by decide +kernel
theorem dX2_readSum_61 : decode cX2_readSum 61 = .ok (.ireturn, 1) := by decide +kernel
theorem dX2_readSum_62 : decode cX2_readSum 62 = .ok (.aload_n 0, 1) := by decide +kernel
theorem dX2_readSum_63 : decode cX2_readSum 63 = .ok (.getfield 18, 3) := by decide +kernel
theorem dX2_readSum_66 : decode cX2_readSum 66 = .ok (.iload_n 3, 1) := by decide +kernel
theorem dX2_readSum_67 : decode cX2_readSum 67 = .ok (.ineg, 1) := by decide +kernel
theorem dX2_readSum_68 : decode cX2_readSum 68 = .ok (.invokevirtual 54, 3) := by decide +kernel
theorem dX2_readSum_71 : decode cX2_readSum 71 = .ok (.iinc 2 1, 3) := by decide +kernel
theorem dX2_readSum_74 : decode cX2_readSum 74 = .ok (.goto (-62), 3) := by decide +kernel
theorem dX2_readSum_77 : decode cX2_readSum 77 = .ok (.iconst 1, 1) := by decide +kernel
theorem dX2_readSum_78 : decode cX2_readSum 78 = .ok (.ireturn, 1) := by decide +kernel
theorem dX2_readTerm_0 : decode cX2_readTerm 0 = .ok (.aload_n 0, 1) := by decide +kernel
theorem dX2_readTerm_1 : decode cX2_readTerm 1 = .ok (.iload_n 1, 1) := by decide +kernel
theorem dX2_readTerm_2 : decode cX2_readTerm 2 = .ok (.invokevirtual 70, 3) := by decide +kernel
theorem dX2_readTerm_5 : decode cX2_readTerm 5 = .ok (.ifCond .ne 5, 3) := by decide +kernel
theorem dX2_readTerm_8 : decode cX2_readTerm 8 = .ok (.iconst 0, 1) := by decide +kernel
theorem dX2_readTerm_9 : decode cX2_readTerm 9 = .ok (.ireturn, 1) := by decide +kernel
theorem dX2_readTerm_10 : decode cX2_readTerm 10 = .ok (.iconst 0, 1) := by decide +kernel
theorem dX2_readTerm_11 : decode cX2_readTerm 11 = .ok (.istore_n 2, 1) := by decide +kernel
theorem dX2_readTerm_12 : decode cX2_readTerm 12 = .ok (.iload_n 2, 1) := by decide +kernel
theorem dX2_readTerm_13 : decode cX2_readTerm 13 = .ok (.sipush 240, 3) := by decide +kernel
theorem dX2_readTerm_16 : decode cX2_readTerm 16 = .ok (.if_icmp .ge 61, 3) := by decide +kernel
theorem dX2_readTerm_19 : decode cX2_readTerm 19 = .ok (.aload_n 0, 1) := by decide +kernel
theorem dX2_readTerm_20 : decode cX2_readTerm 20 = .ok (.invokevirtual 33, 3) := by decide +kernel
theorem dX2_readTerm_23 : decode cX2_readTerm 23 = .ok (.bipush 42, 2) := by decide +kernel
theorem dX2_readTerm_25 : decode cX2_readTerm 25 = .ok (.if_icmp .eq 12, 3) := by decide +kernel
theorem dX2_readTerm_28 : decode cX2_readTerm 28 = .ok (.aload_n 0, 1) := by decide +kernel
theorem dX2_readTerm_29 : decode cX2_readTerm 29 = .ok (.invokevirtual 33, 3) := by decide +kernel
theorem dX2_readTerm_32 : decode cX2_readTerm 32 = .ok (.bipush 47, 2) := by decide +kernel
theorem dX2_readTerm_34 : decode cX2_readTerm 34 = .ok (.if_icmp .ne 43, 3) := by decide +kernel
theorem dX2_readTerm_37 : decode cX2_readTerm 37 = .ok (.aload_n 0, 1) := by decide +kernel
theorem dX2_readTerm_38 : decode cX2_readTerm 38 = .ok (.invokevirtual 33, 3) := by decide +kernel
theorem dX2_readTerm_41 : decode cX2_readTerm 41 = .ok (.istore_n 3, 1) := by decide +kernel
theorem dX2_readTerm_42 : decode cX2_readTerm 42 = .ok (.aload_n 0, 1) := by decide +kernel
theorem dX2_readTerm_43 : decode cX2_readTerm 43 = .ok (.dup, 1) := by decide +kernel
theorem dX2_readTerm_44 : decode cX2_readTerm 44 = .ok (.getfield 22, 3) := by decide +kernel
theorem dX2_readTerm_47 : decode cX2_readTerm 47 = .ok (.iconst 1, 1) := by decide +kernel
theorem dX2_readTerm_48 : decode cX2_readTerm 48 = .ok (.iadd, 1) := by decide +kernel
theorem dX2_readTerm_49 : decode cX2_readTerm 49 = .ok (.putfield 22, 3) := by decide +kernel
theorem dX2_readTerm_52 : decode cX2_readTerm 52 = .ok (.aload_n 0, 1) := by decide +kernel
theorem dX2_readTerm_53 : decode cX2_readTerm 53 = .ok (.iload_n 1, 1) := by decide +kernel
theorem dX2_readTerm_54 : decode cX2_readTerm 54 = .ok (.invokevirtual 70, 3) := by decide +kernel
theorem dX2_readTerm_57 : decode cX2_readTerm 57 = .ok (.ifCond .ne 5, 3) := by decide +kernel
theorem dX2_readTerm_60 : decode cX2_readTerm 60 = .ok (.iconst 0, 1) := by decide +kernel
theorem dX2_readTerm_61 : decode cX2_readTerm 61 = .ok (.ireturn, 1) := by decide +kernel
theorem dX2_readTerm_62 : decode cX2_readTerm 62 = .ok (.aload_n 0, 1) := by decide +kernel
theorem dX2_readTerm_63 : decode cX2_readTerm 63 = .ok (.getfield 18, 3) := by decide +kernel
theorem dX2_readTerm_66 : decode cX2_readTerm 66 = .ok (.iload_n 3, 1) := by decide +kernel
theorem dX2_readTerm_67 : decode cX2_readTerm 67 = .ok (.ineg, 1) := by decide +kernel
theorem dX2_readTerm_68 : decode cX2_readTerm 68 = .ok (.invokevirtual 54, 3) := by decide +kernel
theorem dX2_readTerm_71 : decode cX2_readTerm 71 = .ok (.iinc 2 1, 3) := by decide +kernel
theorem dX2_readTerm_74 : decode cX2_readTerm 74 = .ok (.goto (-62), 3) := by decide +kernel
theorem dX2_readTerm_77 : decode cX2_readTerm 77 = .ok (.iconst 1, 1) := by decide +kernel
theorem dX2_readTerm_78 : decode cX2_readTerm 78 = .ok (.ireturn, 1) := by decide +kernel
theorem dX2_readAtom_0 : decode cX2_readAtom 0 = .ok (.aload_n 0, 1) := by decide +kernel
theorem dX2_readAtom_1 : decode cX2_readAtom 1 = .ok (.invokevirtual 33, 3) := by decide +kernel
theorem dX2_readAtom_4 : decode cX2_readAtom 4 = .ok (.istore_n 2, 1) := by decide +kernel
theorem dX2_readAtom_5 : decode cX2_readAtom 5 = .ok (.iload_n 2, 1) := by decide +kernel
theorem dX2_readAtom_6 : decode cX2_readAtom 6 = .ok (.bipush 91, 2) := by decide +kernel
theorem dX2_readAtom_8 : decode cX2_readAtom 8 = .ok (.if_icmp .ne 46, 3) := by decide +kernel
theorem dX2_readAtom_11 : decode cX2_readAtom 11 = .ok (.iload_n 1, 1) := by decide +kernel
theorem dX2_readAtom_12 : decode cX2_readAtom 12 = .ok (.bipush 6, 2) := by decide +kernel
theorem dX2_readAtom_14 : decode cX2_readAtom 14 = .ok (.if_icmp .lt 5, 3) := by decide +kernel
theorem dX2_readAtom_17 : decode cX2_readAtom 17 = .ok (.iconst 0, 1) := by decide +kernel
theorem dX2_readAtom_18 : decode cX2_readAtom 18 = .ok (.ireturn, 1) := by decide +kernel
theorem dX2_readAtom_19 : decode cX2_readAtom 19 = .ok (.aload_n 0, 1) := by decide +kernel
theorem dX2_readAtom_20 : decode cX2_readAtom 20 = .ok (.dup, 1) := by decide +kernel
theorem dX2_readAtom_21 : decode cX2_readAtom 21 = .ok (.getfield 22, 3) := by decide +kernel
theorem dX2_readAtom_24 : decode cX2_readAtom 24 = .ok (.iconst 1, 1) := by decide +kernel
theorem dX2_readAtom_25 : decode cX2_readAtom 25 = .ok (.iadd, 1) := by decide +kernel
theorem dX2_readAtom_26 : decode cX2_readAtom 26 = .ok (.putfield 22, 3) := by decide +kernel
theorem dX2_readAtom_29 : decode cX2_readAtom 29 = .ok (.aload_n 0, 1) := by decide +kernel
theorem dX2_readAtom_30 : decode cX2_readAtom 30 = .ok (.iload_n 1, 1) := by decide +kernel
theorem dX2_readAtom_31 : decode cX2_readAtom 31 = .ok (.iconst 1, 1) := by decide +kernel
theorem dX2_readAtom_32 : decode cX2_readAtom 32 = .ok (.iadd, 1) := by decide +kernel
theorem dX2_readAtom_33 : decode cX2_readAtom 33 = .ok (.invokevirtual 41, 3) := by decide +kernel
theorem dX2_readAtom_36 : decode cX2_readAtom 36 = .ok (.ifCond .eq 16, 3) := by decide +kernel
theorem dX2_readAtom_39 : decode cX2_readAtom 39 = .ok (.aload_n 0, 1) := by decide +kernel
theorem dX2_readAtom_40 : decode cX2_readAtom 40 = .ok (.bipush 93, 2) := by decide +kernel
theorem dX2_readAtom_42 : decode cX2_readAtom 42 = .ok (.invokevirtual 37, 3) := by decide +kernel
theorem dX2_readAtom_45 : decode cX2_readAtom 45 = .ok (.ifCond .eq 7, 3) := by decide +kernel
theorem dX2_readAtom_48 : decode cX2_readAtom 48 = .ok (.iconst 1, 1) := by decide +kernel
theorem dX2_readAtom_49 : decode cX2_readAtom 49 = .ok (.goto 4, 3) := by decide +kernel
theorem dX2_readAtom_52 : decode cX2_readAtom 52 = .ok (.iconst 0, 1) := by decide +kernel
theorem dX2_readAtom_53 : decode cX2_readAtom 53 = .ok (.ireturn, 1) := by decide +kernel
theorem dX2_readAtom_54 : decode cX2_readAtom 54 = .ok (.aload_n 0, 1) := by decide +kernel
theorem dX2_readAtom_55 : decode cX2_readAtom 55 = .ok (.getfield 9, 3) := by decide +kernel
theorem dX2_readAtom_58 : decode cX2_readAtom 58 = .ok (.aload_n 0, 1) := by decide +kernel
theorem dX2_readAtom_59 : decode cX2_readAtom 59 = .ok (.getfield 22, 3) := by decide +kernel
theorem dX2_readAtom_62 : decode cX2_readAtom 62 = .ok (.invokevirtual 73, 3) := by decide +kernel
theorem dX2_readAtom_65 : decode cX2_readAtom 65 = .ok (.ifCond .eq 8, 3) := by decide +kernel
theorem dX2_readAtom_68 : decode cX2_readAtom 68 = .ok (.aload_n 0, 1) := by decide +kernel
theorem dX2_readAtom_69 : decode cX2_readAtom 69 = .ok (.invokevirtual 78, 3) := by decide +kernel
theorem dX2_readAtom_72 : decode cX2_readAtom 72 = .ok (.ireturn, 1) := by decide +kernel
theorem dX2_readAtom_73 : decode cX2_readAtom 73 = .ok (.iconst 0, 1) := by decide +kernel
theorem dX2_readAtom_74 : decode cX2_readAtom 74 = .ok (.istore_n 3, 1) := by decide +kernel
theorem dX2_readAtom_75 : decode cX2_readAtom 75 = .ok (.iload_n 3, 1) := by decide +kernel
theorem dX2_readAtom_76 : decode cX2_readAtom 76 = .ok (.bipush 6, 2) := by decide +kernel
theorem dX2_readAtom_78 : decode cX2_readAtom 78 = .ok (.if_icmp .ge 40, 3) := by decide +kernel
theorem dX2_readAtom_81 : decode cX2_readAtom 81 = .ok (.getstatic 81, 3) := by decide +kernel
theorem dX2_readAtom_84 : decode cX2_readAtom 84 = .ok (.iload_n 3, 1) := by decide +kernel
theorem dX2_readAtom_85 : decode cX2_readAtom 85 = .ok (.caload, 1) := by decide +kernel
theorem dX2_readAtom_86 : decode cX2_readAtom 86 = .ok (.iload_n 2, 1) := by decide +kernel
theorem dX2_readAtom_87 : decode cX2_readAtom 87 = .ok (.if_icmp .ne 25, 3) := by decide +kernel
theorem dX2_readAtom_90 : decode cX2_readAtom 90 = .ok (.aload_n 0, 1) := by decide +kernel
theorem dX2_readAtom_91 : decode cX2_readAtom 91 = .ok (.dup, 1) := by decide +kernel
theorem dX2_readAtom_92 : decode cX2_readAtom 92 = .ok (.getfield 22, 3) := by decide +kernel
theorem dX2_readAtom_95 : decode cX2_readAtom 95 = .ok (.iconst 1, 1) := by decide +kernel
theorem dX2_readAtom_96 : decode cX2_readAtom 96 = .ok (.iadd, 1) := by decide +kernel
theorem dX2_readAtom_97 : decode cX2_readAtom 97 = .ok (.putfield 22, 3) := by decide +kernel
theorem dX2_readAtom_100 : decode cX2_readAtom 100 = .ok (.aload_n 0, 1) := by decide +kernel
theorem dX2_readAtom_101 : decode cX2_readAtom 101 = .ok (.getfield 18, 3) := by decide +kernel
theorem dX2_readAtom_104 : decode cX2_readAtom 104 = .ok (.iconst (-1), 1) := by decide +kernel
theorem dX2_readAtom_105 : decode cX2_readAtom 105 = .ok (.iload_n 3, 1) := by decide +kernel
theorem dX2_readAtom_106 : decode cX2_readAtom 106 = .ok (.isub, 1) := by decide +kernel
theorem dX2_readAtom_107 : decode cX2_readAtom 107 = .ok (.invokevirtual 54, 3) := by decide +kernel
theorem dX2_readAtom_110 : decode cX2_readAtom 110 = .ok (.iconst 1, 1) := by decide +kernel
theorem dX2_readAtom_111 : decode cX2_readAtom 111 = .ok (.ireturn, 1) := by decide +kernel
theorem dX2_readAtom_112 : decode cX2_readAtom 112 = .ok (.iinc 3 1, 3) := by decide +kernel
theorem dX2_readAtom_115 : decode cX2_readAtom 115 = .ok (.goto (-40), 3) := by decide +kernel
theorem dX2_readAtom_118 : decode cX2_readAtom 118 = .ok (.iconst 0, 1) := by decide +kernel
theorem dX2_readAtom_119 : decode cX2_readAtom 119 = .ok (.ireturn, 1) := by decide +kernel
theorem dX2_readNumber_0 : decode cX2_readNumber 0 = .ok (.iconst 0, 1) := by decide +kernel
theorem dX2_readNumber_1 : decode cX2_readNumber 1 = .ok (.istore_n 1, 1) := by decide +kernel
theorem dX2_readNumber_2 : decode cX2_readNumber 2 = .ok (.iconst 0, 1) := by decide +kernel
theorem dX2_readNumber_3 : decode cX2_readNumber 3 = .ok (.istore_n 2, 1) := by decide +kernel
theorem dX2_readNumber_4 : decode cX2_readNumber 4 = .ok (.iload_n 2, 1) := by decide +kernel
theorem dX2_readNumber_5 : decode cX2_readNumber 5 = .ok (.iconst 4, 1) := by decide +kernel
theorem dX2_readNumber_6 : decode cX2_readNumber 6 = .ok (.if_icmp .ge 53, 3) := by decide +kernel
theorem dX2_readNumber_9 : decode cX2_readNumber 9 = .ok (.aload_n 0, 1) := by decide +kernel
theorem dX2_readNumber_10 : decode cX2_readNumber 10 = .ok (.getfield 9, 3) := by decide +kernel
theorem dX2_readNumber_13 : decode cX2_readNumber 13 = .ok (.aload_n 0, 1) := by decide +kernel
theorem dX2_readNumber_14 : decode cX2_readNumber 14 = .ok (.getfield 22, 3) := by decide +kernel
theorem dX2_readNumber_17 : decode cX2_readNumber 17 = .ok (.invokevirtual 73, 3) := by decide +kernel
theorem dX2_readNumber_20 : decode cX2_readNumber 20 = .ok (.ifCond .eq 39, 3) := by decide +kernel
theorem dX2_readNumber_23 : decode cX2_readNumber 23 = .ok (.iload_n 1, 1) := by decide +kernel
theorem dX2_readNumber_24 : decode cX2_readNumber 24 = .ok (.bipush 10, 2) := by decide +kernel
theorem dX2_readNumber_26 : decode cX2_readNumber 26 = .ok (.imul, 1) := by decide +kernel
theorem dX2_readNumber_27 : decode cX2_readNumber 27 = .ok (.aload_n 0, 1) := by decide +kernel
theorem dX2_readNumber_28 : decode cX2_readNumber 28 = .ok (.getfield 9, 3) := by decide +kernel
theorem dX2_readNumber_31 : decode cX2_readNumber 31 = .ok (.aload_n 0, 1) := by decide +kernel
theorem dX2_readNumber_32 : decode cX2_readNumber 32 = .ok (.getfield 22, 3) := by decide +kernel
theorem dX2_readNumber_35 : decode cX2_readNumber 35 = .ok (.invokevirtual 85, 3) := by decide +kernel
theorem dX2_readNumber_38 : decode cX2_readNumber 38 = .ok (.iadd, 1) := by decide +kernel
theorem dX2_readNumber_39 : decode cX2_readNumber 39 = .ok (.bipush 48, 2) := by decide +kernel
theorem dX2_readNumber_41 : decode cX2_readNumber 41 = .ok (.isub, 1) := by decide +kernel
theorem dX2_readNumber_42 : decode cX2_readNumber 42 = .ok (.istore_n 1, 1) := by decide +kernel
theorem dX2_readNumber_43 : decode cX2_readNumber 43 = .ok (.aload_n 0, 1) := by decide +kernel
theorem dX2_readNumber_44 : decode cX2_readNumber 44 = .ok (.dup, 1) := by decide +kernel
theorem dX2_readNumber_45 : decode cX2_readNumber 45 = .ok (.getfield 22, 3) := by decide +kernel
theorem dX2_readNumber_48 : decode cX2_readNumber 48 = .ok (.iconst 1, 1) := by decide +kernel
theorem dX2_readNumber_49 : decode cX2_readNumber 49 = .ok (.iadd, 1) := by decide +kernel
theorem dX2_readNumber_50 : decode cX2_readNumber 50 = .ok (.putfield 22, 3) := by decide +kernel
theorem dX2_readNumber_53 : decode cX2_readNumber 53 = .ok (.iinc 2 1, 3) := by decide +kernel
theorem dX2_readNumber_56 : decode cX2_readNumber 56 = .ok (.goto (-52), 3) := by decide +kernel
theorem dX2_readNumber_59 : decode cX2_readNumber 59 = .ok (.aload_n 0, 1) := by decide +kernel
theorem dX2_readNumber_60 : decode cX2_readNumber 60 = .ok (.getfield 18, 3) := by decide +kernel
theorem dX2_readNumber_63 : decode cX2_readNumber 63 = .ok (.iload_n 1, 1) := by decide +kernel
theorem dX2_readNumber_64 : decode cX2_readNumber 64 = .ok (.invokevirtual 54, 3) := by decide +kernel
theorem dX2_readNumber_67 : decode cX2_readNumber 67 = .ok (.aload_n 0, 1) := by decide +kernel
theorem dX2_readNumber_68 : decode cX2_readNumber 68 = .ok (.getfield 9, 3) := by decide +kernel
theorem dX2_readNumber_71 : decode cX2_readNumber 71 = .ok (.aload_n 0, 1) := by decide +kernel
theorem dX2_readNumber_72 : decode cX2_readNumber 72 = .ok (.getfield 22, 3) := by decide +kernel
theorem dX2_readNumber_75 : decode cX2_readNumber 75 = .ok (.invokevirtual 73, 3) := by decide +kernel
theorem dX2_readNumber_78 : decode cX2_readNumber 78 = .ok (.ifCond .ne 7, 3) := by decide +kernel
theorem dX2_readNumber_81 : decode cX2_readNumber 81 = .ok (.iconst 1, 1) := by decide +kernel
theorem dX2_readNumber_82 : decode cX2_readNumber 82 = .ok (.goto 4, 3) := by decide +kernel
theorem dX2_readNumber_85 : decode cX2_readNumber 85 = .ok (.iconst 0, 1) := by decide +kernel
theorem dX2_readNumber_86 : decode cX2_readNumber 86 = .ok (.ireturn, 1) := by decide +kernel
theorem dX2_next_0 : decode cX2_next 0 = .ok (.aload_n 0, 1) := by decide +kernel
theorem dX2_next_1 : decode cX2_next 1 = .ok (.aload_n 0, 1) := by decide +kernel
theorem dX2_next_2 : decode cX2_next 2 = .ok (.getfield 9, 3) := by decide +kernel
theorem dX2_next_5 : decode cX2_next 5 = .ok (.aload_n 0, 1) := by decide +kernel
theorem dX2_next_6 : decode cX2_next 6 = .ok (.getfield 22, 3) := by decide +kernel
theorem dX2_next_9 : decode cX2_next 9 = .ok (.invokevirtual 89, 3) := by decide +kernel
theorem dX2_next_12 : decode cX2_next 12 = .ok (.putfield 22, 3) := by decide +kernel
theorem dX2_next_15 : decode cX2_next 15 = .ok (.aload_n 0, 1) := by decide +kernel
theorem dX2_next_16 : decode cX2_next 16 = .ok (.getfield 9, 3) := by decide +kernel
theorem dX2_next_19 : decode cX2_next 19 = .ok (.aload_n 0, 1) := by decide +kernel
theorem dX2_next_20 : decode cX2_next 20 = .ok (.getfield 22, 3) := by decide +kernel
theorem dX2_next_23 : decode cX2_next 23 = .ok (.invokevirtual 85, 3) := by decide +kernel
theorem dX2_next_26 : decode cX2_next 26 = .ok (.ireturn, 1) := by decide +kernel
theorem dX2_skip_0 : decode cX2_skip 0 = .ok (.aload_n 0, 1) := by decide +kernel
theorem dX2_skip_1 : decode cX2_skip 1 = .ok (.invokevirtual 33, 3) := by decide +kernel
theorem dX2_skip_4 : decode cX2_skip 4 = .ok (.iload_n 1, 1) := by decide +kernel
theorem dX2_skip_5 : decode cX2_skip 5 = .ok (.if_icmp .eq 5, 3) := by decide +kernel
theorem dX2_skip_8 : decode cX2_skip 8 = .ok (.iconst 0, 1) := by decide +kernel
theorem dX2_skip_9 : decode cX2_skip 9 = .ok (.ireturn, 1) := by decide +kernel
theorem dX2_skip_10 : decode cX2_skip 10 = .ok (.aload_n 0, 1) := by decide +kernel
theorem dX2_skip_11 : decode cX2_skip 11 = .ok (.dup, 1) := by decide +kernel
theorem dX2_skip_12 : decode cX2_skip 12 = .ok (.getfield 22, 3) := by decide +kernel
theorem dX2_skip_15 : decode cX2_skip 15 = .ok (.iconst 1, 1) := by decide +kernel
theorem dX2_skip_16 : decode cX2_skip 16 = .ok (.iadd, 1) := by decide +kernel
theorem dX2_skip_17 : decode cX2_skip 17 = .ok (.putfield 22, 3) := by decide +kernel
theorem dX2_skip_20 : decode cX2_skip 20 = .ok (.iconst 1, 1) := by decide +kernel
theorem dX2_skip_21 : decode cX2_skip 21 = .ok (.ireturn, 1) := by decide +kernel
theorem dX2_isComparison_0 : decode cX2_isComparison 0 = .ok (.iload_n 0, 1) := by decide +kernel
theorem dX2_isComparison_1 : decode cX2_isComparison 1 = .ok (.bipush 61, 2) := by decide +kernel
theorem dX2_isComparison_3 : decode cX2_isComparison 3 = .ok (.if_icmp .eq 15, 3) := by decide +kernel
theorem dX2_isComparison_6 : decode cX2_isComparison 6 = .ok (.iload_n 0, 1) := by decide +kernel
theorem dX2_isComparison_7 : decode cX2_isComparison 7 = .ok (.bipush 60, 2) := by decide +kernel
theorem dX2_isComparison_9 : decode cX2_isComparison 9 = .ok (.if_icmp .eq 9, 3) := by decide +kernel
theorem dX2_isComparison_12 : decode cX2_isComparison 12 = .ok (.iload_n 0, 1) := by decide +kernel
theorem dX2_isComparison_13 : decode cX2_isComparison 13 = .ok (.bipush 62, 2) := by decide +kernel
theorem dX2_isComparison_15 : decode cX2_isComparison 15 = .ok (.if_icmp .ne 7, 3) := by decide +kernel
theorem dX2_isComparison_18 : decode cX2_isComparison 18 = .ok (.iconst 1, 1) := by decide +kernel
theorem dX2_isComparison_19 : decode cX2_isComparison 19 = .ok (.goto 4, 3) := by decide +kernel
theorem dX2_isComparison_22 : decode cX2_isComparison 22 = .ok (.iconst 0, 1) := by decide +kernel
theorem dX2_isComparison_23 : decode cX2_isComparison 23 = .ok (.ireturn, 1) := by decide +kernel
theorem dX5_firstWrong_0 : decode cX5_firstWrong 0 = .ok (.aload_n 0, 1) := by decide +kernel
theorem dX5_firstWrong_1 : decode cX5_firstWrong 1 = .ok (.iconst 0, 1) := by decide +kernel
theorem dX5_firstWrong_2 : decode cX5_firstWrong 2 = .ok (.putfield 26, 3) := by decide +kernel
theorem dX5_firstWrong_5 : decode cX5_firstWrong 5 = .ok (.aload_n 0, 1) := by decide +kernel
theorem dX5_firstWrong_6 : decode cX5_firstWrong 6 = .ok (.iconst 0, 1) := by decide +kernel
theorem dX5_firstWrong_7 : decode cX5_firstWrong 7 = .ok (.putfield 22, 3) := by decide +kernel
theorem dX5_firstWrong_10 : decode cX5_firstWrong 10 = .ok (.aload_n 0, 1) := by decide +kernel
theorem dX5_firstWrong_11 : decode cX5_firstWrong 11 = .ok (.getfield 18, 3) := by decide +kernel
theorem dX5_firstWrong_14 : decode cX5_firstWrong 14 = .ok (.invokevirtual 30, 3) := by decide +kernel
theorem dX5_firstWrong_17 : decode cX5_firstWrong 17 = .ok (.aload_n 0, 1) := by decide +kernel
theorem dX5_firstWrong_18 : decode cX5_firstWrong 18 = .ok (.iconst 0, 1) := by decide +kernel
theorem dX5_firstWrong_19 : decode cX5_firstWrong 19 = .ok (.iconst 0, 1) := by decide +kernel
theorem dX5_firstWrong_20 : decode cX5_firstWrong 20 = .ok (.invokevirtual 33, 3) := by decide +kernel
theorem dX5_firstWrong_23 : decode cX5_firstWrong 23 = .ok (.iconst 0, 1) := by decide +kernel
theorem dX5_firstWrong_24 : decode cX5_firstWrong 24 = .ok (.istore_n 1, 1) := by decide +kernel
theorem dX5_firstWrong_25 : decode cX5_firstWrong 25 = .ok (.iload_n 1, 1) := by decide +kernel
theorem dX5_firstWrong_26 : decode cX5_firstWrong 26 = .ok (.sipush 240, 3) := by decide +kernel
theorem dX5_firstWrong_29 : decode cX5_firstWrong 29 = .ok (.if_icmp .gt 48, 3) := by decide +kernel
theorem dX5_firstWrong_32 : decode cX5_firstWrong 32 = .ok (.aload_n 0, 1) := by decide +kernel
theorem dX5_firstWrong_33 : decode cX5_firstWrong 33 = .ok (.invokevirtual 37, 3) := by decide +kernel
theorem dX5_firstWrong_36 : decode cX5_firstWrong 36 = .ok (.ifCond .ne 8, 3) := by decide +kernel
theorem dX5_firstWrong_39 : decode cX5_firstWrong 39 = .ok (.aload_n 0, 1) := by decide +kernel
theorem dX5_firstWrong_40 : decode cX5_firstWrong 40 = .ok (.getfield 26, 3) := by decide +kernel
theorem dX5_firstWrong_43 : decode cX5_firstWrong 43 = .ok (.ireturn, 1) := by decide +kernel
theorem dX5_firstWrong_44 : decode cX5_firstWrong 44 = .ok (.aload_n 0, 1) := by decide +kernel
theorem dX5_firstWrong_45 : decode cX5_firstWrong 45 = .ok (.getfield 26, 3) := by decide +kernel
theorem dX5_firstWrong_48 : decode cX5_firstWrong 48 = .ok (.aload_n 0, 1) := by decide +kernel
theorem dX5_firstWrong_49 : decode cX5_firstWrong 49 = .ok (.getfield 9, 3) := by decide +kernel
theorem dX5_firstWrong_52 : decode cX5_firstWrong 52 = .ok (.invokevirtual 41, 3) := by decide +kernel
theorem dX5_firstWrong_55 : decode cX5_firstWrong 55 = .ok (.if_icmp .lt 6, 3) := by decide +kernel
theorem dX5_firstWrong_58 : decode cX5_firstWrong 58 = .ok (.goto 19, 3) := by decide +kernel
theorem dX5_firstWrong_61 : decode cX5_firstWrong 61 = .ok (.aload_n 0, 1) := by decide +kernel
theorem dX5_firstWrong_62 : decode cX5_firstWrong 62 = .ok (.dup, 1) := by decide +kernel
theorem dX5_firstWrong_63 : decode cX5_firstWrong 63 = .ok (.getfield 26, 3) := by decide +kernel
theorem dX5_firstWrong_66 : decode cX5_firstWrong 66 = .ok (.iconst 1, 1) := by decide +kernel
theorem dX5_firstWrong_67 : decode cX5_firstWrong 67 = .ok (.iadd, 1) := by decide +kernel
theorem dX5_firstWrong_68 : decode cX5_firstWrong 68 = .ok (.putfield 26, 3) := by decide +kernel
theorem dX5_firstWrong_71 : decode cX5_firstWrong 71 = .ok (.iinc 1 1, 3) := by decide +kernel
theorem dX5_firstWrong_74 : decode cX5_firstWrong 74 = .ok (.goto (-49), 3) := by decide +kernel
theorem dX5_firstWrong_77 : decode cX5_firstWrong 77 = .ok (.aload_n 0, 1) := by decide +kernel
theorem dX5_firstWrong_78 : decode cX5_firstWrong 78 = .ok (.getfield 18, 3) := by decide +kernel
theorem dX5_firstWrong_81 : decode cX5_firstWrong 81 = .ok (.invokevirtual 47, 3) := by decide +kernel
theorem dX5_firstWrong_84 : decode cX5_firstWrong 84 = .ok (.ifCond .le 27, 3) := by decide +kernel
theorem dX5_firstWrong_87 : decode cX5_firstWrong 87 = .ok (.aload_n 0, 1) := by decide +kernel
theorem dX5_firstWrong_88 : decode cX5_firstWrong 88 = .ok (.getfield 18, 3) := by decide +kernel
theorem dX5_firstWrong_91 : decode cX5_firstWrong 91 = .ok (.invokevirtual 50, 3) := by decide +kernel
theorem dX5_firstWrong_94 : decode cX5_firstWrong 94 = .ok (.ifCond .le 17, 3) := by decide +kernel
theorem dX5_firstWrong_97 : decode cX5_firstWrong 97 = .ok (.aload_n 0, 1) := by decide +kernel
theorem dX5_firstWrong_98 : decode cX5_firstWrong 98 = .ok (.getfield 18, 3) := by decide +kernel
theorem dX5_firstWrong_101 : decode cX5_firstWrong 101 = .ok (.invokevirtual 53, 3) := by decide +kernel
theorem dX5_firstWrong_104 : decode cX5_firstWrong 104 = .ok (.ifCond .ne 7, 3) := by decide +kernel
theorem dX5_firstWrong_107 : decode cX5_firstWrong 107 = .ok (.iconst 1, 1) := by decide +kernel
theorem dX5_firstWrong_108 : decode cX5_firstWrong 108 = .ok (.goto 4, 3) := by decide +kernel
theorem dX5_firstWrong_111 : decode cX5_firstWrong 111 = .ok (.iconst 0, 1) := by decide +kernel
theorem dX5_firstWrong_112 : decode cX5_firstWrong 112 = .ok (.istore_n 1, 1) := by decide +kernel
theorem dX5_firstWrong_113 : decode cX5_firstWrong 113 = .ok (.iload_n 1, 1) := by decide +kernel
theorem dX5_firstWrong_114 : decode cX5_firstWrong 114 = .ok (.ifCond .eq 7, 3) := by decide +kernel
theorem dX5_firstWrong_117 : decode cX5_firstWrong 117 = .ok (.iconst (-1), 1) := by decide +kernel
theorem dX5_firstWrong_118 : decode cX5_firstWrong 118 = .ok (.goto 10, 3) := by decide +kernel
theorem dX5_firstWrong_121 : decode cX5_firstWrong 121 = .ok (.aload_n 0, 1) := by decide +kernel
theorem dX5_firstWrong_122 : decode cX5_firstWrong 122 = .ok (.getfield 9, 3) := by decide +kernel
theorem dX5_firstWrong_125 : decode cX5_firstWrong 125 = .ok (.invokevirtual 41, 3) := by decide +kernel
theorem dX5_firstWrong_128 : decode cX5_firstWrong 128 = .ok (.ireturn, 1) := by decide +kernel
theorem dX5_readClause_0 : decode cX5_readClause 0 = .ok (.aload_n 0, 1) := by decide +kernel
theorem dX5_readClause_1 : decode cX5_readClause 1 = .ok (.aload_n 0, 1) := by decide +kernel
theorem dX5_readClause_2 : decode cX5_readClause 2 = .ok (.getfield 9, 3) := by decide +kernel
theorem dX5_readClause_5 : decode cX5_readClause 5 = .ok (.aload_n 0, 1) := by decide +kernel
theorem dX5_readClause_6 : decode cX5_readClause 6 = .ok (.getfield 26, 3) := by decide +kernel
theorem dX5_readClause_9 : decode cX5_readClause 9 = .ok (.invokevirtual 56, 3) := by decide +kernel
theorem dX5_readClause_12 : decode cX5_readClause 12 = .ok (.putfield 26, 3) := by decide +kernel
theorem dX5_readClause_15 : decode cX5_readClause 15 = .ok (.aload_n 0, 1) := by decide +kernel
theorem dX5_readClause_16 : decode cX5_readClause 16 = .ok (.getfield 9, 3) := by decide +kernel
theorem dX5_readClause_19 : decode cX5_readClause 19 = .ok (.aload_n 0, 1) := by decide +kernel
theorem dX5_readClause_20 : decode cX5_readClause 20 = .ok (.getfield 26, 3) := by decide +kernel
theorem dX5_readClause_23 : decode cX5_readClause 23 = .ok (.invokevirtual 60, 3) := by decide +kernel
theorem dX5_readClause_26 : decode cX5_readClause 26 = .ok (.invokestatic 63, 3) := by decide +kernel
theorem dX5_readClause_29 : decode cX5_readClause 29 = .ok (.istore_n 1, 1) := by decide +kernel
theorem dX5_readClause_30 : decode cX5_readClause 30 = .ok (.iload_n 1, 1) := by decide +kernel
theorem dX5_readClause_31 : decode cX5_readClause 31 = .ok (.iconst (-1), 1) := by decide +kernel
theorem dX5_readClause_32 : decode cX5_readClause 32 = .ok (.if_icmp .eq 11, 3) := by decide +kernel
theorem dX5_readClause_35 : decode cX5_readClause 35 = .ok (.aload_n 0, 1) := by decide +kernel
theorem dX5_readClause_36 : decode cX5_readClause 36 = .ok (.iload_n 1, 1) := by decide +kernel
theorem dX5_readClause_37 : decode cX5_readClause 37 = .ok (.invokevirtual 66, 3) := by decide +kernel
theorem dX5_readClause_40 : decode cX5_readClause 40 = .ok (.ifCond .ne 5, 3) := by decide +kernel
theorem dX5_readClause_43 : decode cX5_readClause 43 = .ok (.iconst 0, 1) := by decide +kernel
theorem dX5_readClause_44 : decode cX5_readClause 44 = .ok (.ireturn, 1) := by decide +kernel
theorem dX5_readClause_45 : decode cX5_readClause 45 = .ok (.aload_n 0, 1) := by decide +kernel
theorem dX5_readClause_46 : decode cX5_readClause 46 = .ok (.dup, 1) := by decide +kernel
theorem dX5_readClause_47 : decode cX5_readClause 47 = .ok (.getfield 26, 3) := by decide +kernel
theorem dX5_readClause_50 : decode cX5_readClause 50 = .ok (.iconst 1, 1) := by decide +kernel
theorem dX5_readClause_51 : decode cX5_readClause 51 = .ok (.iadd, 1) := by decide +kernel
theorem dX5_readClause_52 : decode cX5_readClause 52 = .ok (.putfield 26, 3) := by decide +kernel
theorem dX5_readClause_55 : decode cX5_readClause 55 = .ok (.aload_n 0, 1) := by decide +kernel
theorem dX5_readClause_56 : decode cX5_readClause 56 = .ok (.iload_n 1, 1) := by decide +kernel
theorem dX5_readClause_57 : decode cX5_readClause 57 = .ok (.invokevirtual 70, 3) := by decide +kernel
theorem dX5_readClause_60 : decode cX5_readClause 60 = .ok (.istore_n 2, 1) := by decide +kernel
theorem dX5_readClause_61 : decode cX5_readClause 61 = .ok (.aload_n 0, 1) := by decide +kernel
theorem dX5_readClause_62 : decode cX5_readClause 62 = .ok (.iload_n 1, 1) := by decide +kernel
theorem dX5_readClause_63 : decode cX5_readClause 63 = .ok (.iload_n 2, 1) := by decide +kernel
theorem dX5_readClause_64 : decode cX5_readClause 64 = .ok (.invokevirtual 33, 3) := by decide +kernel
theorem dX5_readClause_67 : decode cX5_readClause 67 = .ok (.iconst 0, 1) := by decide +kernel
theorem dX5_readClause_68 : decode cX5_readClause 68 = .ok (.istore_n 3, 1) := by decide +kernel
theorem dX5_readClause_69 : decode cX5_readClause 69 = .ok (.iconst 0, 1) := by decide +kernel
theorem dX5_readClause_70 : decode cX5_readClause 70 = .ok (.istore 4, 2) := by decide +kernel
theorem dX5_readClause_72 : decode cX5_readClause 72 = .ok (.iload 4, 2) := by decide +kernel
theorem dX5_readClause_74 : decode cX5_readClause 74 = .ok (.sipush 240, 3) := by decide +kernel
theorem dX5_readClause_77 : decode cX5_readClause 77 = .ok (.if_icmp .gt 134, 3) := by decide +kernel
theorem dX5_readClause_80 : decode cX5_readClause 80 = .ok (.aload_n 0, 1) := by decide +kernel
theorem dX5_readClause_81 : decode cX5_readClause 81 = .ok (.aload_n 0, 1) := by decide +kernel
theorem dX5_readClause_82 : decode cX5_readClause 82 = .ok (.getfield 9, 3) := by decide +kernel
theorem dX5_readClause_85 : decode cX5_readClause 85 = .ok (.aload_n 0, 1) := by decide +kernel
theorem dX5_readClause_86 : decode cX5_readClause 86 = .ok (.getfield 26, 3) := by decide +kernel
theorem dX5_readClause_89 : decode cX5_readClause 89 = .ok (.invokevirtual 56, 3) := by decide +kernel
theorem dX5_readClause_92 : decode cX5_readClause 92 = .ok (.putfield 26, 3) := by decide +kernel
theorem dX5_readClause_95 : decode cX5_readClause 95 = .ok (.aload_n 0, 1) := by decide +kernel
theorem dX5_readClause_96 : decode cX5_readClause 96 = .ok (.getfield 26, 3) := by decide +kernel
theorem dX5_readClause_99 : decode cX5_readClause 99 = .ok (.aload_n 0, 1) := by decide +kernel
theorem dX5_readClause_100 : decode cX5_readClause 100 = .ok (.getfield 9, 3) := by decide +kernel
theorem dX5_readClause_103 : decode cX5_readClause 103 = .ok (.invokevirtual 41, 3) := by decide +kernel
theorem dX5_readClause_106 : decode cX5_readClause 106 = .ok (.if_icmp .ge 19, 3) := by decide +kernel
theorem dX5_readClause_109 : decode cX5_readClause 109 = .ok (.aload_n 0, 1) := by decide +kernel
theorem dX5_readClause_110 : decode cX5_readClause 110 = .ok (.getfield 9, 3) := by decide +kernel
theorem dX5_readClause_113 : decode cX5_readClause 113 = .ok (.aload_n 0, 1) := by decide +kernel
theorem dX5_readClause_114 : decode cX5_readClause 114 = .ok (.getfield 26, 3) := by decide +kernel
theorem dX5_readClause_117 : decode cX5_readClause 117 = .ok (.invokevirtual 60, 3) := by decide +kernel
theorem dX5_readClause_120 : decode cX5_readClause 120 = .ok (.bipush 59, 2) := by decide +kernel
theorem dX5_readClause_122 : decode cX5_readClause 122 = .ok (.if_icmp .ne 5, 3) := by decide +kernel
theorem dX5_readClause_125 : decode cX5_readClause 125 = .ok (.iconst 1, 1) := by decide +kernel
theorem dX5_readClause_126 : decode cX5_readClause 126 = .ok (.ireturn, 1) := by decide +kernel
theorem dX5_readClause_127 : decode cX5_readClause 127 = .ok (.iload_n 1, 1) := by decide +kernel
theorem dX5_readClause_128 : decode cX5_readClause 128 = .ok (.aload_n 0, 1) := by decide +kernel
theorem dX5_readClause_129 : decode cX5_readClause 129 = .ok (.getfield 9, 3) := by decide +kernel
theorem dX5_readClause_132 : decode cX5_readClause 132 = .ok (.aload_n 0, 1) := by decide +kernel
theorem dX5_readClause_133 : decode cX5_readClause 133 = .ok (.getfield 26, 3) := by decide +kernel
theorem dX5_readClause_136 : decode cX5_readClause 136 = .ok (.invokevirtual 60, 3) := by decide +kernel
theorem dX5_readClause_139 : decode cX5_readClause 139 = .ok (.invokestatic 73, 3) := by decide +kernel
theorem dX5_readClause_142 : decode cX5_readClause 142 = .ok (.istore 5, 2) := by decide +kernel
theorem dX5_readClause_144 : decode cX5_readClause 144 = .ok (.iload 5, 2) := by decide +kernel
theorem dX5_readClause_146 : decode cX5_readClause 146 = .ok (.iconst (-1), 1) := by decide +kernel
theorem dX5_readClause_147 : decode cX5_readClause 147 = .ok (.if_icmp .eq 12, 3) := by decide +kernel
theorem dX5_readClause_150 : decode cX5_readClause 150 = .ok (.iload_n 3, 1) := by decide +kernel
theorem dX5_readClause_151 : decode cX5_readClause 151 = .ok (.iload 5, 2) := by decide +kernel
theorem dX5_readClause_153 : decode cX5_readClause 153 = .ok (.ishr, 1) := by decide +kernel
theorem dX5_readClause_154 : decode cX5_readClause 154 = .ok (.iconst 1, 1) := by decide +kernel
theorem dX5_readClause_155 : decode cX5_readClause 155 = .ok (.iand, 1) := by decide +kernel
theorem dX5_readClause_156 : decode cX5_readClause 156 = .ok (.ifCond .eq 5, 3) := by decide +kernel
theorem dX5_readClause_159 : decode cX5_readClause 159 = .ok (.iconst 0, 1) := by decide +kernel
theorem dX5_readClause_160 : decode cX5_readClause 160 = .ok (.ireturn, 1) := by decide +kernel
theorem dX5_readClause_161 : decode cX5_readClause 161 = .ok (.iload_n 3, 1) := by decide +kernel
theorem dX5_readClause_162 : decode cX5_readClause 162 = .ok (.iconst 1, 1) := by decide +kernel
theorem dX5_readClause_163 : decode cX5_readClause 163 = .ok (.iload 5, 2) := by decide +kernel
theorem dX5_readClause_165 : decode cX5_readClause 165 = .ok (.ishl, 1) := by decide +kernel
theorem dX5_readClause_166 : decode cX5_readClause 166 = .ok (.ior, 1) := by decide +kernel
theorem dX5_readClause_167 : decode cX5_readClause 167 = .ok (.istore_n 3, 1) := by decide +kernel
theorem dX5_readClause_168 : decode cX5_readClause 168 = .ok (.aload_n 0, 1) := by decide +kernel
theorem dX5_readClause_169 : decode cX5_readClause 169 = .ok (.aload_n 0, 1) := by decide +kernel
theorem dX5_readClause_170 : decode cX5_readClause 170 = .ok (.getfield 9, 3) := by decide +kernel
theorem dX5_readClause_173 : decode cX5_readClause 173 = .ok (.aload_n 0, 1) := by decide +kernel
theorem dX5_readClause_174 : decode cX5_readClause 174 = .ok (.getfield 26, 3) := by decide +kernel
theorem dX5_readClause_177 : decode cX5_readClause 177 = .ok (.iconst 1, 1) := by decide +kernel
theorem dX5_readClause_178 : decode cX5_readClause 178 = .ok (.iadd, 1) := by decide +kernel
theorem dX5_readClause_179 : decode cX5_readClause 179 = .ok (.invokevirtual 56, 3) := by decide +kernel
theorem dX5_readClause_182 : decode cX5_readClause 182 = .ok (.putfield 26, 3) := by decide +kernel
theorem dX5_readClause_185 : decode cX5_readClause 185 = .ok (.aload_n 0, 1) := by decide +kernel
theorem dX5_readClause_186 : decode cX5_readClause 186 = .ok (.iload 5, 2) := by decide +kernel
theorem dX5_readClause_188 : decode cX5_readClause 188 = .ok (.iload_n 2, 1) := by decide +kernel
theorem dX5_readClause_189 : decode cX5_readClause 189 = .ok (.iload 5, 2) := by decide +kernel
theorem dX5_readClause_191 : decode cX5_readClause 191 = .ok (.getstatic 77, 3) := by decide +kernel
theorem dX5_readClause_194 : decode cX5_readClause 194 = .ok (.iload_n 1, 1) := by decide +kernel
theorem dX5_readClause_195 : decode cX5_readClause 195 = .ok (.iaload, 1) := by decide +kernel
theorem dX5_readClause_196 : decode cX5_readClause 196 = .ok (.isub, 1) := by decide +kernel
theorem dX5_readClause_197 : decode cX5_readClause 197 = .ok (.invokevirtual 81, 3) := by decide +kernel
theorem dX5_readClause_200 : decode cX5_readClause 200 = .ok (.ifCond .ne 5, 3) := by decide +kernel
theorem dX5_readClause_203 : decode cX5_readClause 203 = .ok (.iconst 0, 1) := by decide +kernel
theorem dX5_readClause_204 : decode cX5_readClause 204 = .ok (.ireturn, 1) := by decide +kernel
theorem dX5_readClause_205 : decode cX5_readClause 205 = .ok (.iinc 4 1, 3) := by decide +kernel
theorem dX5_readClause_208 : decode cX5_readClause 208 = .ok (.goto (-136), 3) := by decide +kernel
theorem dX5_readClause_211 : decode cX5_readClause 211 = .ok (.iconst 0, 1) := by decide +kernel
theorem dX5_readClause_212 : decode cX5_readClause 212 = .ok (.ireturn, 1) := by decide +kernel
theorem dX5_readNumber_0 : decode cX5_readNumber 0 = .ok (.aload_n 0, 1) := by decide +kernel
theorem dX5_readNumber_1 : decode cX5_readNumber 1 = .ok (.getfield 9, 3) := by decide +kernel
theorem dX5_readNumber_4 : decode cX5_readNumber 4 = .ok (.aload_n 0, 1) := by decide +kernel
theorem dX5_readNumber_5 : decode cX5_readNumber 5 = .ok (.getfield 26, 3) := by decide +kernel
theorem dX5_readNumber_8 : decode cX5_readNumber 8 = .ok (.invokevirtual 85, 3) := by decide +kernel
theorem dX5_readNumber_11 : decode cX5_readNumber 11 = .ok (.ifCond .ne 5, 3) := by decide +kernel
theorem dX5_readNumber_14 : decode cX5_readNumber 14 = .ok (.iconst 0, 1) := by decide +kernel
theorem dX5_readNumber_15 : decode cX5_readNumber 15 = .ok (.ireturn, 1) := by decide +kernel
theorem dX5_readNumber_16 : decode cX5_readNumber 16 = .ok (.aload_n 0, 1) := by decide +kernel
theorem dX5_readNumber_17 : decode cX5_readNumber 17 = .ok (.getfield 9, 3) := by decide +kernel
theorem dX5_readNumber_20 : decode cX5_readNumber 20 = .ok (.aload_n 0, 1) := by decide +kernel
theorem dX5_readNumber_21 : decode cX5_readNumber 21 = .ok (.getfield 26, 3) := by decide +kernel
theorem dX5_readNumber_24 : decode cX5_readNumber 24 = .ok (.invokevirtual 60, 3) := by decide +kernel
theorem dX5_readNumber_27 : decode cX5_readNumber 27 = .ok (.bipush 48, 2) := by decide +kernel
theorem dX5_readNumber_29 : decode cX5_readNumber 29 = .ok (.isub, 1) := by decide +kernel
theorem dX5_readNumber_30 : decode cX5_readNumber 30 = .ok (.istore 4, 2) := by decide +kernel
theorem dX5_readNumber_32 : decode cX5_readNumber 32 = .ok (.aload_n 0, 1) := by decide +kernel
theorem dX5_readNumber_33 : decode cX5_readNumber 33 = .ok (.dup, 1) := by decide +kernel
theorem dX5_readNumber_34 : decode cX5_readNumber 34 = .ok (.getfield 26, 3) := by decide +kernel
theorem dX5_readNumber_37 : decode cX5_readNumber 37 = .ok (.iconst 1, 1) := by decide +kernel
theorem dX5_readNumber_38 : decode cX5_readNumber 38 = .ok (.iadd, 1) := by decide +kernel
theorem dX5_readNumber_39 : decode cX5_readNumber 39 = .ok (.putfield 26, 3) := by decide +kernel
theorem dX5_readNumber_42 : decode cX5_readNumber 42 = .ok (.aload_n 0, 1) := by decide +kernel
theorem dX5_readNumber_43 : decode cX5_readNumber 43 = .ok (.getfield 9, 3) := by decide +kernel
theorem dX5_readNumber_46 : decode cX5_readNumber 46 = .ok (.aload_n 0, 1) := by decide +kernel
theorem dX5_readNumber_47 : decode cX5_readNumber 47 = .ok (.getfield 26, 3) := by decide +kernel
theorem dX5_readNumber_50 : decode cX5_readNumber 50 = .ok (.invokevirtual 85, 3) := by decide +kernel
theorem dX5_readNumber_53 : decode cX5_readNumber 53 = .ok (.ifCond .eq 35, 3) := by decide +kernel
theorem dX5_readNumber_56 : decode cX5_readNumber 56 = .ok (.iload 4, 2) := by decide +kernel
theorem dX5_readNumber_58 : decode cX5_readNumber 58 = .ok (.bipush 10, 2) := by decide +kernel
theorem dX5_readNumber_60 : decode cX5_readNumber 60 = .ok (.imul, 1) := by decide +kernel
theorem dX5_readNumber_61 : decode cX5_readNumber 61 = .ok (.aload_n 0, 1) := by decide +kernel
theorem dX5_readNumber_62 : decode cX5_readNumber 62 = .ok (.getfield 9, 3) := by decide +kernel
theorem dX5_readNumber_65 : decode cX5_readNumber 65 = .ok (.aload_n 0, 1) := by decide +kernel
theorem dX5_readNumber_66 : decode cX5_readNumber 66 = .ok (.getfield 26, 3) := by decide +kernel
theorem dX5_readNumber_69 : decode cX5_readNumber 69 = .ok (.invokevirtual 60, 3) := by decide +kernel
theorem dX5_readNumber_72 : decode cX5_readNumber 72 = .ok (.iadd, 1) := by decide +kernel
theorem dX5_readNumber_73 : decode cX5_readNumber 73 = .ok (.bipush 48, 2) := by decide +kernel
theorem dX5_readNumber_75 : decode cX5_readNumber 75 = .ok (.isub, 1) := by decide +kernel
theorem dX5_readNumber_76 : decode cX5_readNumber 76 = .ok (.istore 4, 2) := by decide +kernel
theorem dX5_readNumber_78 : decode cX5_readNumber 78 = .ok (.aload_n 0, 1) := by decide +kernel
theorem dX5_readNumber_79 : decode cX5_readNumber 79 = .ok (.dup, 1) := by decide +kernel
theorem dX5_readNumber_80 : decode cX5_readNumber 80 = .ok (.getfield 26, 3) := by decide +kernel
theorem dX5_readNumber_83 : decode cX5_readNumber 83 = .ok (.iconst 1, 1) := by decide +kernel
theorem dX5_readNumber_84 : decode cX5_readNumber 84 = .ok (.iadd, 1) := by decide +kernel
theorem dX5_readNumber_85 : decode cX5_readNumber 85 = .ok (.putfield 26, 3) := by decide +kernel
theorem dX5_readNumber_88 : decode cX5_readNumber 88 = .ok (.aload_n 0, 1) := by decide +kernel
theorem dX5_readNumber_89 : decode cX5_readNumber 89 = .ok (.getfield 9, 3) := by decide +kernel
theorem dX5_readNumber_92 : decode cX5_readNumber 92 = .ok (.aload_n 0, 1) := by decide +kernel
theorem dX5_readNumber_93 : decode cX5_readNumber 93 = .ok (.getfield 26, 3) := by decide +kernel
theorem dX5_readNumber_96 : decode cX5_readNumber 96 = .ok (.invokevirtual 85, 3) := by decide +kernel
theorem dX5_readNumber_99 : decode cX5_readNumber 99 = .ok (.ifCond .eq 5, 3) := by decide +kernel
theorem dX5_readNumber_102 : decode cX5_readNumber 102 = .ok (.iconst 0, 1) := by decide +kernel
theorem dX5_readNumber_103 : decode cX5_readNumber 103 = .ok (.ireturn, 1) := by decide +kernel
theorem dX5_readNumber_104 : decode cX5_readNumber 104 = .ok (.iload 4, 2) := by decide +kernel
theorem dX5_readNumber_106 : decode cX5_readNumber 106 = .ok (.getstatic 88, 3) := by decide +kernel
theorem dX5_readNumber_109 : decode cX5_readNumber 109 = .ok (.iload_n 1, 1) := by decide +kernel
theorem dX5_readNumber_110 : decode cX5_readNumber 110 = .ok (.iaload, 1) := by decide +kernel
theorem dX5_readNumber_111 : decode cX5_readNumber 111 = .ok (.if_icmp .lt 13, 3) := by decide +kernel
theorem dX5_readNumber_114 : decode cX5_readNumber 114 = .ok (.iload 4, 2) := by decide +kernel
theorem dX5_readNumber_116 : decode cX5_readNumber 116 = .ok (.getstatic 91, 3) := by decide +kernel
theorem dX5_readNumber_119 : decode cX5_readNumber 119 = .ok (.iload_n 1, 1) := by decide +kernel
theorem dX5_readNumber_120 : decode cX5_readNumber 120 = .ok (.iaload, 1) := by decide +kernel
theorem dX5_readNumber_121 : decode cX5_readNumber 121 = .ok (.if_icmp .le 15, 3) := by decide +kernel
theorem dX5_readNumber_124 : decode cX5_readNumber 124 = .ok (.aload_n 0, 1) := by decide +kernel
theorem dX5_readNumber_125 : decode cX5_readNumber 125 = .ok (.dup, 1) := by decide +kernel
theorem dX5_readNumber_126 : decode cX5_readNumber 126 = .ok (.getfield 26, 3) := by decide +kernel
theorem dX5_readNumber_129 : decode cX5_readNumber 129 = .ok (.iconst 1, 1) := by decide +kernel
theorem dX5_readNumber_130 : decode cX5_readNumber 130 = .ok (.isub, 1) := by decide +kernel
theorem dX5_readNumber_131 : decode cX5_readNumber 131 = .ok (.putfield 26, 3) := by decide +kernel
theorem dX5_readNumber_134 : decode cX5_readNumber 134 = .ok (.iconst 0, 1) := by decide +kernel
theorem dX5_readNumber_135 : decode cX5_readNumber 135 = .ok (.ireturn, 1) := by decide +kernel
theorem dX5_readNumber_136 : decode cX5_readNumber 136 = .ok (.aload_n 0, 1) := by decide +kernel
theorem dX5_readNumber_137 : decode cX5_readNumber 137 = .ok (.getfield 18, 3) := by decide +kernel
theorem dX5_readNumber_140 : decode cX5_readNumber 140 = .ok (.iload_n 2, 1) := by decide +kernel
theorem dX5_readNumber_141 : decode cX5_readNumber 141 = .ok (.iload_n 3, 1) := by decide +kernel
theorem dX5_readNumber_142 : decode cX5_readNumber 142 = .ok (.iload 4, 2) := by decide +kernel
theorem dX5_readNumber_144 : decode cX5_readNumber 144 = .ok (.invokevirtual 94, 3) := by decide +kernel
theorem dX5_readNumber_147 : decode cX5_readNumber 147 = .ok (.iconst 1, 1) := by decide +kernel
theorem dX5_readNumber_148 : decode cX5_readNumber 148 = .ok (.ireturn, 1) := by decide +kernel
theorem dX5_sortOf_0 : decode cX5_sortOf 0 = .ok (.iload_n 0, 1) := by decide +kernel
theorem dX5_sortOf_1 : decode cX5_sortOf 1 = .ok (.bipush 115, 2) := by decide +kernel
theorem dX5_sortOf_3 : decode cX5_sortOf 3 = .ok (.if_icmp .ne 5, 3) := by decide +kernel
theorem dX5_sortOf_6 : decode cX5_sortOf 6 = .ok (.iconst 0, 1) := by decide +kernel
theorem dX5_sortOf_7 : decode cX5_sortOf 7 = .ok (.ireturn, 1) := by decide +kernel
theorem dX5_sortOf_8 : decode cX5_sortOf 8 = .ok (.iload_n 0, 1) := by decide +kernel
theorem dX5_sortOf_9 : decode cX5_sortOf 9 = .ok (.bipush 114, 2) := by decide +kernel
theorem dX5_sortOf_11 : decode cX5_sortOf 11 = .ok (.if_icmp .ne 5, 3) := by decide +kernel
theorem dX5_sortOf_14 : decode cX5_sortOf 14 = .ok (.iconst 1, 1) := by decide +kernel
theorem dX5_sortOf_15 : decode cX5_sortOf 15 = .ok (.ireturn, 1) := by decide +kernel
theorem dX5_sortOf_16 : decode cX5_sortOf 16 = .ok (.iload_n 0, 1) := by decide +kernel
theorem dX5_sortOf_17 : decode cX5_sortOf 17 = .ok (.bipush 104, 2) := by decide +kernel
theorem dX5_sortOf_19 : decode cX5_sortOf 19 = .ok (.if_icmp .ne 7, 3) := by decide +kernel
theorem dX5_sortOf_22 : decode cX5_sortOf 22 = .ok (.iconst 2, 1) := by decide +kernel
theorem dX5_sortOf_23 : decode cX5_sortOf 23 = .ok (.goto 4, 3) := by decide +kernel
theorem dX5_sortOf_26 : decode cX5_sortOf 26 = .ok (.iconst (-1), 1) := by decide +kernel
theorem dX5_sortOf_27 : decode cX5_sortOf 27 = .ok (.ireturn, 1) := by decide +kernel
theorem dX5_letterOf_0 : decode cX5_letterOf 0 = .ok (.getstatic 77, 3) := by decide +kernel
theorem dX5_letterOf_3 : decode cX5_letterOf 3 = .ok (.iload_n 0, 1) := by decide +kernel
theorem dX5_letterOf_4 : decode cX5_letterOf 4 = .ok (.iaload, 1) := by decide +kernel
theorem dX5_letterOf_5 : decode cX5_letterOf 5 = .ok (.istore_n 2, 1) := by decide +kernel
theorem dX5_letterOf_6 : decode cX5_letterOf 6 = .ok (.iload_n 2, 1) := by decide +kernel
theorem dX5_letterOf_7 : decode cX5_letterOf 7 = .ok (.getstatic 77, 3) := by decide +kernel
theorem dX5_letterOf_10 : decode cX5_letterOf 10 = .ok (.iload_n 0, 1) := by decide +kernel
theorem dX5_letterOf_11 : decode cX5_letterOf 11 = .ok (.iconst 1, 1) := by decide +kernel
theorem dX5_letterOf_12 : decode cX5_letterOf 12 = .ok (.iadd, 1) := by decide +kernel
theorem dX5_letterOf_13 : decode cX5_letterOf 13 = .ok (.iaload, 1) := by decide +kernel
theorem dX5_letterOf_14 : decode cX5_letterOf 14 = .ok (.if_icmp .ge 20, 3) := by decide +kernel
theorem dX5_letterOf_17 : decode cX5_letterOf 17 = .ok (.getstatic 98, 3) := by decide +kernel
theorem dX5_letterOf_20 : decode cX5_letterOf 20 = .ok (.iload_n 2, 1) := by decide +kernel
theorem dX5_letterOf_21 : decode cX5_letterOf 21 = .ok (.caload, 1) := by decide +kernel
theorem dX5_letterOf_22 : decode cX5_letterOf 22 = .ok (.iload_n 1, 1) := by decide +kernel
theorem dX5_letterOf_23 : decode cX5_letterOf 23 = .ok (.if_icmp .ne 5, 3) := by decide +kernel
theorem dX5_letterOf_26 : decode cX5_letterOf 26 = .ok (.iload_n 2, 1) := by decide +kernel
theorem dX5_letterOf_27 : decode cX5_letterOf 27 = .ok (.ireturn, 1) := by decide +kernel
theorem dX5_letterOf_28 : decode cX5_letterOf 28 = .ok (.iinc 2 1, 3) := by decide +kernel
theorem dX5_letterOf_31 : decode cX5_letterOf 31 = .ok (.goto (-25), 3) := by decide +kernel
theorem dX5_letterOf_34 : decode cX5_letterOf 34 = .ok (.iconst (-1), 1) := by decide +kernel
theorem dX5_letterOf_35 : decode cX5_letterOf 35 = .ok (.ireturn, 1) := by decide +kernel
theorem dX5_hasRoomFor_0 : decode cX5_hasRoomFor 0 = .ok (.iload_n 1, 1) := by decide +kernel
theorem dX5_hasRoomFor_1 : decode cX5_hasRoomFor 1 = .ok (.ifCond .ne 16, 3) := by decide +kernel
theorem dX5_hasRoomFor_4 : decode cX5_hasRoomFor 4 = .ok (.aload_n 0, 1) := by decide +kernel
theorem dX5_hasRoomFor_5 : decode cX5_hasRoomFor 5 = .ok (.getfield 22, 3) := by decide +kernel
theorem dX5_hasRoomFor_8 : decode cX5_hasRoomFor 8 = .ok (.ifCond .ne 7, 3) := by decide +kernel
theorem dX5_hasRoomFor_11 : decode cX5_hasRoomFor 11 = .ok (.iconst 1, 1) := by decide +kernel
theorem dX5_hasRoomFor_12 : decode cX5_hasRoomFor 12 = .ok (.goto 4, 3) := by decide +kernel
theorem dX5_hasRoomFor_15 : decode cX5_hasRoomFor 15 = .ok (.iconst 0, 1) := by decide +kernel
theorem dX5_hasRoomFor_16 : decode cX5_hasRoomFor 16 = .ok (.ireturn, 1) := by decide +kernel
theorem dX5_hasRoomFor_17 : decode cX5_hasRoomFor 17 = .ok (.iload_n 1, 1) := by decide +kernel
theorem dX5_hasRoomFor_18 : decode cX5_hasRoomFor 18 = .ok (.iconst 1, 1) := by decide +kernel
theorem dX5_hasRoomFor_19 : decode cX5_hasRoomFor 19 = .ok (.if_icmp .ne 23, 3) := by decide +kernel
theorem dX5_hasRoomFor_22 : decode cX5_hasRoomFor 22 = .ok (.aload_n 0, 1) := by decide +kernel
theorem dX5_hasRoomFor_23 : decode cX5_hasRoomFor 23 = .ok (.getfield 18, 3) := by decide +kernel
theorem dX5_hasRoomFor_26 : decode cX5_hasRoomFor 26 = .ok (.invokevirtual 47, 3) := by decide +kernel
theorem dX5_hasRoomFor_29 : decode cX5_hasRoomFor 29 = .ok (.bipush 9, 2) := by decide +kernel
theorem dX5_hasRoomFor_31 : decode cX5_hasRoomFor 31 = .ok (.if_icmp .ge 7, 3) := by decide +kernel
theorem dX5_hasRoomFor_34 : decode cX5_hasRoomFor 34 = .ok (.iconst 1, 1) := by decide +kernel
theorem dX5_hasRoomFor_35 : decode cX5_hasRoomFor 35 = .ok (.goto 24, 3) := by decide +kernel
theorem dX5_hasRoomFor_38 : decode cX5_hasRoomFor 38 = .ok (.iconst 0, 1) := by decide +kernel
theorem dX5_hasRoomFor_39 : decode cX5_hasRoomFor 39 = .ok (.goto 20, 3) := by decide +kernel
theorem dX5_hasRoomFor_42 : decode cX5_hasRoomFor 42 = .ok (.aload_n 0, 1) := by decide +kernel
theorem dX5_hasRoomFor_43 : decode cX5_hasRoomFor 43 = .ok (.getfield 18, 3) := by decide +kernel
theorem dX5_hasRoomFor_46 : decode cX5_hasRoomFor 46 = .ok (.invokevirtual 50, 3) := by decide +kernel
theorem dX5_hasRoomFor_49 : decode cX5_hasRoomFor 49 = .ok (.bipush 6, 2) := by decide +kernel
theorem dX5_hasRoomFor_51 : decode cX5_hasRoomFor 51 = .ok (.if_icmp .ge 7, 3) := by decide +kernel
theorem dX5_hasRoomFor_54 : decode cX5_hasRoomFor 54 = .ok (.iconst 1, 1) := by decide +kernel
theorem dX5_hasRoomFor_55 : decode cX5_hasRoomFor 55 = .ok (.goto 4, 3) := by decide +kernel
theorem dX5_hasRoomFor_58 : decode cX5_hasRoomFor 58 = .ok (.iconst 0, 1) := by decide +kernel
theorem dX5_hasRoomFor_59 : decode cX5_hasRoomFor 59 = .ok (.ireturn, 1) := by decide +kernel
theorem dX5_addRow_0 : decode cX5_addRow 0 = .ok (.iload_n 1, 1) := by decide +kernel
theorem dX5_addRow_1 : decode cX5_addRow 1 = .ok (.ifCond .ne 10, 3) := by decide +kernel
theorem dX5_addRow_4 : decode cX5_addRow 4 = .ok (.aload_n 0, 1) := by decide +kernel
theorem dX5_addRow_5 : decode cX5_addRow 5 = .ok (.iconst 1, 1) := by decide +kernel
theorem dX5_addRow_6 : decode cX5_addRow 6 = .ok (.putfield 22, 3) := by decide +kernel
theorem dX5_addRow_9 : decode cX5_addRow 9 = .ok (.iconst 0, 1) := by decide +kernel
theorem dX5_addRow_10 : decode cX5_addRow 10 = .ok (.ireturn, 1) := by decide +kernel
theorem dX5_addRow_11 : decode cX5_addRow 11 = .ok (.iload_n 1, 1) := by decide +kernel
theorem dX5_addRow_12 : decode cX5_addRow 12 = .ok (.iconst 1, 1) := by decide +kernel
theorem dX5_addRow_13 : decode cX5_addRow 13 = .ok (.if_icmp .ne 13, 3) := by decide +kernel
theorem dX5_addRow_16 : decode cX5_addRow 16 = .ok (.aload_n 0, 1) := by decide +kernel
theorem dX5_addRow_17 : decode cX5_addRow 17 = .ok (.getfield 18, 3) := by decide +kernel
theorem dX5_addRow_20 : decode cX5_addRow 20 = .ok (.invokevirtual 102, 3) := by decide +kernel
theorem dX5_addRow_23 : decode cX5_addRow 23 = .ok (.goto 10, 3) := by decide +kernel
theorem dX5_addRow_26 : decode cX5_addRow 26 = .ok (.aload_n 0, 1) := by decide +kernel
theorem dX5_addRow_27 : decode cX5_addRow 27 = .ok (.getfield 18, 3) := by decide +kernel
theorem dX5_addRow_30 : decode cX5_addRow 30 = .ok (.invokevirtual 105, 3) := by decide +kernel
theorem dX5_addRow_33 : decode cX5_addRow 33 = .ok (.ireturn, 1) := by decide +kernel
theorem dX5_setAsWithout_0 : decode cX5_setAsWithout 0 = .ok (.getstatic 77, 3) := by decide +kernel
theorem dX5_setAsWithout_3 : decode cX5_setAsWithout 3 = .ok (.iload_n 1, 1) := by decide +kernel
theorem dX5_setAsWithout_4 : decode cX5_setAsWithout 4 = .ok (.iaload, 1) := by decide +kernel
theorem dX5_setAsWithout_5 : decode cX5_setAsWithout 5 = .ok (.istore_n 3, 1) := by decide +kernel
theorem dX5_setAsWithout_6 : decode cX5_setAsWithout 6 = .ok (.iload_n 3, 1) := by decide +kernel
theorem dX5_setAsWithout_7 : decode cX5_setAsWithout 7 = .ok (.istore 4, 2) := by decide +kernel
theorem dX5_setAsWithout_9 : decode cX5_setAsWithout 9 = .ok (.iload 4, 2) := by decide +kernel
theorem dX5_setAsWithout_11 : decode cX5_setAsWithout 11 = .ok (.getstatic 77, 3) := by decide +kernel
theorem dX5_setAsWithout_14 : decode cX5_setAsWithout 14 = .ok (.iload_n 1, 1) := by decide +kernel
theorem dX5_setAsWithout_15 : decode cX5_setAsWithout 15 = .ok (.iconst 1, 1) := by decide +kernel
theorem dX5_setAsWithout_16 : decode cX5_setAsWithout 16 = .ok (.iadd, 1) := by decide +kernel
theorem dX5_setAsWithout_17 : decode cX5_setAsWithout 17 = .ok (.iaload, 1) := by decide +kernel
theorem dX5_setAsWithout_18 : decode cX5_setAsWithout 18 = .ok (.if_icmp .ge 27, 3) := by decide +kernel
theorem dX5_setAsWithout_21 : decode cX5_setAsWithout 21 = .ok (.aload_n 0, 1) := by decide +kernel
theorem dX5_setAsWithout_22 : decode cX5_setAsWithout 22 = .ok (.getfield 18, 3) := by decide +kernel
theorem dX5_setAsWithout_25 : decode cX5_setAsWithout 25 = .ok (.iload_n 2, 1) := by decide +kernel
theorem dX5_setAsWithout_26 : decode cX5_setAsWithout 26 = .ok (.iload 4, 2) := by decide +kernel
theorem dX5_setAsWithout_28 : decode cX5_setAsWithout 28 = .ok (.iload_n 3, 1) := by decide +kernel
theorem dX5_setAsWithout_29 : decode cX5_setAsWithout 29 = .ok (.isub, 1) := by decide +kernel
theorem dX5_setAsWithout_30 : decode cX5_setAsWithout 30 = .ok (.getstatic 108, 3) := by decide +kernel
theorem dX5_setAsWithout_33 : decode cX5_setAsWithout 33 = .ok (.iload 4, 2) := by decide +kernel
theorem dX5_setAsWithout_35 : decode cX5_setAsWithout 35 = .ok (.iaload, 1) := by decide +kernel
theorem dX5_setAsWithout_36 : decode cX5_setAsWithout 36 = .ok (.invokevirtual 94, 3) := by decide +kernel
theorem dX5_setAsWithout_39 : decode cX5_setAsWithout 39 = .ok (.iinc 4 1, 3) := by decide +kernel
theorem dX5_setAsWithout_42 : decode cX5_setAsWithout 42 = .ok (.goto (-33), 3) := by decide +kernel
theorem dX5_setAsWithout_45 : decode cX5_setAsWithout 45 = .ok (.return_, 1) := by decide +kernel
theorem dX5_draft_0 : decode cX5_draft 0 = .ok (.aload_n 0, 1) := by decide +kernel
theorem dX5_draft_1 : decode cX5_draft 1 = .ok (.getfield 18, 3) := by decide +kernel
theorem dX5_draft_4 : decode cX5_draft 4 = .ok (.areturn, 1) := by decide +kernel
theorem dX2_draft_0 : decode cX2_draft 0 = .ok (.aload_n 0, 1) := by decide +kernel
theorem dX2_draft_1 : decode cX2_draft 1 = .ok (.getfield 18, 3) := by decide +kernel
theorem dX2_draft_4 : decode cX2_draft 4 = .ok (.areturn, 1) := by decide +kernel
