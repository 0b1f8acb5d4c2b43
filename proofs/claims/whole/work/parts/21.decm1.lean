theorem dX12_count_0 : decode cX12_count 0 = .ok (.iload_n 1, 1) := by decide +kernel
theorem dX12_count_1 : decode cX12_count 1 = .ok (.tableswitch 170 0 13 #[71, 76, 81, 86, 91, 96, 104, 112, 122, 133, 144, 152, 157, 165], 71) := by decide +kernel
theorem dX12_count_72 : decode cX12_count 72 = .ok (.aload_n 0, 1) := by decide +kernel
theorem dX12_count_73 : decode cX12_count 73 = .ok (.getfield 256, 3) := by decide +kernel
theorem dX12_count_76 : decode cX12_count 76 = .ok (.ireturn, 1) := by decide +kernel
theorem dX12_count_77 : decode cX12_count 77 = .ok (.aload_n 0, 1) := by decide +kernel
theorem dX12_count_78 : decode cX12_count 78 = .ok (.getfield 259, 3) := by decide +kernel
theorem dX12_count_81 : decode cX12_count 81 = .ok (.ireturn, 1) := by decide +kernel
theorem dX12_count_82 : decode cX12_count 82 = .ok (.aload_n 0, 1) := by decide +kernel
theorem dX12_count_83 : decode cX12_count 83 = .ok (.getfield 284, 3) := by decide +kernel
theorem dX12_count_86 : decode cX12_count 86 = .ok (.ireturn, 1) := by decide +kernel
theorem dX12_count_87 : decode cX12_count 87 = .ok (.aload_n 0, 1) := by decide +kernel
theorem dX12_count_88 : decode cX12_count 88 = .ok (.getfield 104, 3) := by decide +kernel
theorem dX12_count_91 : decode cX12_count 91 = .ok (.ireturn, 1) := by decide +kernel
theorem dX12_count_92 : decode cX12_count 92 = .ok (.aload_n 0, 1) := by decide +kernel
theorem dX12_count_93 : decode cX12_count 93 = .ok (.getfield 64, 3) := by decide +kernel
theorem dX12_count_96 : decode cX12_count 96 = .ok (.ireturn, 1) := by decide +kernel
theorem dX12_count_97 : decode cX12_count 97 = .ok (.aload_n 0, 1) := by decide +kernel
theorem dX12_count_98 : decode cX12_count 98 = .ok (.getfield 58, 3) := by decide +kernel
theorem dX12_count_101 : decode cX12_count 101 = .ok (.bipush 32, 2) := by decide +kernel
theorem dX12_count_103 : decode cX12_count 103 = .ok (.iaload, 1) := by decide +kernel
theorem dX12_count_104 : decode cX12_count 104 = .ok (.ireturn, 1) := by decide +kernel
theorem dX12_count_105 : decode cX12_count 105 = .ok (.aload_n 0, 1) := by decide +kernel
theorem dX12_count_106 : decode cX12_count 106 = .ok (.getfield 58, 3) := by decide +kernel
theorem dX12_count_109 : decode cX12_count 109 = .ok (.bipush 30, 2) := by decide +kernel
theorem dX12_count_111 : decode cX12_count 111 = .ok (.iaload, 1) := by decide +kernel
theorem dX12_count_112 : decode cX12_count 112 = .ok (.ireturn, 1) := by decide +kernel
theorem dX12_count_113 : decode cX12_count 113 = .ok (.aload_n 0, 1) := by decide +kernel
theorem dX12_count_114 : decode cX12_count 114 = .ok (.iconst 0, 1) := by decide +kernel
theorem dX12_count_115 : decode cX12_count 115 = .ok (.aload_n 0, 1) := by decide +kernel
theorem dX12_count_116 : decode cX12_count 116 = .ok (.getfield 256, 3) := by decide +kernel
theorem dX12_count_119 : decode cX12_count 119 = .ok (.invokevirtual 333, 3) := by decide +kernel
theorem dX12_count_122 : decode cX12_count 122 = .ok (.ireturn, 1) := by decide +kernel
theorem dX12_count_123 : decode cX12_count 123 = .ok (.aload_n 0, 1) := by decide +kernel
theorem dX12_count_124 : decode cX12_count 124 = .ok (.bipush 18, 2) := by decide +kernel
theorem dX12_count_126 : decode cX12_count 126 = .ok (.aload_n 0, 1) := by decide +kernel
theorem dX12_count_127 : decode cX12_count 127 = .ok (.getfield 259, 3) := by decide +kernel
theorem dX12_count_130 : decode cX12_count 130 = .ok (.invokevirtual 333, 3) := by decide +kernel
theorem dX12_count_133 : decode cX12_count 133 = .ok (.ireturn, 1) := by decide +kernel
theorem dX12_count_134 : decode cX12_count 134 = .ok (.aload_n 0, 1) := by decide +kernel
theorem dX12_count_135 : decode cX12_count 135 = .ok (.bipush 24, 2) := by decide +kernel
theorem dX12_count_137 : decode cX12_count 137 = .ok (.aload_n 0, 1) := by decide +kernel
theorem dX12_count_138 : decode cX12_count 138 = .ok (.getfield 259, 3) := by decide +kernel
theorem dX12_count_141 : decode cX12_count 141 = .ok (.invokevirtual 333, 3) := by decide +kernel
theorem dX12_count_144 : decode cX12_count 144 = .ok (.ireturn, 1) := by decide +kernel
theorem dX12_count_145 : decode cX12_count 145 = .ok (.aload_n 0, 1) := by decide +kernel
theorem dX12_count_146 : decode cX12_count 146 = .ok (.getfield 58, 3) := by decide +kernel
theorem dX12_count_149 : decode cX12_count 149 = .ok (.bipush 31, 2) := by decide +kernel
theorem dX12_count_151 : decode cX12_count 151 = .ok (.iaload, 1) := by decide +kernel
theorem dX12_count_152 : decode cX12_count 152 = .ok (.ireturn, 1) := by decide +kernel
theorem dX12_count_153 : decode cX12_count 153 = .ok (.aload_n 0, 1) := by decide +kernel
theorem dX12_count_154 : decode cX12_count 154 = .ok (.getfield 268, 3) := by decide +kernel
theorem dX12_count_157 : decode cX12_count 157 = .ok (.ireturn, 1) := by decide +kernel
theorem dX12_count_158 : decode cX12_count 158 = .ok (.aload_n 0, 1) := by decide +kernel
theorem dX12_count_159 : decode cX12_count 159 = .ok (.getfield 58, 3) := by decide +kernel
theorem dX12_count_162 : decode cX12_count 162 = .ok (.bipush 33, 2) := by decide +kernel
theorem dX12_count_164 : decode cX12_count 164 = .ok (.iaload, 1) := by decide +kernel
theorem dX12_count_165 : decode cX12_count 165 = .ok (.ireturn, 1) := by decide +kernel
theorem dX12_count_166 : decode cX12_count 166 = .ok (.aload_n 0, 1) := by decide +kernel
theorem dX12_count_167 : decode cX12_count 167 = .ok (.getfield 271, 3) := by decide +kernel
theorem dX12_count_170 : decode cX12_count 170 = .ok (.ireturn, 1) := by decide +kernel
theorem dX12_count_171 : decode cX12_count 171 = .ok (.ldc_w 382, 3) := by decide +kernel
theorem dX12_count_174 : decode cX12_count 174 = .ok (.ireturn, 1) := by decide +kernel
theorem dX12_reachedBut_0 : decode cX12_reachedBut 0 = .ok (.iconst 1, 1) := by decide +kernel
theorem dX12_reachedBut_1 : decode cX12_reachedBut 1 = .ok (.istore_n 2, 1) := by decide +kernel
theorem dX12_reachedBut_2 : decode cX12_reachedBut 2 = .ok (.iconst 0, 1) := by decide +kernel
theorem dX12_reachedBut_3 : decode cX12_reachedBut 3 = .ok (.istore_n 3, 1) := by decide +kernel
theorem dX12_reachedBut_4 : decode cX12_reachedBut 4 = .ok (.iload_n 3, 1) := by decide +kernel
theorem dX12_reachedBut_5 : decode cX12_reachedBut 5 = .ok (.bipush 8, 2) := by decide +kernel
theorem dX12_reachedBut_7 : decode cX12_reachedBut 7 = .ok (.if_icmp .ge 83, 3) := by decide +kernel
theorem dX12_reachedBut_10 : decode cX12_reachedBut 10 = .ok (.iconst 0, 1) := by decide +kernel
theorem dX12_reachedBut_11 : decode cX12_reachedBut 11 = .ok (.istore 4, 2) := by decide +kernel
theorem dX12_reachedBut_13 : decode cX12_reachedBut 13 = .ok (.iload 4, 2) := by decide +kernel
theorem dX12_reachedBut_15 : decode cX12_reachedBut 15 = .ok (.aload_n 0, 1) := by decide +kernel
theorem dX12_reachedBut_16 : decode cX12_reachedBut 16 = .ok (.getfield 256, 3) := by decide +kernel
theorem dX12_reachedBut_19 : decode cX12_reachedBut 19 = .ok (.if_icmp .ge 65, 3) := by decide +kernel
theorem dX12_reachedBut_22 : decode cX12_reachedBut 22 = .ok (.iload 4, 2) := by decide +kernel
theorem dX12_reachedBut_24 : decode cX12_reachedBut 24 = .ok (.iload_n 1, 1) := by decide +kernel
theorem dX12_reachedBut_25 : decode cX12_reachedBut 25 = .ok (.if_icmp .eq 53, 3) := by decide +kernel
theorem dX12_reachedBut_28 : decode cX12_reachedBut 28 = .ok (.iload_n 2, 1) := by decide +kernel
theorem dX12_reachedBut_29 : decode cX12_reachedBut 29 = .ok (.aload_n 0, 1) := by decide +kernel
theorem dX12_reachedBut_30 : decode cX12_reachedBut 30 = .ok (.iload 4, 2) := by decide +kernel
theorem dX12_reachedBut_32 : decode cX12_reachedBut 32 = .ok (.iconst 0, 1) := by decide +kernel
theorem dX12_reachedBut_33 : decode cX12_reachedBut 33 = .ok (.invokevirtual 262, 3) := by decide +kernel
theorem dX12_reachedBut_36 : decode cX12_reachedBut 36 = .ok (.invokestatic 223, 3) := by decide +kernel
theorem dX12_reachedBut_39 : decode cX12_reachedBut 39 = .ok (.ifCond .ne 17, 3) := by decide +kernel
theorem dX12_reachedBut_42 : decode cX12_reachedBut 42 = .ok (.iload_n 2, 1) := by decide +kernel
theorem dX12_reachedBut_43 : decode cX12_reachedBut 43 = .ok (.aload_n 0, 1) := by decide +kernel
theorem dX12_reachedBut_44 : decode cX12_reachedBut 44 = .ok (.iload 4, 2) := by decide +kernel
theorem dX12_reachedBut_46 : decode cX12_reachedBut 46 = .ok (.iconst 1, 1) := by decide +kernel
theorem dX12_reachedBut_47 : decode cX12_reachedBut 47 = .ok (.invokevirtual 262, 3) := by decide +kernel
theorem dX12_reachedBut_50 : decode cX12_reachedBut 50 = .ok (.invokestatic 223, 3) := by decide +kernel
theorem dX12_reachedBut_53 : decode cX12_reachedBut 53 = .ok (.ifCond .eq 25, 3) := by decide +kernel
theorem dX12_reachedBut_56 : decode cX12_reachedBut 56 = .ok (.iload_n 2, 1) := by decide +kernel
theorem dX12_reachedBut_57 : decode cX12_reachedBut 57 = .ok (.iconst 1, 1) := by decide +kernel
theorem dX12_reachedBut_58 : decode cX12_reachedBut 58 = .ok (.aload_n 0, 1) := by decide +kernel
theorem dX12_reachedBut_59 : decode cX12_reachedBut 59 = .ok (.iload 4, 2) := by decide +kernel
theorem dX12_reachedBut_61 : decode cX12_reachedBut 61 = .ok (.iconst 0, 1) := by decide +kernel
theorem dX12_reachedBut_62 : decode cX12_reachedBut 62 = .ok (.invokevirtual 262, 3) := by decide +kernel
theorem dX12_reachedBut_65 : decode cX12_reachedBut 65 = .ok (.ishl, 1) := by decide +kernel
theorem dX12_reachedBut_66 : decode cX12_reachedBut 66 = .ok (.iconst 1, 1) := by decide +kernel
theorem dX12_reachedBut_67 : decode cX12_reachedBut 67 = .ok (.aload_n 0, 1) := by decide +kernel
theorem dX12_reachedBut_68 : decode cX12_reachedBut 68 = .ok (.iload 4, 2) := by decide +kernel
theorem dX12_reachedBut_70 : decode cX12_reachedBut 70 = .ok (.iconst 1, 1) := by decide +kernel
theorem dX12_reachedBut_71 : decode cX12_reachedBut 71 = .ok (.invokevirtual 262, 3) := by decide +kernel
theorem dX12_reachedBut_74 : decode cX12_reachedBut 74 = .ok (.ishl, 1) := by decide +kernel
theorem dX12_reachedBut_75 : decode cX12_reachedBut 75 = .ok (.ior, 1) := by decide +kernel
theorem dX12_reachedBut_76 : decode cX12_reachedBut 76 = .ok (.ior, 1) := by decide +kernel
theorem dX12_reachedBut_77 : decode cX12_reachedBut 77 = .ok (.istore_n 2, 1) := by decide +kernel
theorem dX12_reachedBut_78 : decode cX12_reachedBut 78 = .ok (.iinc 4 1, 3) := by decide +kernel
theorem dX12_reachedBut_81 : decode cX12_reachedBut 81 = .ok (.goto (-68), 3) := by decide +kernel
theorem dX12_reachedBut_84 : decode cX12_reachedBut 84 = .ok (.iinc 3 1, 3) := by decide +kernel
theorem dX12_reachedBut_87 : decode cX12_reachedBut 87 = .ok (.goto (-83), 3) := by decide +kernel
theorem dX12_reachedBut_90 : decode cX12_reachedBut 90 = .ok (.iload_n 2, 1) := by decide +kernel
theorem dX12_reachedBut_91 : decode cX12_reachedBut 91 = .ok (.ireturn, 1) := by decide +kernel
theorem dX12_cut_0 : decode cX12_cut 0 = .ok (.aload_n 0, 1) := by decide +kernel
theorem dX12_cut_1 : decode cX12_cut 1 = .ok (.getfield 256, 3) := by decide +kernel
theorem dX12_cut_4 : decode cX12_cut 4 = .ok (.ifCond .ne 5, 3) := by decide +kernel
theorem dX12_cut_7 : decode cX12_cut 7 = .ok (.iconst (-1), 1) := by decide +kernel
theorem dX12_cut_8 : decode cX12_cut 8 = .ok (.ireturn, 1) := by decide +kernel
theorem dX12_cut_9 : decode cX12_cut 9 = .ok (.iconst 0, 1) := by decide +kernel
theorem dX12_cut_10 : decode cX12_cut 10 = .ok (.istore_n 1, 1) := by decide +kernel
theorem dX12_cut_11 : decode cX12_cut 11 = .ok (.iconst 0, 1) := by decide +kernel
theorem dX12_cut_12 : decode cX12_cut 12 = .ok (.istore_n 2, 1) := by decide +kernel
theorem dX12_cut_13 : decode cX12_cut 13 = .ok (.iload_n 2, 1) := by decide +kernel
theorem dX12_cut_14 : decode cX12_cut 14 = .ok (.aload_n 0, 1) := by decide +kernel
theorem dX12_cut_15 : decode cX12_cut 15 = .ok (.getfield 256, 3) := by decide +kernel
theorem dX12_cut_18 : decode cX12_cut 18 = .ok (.if_icmp .ge 32, 3) := by decide +kernel
theorem dX12_cut_21 : decode cX12_cut 21 = .ok (.iload_n 1, 1) := by decide +kernel
theorem dX12_cut_22 : decode cX12_cut 22 = .ok (.aload_n 0, 1) := by decide +kernel
theorem dX12_cut_23 : decode cX12_cut 23 = .ok (.iload_n 2, 1) := by decide +kernel
theorem dX12_cut_24 : decode cX12_cut 24 = .ok (.invokevirtual 423, 3) := by decide +kernel
theorem dX12_cut_27 : decode cX12_cut 27 = .ok (.aload_n 0, 1) := by decide +kernel
theorem dX12_cut_28 : decode cX12_cut 28 = .ok (.iconst (-1), 1) := by decide +kernel
theorem dX12_cut_29 : decode cX12_cut 29 = .ok (.invokevirtual 423, 3) := by decide +kernel
theorem dX12_cut_32 : decode cX12_cut 32 = .ok (.if_icmp .eq 9, 3) := by decide +kernel
theorem dX12_cut_35 : decode cX12_cut 35 = .ok (.iconst 1, 1) := by decide +kernel
theorem dX12_cut_36 : decode cX12_cut 36 = .ok (.iload_n 2, 1) := by decide +kernel
theorem dX12_cut_37 : decode cX12_cut 37 = .ok (.ishl, 1) := by decide +kernel
theorem dX12_cut_38 : decode cX12_cut 38 = .ok (.goto 4, 3) := by decide +kernel
theorem dX12_cut_41 : decode cX12_cut 41 = .ok (.iconst 0, 1) := by decide +kernel
theorem dX12_cut_42 : decode cX12_cut 42 = .ok (.ior, 1) := by decide +kernel
theorem dX12_cut_43 : decode cX12_cut 43 = .ok (.istore_n 1, 1) := by decide +kernel
theorem dX12_cut_44 : decode cX12_cut 44 = .ok (.iinc 2 1, 3) := by decide +kernel
theorem dX12_cut_47 : decode cX12_cut 47 = .ok (.goto (-34), 3) := by decide +kernel
theorem dX12_cut_50 : decode cX12_cut 50 = .ok (.iload_n 1, 1) := by decide +kernel
theorem dX12_cut_51 : decode cX12_cut 51 = .ok (.ireturn, 1) := by decide +kernel
theorem dX12_isRefused_0 : decode cX12_isRefused 0 = .ok (.iload_n 1, 1) := by decide +kernel
theorem dX12_isRefused_1 : decode cX12_isRefused 1 = .ok (.iconst (-1), 1) := by decide +kernel
theorem dX12_isRefused_2 : decode cX12_isRefused 2 = .ok (.if_icmp .eq 13, 3) := by decide +kernel
theorem dX12_isRefused_5 : decode cX12_isRefused 5 = .ok (.aload_n 0, 1) := by decide +kernel
theorem dX12_isRefused_6 : decode cX12_isRefused 6 = .ok (.getfield 61, 3) := by decide +kernel
theorem dX12_isRefused_9 : decode cX12_isRefused 9 = .ok (.iload_n 1, 1) := by decide +kernel
theorem dX12_isRefused_10 : decode cX12_isRefused 10 = .ok (.dup2, 1) := by decide +kernel
theorem dX12_isRefused_11 : decode cX12_isRefused 11 = .ok (.iaload, 1) := by decide +kernel
theorem dX12_isRefused_12 : decode cX12_isRefused 12 = .ok (.iconst 1, 1) := by decide +kernel
theorem dX12_isRefused_13 : decode cX12_isRefused 13 = .ok (.iadd, 1) := by decide +kernel
theorem dX12_isRefused_14 : decode cX12_isRefused 14 = .ok (.iastore, 1) := by decide +kernel
theorem dX12_isRefused_15 : decode cX12_isRefused 15 = .ok (.iload_n 1, 1) := by decide +kernel
theorem dX12_isRefused_16 : decode cX12_isRefused 16 = .ok (.iconst (-1), 1) := by decide +kernel
theorem dX12_isRefused_17 : decode cX12_isRefused 17 = .ok (.if_icmp .eq 7, 3) := by decide +kernel
theorem dX12_isRefused_20 : decode cX12_isRefused 20 = .ok (.iconst 1, 1) := by decide +kernel
theorem dX12_isRefused_21 : decode cX12_isRefused 21 = .ok (.goto 4, 3) := by decide +kernel
theorem dX12_isRefused_24 : decode cX12_isRefused 24 = .ok (.iconst 0, 1) := by decide +kernel
theorem dX12_isRefused_25 : decode cX12_isRefused 25 = .ok (.ireturn, 1) := by decide +kernel
theorem dX12_keep_0 : decode cX12_keep 0 = .ok (.aload_n 0, 1) := by decide +kernel
theorem dX12_keep_1 : decode cX12_keep 1 = .ok (.getfield 271, 3) := by decide +kernel
theorem dX12_keep_4 : decode cX12_keep 4 = .ok (.bipush 40, 2) := by decide +kernel
theorem dX12_keep_6 : decode cX12_keep 6 = .ok (.if_icmp .ne 46, 3) := by decide +kernel
theorem dX12_keep_9 : decode cX12_keep 9 = .ok (.sipush 214, 3) := by decide +kernel
theorem dX12_keep_12 : decode cX12_keep 12 = .ok (.istore_n 1, 1) := by decide +kernel
theorem dX12_keep_13 : decode cX12_keep 13 = .ok (.iload_n 1, 1) := by decide +kernel
theorem dX12_keep_14 : decode cX12_keep 14 = .ok (.sipush 8560, 3) := by decide +kernel
theorem dX12_keep_17 : decode cX12_keep 17 = .ok (.if_icmp .ge 25, 3) := by decide +kernel
theorem dX12_keep_20 : decode cX12_keep 20 = .ok (.aload_n 0, 1) := by decide +kernel
theorem dX12_keep_21 : decode cX12_keep 21 = .ok (.getfield 71, 3) := by decide +kernel
theorem dX12_keep_24 : decode cX12_keep 24 = .ok (.iload_n 1, 1) := by decide +kernel
theorem dX12_keep_25 : decode cX12_keep 25 = .ok (.sipush 214, 3) := by decide +kernel
theorem dX12_keep_28 : decode cX12_keep 28 = .ok (.isub, 1) := by decide +kernel
theorem dX12_keep_29 : decode cX12_keep 29 = .ok (.aload_n 0, 1) := by decide +kernel
theorem dX12_keep_30 : decode cX12_keep 30 = .ok (.getfield 71, 3) := by decide +kernel
theorem dX12_keep_33 : decode cX12_keep 33 = .ok (.iload_n 1, 1) := by decide +kernel
theorem dX12_keep_34 : decode cX12_keep 34 = .ok (.iaload, 1) := by decide +kernel
theorem dX12_keep_35 : decode cX12_keep 35 = .ok (.iastore, 1) := by decide +kernel
theorem dX12_keep_36 : decode cX12_keep 36 = .ok (.iinc 1 1, 3) := by decide +kernel
theorem dX12_keep_39 : decode cX12_keep 39 = .ok (.goto (-26), 3) := by decide +kernel
theorem dX12_keep_42 : decode cX12_keep 42 = .ok (.aload_n 0, 1) := by decide +kernel
theorem dX12_keep_43 : decode cX12_keep 43 = .ok (.dup, 1) := by decide +kernel
theorem dX12_keep_44 : decode cX12_keep 44 = .ok (.getfield 271, 3) := by decide +kernel
theorem dX12_keep_47 : decode cX12_keep 47 = .ok (.iconst 1, 1) := by decide +kernel
theorem dX12_keep_48 : decode cX12_keep 48 = .ok (.isub, 1) := by decide +kernel
theorem dX12_keep_49 : decode cX12_keep 49 = .ok (.putfield 271, 3) := by decide +kernel
theorem dX12_keep_52 : decode cX12_keep 52 = .ok (.iconst 0, 1) := by decide +kernel
theorem dX12_keep_53 : decode cX12_keep 53 = .ok (.istore_n 1, 1) := by decide +kernel
theorem dX12_keep_54 : decode cX12_keep 54 = .ok (.iload_n 1, 1) := by decide +kernel
theorem dX12_keep_55 : decode cX12_keep 55 = .ok (.sipush 214, 3) := by decide +kernel
theorem dX12_keep_58 : decode cX12_keep 58 = .ok (.if_icmp .ge 30, 3) := by decide +kernel
theorem dX12_keep_61 : decode cX12_keep 61 = .ok (.aload_n 0, 1) := by decide +kernel
theorem dX12_keep_62 : decode cX12_keep 62 = .ok (.getfield 71, 3) := by decide +kernel
theorem dX12_keep_65 : decode cX12_keep 65 = .ok (.sipush 214, 3) := by decide +kernel
theorem dX12_keep_68 : decode cX12_keep 68 = .ok (.aload_n 0, 1) := by decide +kernel
theorem dX12_keep_69 : decode cX12_keep 69 = .ok (.getfield 271, 3) := by decide +kernel
theorem dX12_keep_72 : decode cX12_keep 72 = .ok (.imul, 1) := by decide +kernel
theorem dX12_keep_73 : decode cX12_keep 73 = .ok (.iload_n 1, 1) := by decide +kernel
theorem dX12_keep_74 : decode cX12_keep 74 = .ok (.iadd, 1) := by decide +kernel
theorem dX12_keep_75 : decode cX12_keep 75 = .ok (.aload_n 0, 1) := by decide +kernel
theorem dX12_keep_76 : decode cX12_keep 76 = .ok (.getfield 58, 3) := by decide +kernel
theorem dX12_keep_79 : decode cX12_keep 79 = .ok (.iload_n 1, 1) := by decide +kernel
theorem dX12_keep_80 : decode cX12_keep 80 = .ok (.iaload, 1) := by decide +kernel
theorem dX12_keep_81 : decode cX12_keep 81 = .ok (.iastore, 1) := by decide +kernel
theorem dX12_keep_82 : decode cX12_keep 82 = .ok (.iinc 1 1, 3) := by decide +kernel
theorem dX12_keep_85 : decode cX12_keep 85 = .ok (.goto (-31), 3) := by decide +kernel
theorem dX12_keep_88 : decode cX12_keep 88 = .ok (.aload_n 0, 1) := by decide +kernel
theorem dX12_keep_89 : decode cX12_keep 89 = .ok (.dup, 1) := by decide +kernel
theorem dX12_keep_90 : decode cX12_keep 90 = .ok (.getfield 271, 3) := by decide +kernel
theorem dX12_keep_93 : decode cX12_keep 93 = .ok (.iconst 1, 1) := by decide +kernel
theorem dX12_keep_94 : decode cX12_keep 94 = .ok (.iadd, 1) := by decide +kernel
theorem dX12_keep_95 : decode cX12_keep 95 = .ok (.putfield 271, 3) := by decide +kernel
theorem dX12_keep_98 : decode cX12_keep 98 = .ok (.return_, 1) := by decide +kernel
theorem dX12_isAt_0 : decode cX12_isAt 0 = .ok (.aload_n 0, 1) := by decide +kernel
theorem dX12_isAt_1 : decode cX12_isAt 1 = .ok (.iload_n 1, 1) := by decide +kernel
theorem dX12_isAt_2 : decode cX12_isAt 2 = .ok (.iconst 0, 1) := by decide +kernel
theorem dX12_isAt_3 : decode cX12_isAt 3 = .ok (.invokevirtual 262, 3) := by decide +kernel
theorem dX12_isAt_6 : decode cX12_isAt 6 = .ok (.iload_n 2, 1) := by decide +kernel
theorem dX12_isAt_7 : decode cX12_isAt 7 = .ok (.if_icmp .eq 13, 3) := by decide +kernel
theorem dX12_isAt_10 : decode cX12_isAt 10 = .ok (.aload_n 0, 1) := by decide +kernel
theorem dX12_isAt_11 : decode cX12_isAt 11 = .ok (.iload_n 1, 1) := by decide +kernel
theorem dX12_isAt_12 : decode cX12_isAt 12 = .ok (.iconst 1, 1) := by decide +kernel
theorem dX12_isAt_13 : decode cX12_isAt 13 = .ok (.invokevirtual 262, 3) := by decide +kernel
theorem dX12_isAt_16 : decode cX12_isAt 16 = .ok (.iload_n 2, 1) := by decide +kernel
theorem dX12_isAt_17 : decode cX12_isAt 17 = .ok (.if_icmp .ne 7, 3) := by decide +kernel
theorem dX12_isAt_20 : decode cX12_isAt 20 = .ok (.iconst 1, 1) := by decide +kernel
theorem dX12_isAt_21 : decode cX12_isAt 21 = .ok (.goto 4, 3) := by decide +kernel
theorem dX12_isAt_24 : decode cX12_isAt 24 = .ok (.iconst 0, 1) := by decide +kernel
theorem dX12_isAt_25 : decode cX12_isAt 25 = .ok (.ireturn, 1) := by decide +kernel
theorem dX12_ditch_0 : decode cX12_ditch 0 = .ok (.aload_n 0, 1) := by decide +kernel
theorem dX12_ditch_1 : decode cX12_ditch 1 = .ok (.aload_n 0, 1) := by decide +kernel
theorem dX12_ditch_2 : decode cX12_ditch 2 = .ok (.iload_n 1, 1) := by decide +kernel
theorem dX12_ditch_3 : decode cX12_ditch 3 = .ok (.invokevirtual 305, 3) := by decide +kernel
theorem dX12_ditch_6 : decode cX12_ditch 6 = .ok (.ifCond .ne 7, 3) := by decide +kernel
theorem dX12_ditch_9 : decode cX12_ditch 9 = .ok (.iconst 0, 1) := by decide +kernel
theorem dX12_ditch_10 : decode cX12_ditch 10 = .ok (.goto 31, 3) := by decide +kernel
theorem dX12_ditch_13 : decode cX12_ditch 13 = .ok (.aload_n 0, 1) := by decide +kernel
theorem dX12_ditch_14 : decode cX12_ditch 14 = .ok (.getfield 58, 3) := by decide +kernel
theorem dX12_ditch_17 : decode cX12_ditch 17 = .ok (.bipush 30, 2) := by decide +kernel
theorem dX12_ditch_19 : decode cX12_ditch 19 = .ok (.iaload, 1) := by decide +kernel
theorem dX12_ditch_20 : decode cX12_ditch 20 = .ok (.iconst 2, 1) := by decide +kernel
theorem dX12_ditch_21 : decode cX12_ditch 21 = .ok (.if_icmp .lt 15, 3) := by decide +kernel
theorem dX12_ditch_24 : decode cX12_ditch 24 = .ok (.aload_n 0, 1) := by decide +kernel
theorem dX12_ditch_25 : decode cX12_ditch 25 = .ok (.getfield 58, 3) := by decide +kernel
theorem dX12_ditch_28 : decode cX12_ditch 28 = .ok (.bipush 9, 2) := by decide +kernel
theorem dX12_ditch_30 : decode cX12_ditch 30 = .ok (.iload_n 1, 1) := by decide +kernel
theorem dX12_ditch_31 : decode cX12_ditch 31 = .ok (.iadd, 1) := by decide +kernel
theorem dX12_ditch_32 : decode cX12_ditch 32 = .ok (.iaload, 1) := by decide +kernel
theorem dX12_ditch_33 : decode cX12_ditch 33 = .ok (.ifCond .ne 7, 3) := by decide +kernel
theorem dX12_ditch_36 : decode cX12_ditch 36 = .ok (.iconst 3, 1) := by decide +kernel
theorem dX12_ditch_37 : decode cX12_ditch 37 = .ok (.goto 4, 3) := by decide +kernel
theorem dX12_ditch_40 : decode cX12_ditch 40 = .ok (.iconst (-1), 1) := by decide +kernel
theorem dX12_ditch_41 : decode cX12_ditch 41 = .ok (.invokevirtual 317, 3) := by decide +kernel
theorem dX12_ditch_44 : decode cX12_ditch 44 = .ok (.ifCond .eq 5, 3) := by decide +kernel
theorem dX12_ditch_47 : decode cX12_ditch 47 = .ok (.iconst (-1), 1) := by decide +kernel
theorem dX12_ditch_48 : decode cX12_ditch 48 = .ok (.ireturn, 1) := by decide +kernel
theorem dX12_ditch_49 : decode cX12_ditch 49 = .ok (.aload_n 0, 1) := by decide +kernel
theorem dX12_ditch_50 : decode cX12_ditch 50 = .ok (.invokevirtual 320, 3) := by decide +kernel
theorem dX12_ditch_53 : decode cX12_ditch 53 = .ok (.aload_n 0, 1) := by decide +kernel
theorem dX12_ditch_54 : decode cX12_ditch 54 = .ok (.getfield 58, 3) := by decide +kernel
theorem dX12_ditch_57 : decode cX12_ditch 57 = .ok (.bipush 30, 2) := by decide +kernel
theorem dX12_ditch_59 : decode cX12_ditch 59 = .ok (.dup2, 1) := by decide +kernel
theorem dX12_ditch_60 : decode cX12_ditch 60 = .ok (.iaload, 1) := by decide +kernel
theorem dX12_ditch_61 : decode cX12_ditch 61 = .ok (.iconst 2, 1) := by decide +kernel
theorem dX12_ditch_62 : decode cX12_ditch 62 = .ok (.isub, 1) := by decide +kernel
theorem dX12_ditch_63 : decode cX12_ditch 63 = .ok (.iastore, 1) := by decide +kernel
theorem dX12_ditch_64 : decode cX12_ditch 64 = .ok (.aload_n 0, 1) := by decide +kernel
theorem dX12_ditch_65 : decode cX12_ditch 65 = .ok (.getfield 58, 3) := by decide +kernel
theorem dX12_ditch_68 : decode cX12_ditch 68 = .ok (.bipush 9, 2) := by decide +kernel
theorem dX12_ditch_70 : decode cX12_ditch 70 = .ok (.iload_n 1, 1) := by decide +kernel
theorem dX12_ditch_71 : decode cX12_ditch 71 = .ok (.iadd, 1) := by decide +kernel
theorem dX12_ditch_72 : decode cX12_ditch 72 = .ok (.dup2, 1) := by decide +kernel
theorem dX12_ditch_73 : decode cX12_ditch 73 = .ok (.iaload, 1) := by decide +kernel
theorem dX12_ditch_74 : decode cX12_ditch 74 = .ok (.iconst 1, 1) := by decide +kernel
theorem dX12_ditch_75 : decode cX12_ditch 75 = .ok (.isub, 1) := by decide +kernel
theorem dX12_ditch_76 : decode cX12_ditch 76 = .ok (.iastore, 1) := by decide +kernel
theorem dX12_ditch_77 : decode cX12_ditch 77 = .ok (.iconst 0, 1) := by decide +kernel
theorem dX12_ditch_78 : decode cX12_ditch 78 = .ok (.istore_n 2, 1) := by decide +kernel
theorem dX12_ditch_79 : decode cX12_ditch 79 = .ok (.iload_n 2, 1) := by decide +kernel
theorem dX12_ditch_80 : decode cX12_ditch 80 = .ok (.aload_n 0, 1) := by decide +kernel
theorem dX12_ditch_81 : decode cX12_ditch 81 = .ok (.getfield 256, 3) := by decide +kernel
theorem dX12_ditch_84 : decode cX12_ditch 84 = .ok (.if_icmp .ge 53, 3) := by decide +kernel
theorem dX12_ditch_87 : decode cX12_ditch 87 = .ok (.iload_n 2, 1) := by decide +kernel
theorem dX12_ditch_88 : decode cX12_ditch 88 = .ok (.iload_n 1, 1) := by decide +kernel
theorem dX12_ditch_89 : decode cX12_ditch 89 = .ok (.if_icmp .eq 42, 3) := by decide +kernel
theorem dX12_ditch_92 : decode cX12_ditch 92 = .ok (.aload_n 0, 1) := by decide +kernel
theorem dX12_ditch_93 : decode cX12_ditch 93 = .ok (.iload_n 2, 1) := by decide +kernel
theorem dX12_ditch_94 : decode cX12_ditch 94 = .ok (.aload_n 0, 1) := by decide +kernel
theorem dX12_ditch_95 : decode cX12_ditch 95 = .ok (.iload_n 1, 1) := by decide +kernel
theorem dX12_ditch_96 : decode cX12_ditch 96 = .ok (.iconst 1, 1) := by decide +kernel
theorem dX12_ditch_97 : decode cX12_ditch 97 = .ok (.invokevirtual 262, 3) := by decide +kernel
theorem dX12_ditch_100 : decode cX12_ditch 100 = .ok (.invokevirtual 327, 3) := by decide +kernel
theorem dX12_ditch_103 : decode cX12_ditch 103 = .ok (.ifCond .eq 28, 3) := by decide +kernel
theorem dX12_ditch_106 : decode cX12_ditch 106 = .ok (.aload_n 0, 1) := by decide +kernel
theorem dX12_ditch_107 : decode cX12_ditch 107 = .ok (.getfield 58, 3) := by decide +kernel
theorem dX12_ditch_110 : decode cX12_ditch 110 = .ok (.bipush 9, 2) := by decide +kernel
theorem dX12_ditch_112 : decode cX12_ditch 112 = .ok (.iload_n 2, 1) := by decide +kernel
theorem dX12_ditch_113 : decode cX12_ditch 113 = .ok (.iadd, 1) := by decide +kernel
theorem dX12_ditch_114 : decode cX12_ditch 114 = .ok (.bipush 9, 2) := by decide +kernel
theorem dX12_ditch_116 : decode cX12_ditch 116 = .ok (.aload_n 0, 1) := by decide +kernel
theorem dX12_ditch_117 : decode cX12_ditch 117 = .ok (.getfield 58, 3) := by decide +kernel
theorem dX12_ditch_120 : decode cX12_ditch 120 = .ok (.bipush 9, 2) := by decide +kernel
theorem dX12_ditch_122 : decode cX12_ditch 122 = .ok (.iload_n 2, 1) := by decide +kernel
theorem dX12_ditch_123 : decode cX12_ditch 123 = .ok (.iadd, 1) := by decide +kernel
theorem dX12_ditch_124 : decode cX12_ditch 124 = .ok (.iaload, 1) := by decide +kernel
theorem dX12_ditch_125 : decode cX12_ditch 125 = .ok (.iconst 1, 1) := by decide +kernel
theorem dX12_ditch_126 : decode cX12_ditch 126 = .ok (.iadd, 1) := by decide +kernel
theorem dX12_ditch_127 : decode cX12_ditch 127 = .ok (.invokestatic 279, 3) := by decide +kernel
theorem dX12_ditch_130 : decode cX12_ditch 130 = .ok (.iastore, 1) := by decide +kernel
theorem dX12_ditch_131 : decode cX12_ditch 131 = .ok (.iinc 2 1, 3) := by decide +kernel
theorem dX12_ditch_134 : decode cX12_ditch 134 = .ok (.goto (-55), 3) := by decide +kernel
theorem dX12_ditch_137 : decode cX12_ditch 137 = .ok (.aload_n 0, 1) := by decide +kernel
theorem dX12_ditch_138 : decode cX12_ditch 138 = .ok (.getfield 58, 3) := by decide +kernel
theorem dX12_ditch_141 : decode cX12_ditch 141 = .ok (.bipush 9, 2) := by decide +kernel
theorem dX12_ditch_143 : decode cX12_ditch 143 = .ok (.iload_n 1, 1) := by decide +kernel
theorem dX12_ditch_144 : decode cX12_ditch 144 = .ok (.iadd, 1) := by decide +kernel
theorem dX12_ditch_145 : decode cX12_ditch 145 = .ok (.iaload, 1) := by decide +kernel
theorem dX12_ditch_146 : decode cX12_ditch 146 = .ok (.ireturn, 1) := by decide +kernel
theorem dX12_does_0 : decode cX12_does 0 = .ok (.aload_n 0, 1) := by decide +kernel
theorem dX12_does_1 : decode cX12_does 1 = .ok (.iload_n 1, 1) := by decide +kernel
theorem dX12_does_2 : decode cX12_does 2 = .ok (.invokevirtual 308, 3) := by decide +kernel
theorem dX12_does_5 : decode cX12_does 5 = .ok (.ifCond .eq 34, 3) := by decide +kernel
theorem dX12_does_8 : decode cX12_does 8 = .ok (.aload_n 0, 1) := by decide +kernel
theorem dX12_does_9 : decode cX12_does 9 = .ok (.iload_n 2, 1) := by decide +kernel
theorem dX12_does_10 : decode cX12_does 10 = .ok (.invokevirtual 305, 3) := by decide +kernel
theorem dX12_does_13 : decode cX12_does 13 = .ok (.ifCond .eq 26, 3) := by decide +kernel
theorem dX12_does_16 : decode cX12_does 16 = .ok (.iload_n 3, 1) := by decide +kernel
theorem dX12_does_17 : decode cX12_does 17 = .ok (.iconst 0, 1) := by decide +kernel
theorem dX12_does_18 : decode cX12_does 18 = .ok (.iconst 3, 1) := by decide +kernel
theorem dX12_does_19 : decode cX12_does 19 = .ok (.invokestatic 212, 3) := by decide +kernel
theorem dX12_does_22 : decode cX12_does 22 = .ok (.ifCond .eq 17, 3) := by decide +kernel
theorem dX12_does_25 : decode cX12_does 25 = .ok (.iload_n 3, 1) := by decide +kernel
theorem dX12_does_26 : decode cX12_does 26 = .ok (.iconst 2, 1) := by decide +kernel
theorem dX12_does_27 : decode cX12_does 27 = .ok (.if_icmp .eq 14, 3) := by decide +kernel
theorem dX12_does_30 : decode cX12_does 30 = .ok (.aload_n 0, 1) := by decide +kernel
theorem dX12_does_31 : decode cX12_does 31 = .ok (.iload_n 1, 1) := by decide +kernel
theorem dX12_does_32 : decode cX12_does 32 = .ok (.iload_n 2, 1) := by decide +kernel
theorem dX12_does_33 : decode cX12_does 33 = .ok (.invokevirtual 311, 3) := by decide +kernel
theorem dX12_does_36 : decode cX12_does 36 = .ok (.ifCond .ne 5, 3) := by decide +kernel
theorem dX12_does_39 : decode cX12_does 39 = .ok (.iconst (-1), 1) := by decide +kernel
theorem dX12_does_40 : decode cX12_does 40 = .ok (.ireturn, 1) := by decide +kernel
theorem dX12_does_41 : decode cX12_does 41 = .ok (.aload_n 0, 1) := by decide +kernel
theorem dX12_does_42 : decode cX12_does 42 = .ok (.iload_n 1, 1) := by decide +kernel
theorem dX12_does_43 : decode cX12_does 43 = .ok (.iload_n 2, 1) := by decide +kernel
theorem dX12_does_44 : decode cX12_does 44 = .ok (.iload_n 3, 1) := by decide +kernel
theorem dX12_does_45 : decode cX12_does 45 = .ok (.invokevirtual 314, 3) := by decide +kernel
theorem dX12_does_48 : decode cX12_does 48 = .ok (.ireturn, 1) := by decide +kernel
theorem dX12_draw_0 : decode cX12_draw 0 = .ok (.aload_n 0, 1) := by decide +kernel
theorem dX12_draw_1 : decode cX12_draw 1 = .ok (.aload_n 0, 1) := by decide +kernel
theorem dX12_draw_2 : decode cX12_draw 2 = .ok (.getfield 342, 3) := by decide +kernel
theorem dX12_draw_5 : decode cX12_draw 5 = .ok (.ldc2_w 346, 3) := by decide +kernel
theorem dX12_draw_8 : decode cX12_draw 8 = .ok (.lmul, 1) := by decide +kernel
theorem dX12_draw_9 : decode cX12_draw 9 = .ok (.ldc2_w 348, 3) := by decide +kernel
theorem dX12_draw_12 : decode cX12_draw 12 = .ok (.ladd, 1) := by decide +kernel
theorem dX12_draw_13 : decode cX12_draw 13 = .ok (.putfield 342, 3) := by decide +kernel
theorem dX12_draw_16 : decode cX12_draw 16 = .ok (.aload_n 0, 1) := by decide +kernel
theorem dX12_draw_17 : decode cX12_draw 17 = .ok (.getfield 342, 3) := by decide +kernel
theorem dX12_draw_20 : decode cX12_draw 20 = .ok (.bipush 33, 2) := by decide +kernel
theorem dX12_draw_22 : decode cX12_draw 22 = .ok (.lushr, 1) := by decide +kernel
theorem dX12_draw_23 : decode cX12_draw 23 = .ok (.iload_n 1, 1) := by decide +kernel
theorem dX12_draw_24 : decode cX12_draw 24 = .ok (.i2l, 1) := by decide +kernel
theorem dX12_draw_25 : decode cX12_draw 25 = .ok (.lrem, 1) := by decide +kernel
theorem dX12_draw_26 : decode cX12_draw 26 = .ok (.l2i, 1) := by decide +kernel
theorem dX12_draw_27 : decode cX12_draw 27 = .ok (.ireturn, 1) := by decide +kernel
theorem dX12_workNow_0 : decode cX12_workNow 0 = .ok (.aload_n 0, 1) := by decide +kernel
theorem dX12_workNow_1 : decode cX12_workNow 1 = .ok (.getfield 58, 3) := by decide +kernel
theorem dX12_workNow_4 : decode cX12_workNow 4 = .ok (.iconst 0, 1) := by decide +kernel
theorem dX12_workNow_5 : decode cX12_workNow 5 = .ok (.iload_n 2, 1) := by decide +kernel
theorem dX12_workNow_6 : decode cX12_workNow 6 = .ok (.iadd, 1) := by decide +kernel
theorem dX12_workNow_7 : decode cX12_workNow 7 = .ok (.iconst 0, 1) := by decide +kernel
theorem dX12_workNow_8 : decode cX12_workNow 8 = .ok (.aload_n 0, 1) := by decide +kernel
theorem dX12_workNow_9 : decode cX12_workNow 9 = .ok (.getfield 58, 3) := by decide +kernel
theorem dX12_workNow_12 : decode cX12_workNow 12 = .ok (.iconst 0, 1) := by decide +kernel
theorem dX12_workNow_13 : decode cX12_workNow 13 = .ok (.iload_n 2, 1) := by decide +kernel
theorem dX12_workNow_14 : decode cX12_workNow 14 = .ok (.iadd, 1) := by decide +kernel
theorem dX12_workNow_15 : decode cX12_workNow 15 = .ok (.iaload, 1) := by decide +kernel
theorem dX12_workNow_16 : decode cX12_workNow 16 = .ok (.aload_n 0, 1) := by decide +kernel
theorem dX12_workNow_17 : decode cX12_workNow 17 = .ok (.iload_n 1, 1) := by decide +kernel
theorem dX12_workNow_18 : decode cX12_workNow 18 = .ok (.iload_n 2, 1) := by decide +kernel
theorem dX12_workNow_19 : decode cX12_workNow 19 = .ok (.iload_n 3, 1) := by decide +kernel
theorem dX12_workNow_20 : decode cX12_workNow 20 = .ok (.invokevirtual 314, 3) := by decide +kernel
theorem dX12_workNow_23 : decode cX12_workNow 23 = .ok (.isub, 1) := by decide +kernel
theorem dX12_workNow_24 : decode cX12_workNow 24 = .ok (.invokestatic 296, 3) := by decide +kernel
theorem dX12_workNow_27 : decode cX12_workNow 27 = .ok (.iastore, 1) := by decide +kernel
theorem dX12_workNow_28 : decode cX12_workNow 28 = .ok (.aload_n 0, 1) := by decide +kernel
theorem dX12_workNow_29 : decode cX12_workNow 29 = .ok (.getfield 58, 3) := by decide +kernel
theorem dX12_workNow_32 : decode cX12_workNow 32 = .ok (.bipush 18, 2) := by decide +kernel
theorem dX12_workNow_34 : decode cX12_workNow 34 = .ok (.iload_n 1, 1) := by decide +kernel
theorem dX12_workNow_35 : decode cX12_workNow 35 = .ok (.iadd, 1) := by decide +kernel
theorem dX12_workNow_36 : decode cX12_workNow 36 = .ok (.dup2, 1) := by decide +kernel
theorem dX12_workNow_37 : decode cX12_workNow 37 = .ok (.iaload, 1) := by decide +kernel
theorem dX12_workNow_38 : decode cX12_workNow 38 = .ok (.iconst 1, 1) := by decide +kernel
theorem dX12_workNow_39 : decode cX12_workNow 39 = .ok (.isub, 1) := by decide +kernel
theorem dX12_workNow_40 : decode cX12_workNow 40 = .ok (.iastore, 1) := by decide +kernel
theorem dX12_workNow_41 : decode cX12_workNow 41 = .ok (.aload_n 0, 1) := by decide +kernel
theorem dX12_workNow_42 : decode cX12_workNow 42 = .ok (.getfield 58, 3) := by decide +kernel
theorem dX12_workNow_45 : decode cX12_workNow 45 = .ok (.bipush 31, 2) := by decide +kernel
theorem dX12_workNow_47 : decode cX12_workNow 47 = .ok (.dup2, 1) := by decide +kernel
theorem dX12_workNow_48 : decode cX12_workNow 48 = .ok (.iaload, 1) := by decide +kernel
theorem dX12_workNow_49 : decode cX12_workNow 49 = .ok (.iconst 1, 1) := by decide +kernel
theorem dX12_workNow_50 : decode cX12_workNow 50 = .ok (.iadd, 1) := by decide +kernel
theorem dX12_workNow_51 : decode cX12_workNow 51 = .ok (.iastore, 1) := by decide +kernel
theorem dX12_workNow_52 : decode cX12_workNow 52 = .ok (.aload_n 0, 1) := by decide +kernel
theorem dX12_workNow_53 : decode cX12_workNow 53 = .ok (.getfield 58, 3) := by decide +kernel
theorem dX12_workNow_56 : decode cX12_workNow 56 = .ok (.bipush 30, 2) := by decide +kernel
theorem dX12_workNow_58 : decode cX12_workNow 58 = .ok (.dup2, 1) := by decide +kernel
theorem dX12_workNow_59 : decode cX12_workNow 59 = .ok (.iaload, 1) := by decide +kernel
theorem dX12_workNow_60 : decode cX12_workNow 60 = .ok (.iload_n 3, 1) := by decide +kernel
theorem dX12_workNow_61 : decode cX12_workNow 61 = .ok (.iconst 2, 1) := by decide +kernel
theorem dX12_workNow_62 : decode cX12_workNow 62 = .ok (.if_icmp .ne 12, 3) := by decide +kernel
theorem dX12_workNow_65 : decode cX12_workNow 65 = .ok (.aload_n 0, 1) := by decide +kernel
theorem dX12_workNow_66 : decode cX12_workNow 66 = .ok (.getfield 49, 3) := by decide +kernel
theorem dX12_workNow_69 : decode cX12_workNow 69 = .ok (.iconst 2, 1) := by decide +kernel
theorem dX12_workNow_70 : decode cX12_workNow 70 = .ok (.iaload, 1) := by decide +kernel
theorem dX12_workNow_71 : decode cX12_workNow 71 = .ok (.goto 4, 3) := by decide +kernel
theorem dX12_workNow_74 : decode cX12_workNow 74 = .ok (.iconst 0, 1) := by decide +kernel
theorem dX12_workNow_75 : decode cX12_workNow 75 = .ok (.iadd, 1) := by decide +kernel
theorem dX12_workNow_76 : decode cX12_workNow 76 = .ok (.iastore, 1) := by decide +kernel
theorem dX12_workNow_77 : decode cX12_workNow 77 = .ok (.return_, 1) := by decide +kernel
theorem dX12_drawDay_0 : decode cX12_drawDay 0 = .ok (.aload_n 0, 1) := by decide +kernel
theorem dX12_drawDay_1 : decode cX12_drawDay 1 = .ok (.aload_n 0, 1) := by decide +kernel
theorem dX12_drawDay_2 : decode cX12_drawDay 2 = .ok (.getfield 256, 3) := by decide +kernel
theorem dX12_drawDay_5 : decode cX12_drawDay 5 = .ok (.invokevirtual 350, 3) := by decide +kernel
theorem dX12_drawDay_8 : decode cX12_drawDay 8 = .ok (.istore_n 2, 1) := by decide +kernel
theorem dX12_drawDay_9 : decode cX12_drawDay 9 = .ok (.aload_n 0, 1) := by decide +kernel
theorem dX12_drawDay_10 : decode cX12_drawDay 10 = .ok (.bipush 10, 2) := by decide +kernel
theorem dX12_drawDay_12 : decode cX12_drawDay 12 = .ok (.invokevirtual 350, 3) := by decide +kernel
theorem dX12_drawDay_15 : decode cX12_drawDay 15 = .ok (.aload_n 0, 1) := by decide +kernel
theorem dX12_drawDay_16 : decode cX12_drawDay 16 = .ok (.iload_n 1, 1) := by decide +kernel
theorem dX12_drawDay_17 : decode cX12_drawDay 17 = .ok (.iconst 2, 1) := by decide +kernel
theorem dX12_drawDay_18 : decode cX12_drawDay 18 = .ok (.invokevirtual 287, 3) := by decide +kernel
theorem dX12_drawDay_21 : decode cX12_drawDay 21 = .ok (.if_icmp .ge 7, 3) := by decide +kernel
theorem dX12_drawDay_24 : decode cX12_drawDay 24 = .ok (.iconst 0, 1) := by decide +kernel
theorem dX12_drawDay_25 : decode cX12_drawDay 25 = .ok (.goto 16, 3) := by decide +kernel
theorem dX12_drawDay_28 : decode cX12_drawDay 28 = .ok (.aload_n 0, 1) := by decide +kernel
theorem dX12_drawDay_29 : decode cX12_drawDay 29 = .ok (.iconst 2, 1) := by decide +kernel
theorem dX12_drawDay_30 : decode cX12_drawDay 30 = .ok (.invokevirtual 350, 3) := by decide +kernel
theorem dX12_drawDay_33 : decode cX12_drawDay 33 = .ok (.ifCond .ne 7, 3) := by decide +kernel
theorem dX12_drawDay_36 : decode cX12_drawDay 36 = .ok (.iconst 1, 1) := by decide +kernel
theorem dX12_drawDay_37 : decode cX12_drawDay 37 = .ok (.goto 4, 3) := by decide +kernel
theorem dX12_drawDay_40 : decode cX12_drawDay 40 = .ok (.iconst 3, 1) := by decide +kernel
theorem dX12_drawDay_41 : decode cX12_drawDay 41 = .ok (.istore_n 3, 1) := by decide +kernel
theorem dX12_drawDay_42 : decode cX12_drawDay 42 = .ok (.aload_n 0, 1) := by decide +kernel
theorem dX12_drawDay_43 : decode cX12_drawDay 43 = .ok (.iload_n 1, 1) := by decide +kernel
theorem dX12_drawDay_44 : decode cX12_drawDay 44 = .ok (.iload_n 2, 1) := by decide +kernel
theorem dX12_drawDay_45 : decode cX12_drawDay 45 = .ok (.invokevirtual 311, 3) := by decide +kernel
theorem dX12_drawDay_48 : decode cX12_drawDay 48 = .ok (.ifCond .eq 10, 3) := by decide +kernel
theorem dX12_drawDay_51 : decode cX12_drawDay 51 = .ok (.aload_n 0, 1) := by decide +kernel
theorem dX12_drawDay_52 : decode cX12_drawDay 52 = .ok (.iload_n 1, 1) := by decide +kernel
theorem dX12_drawDay_53 : decode cX12_drawDay 53 = .ok (.iload_n 2, 1) := by decide +kernel
theorem dX12_drawDay_54 : decode cX12_drawDay 54 = .ok (.iload_n 3, 1) := by decide +kernel
theorem dX12_drawDay_55 : decode cX12_drawDay 55 = .ok (.invokevirtual 323, 3) := by decide +kernel
theorem dX12_drawDay_58 : decode cX12_drawDay 58 = .ok (.return_, 1) := by decide +kernel
theorem dX12_end_0 : decode cX12_end 0 = .ok (.iload_n 1, 1) := by decide +kernel
theorem dX12_end_1 : decode cX12_end 1 = .ok (.ifCond .lt 11, 3) := by decide +kernel
theorem dX12_end_4 : decode cX12_end 4 = .ok (.iload_n 1, 1) := by decide +kernel
theorem dX12_end_5 : decode cX12_end 5 = .ok (.aload_n 0, 1) := by decide +kernel
theorem dX12_end_6 : decode cX12_end 6 = .ok (.getfield 104, 3) := by decide +kernel
theorem dX12_end_9 : decode cX12_end 9 = .ok (.if_icmp .le 5, 3) := by decide +kernel
theorem dX12_end_12 : decode cX12_end 12 = .ok (.iconst 0, 1) := by decide +kernel
theorem dX12_end_13 : decode cX12_end 13 = .ok (.ireturn, 1) := by decide +kernel
theorem dX12_end_14 : decode cX12_end 14 = .ok (.aload_n 0, 1) := by decide +kernel
theorem dX12_end_15 : decode cX12_end 15 = .ok (.iload_n 1, 1) := by decide +kernel
theorem dX12_end_16 : decode cX12_end 16 = .ok (.putfield 104, 3) := by decide +kernel
theorem dX12_end_19 : decode cX12_end 19 = .ok (.iconst 1, 1) := by decide +kernel
theorem dX12_end_20 : decode cX12_end 20 = .ok (.ireturn, 1) := by decide +kernel
theorem dX12_ends_0 : decode cX12_ends 0 = .ok (.aload_n 0, 1) := by decide +kernel
theorem dX12_ends_1 : decode cX12_ends 1 = .ok (.getfield 256, 3) := by decide +kernel
theorem dX12_ends_4 : decode cX12_ends 4 = .ok (.ifCond .ne 5, 3) := by decide +kernel
theorem dX12_ends_7 : decode cX12_ends 7 = .ok (.iconst (-1), 1) := by decide +kernel
theorem dX12_ends_8 : decode cX12_ends 8 = .ok (.ireturn, 1) := by decide +kernel
theorem dX12_ends_9 : decode cX12_ends 9 = .ok (.iconst 0, 1) := by decide +kernel
theorem dX12_ends_10 : decode cX12_ends 10 = .ok (.istore_n 1, 1) := by decide +kernel
theorem dX12_ends_11 : decode cX12_ends 11 = .ok (.iconst 0, 1) := by decide +kernel
theorem dX12_ends_12 : decode cX12_ends 12 = .ok (.istore_n 2, 1) := by decide +kernel
theorem dX12_ends_13 : decode cX12_ends 13 = .ok (.iload_n 2, 1) := by decide +kernel
theorem dX12_ends_14 : decode cX12_ends 14 = .ok (.bipush 8, 2) := by decide +kernel
theorem dX12_ends_16 : decode cX12_ends 16 = .ok (.if_icmp .ge 62, 3) := by decide +kernel
theorem dX12_ends_19 : decode cX12_ends 19 = .ok (.iconst 0, 1) := by decide +kernel
theorem dX12_ends_20 : decode cX12_ends 20 = .ok (.istore_n 3, 1) := by decide +kernel
theorem dX12_ends_21 : decode cX12_ends 21 = .ok (.iconst 0, 1) := by decide +kernel
theorem dX12_ends_22 : decode cX12_ends 22 = .ok (.istore 4, 2) := by decide +kernel
theorem dX12_ends_24 : decode cX12_ends 24 = .ok (.iload 4, 2) := by decide +kernel
theorem dX12_ends_26 : decode cX12_ends 26 = .ok (.aload_n 0, 1) := by decide +kernel
theorem dX12_ends_27 : decode cX12_ends 27 = .ok (.getfield 256, 3) := by decide +kernel
theorem dX12_ends_30 : decode cX12_ends 30 = .ok (.if_icmp .ge 27, 3) := by decide +kernel
theorem dX12_ends_33 : decode cX12_ends 33 = .ok (.iload_n 3, 1) := by decide +kernel
theorem dX12_ends_34 : decode cX12_ends 34 = .ok (.aload_n 0, 1) := by decide +kernel
theorem dX12_ends_35 : decode cX12_ends 35 = .ok (.iload 4, 2) := by decide +kernel
theorem dX12_ends_37 : decode cX12_ends 37 = .ok (.iload_n 2, 1) := by decide +kernel
theorem dX12_ends_38 : decode cX12_ends 38 = .ok (.invokevirtual 327, 3) := by decide +kernel
theorem dX12_ends_41 : decode cX12_ends 41 = .ok (.ifCond .eq 7, 3) := by decide +kernel
theorem dX12_ends_44 : decode cX12_ends 44 = .ok (.iconst 1, 1) := by decide +kernel
theorem dX12_ends_45 : decode cX12_ends 45 = .ok (.goto 4, 3) := by decide +kernel
theorem dX12_ends_48 : decode cX12_ends 48 = .ok (.iconst 0, 1) := by decide +kernel
theorem dX12_ends_49 : decode cX12_ends 49 = .ok (.iadd, 1) := by decide +kernel
theorem dX12_ends_50 : decode cX12_ends 50 = .ok (.istore_n 3, 1) := by decide +kernel
theorem dX12_ends_51 : decode cX12_ends 51 = .ok (.iinc 4 1, 3) := by decide +kernel
theorem dX12_ends_54 : decode cX12_ends 54 = .ok (.goto (-30), 3) := by decide +kernel
theorem dX12_ends_57 : decode cX12_ends 57 = .ok (.iload_n 1, 1) := by decide +kernel
theorem dX12_ends_58 : decode cX12_ends 58 = .ok (.iload_n 3, 1) := by decide +kernel
theorem dX12_ends_59 : decode cX12_ends 59 = .ok (.iconst 1, 1) := by decide +kernel
theorem dX12_ends_60 : decode cX12_ends 60 = .ok (.if_icmp .ne 9, 3) := by decide +kernel
theorem dX12_ends_63 : decode cX12_ends 63 = .ok (.iconst 1, 1) := by decide +kernel
theorem dX12_ends_64 : decode cX12_ends 64 = .ok (.iload_n 2, 1) := by decide +kernel
theorem dX12_ends_65 : decode cX12_ends 65 = .ok (.ishl, 1) := by decide +kernel
theorem dX12_ends_66 : decode cX12_ends 66 = .ok (.goto 4, 3) := by decide +kernel
theorem dX12_ends_69 : decode cX12_ends 69 = .ok (.iconst 0, 1) := by decide +kernel
theorem dX12_ends_70 : decode cX12_ends 70 = .ok (.ior, 1) := by decide +kernel
theorem dX12_ends_71 : decode cX12_ends 71 = .ok (.istore_n 1, 1) := by decide +kernel
theorem dX12_ends_72 : decode cX12_ends 72 = .ok (.iinc 2 1, 3) := by decide +kernel
theorem dX12_ends_75 : decode cX12_ends 75 = .ok (.goto (-62), 3) := by decide +kernel
theorem dX12_ends_78 : decode cX12_ends 78 = .ok (.iload_n 1, 1) := by decide +kernel
theorem dX12_ends_79 : decode cX12_ends 79 = .ok (.ireturn, 1) := by decide +kernel
theorem dX12_worn_0 : decode cX12_worn 0 = .ok (.iconst 0, 1) := by decide +kernel
theorem dX12_worn_1 : decode cX12_worn 1 = .ok (.istore_n 1, 1) := by decide +kernel
theorem dX12_worn_2 : decode cX12_worn 2 = .ok (.iload_n 1, 1) := by decide +kernel
theorem dX12_worn_3 : decode cX12_worn 3 = .ok (.aload_n 0, 1) := by decide +kernel
theorem dX12_worn_4 : decode cX12_worn 4 = .ok (.getfield 256, 3) := by decide +kernel
theorem dX12_worn_7 : decode cX12_worn 7 = .ok (.if_icmp .ge 24, 3) := by decide +kernel
theorem dX12_worn_10 : decode cX12_worn 10 = .ok (.aload_n 0, 1) := by decide +kernel
theorem dX12_worn_11 : decode cX12_worn 11 = .ok (.getfield 58, 3) := by decide +kernel
theorem dX12_worn_14 : decode cX12_worn 14 = .ok (.iconst 0, 1) := by decide +kernel
theorem dX12_worn_15 : decode cX12_worn 15 = .ok (.iload_n 1, 1) := by decide +kernel
theorem dX12_worn_16 : decode cX12_worn 16 = .ok (.iadd, 1) := by decide +kernel
theorem dX12_worn_17 : decode cX12_worn 17 = .ok (.iaload, 1) := by decide +kernel
theorem dX12_worn_18 : decode cX12_worn 18 = .ok (.bipush 99, 2) := by decide +kernel
theorem dX12_worn_20 : decode cX12_worn 20 = .ok (.if_icmp .ne 5, 3) := by decide +kernel
theorem dX12_worn_23 : decode cX12_worn 23 = .ok (.iload_n 1, 1) := by decide +kernel
theorem dX12_worn_24 : decode cX12_worn 24 = .ok (.ireturn, 1) := by decide +kernel
theorem dX12_worn_25 : decode cX12_worn 25 = .ok (.iinc 1 1, 3) := by decide +kernel
theorem dX12_worn_28 : decode cX12_worn 28 = .ok (.goto (-26), 3) := by decide +kernel
theorem dX12_worn_31 : decode cX12_worn 31 = .ok (.iconst (-1), 1) := by decide +kernel
theorem dX12_worn_32 : decode cX12_worn 32 = .ok (.ireturn, 1) := by decide +kernel
theorem dX12_wearOn_0 : decode cX12_wearOn 0 = .ok (.iconst 0, 1) := by decide +kernel
theorem dX12_wearOn_1 : decode cX12_wearOn 1 = .ok (.istore_n 2, 1) := by decide +kernel
theorem dX12_wearOn_2 : decode cX12_wearOn 2 = .ok (.iload_n 2, 1) := by decide +kernel
theorem dX12_wearOn_3 : decode cX12_wearOn 3 = .ok (.aload_n 0, 1) := by decide +kernel
theorem dX12_wearOn_4 : decode cX12_wearOn 4 = .ok (.getfield 256, 3) := by decide +kernel
theorem dX12_wearOn_7 : decode cX12_wearOn 7 = .ok (.if_icmp .ge 68, 3) := by decide +kernel
theorem dX12_wearOn_10 : decode cX12_wearOn 10 = .ok (.aload_n 0, 1) := by decide +kernel
theorem dX12_wearOn_11 : decode cX12_wearOn 11 = .ok (.iload_n 2, 1) := by decide +kernel
theorem dX12_wearOn_12 : decode cX12_wearOn 12 = .ok (.iconst 4, 1) := by decide +kernel
theorem dX12_wearOn_13 : decode cX12_wearOn 13 = .ok (.invokevirtual 262, 3) := by decide +kernel
theorem dX12_wearOn_16 : decode cX12_wearOn 16 = .ok (.aload_n 0, 1) := by decide +kernel
theorem dX12_wearOn_17 : decode cX12_wearOn 17 = .ok (.iload_n 1, 1) := by decide +kernel
theorem dX12_wearOn_18 : decode cX12_wearOn 18 = .ok (.invokevirtual 298, 3) := by decide +kernel
theorem dX12_wearOn_21 : decode cX12_wearOn 21 = .ok (.ifCond .eq 22, 3) := by decide +kernel
theorem dX12_wearOn_24 : decode cX12_wearOn 24 = .ok (.aload_n 0, 1) := by decide +kernel
theorem dX12_wearOn_25 : decode cX12_wearOn 25 = .ok (.getfield 49, 3) := by decide +kernel
theorem dX12_wearOn_28 : decode cX12_wearOn 28 = .ok (.iconst 1, 1) := by decide +kernel
theorem dX12_wearOn_29 : decode cX12_wearOn 29 = .ok (.iaload, 1) := by decide +kernel
theorem dX12_wearOn_30 : decode cX12_wearOn 30 = .ok (.aload_n 0, 1) := by decide +kernel
theorem dX12_wearOn_31 : decode cX12_wearOn 31 = .ok (.getfield 58, 3) := by decide +kernel
theorem dX12_wearOn_34 : decode cX12_wearOn 34 = .ok (.bipush 9, 2) := by decide +kernel
theorem dX12_wearOn_36 : decode cX12_wearOn 36 = .ok (.iload_n 2, 1) := by decide +kernel
theorem dX12_wearOn_37 : decode cX12_wearOn 37 = .ok (.iadd, 1) := by decide +kernel
theorem dX12_wearOn_38 : decode cX12_wearOn 38 = .ok (.iaload, 1) := by decide +kernel
theorem dX12_wearOn_39 : decode cX12_wearOn 39 = .ok (.iadd, 1) := by decide +kernel
theorem dX12_wearOn_40 : decode cX12_wearOn 40 = .ok (.goto 4, 3) := by decide +kernel
theorem dX12_wearOn_43 : decode cX12_wearOn 43 = .ok (.iconst 0, 1) := by decide +kernel
theorem dX12_wearOn_44 : decode cX12_wearOn 44 = .ok (.iadd, 1) := by decide +kernel
theorem dX12_wearOn_45 : decode cX12_wearOn 45 = .ok (.istore_n 3, 1) := by decide +kernel
theorem dX12_wearOn_46 : decode cX12_wearOn 46 = .ok (.aload_n 0, 1) := by decide +kernel
theorem dX12_wearOn_47 : decode cX12_wearOn 47 = .ok (.getfield 58, 3) := by decide +kernel
theorem dX12_wearOn_50 : decode cX12_wearOn 50 = .ok (.iconst 0, 1) := by decide +kernel
theorem dX12_wearOn_51 : decode cX12_wearOn 51 = .ok (.iload_n 2, 1) := by decide +kernel
theorem dX12_wearOn_52 : decode cX12_wearOn 52 = .ok (.iadd, 1) := by decide +kernel
theorem dX12_wearOn_53 : decode cX12_wearOn 53 = .ok (.bipush 99, 2) := by decide +kernel
theorem dX12_wearOn_55 : decode cX12_wearOn 55 = .ok (.aload_n 0, 1) := by decide +kernel
theorem dX12_wearOn_56 : decode cX12_wearOn 56 = .ok (.getfield 58, 3) := by decide +kernel
theorem dX12_wearOn_59 : decode cX12_wearOn 59 = .ok (.iconst 0, 1) := by decide +kernel
theorem dX12_wearOn_60 : decode cX12_wearOn 60 = .ok (.iload_n 2, 1) := by decide +kernel
theorem dX12_wearOn_61 : decode cX12_wearOn 61 = .ok (.iadd, 1) := by decide +kernel
theorem dX12_wearOn_62 : decode cX12_wearOn 62 = .ok (.iaload, 1) := by decide +kernel
theorem dX12_wearOn_63 : decode cX12_wearOn 63 = .ok (.iload_n 3, 1) := by decide +kernel
theorem dX12_wearOn_64 : decode cX12_wearOn 64 = .ok (.iadd, 1) := by decide +kernel
theorem dX12_wearOn_65 : decode cX12_wearOn 65 = .ok (.invokestatic 279, 3) := by decide +kernel
theorem dX12_wearOn_68 : decode cX12_wearOn 68 = .ok (.iastore, 1) := by decide +kernel
theorem dX12_wearOn_69 : decode cX12_wearOn 69 = .ok (.iinc 2 1, 3) := by decide +kernel
theorem dX12_wearOn_72 : decode cX12_wearOn 72 = .ok (.goto (-70), 3) := by decide +kernel
theorem dX12_wearOn_75 : decode cX12_wearOn 75 = .ok (.return_, 1) := by decide +kernel
theorem dX12_fails_0 : decode cX12_fails 0 = .ok (.aload_n 0, 1) := by decide +kernel
theorem dX12_fails_1 : decode cX12_fails 1 = .ok (.getfield 256, 3) := by decide +kernel
theorem dX12_fails_4 : decode cX12_fails 4 = .ok (.ifCond .eq 12, 3) := by decide +kernel
theorem dX12_fails_7 : decode cX12_fails 7 = .ok (.iload_n 1, 1) := by decide +kernel
theorem dX12_fails_8 : decode cX12_fails 8 = .ok (.iconst 0, 1) := by decide +kernel
theorem dX12_fails_9 : decode cX12_fails 9 = .ok (.iconst 1, 1) := by decide +kernel
theorem dX12_fails_10 : decode cX12_fails 10 = .ok (.invokestatic 212, 3) := by decide +kernel
theorem dX12_fails_13 : decode cX12_fails 13 = .ok (.ifCond .ne 5, 3) := by decide +kernel
theorem dX12_fails_16 : decode cX12_fails 16 = .ok (.iconst (-1), 1) := by decide +kernel
theorem dX12_fails_17 : decode cX12_fails 17 = .ok (.ireturn, 1) := by decide +kernel
theorem dX12_fails_18 : decode cX12_fails 18 = .ok (.iconst 0, 1) := by decide +kernel
theorem dX12_fails_19 : decode cX12_fails 19 = .ok (.istore_n 2, 1) := by decide +kernel
theorem dX12_fails_20 : decode cX12_fails 20 = .ok (.iload_n 2, 1) := by decide +kernel
theorem dX12_fails_21 : decode cX12_fails 21 = .ok (.aload_n 0, 1) := by decide +kernel
theorem dX12_fails_22 : decode cX12_fails 22 = .ok (.getfield 256, 3) := by decide +kernel
theorem dX12_fails_25 : decode cX12_fails 25 = .ok (.if_icmp .ge 23, 3) := by decide +kernel
theorem dX12_fails_28 : decode cX12_fails 28 = .ok (.aload_n 0, 1) := by decide +kernel
theorem dX12_fails_29 : decode cX12_fails 29 = .ok (.getfield 84, 3) := by decide +kernel
theorem dX12_fails_32 : decode cX12_fails 32 = .ok (.iload_n 2, 1) := by decide +kernel
theorem dX12_fails_33 : decode cX12_fails 33 = .ok (.aload_n 0, 1) := by decide +kernel
theorem dX12_fails_34 : decode cX12_fails 34 = .ok (.getfield 58, 3) := by decide +kernel
theorem dX12_fails_37 : decode cX12_fails 37 = .ok (.iconst 0, 1) := by decide +kernel
theorem dX12_fails_38 : decode cX12_fails 38 = .ok (.iload_n 2, 1) := by decide +kernel
theorem dX12_fails_39 : decode cX12_fails 39 = .ok (.iadd, 1) := by decide +kernel
theorem dX12_fails_40 : decode cX12_fails 40 = .ok (.iaload, 1) := by decide +kernel
theorem dX12_fails_41 : decode cX12_fails 41 = .ok (.iastore, 1) := by decide +kernel
theorem dX12_fails_42 : decode cX12_fails 42 = .ok (.iinc 2 1, 3) := by decide +kernel
theorem dX12_fails_45 : decode cX12_fails 45 = .ok (.goto (-25), 3) := by decide +kernel
theorem dX12_fails_48 : decode cX12_fails 48 = .ok (.iconst 0, 1) := by decide +kernel
theorem dX12_fails_49 : decode cX12_fails 49 = .ok (.istore_n 2, 1) := by decide +kernel
theorem dX12_fails_50 : decode cX12_fails 50 = .ok (.iload_n 2, 1) := by decide +kernel
theorem dX12_fails_51 : decode cX12_fails 51 = .ok (.sipush 200, 3) := by decide +kernel
theorem dX12_fails_54 : decode cX12_fails 54 = .ok (.if_icmp .ge 30, 3) := by decide +kernel
theorem dX12_fails_57 : decode cX12_fails 57 = .ok (.aload_n 0, 1) := by decide +kernel
theorem dX12_fails_58 : decode cX12_fails 58 = .ok (.invokevirtual 416, 3) := by decide +kernel
theorem dX12_fails_61 : decode cX12_fails 61 = .ok (.iconst (-1), 1) := by decide +kernel
theorem dX12_fails_62 : decode cX12_fails 62 = .ok (.if_icmp .ne 22, 3) := by decide +kernel
theorem dX12_fails_65 : decode cX12_fails 65 = .ok (.aload_n 0, 1) := by decide +kernel
theorem dX12_fails_66 : decode cX12_fails 66 = .ok (.aload_n 0, 1) := by decide +kernel
theorem dX12_fails_67 : decode cX12_fails 67 = .ok (.getfield 58, 3) := by decide +kernel
theorem dX12_fails_70 : decode cX12_fails 70 = .ok (.bipush 32, 2) := by decide +kernel
theorem dX12_fails_72 : decode cX12_fails 72 = .ok (.iaload, 1) := by decide +kernel
theorem dX12_fails_73 : decode cX12_fails 73 = .ok (.iload_n 2, 1) := by decide +kernel
theorem dX12_fails_74 : decode cX12_fails 74 = .ok (.iadd, 1) := by decide +kernel
theorem dX12_fails_75 : decode cX12_fails 75 = .ok (.invokevirtual 330, 3) := by decide +kernel
theorem dX12_fails_78 : decode cX12_fails 78 = .ok (.iinc 2 1, 3) := by decide +kernel
theorem dX12_fails_81 : decode cX12_fails 81 = .ok (.goto (-31), 3) := by decide +kernel
theorem dX12_fails_84 : decode cX12_fails 84 = .ok (.aload_n 0, 1) := by decide +kernel
theorem dX12_fails_85 : decode cX12_fails 85 = .ok (.invokevirtual 416, 3) := by decide +kernel
theorem dX12_fails_88 : decode cX12_fails 88 = .ok (.istore_n 3, 1) := by decide +kernel
theorem dX12_fails_89 : decode cX12_fails 89 = .ok (.iconst 0, 1) := by decide +kernel
theorem dX12_fails_90 : decode cX12_fails 90 = .ok (.istore 4, 2) := by decide +kernel
theorem dX12_fails_92 : decode cX12_fails 92 = .ok (.iload 4, 2) := by decide +kernel
theorem dX12_fails_94 : decode cX12_fails 94 = .ok (.aload_n 0, 1) := by decide +kernel
theorem dX12_fails_95 : decode cX12_fails 95 = .ok (.getfield 256, 3) := by decide +kernel
theorem dX12_fails_98 : decode cX12_fails 98 = .ok (.if_icmp .ge 25, 3) := by decide +kernel
theorem dX12_fails_101 : decode cX12_fails 101 = .ok (.aload_n 0, 1) := by decide +kernel
theorem dX12_fails_102 : decode cX12_fails 102 = .ok (.getfield 58, 3) := by decide +kernel
theorem dX12_fails_105 : decode cX12_fails 105 = .ok (.iconst 0, 1) := by decide +kernel
theorem dX12_fails_106 : decode cX12_fails 106 = .ok (.iload 4, 2) := by decide +kernel
theorem dX12_fails_108 : decode cX12_fails 108 = .ok (.iadd, 1) := by decide +kernel
theorem dX12_fails_109 : decode cX12_fails 109 = .ok (.aload_n 0, 1) := by decide +kernel
theorem dX12_fails_110 : decode cX12_fails 110 = .ok (.getfield 84, 3) := by decide +kernel
theorem dX12_fails_113 : decode cX12_fails 113 = .ok (.iload 4, 2) := by decide +kernel
theorem dX12_fails_115 : decode cX12_fails 115 = .ok (.iaload, 1) := by decide +kernel
theorem dX12_fails_116 : decode cX12_fails 116 = .ok (.iastore, 1) := by decide +kernel
theorem dX12_fails_117 : decode cX12_fails 117 = .ok (.iinc 4 1, 3) := by decide +kernel
theorem dX12_fails_120 : decode cX12_fails 120 = .ok (.goto (-28), 3) := by decide +kernel
theorem dX12_fails_123 : decode cX12_fails 123 = .ok (.iload_n 3, 1) := by decide +kernel
theorem dX12_fails_124 : decode cX12_fails 124 = .ok (.iconst (-1), 1) := by decide +kernel
theorem dX12_fails_125 : decode cX12_fails 125 = .ok (.if_icmp .eq 7, 3) := by decide +kernel
theorem dX12_fails_128 : decode cX12_fails 128 = .ok (.iload_n 1, 1) := by decide +kernel
theorem dX12_fails_129 : decode cX12_fails 129 = .ok (.ifCond .ne 7, 3) := by decide +kernel
theorem dX12_fails_132 : decode cX12_fails 132 = .ok (.iload_n 3, 1) := by decide +kernel
theorem dX12_fails_133 : decode cX12_fails 133 = .ok (.goto 4, 3) := by decide +kernel
theorem dX12_fails_136 : decode cX12_fails 136 = .ok (.iload_n 2, 1) := by decide +kernel
theorem dX12_fails_137 : decode cX12_fails 137 = .ok (.ireturn, 1) := by decide +kernel
theorem dX12_usual_0 : decode cX12_usual 0 = .ok (.iload_n 0, 1) := by decide +kernel
theorem dX12_usual_1 : decode cX12_usual 1 = .ok (.lookupswitch 85 #[(114, 47), (115, 27)], 27) := by decide +kernel
theorem dX12_usual_28 : decode cX12_usual 28 = .ok (.iload_n 1, 1) := by decide +kernel
theorem dX12_usual_29 : decode cX12_usual 29 = .ok (.ifCond .ne 8, 3) := by decide +kernel
theorem dX12_usual_32 : decode cX12_usual 32 = .ok (.bipush 6, 2) := by decide +kernel
theorem dX12_usual_34 : decode cX12_usual 34 = .ok (.goto 13, 3) := by decide +kernel
theorem dX12_usual_37 : decode cX12_usual 37 = .ok (.iload_n 1, 1) := by decide +kernel
theorem dX12_usual_38 : decode cX12_usual 38 = .ok (.iconst 1, 1) := by decide +kernel
theorem dX12_usual_39 : decode cX12_usual 39 = .ok (.if_icmp .ne 7, 3) := by decide +kernel
theorem dX12_usual_42 : decode cX12_usual 42 = .ok (.iconst 2, 1) := by decide +kernel
theorem dX12_usual_43 : decode cX12_usual 43 = .ok (.goto 4, 3) := by decide +kernel
theorem dX12_usual_46 : decode cX12_usual 46 = .ok (.iconst 3, 1) := by decide +kernel
theorem dX12_usual_47 : decode cX12_usual 47 = .ok (.ireturn, 1) := by decide +kernel
theorem dX12_usual_48 : decode cX12_usual 48 = .ok (.iload_n 1, 1) := by decide +kernel
theorem dX12_usual_49 : decode cX12_usual 49 = .ok (.ifCond .ne 7, 3) := by decide +kernel
theorem dX12_usual_52 : decode cX12_usual 52 = .ok (.iconst 0, 1) := by decide +kernel
theorem dX12_usual_53 : decode cX12_usual 53 = .ok (.goto 32, 3) := by decide +kernel
theorem dX12_usual_56 : decode cX12_usual 56 = .ok (.iload_n 1, 1) := by decide +kernel
theorem dX12_usual_57 : decode cX12_usual 57 = .ok (.iconst 1, 1) := by decide +kernel
theorem dX12_usual_58 : decode cX12_usual 58 = .ok (.if_icmp .ne 7, 3) := by decide +kernel
theorem dX12_usual_61 : decode cX12_usual 61 = .ok (.iconst 1, 1) := by decide +kernel
theorem dX12_usual_62 : decode cX12_usual 62 = .ok (.goto 23, 3) := by decide +kernel
theorem dX12_usual_65 : decode cX12_usual 65 = .ok (.iload_n 1, 1) := by decide +kernel
theorem dX12_usual_66 : decode cX12_usual 66 = .ok (.iconst 2, 1) := by decide +kernel
theorem dX12_usual_67 : decode cX12_usual 67 = .ok (.if_icmp .ne 8, 3) := by decide +kernel
theorem dX12_usual_70 : decode cX12_usual 70 = .ok (.bipush 20, 2) := by decide +kernel
theorem dX12_usual_72 : decode cX12_usual 72 = .ok (.goto 13, 3) := by decide +kernel
theorem dX12_usual_75 : decode cX12_usual 75 = .ok (.iload_n 1, 1) := by decide +kernel
theorem dX12_usual_76 : decode cX12_usual 76 = .ok (.iconst 3, 1) := by decide +kernel
theorem dX12_usual_77 : decode cX12_usual 77 = .ok (.if_icmp .ne 7, 3) := by decide +kernel
theorem dX12_usual_80 : decode cX12_usual 80 = .ok (.iconst 2, 1) := by decide +kernel
theorem dX12_usual_81 : decode cX12_usual 81 = .ok (.goto 4, 3) := by decide +kernel
theorem dX12_usual_84 : decode cX12_usual 84 = .ok (.iconst 3, 1) := by decide +kernel
theorem dX12_usual_85 : decode cX12_usual 85 = .ok (.ireturn, 1) := by decide +kernel
theorem dX12_usual_86 : decode cX12_usual 86 = .ok (.iload_n 1, 1) := by decide +kernel
theorem dX12_usual_87 : decode cX12_usual 87 = .ok (.ifCond .ne 7, 3) := by decide +kernel
theorem dX12_usual_90 : decode cX12_usual 90 = .ok (.iconst 0, 1) := by decide +kernel
theorem dX12_usual_91 : decode cX12_usual 91 = .ok (.goto 13, 3) := by decide +kernel
theorem dX12_usual_94 : decode cX12_usual 94 = .ok (.iload_n 1, 1) := by decide +kernel
theorem dX12_usual_95 : decode cX12_usual 95 = .ok (.iconst 1, 1) := by decide +kernel
theorem dX12_usual_96 : decode cX12_usual 96 = .ok (.if_icmp .ne 7, 3) := by decide +kernel
theorem dX12_usual_99 : decode cX12_usual 99 = .ok (.iconst 3, 1) := by decide +kernel
theorem dX12_usual_100 : decode cX12_usual 100 = .ok (.goto 4, 3) := by decide +kernel
theorem dX12_usual_103 : decode cX12_usual 103 = .ok (.iconst 5, 1) := by decide +kernel
theorem dX12_usual_104 : decode cX12_usual 104 = .ok (.ireturn, 1) := by decide +kernel
theorem dX12_itemOf_0 : decode cX12_itemOf 0 = .ok (.iload_n 0, 1) := by decide +kernel
theorem dX12_itemOf_1 : decode cX12_itemOf 1 = .ok (.lookupswitch 111 #[(114, 59), (115, 27)], 27) := by decide +kernel
theorem dX12_itemOf_28 : decode cX12_itemOf 28 = .ok (.iload_n 1, 1) := by decide +kernel
theorem dX12_itemOf_29 : decode cX12_itemOf 29 = .ok (.bipush 100, 2) := by decide +kernel
theorem dX12_itemOf_31 : decode cX12_itemOf 31 = .ok (.if_icmp .ne 7, 3) := by decide +kernel
theorem dX12_itemOf_34 : decode cX12_itemOf 34 = .ok (.iconst 0, 1) := by decide +kernel
theorem dX12_itemOf_35 : decode cX12_itemOf 35 = .ok (.goto 24, 3) := by decide +kernel
theorem dX12_itemOf_38 : decode cX12_itemOf 38 = .ok (.iload_n 1, 1) := by decide +kernel
theorem dX12_itemOf_39 : decode cX12_itemOf 39 = .ok (.bipush 102, 2) := by decide +kernel
theorem dX12_itemOf_41 : decode cX12_itemOf 41 = .ok (.if_icmp .ne 7, 3) := by decide +kernel
theorem dX12_itemOf_44 : decode cX12_itemOf 44 = .ok (.iconst 1, 1) := by decide +kernel
theorem dX12_itemOf_45 : decode cX12_itemOf 45 = .ok (.goto 14, 3) := by decide +kernel
theorem dX12_itemOf_48 : decode cX12_itemOf 48 = .ok (.iload_n 1, 1) := by decide +kernel
theorem dX12_itemOf_49 : decode cX12_itemOf 49 = .ok (.bipush 112, 2) := by decide +kernel
theorem dX12_itemOf_51 : decode cX12_itemOf 51 = .ok (.if_icmp .ne 7, 3) := by decide +kernel
theorem dX12_itemOf_54 : decode cX12_itemOf 54 = .ok (.iconst 2, 1) := by decide +kernel
theorem dX12_itemOf_55 : decode cX12_itemOf 55 = .ok (.goto 4, 3) := by decide +kernel
theorem dX12_itemOf_58 : decode cX12_itemOf 58 = .ok (.iconst (-1), 1) := by decide +kernel
theorem dX12_itemOf_59 : decode cX12_itemOf 59 = .ok (.ireturn, 1) := by decide +kernel
theorem dX12_itemOf_60 : decode cX12_itemOf 60 = .ok (.iload_n 1, 1) := by decide +kernel
theorem dX12_itemOf_61 : decode cX12_itemOf 61 = .ok (.bipush 97, 2) := by decide +kernel
theorem dX12_itemOf_63 : decode cX12_itemOf 63 = .ok (.if_icmp .ne 7, 3) := by decide +kernel
theorem dX12_itemOf_66 : decode cX12_itemOf 66 = .ok (.iconst 0, 1) := by decide +kernel
theorem dX12_itemOf_67 : decode cX12_itemOf 67 = .ok (.goto 44, 3) := by decide +kernel
theorem dX12_itemOf_70 : decode cX12_itemOf 70 = .ok (.iload_n 1, 1) := by decide +kernel
theorem dX12_itemOf_71 : decode cX12_itemOf 71 = .ok (.bipush 98, 2) := by decide +kernel
theorem dX12_itemOf_73 : decode cX12_itemOf 73 = .ok (.if_icmp .ne 7, 3) := by decide +kernel
theorem dX12_itemOf_76 : decode cX12_itemOf 76 = .ok (.iconst 1, 1) := by decide +kernel
theorem dX12_itemOf_77 : decode cX12_itemOf 77 = .ok (.goto 34, 3) := by decide +kernel
theorem dX12_itemOf_80 : decode cX12_itemOf 80 = .ok (.iload_n 1, 1) := by decide +kernel
theorem dX12_itemOf_81 : decode cX12_itemOf 81 = .ok (.bipush 119, 2) := by decide +kernel
theorem dX12_itemOf_83 : decode cX12_itemOf 83 = .ok (.if_icmp .ne 7, 3) := by decide +kernel
theorem dX12_itemOf_86 : decode cX12_itemOf 86 = .ok (.iconst 2, 1) := by decide +kernel
theorem dX12_itemOf_87 : decode cX12_itemOf 87 = .ok (.goto 24, 3) := by decide +kernel
theorem dX12_itemOf_90 : decode cX12_itemOf 90 = .ok (.iload_n 1, 1) := by decide +kernel
theorem dX12_itemOf_91 : decode cX12_itemOf 91 = .ok (.bipush 101, 2) := by decide +kernel
theorem dX12_itemOf_93 : decode cX12_itemOf 93 = .ok (.if_icmp .ne 7, 3) := by decide +kernel
theorem dX12_itemOf_96 : decode cX12_itemOf 96 = .ok (.iconst 3, 1) := by decide +kernel
theorem dX12_itemOf_97 : decode cX12_itemOf 97 = .ok (.goto 14, 3) := by decide +kernel
theorem dX12_itemOf_100 : decode cX12_itemOf 100 = .ok (.iload_n 1, 1) := by decide +kernel
theorem dX12_itemOf_101 : decode cX12_itemOf 101 = .ok (.bipush 117, 2) := by decide +kernel
theorem dX12_itemOf_103 : decode cX12_itemOf 103 = .ok (.if_icmp .ne 7, 3) := by decide +kernel
theorem dX12_itemOf_106 : decode cX12_itemOf 106 = .ok (.iconst 4, 1) := by decide +kernel
theorem dX12_itemOf_107 : decode cX12_itemOf 107 = .ok (.goto 4, 3) := by decide +kernel
theorem dX12_itemOf_110 : decode cX12_itemOf 110 = .ok (.iconst (-1), 1) := by decide +kernel
theorem dX12_itemOf_111 : decode cX12_itemOf 111 = .ok (.ireturn, 1) := by decide +kernel
theorem dX12_itemOf_112 : decode cX12_itemOf 112 = .ok (.iload_n 1, 1) := by decide +kernel
theorem dX12_itemOf_113 : decode cX12_itemOf 113 = .ok (.bipush 99, 2) := by decide +kernel
theorem dX12_itemOf_115 : decode cX12_itemOf 115 = .ok (.if_icmp .ne 7, 3) := by decide +kernel
theorem dX12_itemOf_118 : decode cX12_itemOf 118 = .ok (.iconst 0, 1) := by decide +kernel
theorem dX12_itemOf_119 : decode cX12_itemOf 119 = .ok (.goto 24, 3) := by decide +kernel
theorem dX12_itemOf_122 : decode cX12_itemOf 122 = .ok (.iload_n 1, 1) := by decide +kernel
theorem dX12_itemOf_123 : decode cX12_itemOf 123 = .ok (.bipush 113, 2) := by decide +kernel
theorem dX12_itemOf_125 : decode cX12_itemOf 125 = .ok (.if_icmp .ne 7, 3) := by decide +kernel
theorem dX12_itemOf_128 : decode cX12_itemOf 128 = .ok (.iconst 1, 1) := by decide +kernel
theorem dX12_itemOf_129 : decode cX12_itemOf 129 = .ok (.goto 14, 3) := by decide +kernel
theorem dX12_itemOf_132 : decode cX12_itemOf 132 = .ok (.iload_n 1, 1) := by decide +kernel
theorem dX12_itemOf_133 : decode cX12_itemOf 133 = .ok (.bipush 122, 2) := by decide +kernel
theorem dX12_itemOf_135 : decode cX12_itemOf 135 = .ok (.if_icmp .ne 7, 3) := by decide +kernel
theorem dX12_itemOf_138 : decode cX12_itemOf 138 = .ok (.iconst 2, 1) := by decide +kernel
theorem dX12_itemOf_139 : decode cX12_itemOf 139 = .ok (.goto 4, 3) := by decide +kernel
theorem dX12_itemOf_142 : decode cX12_itemOf 142 = .ok (.iconst (-1), 1) := by decide +kernel
theorem dX12_itemOf_143 : decode cX12_itemOf 143 = .ok (.ireturn, 1) := by decide +kernel
theorem dX12_lowest_0 : decode cX12_lowest 0 = .ok (.iload_n 0, 1) := by decide +kernel
theorem dX12_lowest_1 : decode cX12_lowest 1 = .ok (.bipush 115, 2) := by decide +kernel
theorem dX12_lowest_3 : decode cX12_lowest 3 = .ok (.if_icmp .ne 7, 3) := by decide +kernel
theorem dX12_lowest_6 : decode cX12_lowest 6 = .ok (.iload_n 1, 1) := by decide +kernel
theorem dX12_lowest_7 : decode cX12_lowest 7 = .ok (.ifCond .eq 14, 3) := by decide +kernel
theorem dX12_lowest_10 : decode cX12_lowest 10 = .ok (.iload_n 0, 1) := by decide +kernel
theorem dX12_lowest_11 : decode cX12_lowest 11 = .ok (.bipush 104, 2) := by decide +kernel
theorem dX12_lowest_13 : decode cX12_lowest 13 = .ok (.if_icmp .ne 12, 3) := by decide +kernel
theorem dX12_lowest_16 : decode cX12_lowest 16 = .ok (.iload_n 1, 1) := by decide +kernel
theorem dX12_lowest_17 : decode cX12_lowest 17 = .ok (.iconst 1, 1) := by decide +kernel
theorem dX12_lowest_18 : decode cX12_lowest 18 = .ok (.if_icmp .ne 7, 3) := by decide +kernel
theorem dX12_lowest_21 : decode cX12_lowest 21 = .ok (.iconst 1, 1) := by decide +kernel
theorem dX12_lowest_22 : decode cX12_lowest 22 = .ok (.goto 4, 3) := by decide +kernel
theorem dX12_lowest_25 : decode cX12_lowest 25 = .ok (.iconst 0, 1) := by decide +kernel
theorem dX12_lowest_26 : decode cX12_lowest 26 = .ok (.ireturn, 1) := by decide +kernel
theorem dX12_highest_0 : decode cX12_highest 0 = .ok (.iload_n 0, 1) := by decide +kernel
theorem dX12_highest_1 : decode cX12_highest 1 = .ok (.lookupswitch 53 #[(114, 30), (115, 27)], 27) := by decide +kernel
theorem dX12_highest_28 : decode cX12_highest 28 = .ok (.bipush 9, 2) := by decide +kernel
theorem dX12_highest_30 : decode cX12_highest 30 = .ok (.ireturn, 1) := by decide +kernel
theorem dX12_highest_31 : decode cX12_highest 31 = .ok (.iload_n 1, 1) := by decide +kernel
theorem dX12_highest_32 : decode cX12_highest 32 = .ok (.iconst 1, 1) := by decide +kernel
theorem dX12_highest_33 : decode cX12_highest 33 = .ok (.if_icmp .gt 8, 3) := by decide +kernel
theorem dX12_highest_36 : decode cX12_highest 36 = .ok (.bipush 7, 2) := by decide +kernel
theorem dX12_highest_38 : decode cX12_highest 38 = .ok (.goto 15, 3) := by decide +kernel
theorem dX12_highest_41 : decode cX12_highest 41 = .ok (.iload_n 1, 1) := by decide +kernel
theorem dX12_highest_42 : decode cX12_highest 42 = .ok (.iconst 2, 1) := by decide +kernel
theorem dX12_highest_43 : decode cX12_highest 43 = .ok (.if_icmp .ne 8, 3) := by decide +kernel
theorem dX12_highest_46 : decode cX12_highest 46 = .ok (.bipush 99, 2) := by decide +kernel
theorem dX12_highest_48 : decode cX12_highest 48 = .ok (.goto 5, 3) := by decide +kernel
theorem dX12_highest_51 : decode cX12_highest 51 = .ok (.bipush 9, 2) := by decide +kernel
theorem dX12_highest_53 : decode cX12_highest 53 = .ok (.ireturn, 1) := by decide +kernel
theorem dX12_highest_54 : decode cX12_highest 54 = .ok (.iload_n 1, 1) := by decide +kernel
theorem dX12_highest_55 : decode cX12_highest 55 = .ok (.ifCond .ne 8, 3) := by decide +kernel
theorem dX12_highest_58 : decode cX12_highest 58 = .ok (.bipush 7, 2) := by decide +kernel
theorem dX12_highest_60 : decode cX12_highest 60 = .ok (.goto 5, 3) := by decide +kernel
theorem dX12_highest_63 : decode cX12_highest 63 = .ok (.bipush 9, 2) := by decide +kernel
theorem dX12_highest_65 : decode cX12_highest 65 = .ok (.ireturn, 1) := by decide +kernel
theorem dX12_number_0 : decode cX12_number 0 = .ok (.aload_n 0, 1) := by decide +kernel
theorem dX12_number_1 : decode cX12_number 1 = .ok (.invokevirtual 126, 3) := by decide +kernel
theorem dX12_number_4 : decode cX12_number 4 = .ok (.invokestatic 129, 3) := by decide +kernel
theorem dX12_number_7 : decode cX12_number 7 = .ok (.ifCond .ne 9, 3) := by decide +kernel
theorem dX12_number_10 : decode cX12_number 10 = .ok (.aload_n 0, 1) := by decide +kernel
theorem dX12_number_11 : decode cX12_number 11 = .ok (.invokevirtual 123, 3) := by decide +kernel
theorem dX12_number_14 : decode cX12_number 14 = .ok (.iload_n 1, 1) := by decide +kernel
theorem dX12_number_15 : decode cX12_number 15 = .ok (.ireturn, 1) := by decide +kernel
theorem dX12_number_16 : decode cX12_number 16 = .ok (.aload_n 0, 1) := by decide +kernel
theorem dX12_number_17 : decode cX12_number 17 = .ok (.invokevirtual 110, 3) := by decide +kernel
theorem dX12_number_20 : decode cX12_number 20 = .ok (.bipush 48, 2) := by decide +kernel
theorem dX12_number_22 : decode cX12_number 22 = .ok (.isub, 1) := by decide +kernel
theorem dX12_number_23 : decode cX12_number 23 = .ok (.istore_n 3, 1) := by decide +kernel
theorem dX12_number_24 : decode cX12_number 24 = .ok (.aload_n 0, 1) := by decide +kernel
theorem dX12_number_25 : decode cX12_number 25 = .ok (.dup, 1) := by decide +kernel
theorem dX12_number_26 : decode cX12_number 26 = .ok (.getfield 107, 3) := by decide +kernel
theorem dX12_number_29 : decode cX12_number 29 = .ok (.iconst 1, 1) := by decide +kernel
theorem dX12_number_30 : decode cX12_number 30 = .ok (.iadd, 1) := by decide +kernel
theorem dX12_number_31 : decode cX12_number 31 = .ok (.putfield 107, 3) := by decide +kernel
theorem dX12_number_34 : decode cX12_number 34 = .ok (.aload_n 0, 1) := by decide +kernel
theorem dX12_number_35 : decode cX12_number 35 = .ok (.invokevirtual 110, 3) := by decide +kernel
theorem dX12_number_38 : decode cX12_number 38 = .ok (.invokestatic 129, 3) := by decide +kernel
theorem dX12_number_41 : decode cX12_number 41 = .ok (.ifCond .eq 26, 3) := by decide +kernel
theorem dX12_number_44 : decode cX12_number 44 = .ok (.bipush 10, 2) := by decide +kernel
theorem dX12_number_46 : decode cX12_number 46 = .ok (.iload_n 3, 1) := by decide +kernel
theorem dX12_number_47 : decode cX12_number 47 = .ok (.imul, 1) := by decide +kernel
theorem dX12_number_48 : decode cX12_number 48 = .ok (.aload_n 0, 1) := by decide +kernel
theorem dX12_number_49 : decode cX12_number 49 = .ok (.invokevirtual 110, 3) := by decide +kernel
theorem dX12_number_52 : decode cX12_number 52 = .ok (.iadd, 1) := by decide +kernel
theorem dX12_number_53 : decode cX12_number 53 = .ok (.bipush 48, 2) := by decide +kernel
theorem dX12_number_55 : decode cX12_number 55 = .ok (.isub, 1) := by decide +kernel
theorem dX12_number_56 : decode cX12_number 56 = .ok (.istore_n 3, 1) := by decide +kernel
theorem dX12_number_57 : decode cX12_number 57 = .ok (.aload_n 0, 1) := by decide +kernel
theorem dX12_number_58 : decode cX12_number 58 = .ok (.dup, 1) := by decide +kernel
theorem dX12_number_59 : decode cX12_number 59 = .ok (.getfield 107, 3) := by decide +kernel
theorem dX12_number_62 : decode cX12_number 62 = .ok (.iconst 1, 1) := by decide +kernel
theorem dX12_number_63 : decode cX12_number 63 = .ok (.iadd, 1) := by decide +kernel
theorem dX12_number_64 : decode cX12_number 64 = .ok (.putfield 107, 3) := by decide +kernel
theorem dX12_number_67 : decode cX12_number 67 = .ok (.aload_n 0, 1) := by decide +kernel
theorem dX12_number_68 : decode cX12_number 68 = .ok (.invokevirtual 110, 3) := by decide +kernel
theorem dX12_number_71 : decode cX12_number 71 = .ok (.invokestatic 129, 3) := by decide +kernel
theorem dX12_number_74 : decode cX12_number 74 = .ok (.ifCond .eq 10, 3) := by decide +kernel
theorem dX12_number_77 : decode cX12_number 77 = .ok (.aload_n 0, 1) := by decide +kernel
theorem dX12_number_78 : decode cX12_number 78 = .ok (.invokevirtual 123, 3) := by decide +kernel
theorem dX12_number_81 : decode cX12_number 81 = .ok (.goto 26, 3) := by decide +kernel
theorem dX12_number_84 : decode cX12_number 84 = .ok (.iload_n 3, 1) := by decide +kernel
theorem dX12_number_85 : decode cX12_number 85 = .ok (.iload_n 1, 1) := by decide +kernel
theorem dX12_number_86 : decode cX12_number 86 = .ok (.iload_n 2, 1) := by decide +kernel
theorem dX12_number_87 : decode cX12_number 87 = .ok (.invokestatic 212, 3) := by decide +kernel
theorem dX12_number_90 : decode cX12_number 90 = .ok (.ifCond .ne 17, 3) := by decide +kernel
theorem dX12_number_93 : decode cX12_number 93 = .ok (.aload_n 0, 1) := by decide +kernel
theorem dX12_number_94 : decode cX12_number 94 = .ok (.dup, 1) := by decide +kernel
theorem dX12_number_95 : decode cX12_number 95 = .ok (.getfield 107, 3) := by decide +kernel
theorem dX12_number_98 : decode cX12_number 98 = .ok (.iconst 1, 1) := by decide +kernel
theorem dX12_number_99 : decode cX12_number 99 = .ok (.isub, 1) := by decide +kernel
theorem dX12_number_100 : decode cX12_number 100 = .ok (.putfield 107, 3) := by decide +kernel
theorem dX12_number_103 : decode cX12_number 103 = .ok (.aload_n 0, 1) := by decide +kernel
theorem dX12_number_104 : decode cX12_number 104 = .ok (.invokevirtual 123, 3) := by decide +kernel
theorem dX12_number_107 : decode cX12_number 107 = .ok (.iload_n 3, 1) := by decide +kernel
theorem dX12_number_108 : decode cX12_number 108 = .ok (.ireturn, 1) := by decide +kernel
theorem dX12_items_0 : decode cX12_items 0 = .ok (.iconst 0, 1) := by decide +kernel
theorem dX12_items_1 : decode cX12_items 1 = .ok (.istore 5, 2) := by decide +kernel
theorem dX12_items_3 : decode cX12_items 3 = .ok (.iload 5, 2) := by decide +kernel
theorem dX12_items_5 : decode cX12_items 5 = .ok (.iload 4, 2) := by decide +kernel
theorem dX12_items_7 : decode cX12_items 7 = .ok (.if_icmp .ge 21, 3) := by decide +kernel
theorem dX12_items_10 : decode cX12_items 10 = .ok (.aload_n 2, 1) := by decide +kernel
theorem dX12_items_11 : decode cX12_items 11 = .ok (.iload_n 3, 1) := by decide +kernel
theorem dX12_items_12 : decode cX12_items 12 = .ok (.iload 5, 2) := by decide +kernel
theorem dX12_items_14 : decode cX12_items 14 = .ok (.iadd, 1) := by decide +kernel
theorem dX12_items_15 : decode cX12_items 15 = .ok (.iload_n 1, 1) := by decide +kernel
theorem dX12_items_16 : decode cX12_items 16 = .ok (.iload 5, 2) := by decide +kernel
theorem dX12_items_18 : decode cX12_items 18 = .ok (.invokestatic 216, 3) := by decide +kernel
theorem dX12_items_21 : decode cX12_items 21 = .ok (.iastore, 1) := by decide +kernel
theorem dX12_items_22 : decode cX12_items 22 = .ok (.iinc 5 1, 3) := by decide +kernel
theorem dX12_items_25 : decode cX12_items 25 = .ok (.goto (-22), 3) := by decide +kernel
theorem dX12_items_28 : decode cX12_items 28 = .ok (.iconst 0, 1) := by decide +kernel
theorem dX12_items_29 : decode cX12_items 29 = .ok (.istore 5, 2) := by decide +kernel
theorem dX12_items_31 : decode cX12_items 31 = .ok (.iload_n 1, 1) := by decide +kernel
theorem dX12_items_32 : decode cX12_items 32 = .ok (.aload_n 0, 1) := by decide +kernel
theorem dX12_items_33 : decode cX12_items 33 = .ok (.invokevirtual 126, 3) := by decide +kernel
theorem dX12_items_36 : decode cX12_items 36 = .ok (.invokestatic 220, 3) := by decide +kernel
theorem dX12_items_39 : decode cX12_items 39 = .ok (.istore 6, 2) := by decide +kernel
theorem dX12_items_41 : decode cX12_items 41 = .ok (.aload_n 0, 1) := by decide +kernel
theorem dX12_items_42 : decode cX12_items 42 = .ok (.getfield 114, 3) := by decide +kernel
theorem dX12_items_45 : decode cX12_items 45 = .ok (.iconst (-1), 1) := by decide +kernel
theorem dX12_items_46 : decode cX12_items 46 = .ok (.if_icmp .ne 85, 3) := by decide +kernel
theorem dX12_items_49 : decode cX12_items 49 = .ok (.iload 6, 2) := by decide +kernel
theorem dX12_items_51 : decode cX12_items 51 = .ok (.iconst (-1), 1) := by decide +kernel
theorem dX12_items_52 : decode cX12_items 52 = .ok (.if_icmp .eq 79, 3) := by decide +kernel
theorem dX12_items_55 : decode cX12_items 55 = .ok (.iload 5, 2) := by decide +kernel
theorem dX12_items_57 : decode cX12_items 57 = .ok (.iload 6, 2) := by decide +kernel
theorem dX12_items_59 : decode cX12_items 59 = .ok (.invokestatic 223, 3) := by decide +kernel
theorem dX12_items_62 : decode cX12_items 62 = .ok (.ifCond .ne 69, 3) := by decide +kernel
theorem dX12_items_65 : decode cX12_items 65 = .ok (.iload 5, 2) := by decide +kernel
theorem dX12_items_67 : decode cX12_items 67 = .ok (.iconst 1, 1) := by decide +kernel
theorem dX12_items_68 : decode cX12_items 68 = .ok (.iload 6, 2) := by decide +kernel
theorem dX12_items_70 : decode cX12_items 70 = .ok (.ishl, 1) := by decide +kernel
theorem dX12_items_71 : decode cX12_items 71 = .ok (.ior, 1) := by decide +kernel
theorem dX12_items_72 : decode cX12_items 72 = .ok (.istore 5, 2) := by decide +kernel
theorem dX12_items_74 : decode cX12_items 74 = .ok (.aload_n 0, 1) := by decide +kernel
theorem dX12_items_75 : decode cX12_items 75 = .ok (.dup, 1) := by decide +kernel
theorem dX12_items_76 : decode cX12_items 76 = .ok (.getfield 107, 3) := by decide +kernel
theorem dX12_items_79 : decode cX12_items 79 = .ok (.iconst 1, 1) := by decide +kernel
theorem dX12_items_80 : decode cX12_items 80 = .ok (.iadd, 1) := by decide +kernel
theorem dX12_items_81 : decode cX12_items 81 = .ok (.putfield 107, 3) := by decide +kernel
theorem dX12_items_84 : decode cX12_items 84 = .ok (.aload_n 2, 1) := by decide +kernel
theorem dX12_items_85 : decode cX12_items 85 = .ok (.iload_n 3, 1) := by decide +kernel
theorem dX12_items_86 : decode cX12_items 86 = .ok (.iload 6, 2) := by decide +kernel
theorem dX12_items_88 : decode cX12_items 88 = .ok (.iadd, 1) := by decide +kernel
theorem dX12_items_89 : decode cX12_items 89 = .ok (.aload_n 0, 1) := by decide +kernel
theorem dX12_items_90 : decode cX12_items 90 = .ok (.iload_n 1, 1) := by decide +kernel
theorem dX12_items_91 : decode cX12_items 91 = .ok (.iload 6, 2) := by decide +kernel
theorem dX12_items_93 : decode cX12_items 93 = .ok (.invokestatic 227, 3) := by decide +kernel
theorem dX12_items_96 : decode cX12_items 96 = .ok (.iload_n 1, 1) := by decide +kernel
theorem dX12_items_97 : decode cX12_items 97 = .ok (.iload 6, 2) := by decide +kernel
theorem dX12_items_99 : decode cX12_items 99 = .ok (.invokestatic 230, 3) := by decide +kernel
theorem dX12_items_102 : decode cX12_items 102 = .ok (.invokevirtual 233, 3) := by decide +kernel
theorem dX12_items_105 : decode cX12_items 105 = .ok (.iastore, 1) := by decide +kernel
theorem dX12_items_106 : decode cX12_items 106 = .ok (.aload_n 0, 1) := by decide +kernel
theorem dX12_items_107 : decode cX12_items 107 = .ok (.getfield 114, 3) := by decide +kernel
theorem dX12_items_110 : decode cX12_items 110 = .ok (.iconst (-1), 1) := by decide +kernel
theorem dX12_items_111 : decode cX12_items 111 = .ok (.if_icmp .ne 14, 3) := by decide +kernel
theorem dX12_items_114 : decode cX12_items 114 = .ok (.iload_n 1, 1) := by decide +kernel
theorem dX12_items_115 : decode cX12_items 115 = .ok (.aload_n 0, 1) := by decide +kernel
theorem dX12_items_116 : decode cX12_items 116 = .ok (.invokevirtual 126, 3) := by decide +kernel
theorem dX12_items_119 : decode cX12_items 119 = .ok (.invokestatic 220, 3) := by decide +kernel
theorem dX12_items_122 : decode cX12_items 122 = .ok (.goto 4, 3) := by decide +kernel
theorem dX12_items_125 : decode cX12_items 125 = .ok (.iconst (-1), 1) := by decide +kernel
theorem dX12_items_126 : decode cX12_items 126 = .ok (.istore 6, 2) := by decide +kernel
theorem dX12_items_128 : decode cX12_items 128 = .ok (.goto (-87), 3) := by decide +kernel
theorem dX12_items_131 : decode cX12_items 131 = .ok (.return_, 1) := by decide +kernel
theorem dX12_isWhole_0 : decode cX12_isWhole 0 = .ok (.aload_n 0, 1) := by decide +kernel
theorem dX12_isWhole_1 : decode cX12_isWhole 1 = .ok (.getfield 236, 3) := by decide +kernel
theorem dX12_isWhole_4 : decode cX12_isWhole 4 = .ok (.ifCond .le 14, 3) := by decide +kernel
theorem dX12_isWhole_7 : decode cX12_isWhole 7 = .ok (.aload_n 0, 1) := by decide +kernel
theorem dX12_isWhole_8 : decode cX12_isWhole 8 = .ok (.getfield 239, 3) := by decide +kernel
theorem dX12_isWhole_11 : decode cX12_isWhole 11 = .ok (.ifCond .le 7, 3) := by decide +kernel
theorem dX12_isWhole_14 : decode cX12_isWhole 14 = .ok (.iconst 1, 1) := by decide +kernel
theorem dX12_isWhole_15 : decode cX12_isWhole 15 = .ok (.goto 4, 3) := by decide +kernel
theorem dX12_isWhole_18 : decode cX12_isWhole 18 = .ok (.iconst 0, 1) := by decide +kernel
theorem dX12_isWhole_19 : decode cX12_isWhole 19 = .ok (.istore_n 1, 1) := by decide +kernel
theorem dX12_isWhole_20 : decode cX12_isWhole 20 = .ok (.iconst 0, 1) := by decide +kernel
theorem dX12_isWhole_21 : decode cX12_isWhole 21 = .ok (.istore_n 2, 1) := by decide +kernel
theorem dX12_isWhole_22 : decode cX12_isWhole 22 = .ok (.iload_n 2, 1) := by decide +kernel
theorem dX12_isWhole_23 : decode cX12_isWhole 23 = .ok (.aload_n 0, 1) := by decide +kernel
theorem dX12_isWhole_24 : decode cX12_isWhole 24 = .ok (.getfield 236, 3) := by decide +kernel
theorem dX12_isWhole_27 : decode cX12_isWhole 27 = .ok (.if_icmp .ge 42, 3) := by decide +kernel
theorem dX12_isWhole_30 : decode cX12_isWhole 30 = .ok (.iload_n 1, 1) := by decide +kernel
theorem dX12_isWhole_31 : decode cX12_isWhole 31 = .ok (.ifCond .eq 30, 3) := by decide +kernel
theorem dX12_isWhole_34 : decode cX12_isWhole 34 = .ok (.aload_n 0, 1) := by decide +kernel
theorem dX12_isWhole_35 : decode cX12_isWhole 35 = .ok (.getfield 43, 3) := by decide +kernel
theorem dX12_isWhole_38 : decode cX12_isWhole 38 = .ok (.iconst 5, 1) := by decide +kernel
theorem dX12_isWhole_39 : decode cX12_isWhole 39 = .ok (.iload_n 2, 1) := by decide +kernel
theorem dX12_isWhole_40 : decode cX12_isWhole 40 = .ok (.imul, 1) := by decide +kernel
theorem dX12_isWhole_41 : decode cX12_isWhole 41 = .ok (.iconst 0, 1) := by decide +kernel
theorem dX12_isWhole_42 : decode cX12_isWhole 42 = .ok (.iadd, 1) := by decide +kernel
theorem dX12_isWhole_43 : decode cX12_isWhole 43 = .ok (.iaload, 1) := by decide +kernel
theorem dX12_isWhole_44 : decode cX12_isWhole 44 = .ok (.aload_n 0, 1) := by decide +kernel
theorem dX12_isWhole_45 : decode cX12_isWhole 45 = .ok (.getfield 43, 3) := by decide +kernel
theorem dX12_isWhole_48 : decode cX12_isWhole 48 = .ok (.iconst 5, 1) := by decide +kernel
theorem dX12_isWhole_49 : decode cX12_isWhole 49 = .ok (.iload_n 2, 1) := by decide +kernel
theorem dX12_isWhole_50 : decode cX12_isWhole 50 = .ok (.imul, 1) := by decide +kernel
theorem dX12_isWhole_51 : decode cX12_isWhole 51 = .ok (.iconst 1, 1) := by decide +kernel
theorem dX12_isWhole_52 : decode cX12_isWhole 52 = .ok (.iadd, 1) := by decide +kernel
theorem dX12_isWhole_53 : decode cX12_isWhole 53 = .ok (.iaload, 1) := by decide +kernel
theorem dX12_isWhole_54 : decode cX12_isWhole 54 = .ok (.if_icmp .eq 7, 3) := by decide +kernel
theorem dX12_isWhole_57 : decode cX12_isWhole 57 = .ok (.iconst 1, 1) := by decide +kernel
theorem dX12_isWhole_58 : decode cX12_isWhole 58 = .ok (.goto 4, 3) := by decide +kernel
theorem dX12_isWhole_61 : decode cX12_isWhole 61 = .ok (.iconst 0, 1) := by decide +kernel
theorem dX12_isWhole_62 : decode cX12_isWhole 62 = .ok (.istore_n 1, 1) := by decide +kernel
theorem dX12_isWhole_63 : decode cX12_isWhole 63 = .ok (.iinc 2 1, 3) := by decide +kernel
theorem dX12_isWhole_66 : decode cX12_isWhole 66 = .ok (.goto (-44), 3) := by decide +kernel
theorem dX12_isWhole_69 : decode cX12_isWhole 69 = .ok (.iload_n 1, 1) := by decide +kernel
theorem dX12_isWhole_70 : decode cX12_isWhole 70 = .ok (.ireturn, 1) := by decide +kernel
theorem dX12_readParish_0 : decode cX12_readParish 0 = .ok (.aload_n 0, 1) := by decide +kernel
theorem dX12_readParish_1 : decode cX12_readParish 1 = .ok (.iconst 0, 1) := by decide +kernel
theorem dX12_readParish_2 : decode cX12_readParish 2 = .ok (.putfield 107, 3) := by decide +kernel
theorem dX12_readParish_5 : decode cX12_readParish 5 = .ok (.aload_n 0, 1) := by decide +kernel
theorem dX12_readParish_6 : decode cX12_readParish 6 = .ok (.iconst (-1), 1) := by decide +kernel
theorem dX12_readParish_7 : decode cX12_readParish 7 = .ok (.putfield 114, 3) := by decide +kernel
theorem dX12_readParish_10 : decode cX12_readParish 10 = .ok (.aload_n 0, 1) := by decide +kernel
theorem dX12_readParish_11 : decode cX12_readParish 11 = .ok (.iconst 0, 1) := by decide +kernel
theorem dX12_readParish_12 : decode cX12_readParish 12 = .ok (.putfield 236, 3) := by decide +kernel
theorem dX12_readParish_15 : decode cX12_readParish 15 = .ok (.aload_n 0, 1) := by decide +kernel
theorem dX12_readParish_16 : decode cX12_readParish 16 = .ok (.iconst 0, 1) := by decide +kernel
theorem dX12_readParish_17 : decode cX12_readParish 17 = .ok (.putfield 239, 3) := by decide +kernel
theorem dX12_readParish_20 : decode cX12_readParish 20 = .ok (.iconst 0, 1) := by decide +kernel
theorem dX12_readParish_21 : decode cX12_readParish 21 = .ok (.istore_n 1, 1) := by decide +kernel
theorem dX12_readParish_22 : decode cX12_readParish 22 = .ok (.iconst 0, 1) := by decide +kernel
theorem dX12_readParish_23 : decode cX12_readParish 23 = .ok (.istore_n 2, 1) := by decide +kernel
theorem dX12_readParish_24 : decode cX12_readParish 24 = .ok (.iload_n 2, 1) := by decide +kernel
theorem dX12_readParish_25 : decode cX12_readParish 25 = .ok (.iconst 3, 1) := by decide +kernel
theorem dX12_readParish_26 : decode cX12_readParish 26 = .ok (.if_icmp .ge 21, 3) := by decide +kernel
theorem dX12_readParish_29 : decode cX12_readParish 29 = .ok (.aload_n 0, 1) := by decide +kernel
theorem dX12_readParish_30 : decode cX12_readParish 30 = .ok (.getfield 40, 3) := by decide +kernel
theorem dX12_readParish_33 : decode cX12_readParish 33 = .ok (.iload_n 2, 1) := by decide +kernel
theorem dX12_readParish_34 : decode cX12_readParish 34 = .ok (.bipush 115, 2) := by decide +kernel
theorem dX12_readParish_36 : decode cX12_readParish 36 = .ok (.iload_n 2, 1) := by decide +kernel
theorem dX12_readParish_37 : decode cX12_readParish 37 = .ok (.invokestatic 216, 3) := by decide +kernel
theorem dX12_readParish_40 : decode cX12_readParish 40 = .ok (.iastore, 1) := by decide +kernel
theorem dX12_readParish_41 : decode cX12_readParish 41 = .ok (.iinc 2 1, 3) := by decide +kernel
theorem dX12_readParish_44 : decode cX12_readParish 44 = .ok (.goto (-20), 3) := by decide +kernel
theorem dX12_readParish_47 : decode cX12_readParish 47 = .ok (.iconst 1, 1) := by decide +kernel
theorem dX12_readParish_48 : decode cX12_readParish 48 = .ok (.istore_n 2, 1) := by decide +kernel
theorem dX12_readParish_49 : decode cX12_readParish 49 = .ok (.iload_n 2, 1) := by decide +kernel
theorem dX12_readParish_50 : decode cX12_readParish 50 = .ok (.ifCond .eq 208, 3) := by decide +kernel
theorem dX12_readParish_53 : decode cX12_readParish 53 = .ok (.aload_n 0, 1) := by decide +kernel
theorem dX12_readParish_54 : decode cX12_readParish 54 = .ok (.getfield 114, 3) := by decide +kernel
theorem dX12_readParish_57 : decode cX12_readParish 57 = .ok (.iconst (-1), 1) := by decide +kernel
theorem dX12_readParish_58 : decode cX12_readParish 58 = .ok (.if_icmp .ne 200, 3) := by decide +kernel
theorem dX12_readParish_61 : decode cX12_readParish 61 = .ok (.aload_n 0, 1) := by decide +kernel
theorem dX12_readParish_62 : decode cX12_readParish 62 = .ok (.invokevirtual 126, 3) := by decide +kernel
theorem dX12_readParish_65 : decode cX12_readParish 65 = .ok (.istore_n 3, 1) := by decide +kernel
theorem dX12_readParish_66 : decode cX12_readParish 66 = .ok (.iload_n 3, 1) := by decide +kernel
theorem dX12_readParish_67 : decode cX12_readParish 67 = .ok (.bipush 115, 2) := by decide +kernel
theorem dX12_readParish_69 : decode cX12_readParish 69 = .ok (.if_icmp .ne 33, 3) := by decide +kernel
theorem dX12_readParish_72 : decode cX12_readParish 72 = .ok (.iload_n 1, 1) := by decide +kernel
theorem dX12_readParish_73 : decode cX12_readParish 73 = .ok (.ifCond .ne 29, 3) := by decide +kernel
theorem dX12_readParish_76 : decode cX12_readParish 76 = .ok (.iconst 1, 1) := by decide +kernel
theorem dX12_readParish_77 : decode cX12_readParish 77 = .ok (.istore_n 1, 1) := by decide +kernel
theorem dX12_readParish_78 : decode cX12_readParish 78 = .ok (.aload_n 0, 1) := by decide +kernel
theorem dX12_readParish_79 : decode cX12_readParish 79 = .ok (.dup, 1) := by decide +kernel
theorem dX12_readParish_80 : decode cX12_readParish 80 = .ok (.getfield 107, 3) := by decide +kernel
theorem dX12_readParish_83 : decode cX12_readParish 83 = .ok (.iconst 1, 1) := by decide +kernel
theorem dX12_readParish_84 : decode cX12_readParish 84 = .ok (.iadd, 1) := by decide +kernel
theorem dX12_readParish_85 : decode cX12_readParish 85 = .ok (.putfield 107, 3) := by decide +kernel
theorem dX12_readParish_88 : decode cX12_readParish 88 = .ok (.aload_n 0, 1) := by decide +kernel
theorem dX12_readParish_89 : decode cX12_readParish 89 = .ok (.iload_n 3, 1) := by decide +kernel
theorem dX12_readParish_90 : decode cX12_readParish 90 = .ok (.aload_n 0, 1) := by decide +kernel
theorem dX12_readParish_91 : decode cX12_readParish 91 = .ok (.getfield 40, 3) := by decide +kernel
theorem dX12_readParish_94 : decode cX12_readParish 94 = .ok (.iconst 0, 1) := by decide +kernel
theorem dX12_readParish_95 : decode cX12_readParish 95 = .ok (.iconst 3, 1) := by decide +kernel
theorem dX12_readParish_96 : decode cX12_readParish 96 = .ok (.invokevirtual 242, 3) := by decide +kernel
theorem dX12_readParish_99 : decode cX12_readParish 99 = .ok (.goto 115, 3) := by decide +kernel
theorem dX12_readParish_102 : decode cX12_readParish 102 = .ok (.iload_n 3, 1) := by decide +kernel
theorem dX12_readParish_103 : decode cX12_readParish 103 = .ok (.bipush 114, 2) := by decide +kernel
theorem dX12_readParish_105 : decode cX12_readParish 105 = .ok (.if_icmp .ne 51, 3) := by decide +kernel
theorem dX12_readParish_108 : decode cX12_readParish 108 = .ok (.aload_n 0, 1) := by decide +kernel
theorem dX12_readParish_109 : decode cX12_readParish 109 = .ok (.getfield 236, 3) := by decide +kernel
theorem dX12_readParish_112 : decode cX12_readParish 112 = .ok (.bipush 9, 2) := by decide +kernel
theorem dX12_readParish_114 : decode cX12_readParish 114 = .ok (.if_icmp .ge 42, 3) := by decide +kernel
theorem dX12_readParish_117 : decode cX12_readParish 117 = .ok (.aload_n 0, 1) := by decide +kernel
theorem dX12_readParish_118 : decode cX12_readParish 118 = .ok (.dup, 1) := by decide +kernel
theorem dX12_readParish_119 : decode cX12_readParish 119 = .ok (.getfield 107, 3) := by decide +kernel
theorem dX12_readParish_122 : decode cX12_readParish 122 = .ok (.iconst 1, 1) := by decide +kernel
theorem dX12_readParish_123 : decode cX12_readParish 123 = .ok (.iadd, 1) := by decide +kernel
theorem dX12_readParish_124 : decode cX12_readParish 124 = .ok (.putfield 107, 3) := by decide +kernel
theorem dX12_readParish_127 : decode cX12_readParish 127 = .ok (.aload_n 0, 1) := by decide +kernel
theorem dX12_readParish_128 : decode cX12_readParish 128 = .ok (.iload_n 3, 1) := by decide +kernel
theorem dX12_readParish_129 : decode cX12_readParish 129 = .ok (.aload_n 0, 1) := by decide +kernel
theorem dX12_readParish_130 : decode cX12_readParish 130 = .ok (.getfield 43, 3) := by decide +kernel
theorem dX12_readParish_133 : decode cX12_readParish 133 = .ok (.iconst 5, 1) := by decide +kernel
theorem dX12_readParish_134 : decode cX12_readParish 134 = .ok (.aload_n 0, 1) := by decide +kernel
theorem dX12_readParish_135 : decode cX12_readParish 135 = .ok (.getfield 236, 3) := by decide +kernel
theorem dX12_readParish_138 : decode cX12_readParish 138 = .ok (.imul, 1) := by decide +kernel
theorem dX12_readParish_139 : decode cX12_readParish 139 = .ok (.iconst 5, 1) := by decide +kernel
theorem dX12_readParish_140 : decode cX12_readParish 140 = .ok (.invokevirtual 242, 3) := by decide +kernel
theorem dX12_readParish_143 : decode cX12_readParish 143 = .ok (.aload_n 0, 1) := by decide +kernel
theorem dX12_readParish_144 : decode cX12_readParish 144 = .ok (.dup, 1) := by decide +kernel
theorem dX12_readParish_145 : decode cX12_readParish 145 = .ok (.getfield 236, 3) := by decide +kernel
theorem dX12_readParish_148 : decode cX12_readParish 148 = .ok (.iconst 1, 1) := by decide +kernel
theorem dX12_readParish_149 : decode cX12_readParish 149 = .ok (.iadd, 1) := by decide +kernel
theorem dX12_readParish_150 : decode cX12_readParish 150 = .ok (.putfield 236, 3) := by decide +kernel
theorem dX12_readParish_153 : decode cX12_readParish 153 = .ok (.goto 61, 3) := by decide +kernel
theorem dX12_readParish_156 : decode cX12_readParish 156 = .ok (.iload_n 3, 1) := by decide +kernel
theorem dX12_readParish_157 : decode cX12_readParish 157 = .ok (.bipush 104, 2) := by decide +kernel
theorem dX12_readParish_159 : decode cX12_readParish 159 = .ok (.if_icmp .ne 51, 3) := by decide +kernel
theorem dX12_readParish_162 : decode cX12_readParish 162 = .ok (.aload_n 0, 1) := by decide +kernel
theorem dX12_readParish_163 : decode cX12_readParish 163 = .ok (.getfield 239, 3) := by decide +kernel
theorem dX12_readParish_166 : decode cX12_readParish 166 = .ok (.bipush 6, 2) := by decide +kernel
theorem dX12_readParish_168 : decode cX12_readParish 168 = .ok (.if_icmp .ge 42, 3) := by decide +kernel
theorem dX12_readParish_171 : decode cX12_readParish 171 = .ok (.aload_n 0, 1) := by decide +kernel
theorem dX12_readParish_172 : decode cX12_readParish 172 = .ok (.dup, 1) := by decide +kernel
theorem dX12_readParish_173 : decode cX12_readParish 173 = .ok (.getfield 107, 3) := by decide +kernel
theorem dX12_readParish_176 : decode cX12_readParish 176 = .ok (.iconst 1, 1) := by decide +kernel
theorem dX12_readParish_177 : decode cX12_readParish 177 = .ok (.iadd, 1) := by decide +kernel
theorem dX12_readParish_178 : decode cX12_readParish 178 = .ok (.putfield 107, 3) := by decide +kernel
theorem dX12_readParish_181 : decode cX12_readParish 181 = .ok (.aload_n 0, 1) := by decide +kernel
theorem dX12_readParish_182 : decode cX12_readParish 182 = .ok (.iload_n 3, 1) := by decide +kernel
theorem dX12_readParish_183 : decode cX12_readParish 183 = .ok (.aload_n 0, 1) := by decide +kernel
theorem dX12_readParish_184 : decode cX12_readParish 184 = .ok (.getfield 46, 3) := by decide +kernel
theorem dX12_readParish_187 : decode cX12_readParish 187 = .ok (.iconst 3, 1) := by decide +kernel
theorem dX12_readParish_188 : decode cX12_readParish 188 = .ok (.aload_n 0, 1) := by decide +kernel
theorem dX12_readParish_189 : decode cX12_readParish 189 = .ok (.getfield 239, 3) := by decide +kernel
theorem dX12_readParish_192 : decode cX12_readParish 192 = .ok (.imul, 1) := by decide +kernel
theorem dX12_readParish_193 : decode cX12_readParish 193 = .ok (.iconst 3, 1) := by decide +kernel
theorem dX12_readParish_194 : decode cX12_readParish 194 = .ok (.invokevirtual 242, 3) := by decide +kernel
theorem dX12_readParish_197 : decode cX12_readParish 197 = .ok (.aload_n 0, 1) := by decide +kernel
theorem dX12_readParish_198 : decode cX12_readParish 198 = .ok (.dup, 1) := by decide +kernel
theorem dX12_readParish_199 : decode cX12_readParish 199 = .ok (.getfield 239, 3) := by decide +kernel
theorem dX12_readParish_202 : decode cX12_readParish 202 = .ok (.iconst 1, 1) := by decide +kernel
theorem dX12_readParish_203 : decode cX12_readParish 203 = .ok (.iadd, 1) := by decide +kernel
theorem dX12_readParish_204 : decode cX12_readParish 204 = .ok (.putfield 239, 3) := by decide +kernel
theorem dX12_readParish_207 : decode cX12_readParish 207 = .ok (.goto 7, 3) := by decide +kernel
theorem dX12_readParish_210 : decode cX12_readParish 210 = .ok (.aload_n 0, 1) := by decide +kernel
theorem dX12_readParish_211 : decode cX12_readParish 211 = .ok (.invokevirtual 123, 3) := by decide +kernel
theorem dX12_readParish_214 : decode cX12_readParish 214 = .ok (.aload_n 0, 1) := by decide +kernel
theorem dX12_readParish_215 : decode cX12_readParish 215 = .ok (.getfield 114, 3) := by decide +kernel
theorem dX12_readParish_218 : decode cX12_readParish 218 = .ok (.iconst (-1), 1) := by decide +kernel
theorem dX12_readParish_219 : decode cX12_readParish 219 = .ok (.if_icmp .ne 16, 3) := by decide +kernel
theorem dX12_readParish_222 : decode cX12_readParish 222 = .ok (.aload_n 0, 1) := by decide +kernel
theorem dX12_readParish_223 : decode cX12_readParish 223 = .ok (.invokevirtual 126, 3) := by decide +kernel
theorem dX12_readParish_226 : decode cX12_readParish 226 = .ok (.bipush 59, 2) := by decide +kernel
theorem dX12_readParish_228 : decode cX12_readParish 228 = .ok (.if_icmp .ne 7, 3) := by decide +kernel
theorem dX12_readParish_231 : decode cX12_readParish 231 = .ok (.iconst 1, 1) := by decide +kernel
theorem dX12_readParish_232 : decode cX12_readParish 232 = .ok (.goto 4, 3) := by decide +kernel
theorem dX12_readParish_235 : decode cX12_readParish 235 = .ok (.iconst 0, 1) := by decide +kernel
theorem dX12_readParish_236 : decode cX12_readParish 236 = .ok (.istore_n 2, 1) := by decide +kernel
theorem dX12_readParish_237 : decode cX12_readParish 237 = .ok (.aload_n 0, 1) := by decide +kernel
theorem dX12_readParish_238 : decode cX12_readParish 238 = .ok (.dup, 1) := by decide +kernel
theorem dX12_readParish_239 : decode cX12_readParish 239 = .ok (.getfield 107, 3) := by decide +kernel
theorem dX12_readParish_242 : decode cX12_readParish 242 = .ok (.iload_n 2, 1) := by decide +kernel
theorem dX12_readParish_243 : decode cX12_readParish 243 = .ok (.ifCond .eq 7, 3) := by decide +kernel
theorem dX12_readParish_246 : decode cX12_readParish 246 = .ok (.iconst 1, 1) := by decide +kernel
theorem dX12_readParish_247 : decode cX12_readParish 247 = .ok (.goto 4, 3) := by decide +kernel
theorem dX12_readParish_250 : decode cX12_readParish 250 = .ok (.iconst 0, 1) := by decide +kernel
theorem dX12_readParish_251 : decode cX12_readParish 251 = .ok (.iadd, 1) := by decide +kernel
theorem dX12_readParish_252 : decode cX12_readParish 252 = .ok (.putfield 107, 3) := by decide +kernel
theorem dX12_readParish_255 : decode cX12_readParish 255 = .ok (.goto (-206), 3) := by decide +kernel
theorem dX12_readParish_258 : decode cX12_readParish 258 = .ok (.aload_n 0, 1) := by decide +kernel
theorem dX12_readParish_259 : decode cX12_readParish 259 = .ok (.getfield 114, 3) := by decide +kernel
theorem dX12_readParish_262 : decode cX12_readParish 262 = .ok (.iconst (-1), 1) := by decide +kernel
theorem dX12_readParish_263 : decode cX12_readParish 263 = .ok (.if_icmp .ne 22, 3) := by decide +kernel
theorem dX12_readParish_266 : decode cX12_readParish 266 = .ok (.aload_n 0, 1) := by decide +kernel
theorem dX12_readParish_267 : decode cX12_readParish 267 = .ok (.invokevirtual 126, 3) := by decide +kernel
theorem dX12_readParish_270 : decode cX12_readParish 270 = .ok (.iconst (-1), 1) := by decide +kernel
theorem dX12_readParish_271 : decode cX12_readParish 271 = .ok (.if_icmp .ne 10, 3) := by decide +kernel
theorem dX12_readParish_274 : decode cX12_readParish 274 = .ok (.aload_n 0, 1) := by decide +kernel
theorem dX12_readParish_275 : decode cX12_readParish 275 = .ok (.invokevirtual 246, 3) := by decide +kernel
theorem dX12_readParish_278 : decode cX12_readParish 278 = .ok (.ifCond .ne 7, 3) := by decide +kernel
theorem dX12_readParish_281 : decode cX12_readParish 281 = .ok (.aload_n 0, 1) := by decide +kernel
theorem dX12_readParish_282 : decode cX12_readParish 282 = .ok (.invokevirtual 123, 3) := by decide +kernel
theorem dX12_readParish_285 : decode cX12_readParish 285 = .ok (.aload_n 0, 1) := by decide +kernel
theorem dX12_readParish_286 : decode cX12_readParish 286 = .ok (.getfield 114, 3) := by decide +kernel
theorem dX12_readParish_289 : decode cX12_readParish 289 = .ok (.ireturn, 1) := by decide +kernel
theorem dX12_open_0 : decode cX12_open 0 = .ok (.aload_n 0, 1) := by decide +kernel
theorem dX12_open_1 : decode cX12_open 1 = .ok (.iload_n 1, 1) := by decide +kernel
theorem dX12_open_2 : decode cX12_open 2 = .ok (.putfield 117, 3) := by decide +kernel
theorem dX12_open_5 : decode cX12_open 5 = .ok (.aload_n 0, 1) := by decide +kernel
theorem dX12_open_6 : decode cX12_open 6 = .ok (.iconst 0, 1) := by decide +kernel
theorem dX12_open_7 : decode cX12_open 7 = .ok (.putfield 107, 3) := by decide +kernel
theorem dX12_open_10 : decode cX12_open 10 = .ok (.aload_n 0, 1) := by decide +kernel
theorem dX12_open_11 : decode cX12_open 11 = .ok (.iconst (-1), 1) := by decide +kernel
theorem dX12_open_12 : decode cX12_open 12 = .ok (.putfield 114, 3) := by decide +kernel
theorem dX12_open_15 : decode cX12_open 15 = .ok (.aload_n 0, 1) := by decide +kernel
theorem dX12_open_16 : decode cX12_open 16 = .ok (.iconst 0, 1) := by decide +kernel
theorem dX12_open_17 : decode cX12_open 17 = .ok (.putfield 120, 3) := by decide +kernel
theorem dX12_open_20 : decode cX12_open 20 = .ok (.aload_n 0, 1) := by decide +kernel
theorem dX12_open_21 : decode cX12_open 21 = .ok (.getfield 19, 3) := by decide +kernel
theorem dX12_open_24 : decode cX12_open 24 = .ok (.iload_n 1, 1) := by decide +kernel
theorem dX12_open_25 : decode cX12_open 25 = .ok (.iconst 0, 1) := by decide +kernel
theorem dX12_open_26 : decode cX12_open 26 = .ok (.iastore, 1) := by decide +kernel
theorem dX12_open_27 : decode cX12_open 27 = .ok (.aload_n 0, 1) := by decide +kernel
theorem dX12_open_28 : decode cX12_open 28 = .ok (.getfield 22, 3) := by decide +kernel
theorem dX12_open_31 : decode cX12_open 31 = .ok (.iload_n 1, 1) := by decide +kernel
theorem dX12_open_32 : decode cX12_open 32 = .ok (.iconst 0, 1) := by decide +kernel
theorem dX12_open_33 : decode cX12_open 33 = .ok (.iastore, 1) := by decide +kernel
theorem dX12_open_34 : decode cX12_open 34 = .ok (.return_, 1) := by decide +kernel
theorem dX12_readLaw_0 : decode cX12_readLaw 0 = .ok (.aload_n 0, 1) := by decide +kernel
theorem dX12_readLaw_1 : decode cX12_readLaw 1 = .ok (.iload_n 1, 1) := by decide +kernel
theorem dX12_readLaw_2 : decode cX12_readLaw 2 = .ok (.invokevirtual 178, 3) := by decide +kernel
theorem dX12_readLaw_5 : decode cX12_readLaw 5 = .ok (.aload_n 0, 1) := by decide +kernel
theorem dX12_readLaw_6 : decode cX12_readLaw 6 = .ok (.invokevirtual 181, 3) := by decide +kernel
theorem dX12_readLaw_9 : decode cX12_readLaw 9 = .ok (.aload_n 0, 1) := by decide +kernel
theorem dX12_readLaw_10 : decode cX12_readLaw 10 = .ok (.getfield 114, 3) := by decide +kernel
theorem dX12_readLaw_13 : decode cX12_readLaw 13 = .ok (.iconst (-1), 1) := by decide +kernel
theorem dX12_readLaw_14 : decode cX12_readLaw 14 = .ok (.if_icmp .ne 29, 3) := by decide +kernel
theorem dX12_readLaw_17 : decode cX12_readLaw 17 = .ok (.aload_n 0, 1) := by decide +kernel
theorem dX12_readLaw_18 : decode cX12_readLaw 18 = .ok (.invokevirtual 126, 3) := by decide +kernel
theorem dX12_readLaw_21 : decode cX12_readLaw 21 = .ok (.bipush 59, 2) := by decide +kernel
theorem dX12_readLaw_23 : decode cX12_readLaw 23 = .ok (.if_icmp .ne 20, 3) := by decide +kernel
theorem dX12_readLaw_26 : decode cX12_readLaw 26 = .ok (.aload_n 0, 1) := by decide +kernel
theorem dX12_readLaw_27 : decode cX12_readLaw 27 = .ok (.dup, 1) := by decide +kernel
theorem dX12_readLaw_28 : decode cX12_readLaw 28 = .ok (.getfield 107, 3) := by decide +kernel
theorem dX12_readLaw_31 : decode cX12_readLaw 31 = .ok (.iconst 1, 1) := by decide +kernel
theorem dX12_readLaw_32 : decode cX12_readLaw 32 = .ok (.iadd, 1) := by decide +kernel
theorem dX12_readLaw_33 : decode cX12_readLaw 33 = .ok (.putfield 107, 3) := by decide +kernel
theorem dX12_readLaw_36 : decode cX12_readLaw 36 = .ok (.aload_n 0, 1) := by decide +kernel
theorem dX12_readLaw_37 : decode cX12_readLaw 37 = .ok (.invokevirtual 181, 3) := by decide +kernel
theorem dX12_readLaw_40 : decode cX12_readLaw 40 = .ok (.goto (-31), 3) := by decide +kernel
theorem dX12_readLaw_43 : decode cX12_readLaw 43 = .ok (.aload_n 0, 1) := by decide +kernel
theorem dX12_readLaw_44 : decode cX12_readLaw 44 = .ok (.invokevirtual 184, 3) := by decide +kernel
theorem dX12_readLaw_47 : decode cX12_readLaw 47 = .ok (.ireturn, 1) := by decide +kernel
theorem dX12_fault_0 : decode cX12_fault 0 = .ok (.iload_n 1, 1) := by decide +kernel
theorem dX12_fault_1 : decode cX12_fault 1 = .ok (.ifCond .ne 10, 3) := by decide +kernel
theorem dX12_fault_4 : decode cX12_fault 4 = .ok (.aload_n 0, 1) := by decide +kernel
theorem dX12_fault_5 : decode cX12_fault 5 = .ok (.invokevirtual 250, 3) := by decide +kernel
theorem dX12_fault_8 : decode cX12_fault 8 = .ok (.goto 18, 3) := by decide +kernel
theorem dX12_fault_11 : decode cX12_fault 11 = .ok (.iload_n 1, 1) := by decide +kernel
theorem dX12_fault_12 : decode cX12_fault 12 = .ok (.iconst 1, 1) := by decide +kernel
theorem dX12_fault_13 : decode cX12_fault 13 = .ok (.if_icmp .ne 11, 3) := by decide +kernel
theorem dX12_fault_16 : decode cX12_fault 16 = .ok (.aload_n 0, 1) := by decide +kernel
theorem dX12_fault_17 : decode cX12_fault 17 = .ok (.iconst 4, 1) := by decide +kernel
theorem dX12_fault_18 : decode cX12_fault 18 = .ok (.invokevirtual 253, 3) := by decide +kernel
theorem dX12_fault_21 : decode cX12_fault 21 = .ok (.goto 5, 3) := by decide +kernel
theorem dX12_fault_24 : decode cX12_fault 24 = .ok (.bipush (-2), 2) := by decide +kernel
theorem dX12_fault_26 : decode cX12_fault 26 = .ok (.ireturn, 1) := by decide +kernel
theorem dX12_feed_0 : decode cX12_feed 0 = .ok (.iconst 0, 1) := by decide +kernel
theorem dX12_feed_1 : decode cX12_feed 1 = .ok (.istore 6, 2) := by decide +kernel
theorem dX12_feed_3 : decode cX12_feed 3 = .ok (.iconst 0, 1) := by decide +kernel
theorem dX12_feed_4 : decode cX12_feed 4 = .ok (.istore 7, 2) := by decide +kernel
theorem dX12_feed_6 : decode cX12_feed 6 = .ok (.iload 7, 2) := by decide +kernel
theorem dX12_feed_8 : decode cX12_feed 8 = .ok (.bipush 20, 2) := by decide +kernel
theorem dX12_feed_10 : decode cX12_feed 10 = .ok (.if_icmp .ge 34, 3) := by decide +kernel
theorem dX12_feed_13 : decode cX12_feed 13 = .ok (.iload 6, 2) := by decide +kernel
theorem dX12_feed_15 : decode cX12_feed 15 = .ok (.iload_n 1, 1) := by decide +kernel
theorem dX12_feed_16 : decode cX12_feed 16 = .ok (.iload_n 2, 1) := by decide +kernel
theorem dX12_feed_17 : decode cX12_feed 17 = .ok (.iload_n 3, 1) := by decide +kernel
theorem dX12_feed_18 : decode cX12_feed 18 = .ok (.iload 4, 2) := by decide +kernel
theorem dX12_feed_20 : decode cX12_feed 20 = .ok (.iload 5, 2) := by decide +kernel
theorem dX12_feed_22 : decode cX12_feed 22 = .ok (.iload 7, 2) := by decide +kernel
theorem dX12_feed_24 : decode cX12_feed 24 = .ok (.invokestatic 100, 3) := by decide +kernel
theorem dX12_feed_27 : decode cX12_feed 27 = .ok (.ifCond .eq 7, 3) := by decide +kernel
theorem dX12_feed_30 : decode cX12_feed 30 = .ok (.iconst 1, 1) := by decide +kernel
theorem dX12_feed_31 : decode cX12_feed 31 = .ok (.goto 4, 3) := by decide +kernel
theorem dX12_feed_34 : decode cX12_feed 34 = .ok (.iconst 0, 1) := by decide +kernel
theorem dX12_feed_35 : decode cX12_feed 35 = .ok (.iadd, 1) := by decide +kernel
theorem dX12_feed_36 : decode cX12_feed 36 = .ok (.istore 6, 2) := by decide +kernel
theorem dX12_feed_38 : decode cX12_feed 38 = .ok (.iinc 7 1, 3) := by decide +kernel
theorem dX12_feed_41 : decode cX12_feed 41 = .ok (.goto (-35), 3) := by decide +kernel
theorem dX12_feed_44 : decode cX12_feed 44 = .ok (.aload_n 0, 1) := by decide +kernel
theorem dX12_feed_45 : decode cX12_feed 45 = .ok (.getfield 104, 3) := by decide +kernel
theorem dX12_feed_48 : decode cX12_feed 48 = .ok (.iload 6, 2) := by decide +kernel
theorem dX12_feed_50 : decode cX12_feed 50 = .ok (.iadd, 1) := by decide +kernel
theorem dX12_feed_51 : decode cX12_feed 51 = .ok (.sipush 240, 3) := by decide +kernel
theorem dX12_feed_54 : decode cX12_feed 54 = .ok (.if_icmp .le 5, 3) := by decide +kernel
theorem dX12_feed_57 : decode cX12_feed 57 = .ok (.iconst (-1), 1) := by decide +kernel
theorem dX12_feed_58 : decode cX12_feed 58 = .ok (.ireturn, 1) := by decide +kernel
theorem dX12_feed_59 : decode cX12_feed 59 = .ok (.iconst 0, 1) := by decide +kernel
theorem dX12_feed_60 : decode cX12_feed 60 = .ok (.istore 7, 2) := by decide +kernel
theorem dX12_feed_62 : decode cX12_feed 62 = .ok (.iload 7, 2) := by decide +kernel
theorem dX12_feed_64 : decode cX12_feed 64 = .ok (.bipush 20, 2) := by decide +kernel
theorem dX12_feed_66 : decode cX12_feed 66 = .ok (.if_icmp .ge 49, 3) := by decide +kernel
theorem dX12_feed_69 : decode cX12_feed 69 = .ok (.iload_n 1, 1) := by decide +kernel
theorem dX12_feed_70 : decode cX12_feed 70 = .ok (.iload_n 2, 1) := by decide +kernel
theorem dX12_feed_71 : decode cX12_feed 71 = .ok (.iload_n 3, 1) := by decide +kernel
theorem dX12_feed_72 : decode cX12_feed 72 = .ok (.iload 4, 2) := by decide +kernel
theorem dX12_feed_74 : decode cX12_feed 74 = .ok (.iload 5, 2) := by decide +kernel
theorem dX12_feed_76 : decode cX12_feed 76 = .ok (.iload 7, 2) := by decide +kernel
theorem dX12_feed_78 : decode cX12_feed 78 = .ok (.invokestatic 100, 3) := by decide +kernel
theorem dX12_feed_81 : decode cX12_feed 81 = .ok (.istore 8, 2) := by decide +kernel
theorem dX12_feed_83 : decode cX12_feed 83 = .ok (.iload 8, 2) := by decide +kernel
theorem dX12_feed_85 : decode cX12_feed 85 = .ok (.ifCond .eq 24, 3) := by decide +kernel
theorem dX12_feed_88 : decode cX12_feed 88 = .ok (.aload_n 0, 1) := by decide +kernel
theorem dX12_feed_89 : decode cX12_feed 89 = .ok (.getfield 9, 3) := by decide +kernel
theorem dX12_feed_92 : decode cX12_feed 92 = .ok (.aload_n 0, 1) := by decide +kernel
theorem dX12_feed_93 : decode cX12_feed 93 = .ok (.getfield 104, 3) := by decide +kernel
theorem dX12_feed_96 : decode cX12_feed 96 = .ok (.iload 8, 2) := by decide +kernel
theorem dX12_feed_98 : decode cX12_feed 98 = .ok (.iastore, 1) := by decide +kernel
theorem dX12_feed_99 : decode cX12_feed 99 = .ok (.aload_n 0, 1) := by decide +kernel
theorem dX12_feed_100 : decode cX12_feed 100 = .ok (.dup, 1) := by decide +kernel
theorem dX12_feed_101 : decode cX12_feed 101 = .ok (.getfield 104, 3) := by decide +kernel
theorem dX12_feed_104 : decode cX12_feed 104 = .ok (.iconst 1, 1) := by decide +kernel
theorem dX12_feed_105 : decode cX12_feed 105 = .ok (.iadd, 1) := by decide +kernel
theorem dX12_feed_106 : decode cX12_feed 106 = .ok (.putfield 104, 3) := by decide +kernel
theorem dX12_feed_109 : decode cX12_feed 109 = .ok (.iinc 7 1, 3) := by decide +kernel
theorem dX12_feed_112 : decode cX12_feed 112 = .ok (.goto (-50), 3) := by decide +kernel
theorem dX12_feed_115 : decode cX12_feed 115 = .ok (.aload_n 0, 1) := by decide +kernel
theorem dX12_feed_116 : decode cX12_feed 116 = .ok (.getfield 104, 3) := by decide +kernel
theorem dX12_feed_119 : decode cX12_feed 119 = .ok (.ireturn, 1) := by decide +kernel
theorem dX12_isGameKind_0 : decode cX12_isGameKind 0 = .ok (.iload_n 0, 1) := by decide +kernel
theorem dX12_isGameKind_1 : decode cX12_isGameKind 1 = .ok (.ifCond .eq 13, 3) := by decide +kernel
theorem dX12_isGameKind_4 : decode cX12_isGameKind 4 = .ok (.iload_n 0, 1) := by decide +kernel
theorem dX12_isGameKind_5 : decode cX12_isGameKind 5 = .ok (.iconst 1, 1) := by decide +kernel
theorem dX12_isGameKind_6 : decode cX12_isGameKind 6 = .ok (.if_icmp .eq 8, 3) := by decide +kernel
theorem dX12_isGameKind_9 : decode cX12_isGameKind 9 = .ok (.iload_n 0, 1) := by decide +kernel
theorem dX12_isGameKind_10 : decode cX12_isGameKind 10 = .ok (.iconst 3, 1) := by decide +kernel
theorem dX12_isGameKind_11 : decode cX12_isGameKind 11 = .ok (.if_icmp .ne 7, 3) := by decide +kernel
theorem dX12_isGameKind_14 : decode cX12_isGameKind 14 = .ok (.iconst 1, 1) := by decide +kernel
theorem dX12_isGameKind_15 : decode cX12_isGameKind 15 = .ok (.goto 4, 3) := by decide +kernel
theorem dX12_isGameKind_18 : decode cX12_isGameKind 18 = .ok (.iconst 0, 1) := by decide +kernel
theorem dX12_isGameKind_19 : decode cX12_isGameKind 19 = .ok (.ireturn, 1) := by decide +kernel
theorem dX12_gameOf_0 : decode cX12_gameOf 0 = .ok (.aload_n 0, 1) := by decide +kernel
theorem dX12_gameOf_1 : decode cX12_gameOf 1 = .ok (.iload_n 1, 1) := by decide +kernel
theorem dX12_gameOf_2 : decode cX12_gameOf 2 = .ok (.iload_n 3, 1) := by decide +kernel
theorem dX12_gameOf_3 : decode cX12_gameOf 3 = .ok (.iload 4, 2) := by decide +kernel
theorem dX12_gameOf_5 : decode cX12_gameOf 5 = .ok (.invokevirtual 314, 3) := by decide +kernel
theorem dX12_gameOf_8 : decode cX12_gameOf 8 = .ok (.aload_n 0, 1) := by decide +kernel
theorem dX12_gameOf_9 : decode cX12_gameOf 9 = .ok (.iload_n 2, 1) := by decide +kernel
theorem dX12_gameOf_10 : decode cX12_gameOf 10 = .ok (.iload_n 3, 1) := by decide +kernel
theorem dX12_gameOf_11 : decode cX12_gameOf 11 = .ok (.iload 5, 2) := by decide +kernel
theorem dX12_gameOf_13 : decode cX12_gameOf 13 = .ok (.invokevirtual 314, 3) := by decide +kernel
theorem dX12_gameOf_16 : decode cX12_gameOf 16 = .ok (.iadd, 1) := by decide +kernel
theorem dX12_gameOf_17 : decode cX12_gameOf 17 = .ok (.iconst 2, 1) := by decide +kernel
theorem dX12_gameOf_18 : decode cX12_gameOf 18 = .ok (.idiv, 1) := by decide +kernel
theorem dX12_gameOf_19 : decode cX12_gameOf 19 = .ok (.iload 4, 2) := by decide +kernel
theorem dX12_gameOf_21 : decode cX12_gameOf 21 = .ok (.ifCond .ne 7, 3) := by decide +kernel
theorem dX12_gameOf_24 : decode cX12_gameOf 24 = .ok (.iconst 4, 1) := by decide +kernel
theorem dX12_gameOf_25 : decode cX12_gameOf 25 = .ok (.goto 14, 3) := by decide +kernel
theorem dX12_gameOf_28 : decode cX12_gameOf 28 = .ok (.iload 4, 2) := by decide +kernel
theorem dX12_gameOf_30 : decode cX12_gameOf 30 = .ok (.iconst 1, 1) := by decide +kernel
theorem dX12_gameOf_31 : decode cX12_gameOf 31 = .ok (.if_icmp .ne 7, 3) := by decide +kernel
theorem dX12_gameOf_34 : decode cX12_gameOf 34 = .ok (.iconst 2, 1) := by decide +kernel
theorem dX12_gameOf_35 : decode cX12_gameOf 35 = .ok (.goto 4, 3) := by decide +kernel
theorem dX12_gameOf_38 : decode cX12_gameOf 38 = .ok (.iconst 0, 1) := by decide +kernel
theorem dX12_gameOf_39 : decode cX12_gameOf 39 = .ok (.isub, 1) := by decide +kernel
theorem dX12_gameOf_40 : decode cX12_gameOf 40 = .ok (.ireturn, 1) := by decide +kernel
theorem dX12_game_0 : decode cX12_game 0 = .ok (.aload_n 0, 1) := by decide +kernel
theorem dX12_game_1 : decode cX12_game 1 = .ok (.iload_n 1, 1) := by decide +kernel
theorem dX12_game_2 : decode cX12_game 2 = .ok (.iload_n 2, 1) := by decide +kernel
theorem dX12_game_3 : decode cX12_game 3 = .ok (.iload_n 3, 1) := by decide +kernel
theorem dX12_game_4 : decode cX12_game 4 = .ok (.invokevirtual 376, 3) := by decide +kernel
theorem dX12_game_7 : decode cX12_game 7 = .ok (.ifCond .eq 29, 3) := by decide +kernel
theorem dX12_game_10 : decode cX12_game 10 = .ok (.iload 4, 2) := by decide +kernel
theorem dX12_game_12 : decode cX12_game 12 = .ok (.invokestatic 379, 3) := by decide +kernel
theorem dX12_game_15 : decode cX12_game 15 = .ok (.ifCond .eq 21, 3) := by decide +kernel
theorem dX12_game_18 : decode cX12_game 18 = .ok (.iload 5, 2) := by decide +kernel
theorem dX12_game_20 : decode cX12_game 20 = .ok (.invokestatic 379, 3) := by decide +kernel
theorem dX12_game_23 : decode cX12_game 23 = .ok (.ifCond .eq 13, 3) := by decide +kernel
theorem dX12_game_26 : decode cX12_game 26 = .ok (.iload 6, 2) := by decide +kernel
theorem dX12_game_28 : decode cX12_game 28 = .ok (.iconst 0, 1) := by decide +kernel
theorem dX12_game_29 : decode cX12_game 29 = .ok (.iconst 1, 1) := by decide +kernel
theorem dX12_game_30 : decode cX12_game 30 = .ok (.invokestatic 212, 3) := by decide +kernel
theorem dX12_game_33 : decode cX12_game 33 = .ok (.ifCond .ne 7, 3) := by decide +kernel
theorem dX12_game_36 : decode cX12_game 36 = .ok (.ldc_w 382, 3) := by decide +kernel
theorem dX12_game_39 : decode cX12_game 39 = .ok (.ireturn, 1) := by decide +kernel
theorem dX12_game_40 : decode cX12_game 40 = .ok (.iload 6, 2) := by decide +kernel
theorem dX12_game_42 : decode cX12_game 42 = .ok (.ifCond .ne 17, 3) := by decide +kernel
theorem dX12_game_45 : decode cX12_game 45 = .ok (.aload_n 0, 1) := by decide +kernel
theorem dX12_game_46 : decode cX12_game 46 = .ok (.iload_n 1, 1) := by decide +kernel
theorem dX12_game_47 : decode cX12_game 47 = .ok (.iload_n 2, 1) := by decide +kernel
theorem dX12_game_48 : decode cX12_game 48 = .ok (.iload_n 3, 1) := by decide +kernel
theorem dX12_game_49 : decode cX12_game 49 = .ok (.iload 4, 2) := by decide +kernel
theorem dX12_game_51 : decode cX12_game 51 = .ok (.iload 5, 2) := by decide +kernel
theorem dX12_game_53 : decode cX12_game 53 = .ok (.invokevirtual 383, 3) := by decide +kernel
theorem dX12_game_56 : decode cX12_game 56 = .ok (.goto 14, 3) := by decide +kernel
theorem dX12_game_59 : decode cX12_game 59 = .ok (.aload_n 0, 1) := by decide +kernel
theorem dX12_game_60 : decode cX12_game 60 = .ok (.iload_n 2, 1) := by decide +kernel
theorem dX12_game_61 : decode cX12_game 61 = .ok (.iload_n 1, 1) := by decide +kernel
theorem dX12_game_62 : decode cX12_game 62 = .ok (.iload_n 3, 1) := by decide +kernel
theorem dX12_game_63 : decode cX12_game 63 = .ok (.iload 5, 2) := by decide +kernel
theorem dX12_game_65 : decode cX12_game 65 = .ok (.iload 4, 2) := by decide +kernel
theorem dX12_game_67 : decode cX12_game 67 = .ok (.invokevirtual 383, 3) := by decide +kernel
theorem dX12_game_70 : decode cX12_game 70 = .ok (.ireturn, 1) := by decide +kernel
theorem dX12_haul_0 : decode cX12_haul 0 = .ok (.aload_n 0, 1) := by decide +kernel
theorem dX12_haul_1 : decode cX12_haul 1 = .ok (.iload_n 1, 1) := by decide +kernel
theorem dX12_haul_2 : decode cX12_haul 2 = .ok (.invokevirtual 308, 3) := by decide +kernel
theorem dX12_haul_5 : decode cX12_haul 5 = .ok (.ifCond .eq 29, 3) := by decide +kernel
theorem dX12_haul_8 : decode cX12_haul 8 = .ok (.aload_n 0, 1) := by decide +kernel
theorem dX12_haul_9 : decode cX12_haul 9 = .ok (.iload_n 2, 1) := by decide +kernel
theorem dX12_haul_10 : decode cX12_haul 10 = .ok (.invokevirtual 305, 3) := by decide +kernel
theorem dX12_haul_13 : decode cX12_haul 13 = .ok (.ifCond .eq 21, 3) := by decide +kernel
theorem dX12_haul_16 : decode cX12_haul 16 = .ok (.aload_n 0, 1) := by decide +kernel
theorem dX12_haul_17 : decode cX12_haul 17 = .ok (.iload_n 1, 1) := by decide +kernel
theorem dX12_haul_18 : decode cX12_haul 18 = .ok (.iload_n 2, 1) := by decide +kernel
theorem dX12_haul_19 : decode cX12_haul 19 = .ok (.invokevirtual 311, 3) := by decide +kernel
theorem dX12_haul_22 : decode cX12_haul 22 = .ok (.ifCond .eq 12, 3) := by decide +kernel
theorem dX12_haul_25 : decode cX12_haul 25 = .ok (.aload_n 0, 1) := by decide +kernel
theorem dX12_haul_26 : decode cX12_haul 26 = .ok (.iload_n 1, 1) := by decide +kernel
theorem dX12_haul_27 : decode cX12_haul 27 = .ok (.iload_n 2, 1) := by decide +kernel
theorem dX12_haul_28 : decode cX12_haul 28 = .ok (.invokevirtual 290, 3) := by decide +kernel
theorem dX12_haul_31 : decode cX12_haul 31 = .ok (.goto 4, 3) := by decide +kernel
theorem dX12_haul_34 : decode cX12_haul 34 = .ok (.iconst (-1), 1) := by decide +kernel
theorem dX12_haul_35 : decode cX12_haul 35 = .ok (.ireturn, 1) := by decide +kernel
theorem dX12_honest_0 : decode cX12_honest 0 = .ok (.aload_n 0, 1) := by decide +kernel
theorem dX12_honest_1 : decode cX12_honest 1 = .ok (.iload_n 1, 1) := by decide +kernel
theorem dX12_honest_2 : decode cX12_honest 2 = .ok (.invokevirtual 404, 3) := by decide +kernel
theorem dX12_honest_5 : decode cX12_honest 5 = .ok (.ifCond .eq 13, 3) := by decide +kernel
theorem dX12_honest_8 : decode cX12_honest 8 = .ok (.aload_n 0, 1) := by decide +kernel
theorem dX12_honest_9 : decode cX12_honest 9 = .ok (.iload_n 1, 1) := by decide +kernel
theorem dX12_honest_10 : decode cX12_honest 10 = .ok (.iconst 0, 1) := by decide +kernel
theorem dX12_honest_11 : decode cX12_honest 11 = .ok (.invokevirtual 410, 3) := by decide +kernel
theorem dX12_honest_14 : decode cX12_honest 14 = .ok (.iconst (-1), 1) := by decide +kernel
theorem dX12_honest_15 : decode cX12_honest 15 = .ok (.if_icmp .ne 5, 3) := by decide +kernel
theorem dX12_honest_18 : decode cX12_honest 18 = .ok (.iconst (-1), 1) := by decide +kernel
theorem dX12_honest_19 : decode cX12_honest 19 = .ok (.ireturn, 1) := by decide +kernel
theorem dX12_honest_20 : decode cX12_honest 20 = .ok (.iconst 0, 1) := by decide +kernel
theorem dX12_honest_21 : decode cX12_honest 21 = .ok (.istore_n 2, 1) := by decide +kernel
theorem dX12_honest_22 : decode cX12_honest 22 = .ok (.iconst 0, 1) := by decide +kernel
theorem dX12_honest_23 : decode cX12_honest 23 = .ok (.istore_n 3, 1) := by decide +kernel
theorem dX12_honest_24 : decode cX12_honest 24 = .ok (.iload_n 3, 1) := by decide +kernel
theorem dX12_honest_25 : decode cX12_honest 25 = .ok (.iconst 1, 1) := by decide +kernel
theorem dX12_honest_26 : decode cX12_honest 26 = .ok (.aload_n 0, 1) := by decide +kernel
theorem dX12_honest_27 : decode cX12_honest 27 = .ok (.getfield 259, 3) := by decide +kernel
theorem dX12_honest_30 : decode cX12_honest 30 = .ok (.ishl, 1) := by decide +kernel
theorem dX12_honest_31 : decode cX12_honest 31 = .ok (.if_icmp .ge 26, 3) := by decide +kernel
theorem dX12_honest_34 : decode cX12_honest 34 = .ok (.iload_n 2, 1) := by decide +kernel
theorem dX12_honest_35 : decode cX12_honest 35 = .ok (.aload_n 0, 1) := by decide +kernel
theorem dX12_honest_36 : decode cX12_honest 36 = .ok (.iload_n 1, 1) := by decide +kernel
theorem dX12_honest_37 : decode cX12_honest 37 = .ok (.iload_n 3, 1) := by decide +kernel
theorem dX12_honest_38 : decode cX12_honest 38 = .ok (.invokevirtual 407, 3) := by decide +kernel
theorem dX12_honest_41 : decode cX12_honest 41 = .ok (.ifCond .eq 7, 3) := by decide +kernel
theorem dX12_honest_44 : decode cX12_honest 44 = .ok (.iload_n 3, 1) := by decide +kernel
theorem dX12_honest_45 : decode cX12_honest 45 = .ok (.goto 4, 3) := by decide +kernel
theorem dX12_honest_48 : decode cX12_honest 48 = .ok (.iconst 0, 1) := by decide +kernel
theorem dX12_honest_49 : decode cX12_honest 49 = .ok (.ior, 1) := by decide +kernel
theorem dX12_honest_50 : decode cX12_honest 50 = .ok (.istore_n 2, 1) := by decide +kernel
theorem dX12_honest_51 : decode cX12_honest 51 = .ok (.iinc 3 1, 3) := by decide +kernel
theorem dX12_honest_54 : decode cX12_honest 54 = .ok (.goto (-30), 3) := by decide +kernel
theorem dX12_honest_57 : decode cX12_honest 57 = .ok (.iconst 1, 1) := by decide +kernel
theorem dX12_honest_58 : decode cX12_honest 58 = .ok (.aload_n 0, 1) := by decide +kernel
theorem dX12_honest_59 : decode cX12_honest 59 = .ok (.getfield 259, 3) := by decide +kernel
theorem dX12_honest_62 : decode cX12_honest 62 = .ok (.ishl, 1) := by decide +kernel
theorem dX12_honest_63 : decode cX12_honest 63 = .ok (.iconst 1, 1) := by decide +kernel
theorem dX12_honest_64 : decode cX12_honest 64 = .ok (.isub, 1) := by decide +kernel
theorem dX12_honest_65 : decode cX12_honest 65 = .ok (.iload_n 2, 1) := by decide +kernel
theorem dX12_honest_66 : decode cX12_honest 66 = .ok (.iconst (-1), 1) := by decide +kernel
theorem dX12_honest_67 : decode cX12_honest 67 = .ok (.ixor, 1) := by decide +kernel
theorem dX12_honest_68 : decode cX12_honest 68 = .ok (.iand, 1) := by decide +kernel
theorem dX12_honest_69 : decode cX12_honest 69 = .ok (.ireturn, 1) := by decide +kernel
theorem dX12_house_0 : decode cX12_house 0 = .ok (.aload_n 0, 1) := by decide +kernel
theorem dX12_house_1 : decode cX12_house 1 = .ok (.aload_n 0, 1) := by decide +kernel
theorem dX12_house_2 : decode cX12_house 2 = .ok (.iload_n 1, 1) := by decide +kernel
theorem dX12_house_3 : decode cX12_house 3 = .ok (.invokevirtual 308, 3) := by decide +kernel
theorem dX12_house_6 : decode cX12_house 6 = .ok (.ifCond .eq 16, 3) := by decide +kernel
theorem dX12_house_9 : decode cX12_house 9 = .ok (.iload_n 2, 1) := by decide +kernel
theorem dX12_house_10 : decode cX12_house 10 = .ok (.iconst 0, 1) := by decide +kernel
theorem dX12_house_11 : decode cX12_house 11 = .ok (.iconst 4, 1) := by decide +kernel
theorem dX12_house_12 : decode cX12_house 12 = .ok (.invokestatic 212, 3) := by decide +kernel
theorem dX12_house_15 : decode cX12_house 15 = .ok (.ifCond .eq 7, 3) := by decide +kernel
theorem dX12_house_18 : decode cX12_house 18 = .ok (.iconst 0, 1) := by decide +kernel
theorem dX12_house_19 : decode cX12_house 19 = .ok (.goto 4, 3) := by decide +kernel
theorem dX12_house_22 : decode cX12_house 22 = .ok (.iconst 1, 1) := by decide +kernel
theorem dX12_house_23 : decode cX12_house 23 = .ok (.putfield 97, 3) := by decide +kernel
theorem dX12_house_26 : decode cX12_house 26 = .ok (.aload_n 0, 1) := by decide +kernel
theorem dX12_house_27 : decode cX12_house 27 = .ok (.getfield 97, 3) := by decide +kernel
theorem dX12_house_30 : decode cX12_house 30 = .ok (.iconst 1, 1) := by decide +kernel
theorem dX12_house_31 : decode cX12_house 31 = .ok (.if_icmp .ne 5, 3) := by decide +kernel
theorem dX12_house_34 : decode cX12_house 34 = .ok (.iconst 0, 1) := by decide +kernel
theorem dX12_house_35 : decode cX12_house 35 = .ok (.ireturn, 1) := by decide +kernel
theorem dX12_house_36 : decode cX12_house 36 = .ok (.iload_n 2, 1) := by decide +kernel
theorem dX12_house_37 : decode cX12_house 37 = .ok (.iconst 3, 1) := by decide +kernel
theorem dX12_house_38 : decode cX12_house 38 = .ok (.if_icmp .ge 12, 3) := by decide +kernel
theorem dX12_house_41 : decode cX12_house 41 = .ok (.aload_n 0, 1) := by decide +kernel
theorem dX12_house_42 : decode cX12_house 42 = .ok (.iload_n 1, 1) := by decide +kernel
theorem dX12_house_43 : decode cX12_house 43 = .ok (.iload_n 2, 1) := by decide +kernel
theorem dX12_house_44 : decode cX12_house 44 = .ok (.invokevirtual 287, 3) := by decide +kernel
theorem dX12_house_47 : decode cX12_house 47 = .ok (.goto 29, 3) := by decide +kernel
theorem dX12_house_50 : decode cX12_house 50 = .ok (.iload_n 2, 1) := by decide +kernel
theorem dX12_house_51 : decode cX12_house 51 = .ok (.iconst 3, 1) := by decide +kernel
theorem dX12_house_52 : decode cX12_house 52 = .ok (.if_icmp .ne 15, 3) := by decide +kernel
theorem dX12_house_55 : decode cX12_house 55 = .ok (.aload_n 0, 1) := by decide +kernel
theorem dX12_house_56 : decode cX12_house 56 = .ok (.getfield 58, 3) := by decide +kernel
theorem dX12_house_59 : decode cX12_house 59 = .ok (.bipush 18, 2) := by decide +kernel
theorem dX12_house_61 : decode cX12_house 61 = .ok (.iload_n 1, 1) := by decide +kernel
theorem dX12_house_62 : decode cX12_house 62 = .ok (.iadd, 1) := by decide +kernel
theorem dX12_house_63 : decode cX12_house 63 = .ok (.iaload, 1) := by decide +kernel
theorem dX12_house_64 : decode cX12_house 64 = .ok (.goto 12, 3) := by decide +kernel
theorem dX12_house_67 : decode cX12_house 67 = .ok (.aload_n 0, 1) := by decide +kernel
theorem dX12_house_68 : decode cX12_house 68 = .ok (.getfield 58, 3) := by decide +kernel
theorem dX12_house_71 : decode cX12_house 71 = .ok (.bipush 24, 2) := by decide +kernel
theorem dX12_house_73 : decode cX12_house 73 = .ok (.iload_n 1, 1) := by decide +kernel
theorem dX12_house_74 : decode cX12_house 74 = .ok (.iadd, 1) := by decide +kernel
theorem dX12_house_75 : decode cX12_house 75 = .ok (.iaload, 1) := by decide +kernel
theorem dX12_house_76 : decode cX12_house 76 = .ok (.ireturn, 1) := by decide +kernel
theorem dX12_image_0 : decode cX12_image 0 = .ok (.aload_n 0, 1) := by decide +kernel
theorem dX12_image_1 : decode cX12_image 1 = .ok (.getfield 256, 3) := by decide +kernel
theorem dX12_image_4 : decode cX12_image 4 = .ok (.ifCond .ne 5, 3) := by decide +kernel
theorem dX12_image_7 : decode cX12_image 7 = .ok (.iconst (-1), 1) := by decide +kernel
theorem dX12_image_8 : decode cX12_image 8 = .ok (.ireturn, 1) := by decide +kernel
theorem dX12_image_9 : decode cX12_image 9 = .ok (.iconst 0, 1) := by decide +kernel
theorem dX12_image_10 : decode cX12_image 10 = .ok (.istore_n 1, 1) := by decide +kernel
theorem dX12_image_11 : decode cX12_image 11 = .ok (.iload_n 1, 1) := by decide +kernel
theorem dX12_image_12 : decode cX12_image 12 = .ok (.sipush 214, 3) := by decide +kernel
theorem dX12_image_15 : decode cX12_image 15 = .ok (.if_icmp .ge 21, 3) := by decide +kernel
theorem dX12_image_18 : decode cX12_image 18 = .ok (.aload_n 0, 1) := by decide +kernel
theorem dX12_image_19 : decode cX12_image 19 = .ok (.getfield 94, 3) := by decide +kernel
theorem dX12_image_22 : decode cX12_image 22 = .ok (.iload_n 1, 1) := by decide +kernel
theorem dX12_image_23 : decode cX12_image 23 = .ok (.aload_n 0, 1) := by decide +kernel
theorem dX12_image_24 : decode cX12_image 24 = .ok (.getfield 58, 3) := by decide +kernel
theorem dX12_image_27 : decode cX12_image 27 = .ok (.iload_n 1, 1) := by decide +kernel
theorem dX12_image_28 : decode cX12_image 28 = .ok (.iaload, 1) := by decide +kernel
theorem dX12_image_29 : decode cX12_image 29 = .ok (.iastore, 1) := by decide +kernel
theorem dX12_image_30 : decode cX12_image 30 = .ok (.iinc 1 1, 3) := by decide +kernel
theorem dX12_image_33 : decode cX12_image 33 = .ok (.goto (-22), 3) := by decide +kernel
theorem dX12_image_36 : decode cX12_image 36 = .ok (.aload_n 0, 1) := by decide +kernel
theorem dX12_image_37 : decode cX12_image 37 = .ok (.iconst 1, 1) := by decide +kernel
theorem dX12_image_38 : decode cX12_image 38 = .ok (.putfield 274, 3) := by decide +kernel
theorem dX12_image_41 : decode cX12_image 41 = .ok (.aload_n 0, 1) := by decide +kernel
theorem dX12_image_42 : decode cX12_image 42 = .ok (.getfield 58, 3) := by decide +kernel
theorem dX12_image_45 : decode cX12_image 45 = .ok (.bipush 32, 2) := by decide +kernel
theorem dX12_image_47 : decode cX12_image 47 = .ok (.iaload, 1) := by decide +kernel
theorem dX12_image_48 : decode cX12_image 48 = .ok (.ireturn, 1) := by decide +kernel
theorem dX12_isRest_0 : decode cX12_isRest 0 = .ok (.iconst 0, 1) := by decide +kernel
theorem dX12_isRest_1 : decode cX12_isRest 1 = .ok (.istore 6, 2) := by decide +kernel
theorem dX12_isRest_3 : decode cX12_isRest 3 = .ok (.iload 6, 2) := by decide +kernel
theorem dX12_isRest_5 : decode cX12_isRest 5 = .ok (.iconst 3, 1) := by decide +kernel
theorem dX12_isRest_6 : decode cX12_isRest 6 = .ok (.if_icmp .gt 69, 3) := by decide +kernel
theorem dX12_isRest_9 : decode cX12_isRest 9 = .ok (.iload 6, 2) := by decide +kernel
theorem dX12_isRest_11 : decode cX12_isRest 11 = .ok (.invokestatic 379, 3) := by decide +kernel
theorem dX12_isRest_14 : decode cX12_isRest 14 = .ok (.ifCond .eq 55, 3) := by decide +kernel
theorem dX12_isRest_17 : decode cX12_isRest 17 = .ok (.aload_n 0, 1) := by decide +kernel
theorem dX12_isRest_18 : decode cX12_isRest 18 = .ok (.iload_n 1, 1) := by decide +kernel
theorem dX12_isRest_19 : decode cX12_isRest 19 = .ok (.iload_n 2, 1) := by decide +kernel
theorem dX12_isRest_20 : decode cX12_isRest 20 = .ok (.iload_n 3, 1) := by decide +kernel
theorem dX12_isRest_21 : decode cX12_isRest 21 = .ok (.iload 6, 2) := by decide +kernel
theorem dX12_isRest_23 : decode cX12_isRest 23 = .ok (.iload 5, 2) := by decide +kernel
theorem dX12_isRest_25 : decode cX12_isRest 25 = .ok (.invokevirtual 383, 3) := by decide +kernel
theorem dX12_isRest_28 : decode cX12_isRest 28 = .ok (.aload_n 0, 1) := by decide +kernel
theorem dX12_isRest_29 : decode cX12_isRest 29 = .ok (.iload_n 1, 1) := by decide +kernel
theorem dX12_isRest_30 : decode cX12_isRest 30 = .ok (.iload_n 2, 1) := by decide +kernel
theorem dX12_isRest_31 : decode cX12_isRest 31 = .ok (.iload_n 3, 1) := by decide +kernel
theorem dX12_isRest_32 : decode cX12_isRest 32 = .ok (.iload 4, 2) := by decide +kernel
theorem dX12_isRest_34 : decode cX12_isRest 34 = .ok (.iload 5, 2) := by decide +kernel
theorem dX12_isRest_36 : decode cX12_isRest 36 = .ok (.invokevirtual 383, 3) := by decide +kernel
theorem dX12_isRest_39 : decode cX12_isRest 39 = .ok (.if_icmp .gt 28, 3) := by decide +kernel
theorem dX12_isRest_42 : decode cX12_isRest 42 = .ok (.aload_n 0, 1) := by decide +kernel
theorem dX12_isRest_43 : decode cX12_isRest 43 = .ok (.iload_n 2, 1) := by decide +kernel
theorem dX12_isRest_44 : decode cX12_isRest 44 = .ok (.iload_n 1, 1) := by decide +kernel
theorem dX12_isRest_45 : decode cX12_isRest 45 = .ok (.iload_n 3, 1) := by decide +kernel
theorem dX12_isRest_46 : decode cX12_isRest 46 = .ok (.iload 6, 2) := by decide +kernel
theorem dX12_isRest_48 : decode cX12_isRest 48 = .ok (.iload 4, 2) := by decide +kernel
theorem dX12_isRest_50 : decode cX12_isRest 50 = .ok (.invokevirtual 383, 3) := by decide +kernel
theorem dX12_isRest_53 : decode cX12_isRest 53 = .ok (.aload_n 0, 1) := by decide +kernel
theorem dX12_isRest_54 : decode cX12_isRest 54 = .ok (.iload_n 2, 1) := by decide +kernel
theorem dX12_isRest_55 : decode cX12_isRest 55 = .ok (.iload_n 1, 1) := by decide +kernel
theorem dX12_isRest_56 : decode cX12_isRest 56 = .ok (.iload_n 3, 1) := by decide +kernel
theorem dX12_isRest_57 : decode cX12_isRest 57 = .ok (.iload 5, 2) := by decide +kernel
theorem dX12_isRest_59 : decode cX12_isRest 59 = .ok (.iload 4, 2) := by decide +kernel
theorem dX12_isRest_61 : decode cX12_isRest 61 = .ok (.invokevirtual 383, 3) := by decide +kernel
theorem dX12_isRest_64 : decode cX12_isRest 64 = .ok (.if_icmp .le 5, 3) := by decide +kernel
theorem dX12_isRest_67 : decode cX12_isRest 67 = .ok (.iconst 0, 1) := by decide +kernel
theorem dX12_isRest_68 : decode cX12_isRest 68 = .ok (.ireturn, 1) := by decide +kernel
theorem dX12_isRest_69 : decode cX12_isRest 69 = .ok (.iinc 6 1, 3) := by decide +kernel
theorem dX12_isRest_72 : decode cX12_isRest 72 = .ok (.goto (-69), 3) := by decide +kernel
theorem dX12_isRest_75 : decode cX12_isRest 75 = .ok (.iconst 1, 1) := by decide +kernel
theorem dX12_isRest_76 : decode cX12_isRest 76 = .ok (.ireturn, 1) := by decide +kernel
theorem dX12_law_0 : decode cX12_law 0 = .ok (.iload_n 1, 1) := by decide +kernel
theorem dX12_law_1 : decode cX12_law 1 = .ok (.iconst (-1), 1) := by decide +kernel
theorem dX12_law_2 : decode cX12_law 2 = .ok (.aload_n 0, 1) := by decide +kernel
theorem dX12_law_3 : decode cX12_law 3 = .ok (.getfield 284, 3) := by decide +kernel
theorem dX12_law_6 : decode cX12_law 6 = .ok (.iconst 1, 1) := by decide +kernel
theorem dX12_law_7 : decode cX12_law 7 = .ok (.isub, 1) := by decide +kernel
theorem dX12_law_8 : decode cX12_law 8 = .ok (.invokestatic 212, 3) := by decide +kernel
theorem dX12_law_11 : decode cX12_law 11 = .ok (.ifCond .ne 5, 3) := by decide +kernel
theorem dX12_law_14 : decode cX12_law 14 = .ok (.iconst 0, 1) := by decide +kernel
theorem dX12_law_15 : decode cX12_law 15 = .ok (.ireturn, 1) := by decide +kernel
theorem dX12_law_16 : decode cX12_law 16 = .ok (.aload_n 0, 1) := by decide +kernel
theorem dX12_law_17 : decode cX12_law 17 = .ok (.iload_n 1, 1) := by decide +kernel
theorem dX12_law_18 : decode cX12_law 18 = .ok (.putfield 64, 3) := by decide +kernel
theorem dX12_law_21 : decode cX12_law 21 = .ok (.iconst 1, 1) := by decide +kernel
theorem dX12_law_22 : decode cX12_law 22 = .ok (.ireturn, 1) := by decide +kernel
