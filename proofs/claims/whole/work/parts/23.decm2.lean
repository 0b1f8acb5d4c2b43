theorem dX12_laySteps_0 : decode cX12_laySteps 0 = .ok (.iconst 0, 1) := by decide +kernel
theorem dX12_laySteps_1 : decode cX12_laySteps 1 = .ok (.istore_n 1, 1) := by decide +kernel
theorem dX12_laySteps_2 : decode cX12_laySteps 2 = .ok (.iload_n 1, 1) := by decide +kernel
theorem dX12_laySteps_3 : decode cX12_laySteps 3 = .ok (.bipush 64, 2) := by decide +kernel
theorem dX12_laySteps_5 : decode cX12_laySteps 5 = .ok (.if_icmp .ge 33, 3) := by decide +kernel
theorem dX12_laySteps_8 : decode cX12_laySteps 8 = .ok (.aload_n 0, 1) := by decide +kernel
theorem dX12_laySteps_9 : decode cX12_laySteps 9 = .ok (.getfield 68, 3) := by decide +kernel
theorem dX12_laySteps_12 : decode cX12_laySteps 12 = .ok (.iload_n 1, 1) := by decide +kernel
theorem dX12_laySteps_13 : decode cX12_laySteps 13 = .ok (.iload_n 1, 1) := by decide +kernel
theorem dX12_laySteps_14 : decode cX12_laySteps 14 = .ok (.bipush 8, 2) := by decide +kernel
theorem dX12_laySteps_16 : decode cX12_laySteps 16 = .ok (.idiv, 1) := by decide +kernel
theorem dX12_laySteps_17 : decode cX12_laySteps 17 = .ok (.iload_n 1, 1) := by decide +kernel
theorem dX12_laySteps_18 : decode cX12_laySteps 18 = .ok (.bipush 8, 2) := by decide +kernel
theorem dX12_laySteps_20 : decode cX12_laySteps 20 = .ok (.irem, 1) := by decide +kernel
theorem dX12_laySteps_21 : decode cX12_laySteps 21 = .ok (.if_icmp .ne 7, 3) := by decide +kernel
theorem dX12_laySteps_24 : decode cX12_laySteps 24 = .ok (.iconst 0, 1) := by decide +kernel
theorem dX12_laySteps_25 : decode cX12_laySteps 25 = .ok (.goto 6, 3) := by decide +kernel
theorem dX12_laySteps_28 : decode cX12_laySteps 28 = .ok (.ldc_w 278, 3) := by decide +kernel
theorem dX12_laySteps_31 : decode cX12_laySteps 31 = .ok (.iastore, 1) := by decide +kernel
theorem dX12_laySteps_32 : decode cX12_laySteps 32 = .ok (.iinc 1 1, 3) := by decide +kernel
theorem dX12_laySteps_35 : decode cX12_laySteps 35 = .ok (.goto (-33), 3) := by decide +kernel
theorem dX12_laySteps_38 : decode cX12_laySteps 38 = .ok (.iconst 0, 1) := by decide +kernel
theorem dX12_laySteps_39 : decode cX12_laySteps 39 = .ok (.istore_n 1, 1) := by decide +kernel
theorem dX12_laySteps_40 : decode cX12_laySteps 40 = .ok (.iload_n 1, 1) := by decide +kernel
theorem dX12_laySteps_41 : decode cX12_laySteps 41 = .ok (.aload_n 0, 1) := by decide +kernel
theorem dX12_laySteps_42 : decode cX12_laySteps 42 = .ok (.getfield 256, 3) := by decide +kernel
theorem dX12_laySteps_45 : decode cX12_laySteps 45 = .ok (.if_icmp .ge 53, 3) := by decide +kernel
theorem dX12_laySteps_48 : decode cX12_laySteps 48 = .ok (.aload_n 0, 1) := by decide +kernel
theorem dX12_laySteps_49 : decode cX12_laySteps 49 = .ok (.getfield 68, 3) := by decide +kernel
theorem dX12_laySteps_52 : decode cX12_laySteps 52 = .ok (.bipush 8, 2) := by decide +kernel
theorem dX12_laySteps_54 : decode cX12_laySteps 54 = .ok (.aload_n 0, 1) := by decide +kernel
theorem dX12_laySteps_55 : decode cX12_laySteps 55 = .ok (.iload_n 1, 1) := by decide +kernel
theorem dX12_laySteps_56 : decode cX12_laySteps 56 = .ok (.iconst 0, 1) := by decide +kernel
theorem dX12_laySteps_57 : decode cX12_laySteps 57 = .ok (.invokevirtual 262, 3) := by decide +kernel
theorem dX12_laySteps_60 : decode cX12_laySteps 60 = .ok (.imul, 1) := by decide +kernel
theorem dX12_laySteps_61 : decode cX12_laySteps 61 = .ok (.aload_n 0, 1) := by decide +kernel
theorem dX12_laySteps_62 : decode cX12_laySteps 62 = .ok (.iload_n 1, 1) := by decide +kernel
theorem dX12_laySteps_63 : decode cX12_laySteps 63 = .ok (.iconst 1, 1) := by decide +kernel
theorem dX12_laySteps_64 : decode cX12_laySteps 64 = .ok (.invokevirtual 262, 3) := by decide +kernel
theorem dX12_laySteps_67 : decode cX12_laySteps 67 = .ok (.iadd, 1) := by decide +kernel
theorem dX12_laySteps_68 : decode cX12_laySteps 68 = .ok (.iconst 1, 1) := by decide +kernel
theorem dX12_laySteps_69 : decode cX12_laySteps 69 = .ok (.iastore, 1) := by decide +kernel
theorem dX12_laySteps_70 : decode cX12_laySteps 70 = .ok (.aload_n 0, 1) := by decide +kernel
theorem dX12_laySteps_71 : decode cX12_laySteps 71 = .ok (.getfield 68, 3) := by decide +kernel
theorem dX12_laySteps_74 : decode cX12_laySteps 74 = .ok (.bipush 8, 2) := by decide +kernel
theorem dX12_laySteps_76 : decode cX12_laySteps 76 = .ok (.aload_n 0, 1) := by decide +kernel
theorem dX12_laySteps_77 : decode cX12_laySteps 77 = .ok (.iload_n 1, 1) := by decide +kernel
theorem dX12_laySteps_78 : decode cX12_laySteps 78 = .ok (.iconst 1, 1) := by decide +kernel
theorem dX12_laySteps_79 : decode cX12_laySteps 79 = .ok (.invokevirtual 262, 3) := by decide +kernel
theorem dX12_laySteps_82 : decode cX12_laySteps 82 = .ok (.imul, 1) := by decide +kernel
theorem dX12_laySteps_83 : decode cX12_laySteps 83 = .ok (.aload_n 0, 1) := by decide +kernel
theorem dX12_laySteps_84 : decode cX12_laySteps 84 = .ok (.iload_n 1, 1) := by decide +kernel
theorem dX12_laySteps_85 : decode cX12_laySteps 85 = .ok (.iconst 0, 1) := by decide +kernel
theorem dX12_laySteps_86 : decode cX12_laySteps 86 = .ok (.invokevirtual 262, 3) := by decide +kernel
theorem dX12_laySteps_89 : decode cX12_laySteps 89 = .ok (.iadd, 1) := by decide +kernel
theorem dX12_laySteps_90 : decode cX12_laySteps 90 = .ok (.iconst 1, 1) := by decide +kernel
theorem dX12_laySteps_91 : decode cX12_laySteps 91 = .ok (.iastore, 1) := by decide +kernel
theorem dX12_laySteps_92 : decode cX12_laySteps 92 = .ok (.iinc 1 1, 3) := by decide +kernel
theorem dX12_laySteps_95 : decode cX12_laySteps 95 = .ok (.goto (-55), 3) := by decide +kernel
theorem dX12_laySteps_98 : decode cX12_laySteps 98 = .ok (.iconst 0, 1) := by decide +kernel
theorem dX12_laySteps_99 : decode cX12_laySteps 99 = .ok (.istore_n 1, 1) := by decide +kernel
theorem dX12_laySteps_100 : decode cX12_laySteps 100 = .ok (.iload_n 1, 1) := by decide +kernel
theorem dX12_laySteps_101 : decode cX12_laySteps 101 = .ok (.bipush 8, 2) := by decide +kernel
theorem dX12_laySteps_103 : decode cX12_laySteps 103 = .ok (.if_icmp .ge 67, 3) := by decide +kernel
theorem dX12_laySteps_106 : decode cX12_laySteps 106 = .ok (.iconst 0, 1) := by decide +kernel
theorem dX12_laySteps_107 : decode cX12_laySteps 107 = .ok (.istore_n 2, 1) := by decide +kernel
theorem dX12_laySteps_108 : decode cX12_laySteps 108 = .ok (.iload_n 2, 1) := by decide +kernel
theorem dX12_laySteps_109 : decode cX12_laySteps 109 = .ok (.bipush 64, 2) := by decide +kernel
theorem dX12_laySteps_111 : decode cX12_laySteps 111 = .ok (.if_icmp .ge 53, 3) := by decide +kernel
theorem dX12_laySteps_114 : decode cX12_laySteps 114 = .ok (.aload_n 0, 1) := by decide +kernel
theorem dX12_laySteps_115 : decode cX12_laySteps 115 = .ok (.getfield 68, 3) := by decide +kernel
theorem dX12_laySteps_118 : decode cX12_laySteps 118 = .ok (.iload_n 2, 1) := by decide +kernel
theorem dX12_laySteps_119 : decode cX12_laySteps 119 = .ok (.aload_n 0, 1) := by decide +kernel
theorem dX12_laySteps_120 : decode cX12_laySteps 120 = .ok (.getfield 68, 3) := by decide +kernel
theorem dX12_laySteps_123 : decode cX12_laySteps 123 = .ok (.iload_n 2, 1) := by decide +kernel
theorem dX12_laySteps_124 : decode cX12_laySteps 124 = .ok (.iaload, 1) := by decide +kernel
theorem dX12_laySteps_125 : decode cX12_laySteps 125 = .ok (.aload_n 0, 1) := by decide +kernel
theorem dX12_laySteps_126 : decode cX12_laySteps 126 = .ok (.getfield 68, 3) := by decide +kernel
theorem dX12_laySteps_129 : decode cX12_laySteps 129 = .ok (.iload_n 2, 1) := by decide +kernel
theorem dX12_laySteps_130 : decode cX12_laySteps 130 = .ok (.bipush 8, 2) := by decide +kernel
theorem dX12_laySteps_132 : decode cX12_laySteps 132 = .ok (.idiv, 1) := by decide +kernel
theorem dX12_laySteps_133 : decode cX12_laySteps 133 = .ok (.bipush 8, 2) := by decide +kernel
theorem dX12_laySteps_135 : decode cX12_laySteps 135 = .ok (.imul, 1) := by decide +kernel
theorem dX12_laySteps_136 : decode cX12_laySteps 136 = .ok (.iload_n 1, 1) := by decide +kernel
theorem dX12_laySteps_137 : decode cX12_laySteps 137 = .ok (.iadd, 1) := by decide +kernel
theorem dX12_laySteps_138 : decode cX12_laySteps 138 = .ok (.iaload, 1) := by decide +kernel
theorem dX12_laySteps_139 : decode cX12_laySteps 139 = .ok (.aload_n 0, 1) := by decide +kernel
theorem dX12_laySteps_140 : decode cX12_laySteps 140 = .ok (.getfield 68, 3) := by decide +kernel
theorem dX12_laySteps_143 : decode cX12_laySteps 143 = .ok (.bipush 8, 2) := by decide +kernel
theorem dX12_laySteps_145 : decode cX12_laySteps 145 = .ok (.iload_n 1, 1) := by decide +kernel
theorem dX12_laySteps_146 : decode cX12_laySteps 146 = .ok (.imul, 1) := by decide +kernel
theorem dX12_laySteps_147 : decode cX12_laySteps 147 = .ok (.iload_n 2, 1) := by decide +kernel
theorem dX12_laySteps_148 : decode cX12_laySteps 148 = .ok (.bipush 8, 2) := by decide +kernel
theorem dX12_laySteps_150 : decode cX12_laySteps 150 = .ok (.irem, 1) := by decide +kernel
theorem dX12_laySteps_151 : decode cX12_laySteps 151 = .ok (.iadd, 1) := by decide +kernel
theorem dX12_laySteps_152 : decode cX12_laySteps 152 = .ok (.iaload, 1) := by decide +kernel
theorem dX12_laySteps_153 : decode cX12_laySteps 153 = .ok (.iadd, 1) := by decide +kernel
theorem dX12_laySteps_154 : decode cX12_laySteps 154 = .ok (.invokestatic 279, 3) := by decide +kernel
theorem dX12_laySteps_157 : decode cX12_laySteps 157 = .ok (.iastore, 1) := by decide +kernel
theorem dX12_laySteps_158 : decode cX12_laySteps 158 = .ok (.iinc 2 1, 3) := by decide +kernel
theorem dX12_laySteps_161 : decode cX12_laySteps 161 = .ok (.goto (-53), 3) := by decide +kernel
theorem dX12_laySteps_164 : decode cX12_laySteps 164 = .ok (.iinc 1 1, 3) := by decide +kernel
theorem dX12_laySteps_167 : decode cX12_laySteps 167 = .ok (.goto (-67), 3) := by decide +kernel
theorem dX12_laySteps_170 : decode cX12_laySteps 170 = .ok (.return_, 1) := by decide +kernel
theorem dX12_tryWay_0 : decode cX12_tryWay 0 = .ok (.iload_n 1, 1) := by decide +kernel
theorem dX12_tryWay_1 : decode cX12_tryWay 1 = .ok (.iload_n 2, 1) := by decide +kernel
theorem dX12_tryWay_2 : decode cX12_tryWay 2 = .ok (.if_icmp .ne 51, 3) := by decide +kernel
theorem dX12_tryWay_5 : decode cX12_tryWay 5 = .ok (.aload_n 0, 1) := by decide +kernel
theorem dX12_tryWay_6 : decode cX12_tryWay 6 = .ok (.getfield 363, 3) := by decide +kernel
theorem dX12_tryWay_9 : decode cX12_tryWay 9 = .ok (.iconst (-1), 1) := by decide +kernel
theorem dX12_tryWay_10 : decode cX12_tryWay 10 = .ok (.if_icmp .eq 30, 3) := by decide +kernel
theorem dX12_tryWay_13 : decode cX12_tryWay 13 = .ok (.iload 5, 2) := by decide +kernel
theorem dX12_tryWay_15 : decode cX12_tryWay 15 = .ok (.aload_n 0, 1) := by decide +kernel
theorem dX12_tryWay_16 : decode cX12_tryWay 16 = .ok (.getfield 366, 3) := by decide +kernel
theorem dX12_tryWay_19 : decode cX12_tryWay 19 = .ok (.if_icmp .lt 21, 3) := by decide +kernel
theorem dX12_tryWay_22 : decode cX12_tryWay 22 = .ok (.iload 5, 2) := by decide +kernel
theorem dX12_tryWay_24 : decode cX12_tryWay 24 = .ok (.aload_n 0, 1) := by decide +kernel
theorem dX12_tryWay_25 : decode cX12_tryWay 25 = .ok (.getfield 366, 3) := by decide +kernel
theorem dX12_tryWay_28 : decode cX12_tryWay 28 = .ok (.if_icmp .ne 24, 3) := by decide +kernel
theorem dX12_tryWay_31 : decode cX12_tryWay 31 = .ok (.iload 4, 2) := by decide +kernel
theorem dX12_tryWay_33 : decode cX12_tryWay 33 = .ok (.aload_n 0, 1) := by decide +kernel
theorem dX12_tryWay_34 : decode cX12_tryWay 34 = .ok (.getfield 363, 3) := by decide +kernel
theorem dX12_tryWay_37 : decode cX12_tryWay 37 = .ok (.if_icmp .ge 15, 3) := by decide +kernel
theorem dX12_tryWay_40 : decode cX12_tryWay 40 = .ok (.aload_n 0, 1) := by decide +kernel
theorem dX12_tryWay_41 : decode cX12_tryWay 41 = .ok (.iload 4, 2) := by decide +kernel
theorem dX12_tryWay_43 : decode cX12_tryWay 43 = .ok (.putfield 363, 3) := by decide +kernel
theorem dX12_tryWay_46 : decode cX12_tryWay 46 = .ok (.aload_n 0, 1) := by decide +kernel
theorem dX12_tryWay_47 : decode cX12_tryWay 47 = .ok (.iload 5, 2) := by decide +kernel
theorem dX12_tryWay_49 : decode cX12_tryWay 49 = .ok (.putfield 366, 3) := by decide +kernel
theorem dX12_tryWay_52 : decode cX12_tryWay 52 = .ok (.return_, 1) := by decide +kernel
theorem dX12_tryWay_53 : decode cX12_tryWay 53 = .ok (.iconst 0, 1) := by decide +kernel
theorem dX12_tryWay_54 : decode cX12_tryWay 54 = .ok (.istore 6, 2) := by decide +kernel
theorem dX12_tryWay_56 : decode cX12_tryWay 56 = .ok (.iload 6, 2) := by decide +kernel
theorem dX12_tryWay_58 : decode cX12_tryWay 58 = .ok (.aload_n 0, 1) := by decide +kernel
theorem dX12_tryWay_59 : decode cX12_tryWay 59 = .ok (.getfield 256, 3) := by decide +kernel
theorem dX12_tryWay_62 : decode cX12_tryWay 62 = .ok (.if_icmp .ge 90, 3) := by decide +kernel
theorem dX12_tryWay_65 : decode cX12_tryWay 65 = .ok (.aload_n 0, 1) := by decide +kernel
theorem dX12_tryWay_66 : decode cX12_tryWay 66 = .ok (.iload 6, 2) := by decide +kernel
theorem dX12_tryWay_68 : decode cX12_tryWay 68 = .ok (.iconst 0, 1) := by decide +kernel
theorem dX12_tryWay_69 : decode cX12_tryWay 69 = .ok (.invokevirtual 262, 3) := by decide +kernel
theorem dX12_tryWay_72 : decode cX12_tryWay 72 = .ok (.iload_n 1, 1) := by decide +kernel
theorem dX12_tryWay_73 : decode cX12_tryWay 73 = .ok (.if_icmp .ne 13, 3) := by decide +kernel
theorem dX12_tryWay_76 : decode cX12_tryWay 76 = .ok (.aload_n 0, 1) := by decide +kernel
theorem dX12_tryWay_77 : decode cX12_tryWay 77 = .ok (.iload 6, 2) := by decide +kernel
theorem dX12_tryWay_79 : decode cX12_tryWay 79 = .ok (.iconst 1, 1) := by decide +kernel
theorem dX12_tryWay_80 : decode cX12_tryWay 80 = .ok (.invokevirtual 262, 3) := by decide +kernel
theorem dX12_tryWay_83 : decode cX12_tryWay 83 = .ok (.goto 10, 3) := by decide +kernel
theorem dX12_tryWay_86 : decode cX12_tryWay 86 = .ok (.aload_n 0, 1) := by decide +kernel
theorem dX12_tryWay_87 : decode cX12_tryWay 87 = .ok (.iload 6, 2) := by decide +kernel
theorem dX12_tryWay_89 : decode cX12_tryWay 89 = .ok (.iconst 0, 1) := by decide +kernel
theorem dX12_tryWay_90 : decode cX12_tryWay 90 = .ok (.invokevirtual 262, 3) := by decide +kernel
theorem dX12_tryWay_93 : decode cX12_tryWay 93 = .ok (.istore 7, 2) := by decide +kernel
theorem dX12_tryWay_95 : decode cX12_tryWay 95 = .ok (.aload_n 0, 1) := by decide +kernel
theorem dX12_tryWay_96 : decode cX12_tryWay 96 = .ok (.iload 6, 2) := by decide +kernel
theorem dX12_tryWay_98 : decode cX12_tryWay 98 = .ok (.iload_n 1, 1) := by decide +kernel
theorem dX12_tryWay_99 : decode cX12_tryWay 99 = .ok (.invokevirtual 327, 3) := by decide +kernel
theorem dX12_tryWay_102 : decode cX12_tryWay 102 = .ok (.ifCond .eq 44, 3) := by decide +kernel
theorem dX12_tryWay_105 : decode cX12_tryWay 105 = .ok (.iload_n 3, 1) := by decide +kernel
theorem dX12_tryWay_106 : decode cX12_tryWay 106 = .ok (.iload 7, 2) := by decide +kernel
theorem dX12_tryWay_108 : decode cX12_tryWay 108 = .ok (.invokestatic 223, 3) := by decide +kernel
theorem dX12_tryWay_111 : decode cX12_tryWay 111 = .ok (.ifCond .ne 35, 3) := by decide +kernel
theorem dX12_tryWay_114 : decode cX12_tryWay 114 = .ok (.aload_n 0, 1) := by decide +kernel
theorem dX12_tryWay_115 : decode cX12_tryWay 115 = .ok (.iload 7, 2) := by decide +kernel
theorem dX12_tryWay_117 : decode cX12_tryWay 117 = .ok (.iload_n 2, 1) := by decide +kernel
theorem dX12_tryWay_118 : decode cX12_tryWay 118 = .ok (.iload_n 3, 1) := by decide +kernel
theorem dX12_tryWay_119 : decode cX12_tryWay 119 = .ok (.iconst 1, 1) := by decide +kernel
theorem dX12_tryWay_120 : decode cX12_tryWay 120 = .ok (.iload 7, 2) := by decide +kernel
theorem dX12_tryWay_122 : decode cX12_tryWay 122 = .ok (.ishl, 1) := by decide +kernel
theorem dX12_tryWay_123 : decode cX12_tryWay 123 = .ok (.ior, 1) := by decide +kernel
theorem dX12_tryWay_124 : decode cX12_tryWay 124 = .ok (.iload 4, 2) := by decide +kernel
theorem dX12_tryWay_126 : decode cX12_tryWay 126 = .ok (.iconst 1, 1) := by decide +kernel
theorem dX12_tryWay_127 : decode cX12_tryWay 127 = .ok (.iload 6, 2) := by decide +kernel
theorem dX12_tryWay_129 : decode cX12_tryWay 129 = .ok (.ishl, 1) := by decide +kernel
theorem dX12_tryWay_130 : decode cX12_tryWay 130 = .ok (.ior, 1) := by decide +kernel
theorem dX12_tryWay_131 : decode cX12_tryWay 131 = .ok (.iload 5, 2) := by decide +kernel
theorem dX12_tryWay_133 : decode cX12_tryWay 133 = .ok (.aload_n 0, 1) := by decide +kernel
theorem dX12_tryWay_134 : decode cX12_tryWay 134 = .ok (.getfield 58, 3) := by decide +kernel
theorem dX12_tryWay_137 : decode cX12_tryWay 137 = .ok (.iconst 0, 1) := by decide +kernel
theorem dX12_tryWay_138 : decode cX12_tryWay 138 = .ok (.iload 6, 2) := by decide +kernel
theorem dX12_tryWay_140 : decode cX12_tryWay 140 = .ok (.iadd, 1) := by decide +kernel
theorem dX12_tryWay_141 : decode cX12_tryWay 141 = .ok (.iaload, 1) := by decide +kernel
theorem dX12_tryWay_142 : decode cX12_tryWay 142 = .ok (.iadd, 1) := by decide +kernel
theorem dX12_tryWay_143 : decode cX12_tryWay 143 = .ok (.invokevirtual 369, 3) := by decide +kernel
theorem dX12_tryWay_146 : decode cX12_tryWay 146 = .ok (.iinc 6 1, 3) := by decide +kernel
theorem dX12_tryWay_149 : decode cX12_tryWay 149 = .ok (.goto (-93), 3) := by decide +kernel
theorem dX12_tryWay_152 : decode cX12_tryWay 152 = .ok (.return_, 1) := by decide +kernel
theorem dX12_layWay_0 : decode cX12_layWay 0 = .ok (.aload_n 0, 1) := by decide +kernel
theorem dX12_layWay_1 : decode cX12_layWay 1 = .ok (.iconst (-1), 1) := by decide +kernel
theorem dX12_layWay_2 : decode cX12_layWay 2 = .ok (.putfield 363, 3) := by decide +kernel
theorem dX12_layWay_5 : decode cX12_layWay 5 = .ok (.aload_n 0, 1) := by decide +kernel
theorem dX12_layWay_6 : decode cX12_layWay 6 = .ok (.iconst 0, 1) := by decide +kernel
theorem dX12_layWay_7 : decode cX12_layWay 7 = .ok (.putfield 366, 3) := by decide +kernel
theorem dX12_layWay_10 : decode cX12_layWay 10 = .ok (.aload_n 0, 1) := by decide +kernel
theorem dX12_layWay_11 : decode cX12_layWay 11 = .ok (.iload_n 1, 1) := by decide +kernel
theorem dX12_layWay_12 : decode cX12_layWay 12 = .ok (.iload_n 2, 1) := by decide +kernel
theorem dX12_layWay_13 : decode cX12_layWay 13 = .ok (.iconst 1, 1) := by decide +kernel
theorem dX12_layWay_14 : decode cX12_layWay 14 = .ok (.iload_n 1, 1) := by decide +kernel
theorem dX12_layWay_15 : decode cX12_layWay 15 = .ok (.ishl, 1) := by decide +kernel
theorem dX12_layWay_16 : decode cX12_layWay 16 = .ok (.iconst 0, 1) := by decide +kernel
theorem dX12_layWay_17 : decode cX12_layWay 17 = .ok (.iconst 0, 1) := by decide +kernel
theorem dX12_layWay_18 : decode cX12_layWay 18 = .ok (.invokevirtual 369, 3) := by decide +kernel
theorem dX12_layWay_21 : decode cX12_layWay 21 = .ok (.return_, 1) := by decide +kernel
theorem dX12_least_0 : decode cX12_least 0 = .ok (.aload_n 0, 1) := by decide +kernel
theorem dX12_least_1 : decode cX12_least 1 = .ok (.iload_n 1, 1) := by decide +kernel
theorem dX12_least_2 : decode cX12_least 2 = .ok (.invokevirtual 305, 3) := by decide +kernel
theorem dX12_least_5 : decode cX12_least 5 = .ok (.ifCond .eq 22, 3) := by decide +kernel
theorem dX12_least_8 : decode cX12_least 8 = .ok (.iload_n 2, 1) := by decide +kernel
theorem dX12_least_9 : decode cX12_least 9 = .ok (.iconst 0, 1) := by decide +kernel
theorem dX12_least_10 : decode cX12_least 10 = .ok (.bipush 99, 2) := by decide +kernel
theorem dX12_least_12 : decode cX12_least 12 = .ok (.invokestatic 212, 3) := by decide +kernel
theorem dX12_least_15 : decode cX12_least 15 = .ok (.ifCond .eq 12, 3) := by decide +kernel
theorem dX12_least_18 : decode cX12_least 18 = .ok (.iload_n 3, 1) := by decide +kernel
theorem dX12_least_19 : decode cX12_least 19 = .ok (.iconst 0, 1) := by decide +kernel
theorem dX12_least_20 : decode cX12_least 20 = .ok (.iconst 1, 1) := by decide +kernel
theorem dX12_least_21 : decode cX12_least 21 = .ok (.invokestatic 212, 3) := by decide +kernel
theorem dX12_least_24 : decode cX12_least 24 = .ok (.ifCond .ne 5, 3) := by decide +kernel
theorem dX12_least_27 : decode cX12_least 27 = .ok (.iconst (-1), 1) := by decide +kernel
theorem dX12_least_28 : decode cX12_least 28 = .ok (.ireturn, 1) := by decide +kernel
theorem dX12_least_29 : decode cX12_least 29 = .ok (.iconst 0, 1) := by decide +kernel
theorem dX12_least_30 : decode cX12_least 30 = .ok (.istore 4, 2) := by decide +kernel
theorem dX12_least_32 : decode cX12_least 32 = .ok (.iload 4, 2) := by decide +kernel
theorem dX12_least_34 : decode cX12_least 34 = .ok (.aload_n 0, 1) := by decide +kernel
theorem dX12_least_35 : decode cX12_least 35 = .ok (.getfield 259, 3) := by decide +kernel
theorem dX12_least_38 : decode cX12_least 38 = .ok (.if_icmp .ge 26, 3) := by decide +kernel
theorem dX12_least_41 : decode cX12_least 41 = .ok (.aload_n 0, 1) := by decide +kernel
theorem dX12_least_42 : decode cX12_least 42 = .ok (.getfield 74, 3) := by decide +kernel
theorem dX12_least_45 : decode cX12_least 45 = .ok (.iload 4, 2) := by decide +kernel
theorem dX12_least_47 : decode cX12_least 47 = .ok (.aload_n 0, 1) := by decide +kernel
theorem dX12_least_48 : decode cX12_least 48 = .ok (.getfield 58, 3) := by decide +kernel
theorem dX12_least_51 : decode cX12_least 51 = .ok (.bipush 18, 2) := by decide +kernel
theorem dX12_least_53 : decode cX12_least 53 = .ok (.iload 4, 2) := by decide +kernel
theorem dX12_least_55 : decode cX12_least 55 = .ok (.iadd, 1) := by decide +kernel
theorem dX12_least_56 : decode cX12_least 56 = .ok (.iaload, 1) := by decide +kernel
theorem dX12_least_57 : decode cX12_least 57 = .ok (.iastore, 1) := by decide +kernel
theorem dX12_least_58 : decode cX12_least 58 = .ok (.iinc 4 1, 3) := by decide +kernel
theorem dX12_least_61 : decode cX12_least 61 = .ok (.goto (-29), 3) := by decide +kernel
theorem dX12_least_64 : decode cX12_least 64 = .ok (.iconst 0, 1) := by decide +kernel
theorem dX12_least_65 : decode cX12_least 65 = .ok (.istore 4, 2) := by decide +kernel
theorem dX12_least_67 : decode cX12_least 67 = .ok (.iload 4, 2) := by decide +kernel
theorem dX12_least_69 : decode cX12_least 69 = .ok (.bipush 6, 2) := by decide +kernel
theorem dX12_least_71 : decode cX12_least 71 = .ok (.if_icmp .gt 43, 3) := by decide +kernel
theorem dX12_least_74 : decode cX12_least 74 = .ok (.aload_n 0, 1) := by decide +kernel
theorem dX12_least_75 : decode cX12_least 75 = .ok (.iload_n 1, 1) := by decide +kernel
theorem dX12_least_76 : decode cX12_least 76 = .ok (.iload 4, 2) := by decide +kernel
theorem dX12_least_78 : decode cX12_least 78 = .ok (.aload_n 0, 1) := by decide +kernel
theorem dX12_least_79 : decode cX12_least 79 = .ok (.getfield 58, 3) := by decide +kernel
theorem dX12_least_82 : decode cX12_least 82 = .ok (.iconst 0, 1) := by decide +kernel
theorem dX12_least_83 : decode cX12_least 83 = .ok (.iload_n 1, 1) := by decide +kernel
theorem dX12_least_84 : decode cX12_least 84 = .ok (.iadd, 1) := by decide +kernel
theorem dX12_least_85 : decode cX12_least 85 = .ok (.iaload, 1) := by decide +kernel
theorem dX12_least_86 : decode cX12_least 86 = .ok (.iload_n 2, 1) := by decide +kernel
theorem dX12_least_87 : decode cX12_least 87 = .ok (.iconst 0, 1) := by decide +kernel
theorem dX12_least_88 : decode cX12_least 88 = .ok (.invokevirtual 359, 3) := by decide +kernel
theorem dX12_least_91 : decode cX12_least 91 = .ok (.ifCond .eq 17, 3) := by decide +kernel
theorem dX12_least_94 : decode cX12_least 94 = .ok (.iload_n 3, 1) := by decide +kernel
theorem dX12_least_95 : decode cX12_least 95 = .ok (.ifCond .ne 8, 3) := by decide +kernel
theorem dX12_least_98 : decode cX12_least 98 = .ok (.iload 4, 2) := by decide +kernel
theorem dX12_least_100 : decode cX12_least 100 = .ok (.goto 7, 3) := by decide +kernel
theorem dX12_least_103 : decode cX12_least 103 = .ok (.aload_n 0, 1) := by decide +kernel
theorem dX12_least_104 : decode cX12_least 104 = .ok (.getfield 356, 3) := by decide +kernel
theorem dX12_least_107 : decode cX12_least 107 = .ok (.ireturn, 1) := by decide +kernel
theorem dX12_least_108 : decode cX12_least 108 = .ok (.iinc 4 1, 3) := by decide +kernel
theorem dX12_least_111 : decode cX12_least 111 = .ok (.goto (-44), 3) := by decide +kernel
theorem dX12_least_114 : decode cX12_least 114 = .ok (.iconst (-1), 1) := by decide +kernel
theorem dX12_least_115 : decode cX12_least 115 = .ok (.ireturn, 1) := by decide +kernel
theorem dX12_log_0 : decode cX12_log 0 = .ok (.iload_n 1, 1) := by decide +kernel
theorem dX12_log_1 : decode cX12_log 1 = .ok (.iconst 0, 1) := by decide +kernel
theorem dX12_log_2 : decode cX12_log 2 = .ok (.aload_n 0, 1) := by decide +kernel
theorem dX12_log_3 : decode cX12_log 3 = .ok (.getfield 58, 3) := by decide +kernel
theorem dX12_log_6 : decode cX12_log 6 = .ok (.bipush 33, 2) := by decide +kernel
theorem dX12_log_8 : decode cX12_log 8 = .ok (.iaload, 1) := by decide +kernel
theorem dX12_log_9 : decode cX12_log 9 = .ok (.iconst 1, 1) := by decide +kernel
theorem dX12_log_10 : decode cX12_log 10 = .ok (.isub, 1) := by decide +kernel
theorem dX12_log_11 : decode cX12_log 11 = .ok (.invokestatic 212, 3) := by decide +kernel
theorem dX12_log_14 : decode cX12_log 14 = .ok (.ifCond .eq 38, 3) := by decide +kernel
theorem dX12_log_17 : decode cX12_log 17 = .ok (.iload_n 2, 1) := by decide +kernel
theorem dX12_log_18 : decode cX12_log 18 = .ok (.iconst 0, 1) := by decide +kernel
theorem dX12_log_19 : decode cX12_log 19 = .ok (.iconst 2, 1) := by decide +kernel
theorem dX12_log_20 : decode cX12_log 20 = .ok (.invokestatic 212, 3) := by decide +kernel
theorem dX12_log_23 : decode cX12_log 23 = .ok (.ifCond .eq 29, 3) := by decide +kernel
theorem dX12_log_26 : decode cX12_log 26 = .ok (.aload_n 0, 1) := by decide +kernel
theorem dX12_log_27 : decode cX12_log 27 = .ok (.getfield 58, 3) := by decide +kernel
theorem dX12_log_30 : decode cX12_log 30 = .ok (.bipush 34, 2) := by decide +kernel
theorem dX12_log_32 : decode cX12_log 32 = .ok (.iconst 3, 1) := by decide +kernel
theorem dX12_log_33 : decode cX12_log 33 = .ok (.aload_n 0, 1) := by decide +kernel
theorem dX12_log_34 : decode cX12_log 34 = .ok (.getfield 58, 3) := by decide +kernel
theorem dX12_log_37 : decode cX12_log 37 = .ok (.bipush 33, 2) := by decide +kernel
theorem dX12_log_39 : decode cX12_log 39 = .ok (.iaload, 1) := by decide +kernel
theorem dX12_log_40 : decode cX12_log 40 = .ok (.iconst 1, 1) := by decide +kernel
theorem dX12_log_41 : decode cX12_log 41 = .ok (.isub, 1) := by decide +kernel
theorem dX12_log_42 : decode cX12_log 42 = .ok (.iload_n 1, 1) := by decide +kernel
theorem dX12_log_43 : decode cX12_log 43 = .ok (.isub, 1) := by decide +kernel
theorem dX12_log_44 : decode cX12_log 44 = .ok (.imul, 1) := by decide +kernel
theorem dX12_log_45 : decode cX12_log 45 = .ok (.iadd, 1) := by decide +kernel
theorem dX12_log_46 : decode cX12_log 46 = .ok (.iload_n 2, 1) := by decide +kernel
theorem dX12_log_47 : decode cX12_log 47 = .ok (.iadd, 1) := by decide +kernel
theorem dX12_log_48 : decode cX12_log 48 = .ok (.iaload, 1) := by decide +kernel
theorem dX12_log_49 : decode cX12_log 49 = .ok (.goto 4, 3) := by decide +kernel
theorem dX12_log_52 : decode cX12_log 52 = .ok (.iconst (-1), 1) := by decide +kernel
theorem dX12_log_53 : decode cX12_log 53 = .ok (.ireturn, 1) := by decide +kernel
theorem dX12_neighbours_0 : decode cX12_neighbours 0 = .ok (.aload_n 0, 1) := by decide +kernel
theorem dX12_neighbours_1 : decode cX12_neighbours 1 = .ok (.iload_n 1, 1) := by decide +kernel
theorem dX12_neighbours_2 : decode cX12_neighbours 2 = .ok (.invokevirtual 305, 3) := by decide +kernel
theorem dX12_neighbours_5 : decode cX12_neighbours 5 = .ok (.ifCond .ne 5, 3) := by decide +kernel
theorem dX12_neighbours_8 : decode cX12_neighbours 8 = .ok (.iconst (-1), 1) := by decide +kernel
theorem dX12_neighbours_9 : decode cX12_neighbours 9 = .ok (.ireturn, 1) := by decide +kernel
theorem dX12_neighbours_10 : decode cX12_neighbours 10 = .ok (.iconst 0, 1) := by decide +kernel
theorem dX12_neighbours_11 : decode cX12_neighbours 11 = .ok (.istore_n 2, 1) := by decide +kernel
theorem dX12_neighbours_12 : decode cX12_neighbours 12 = .ok (.iconst 0, 1) := by decide +kernel
theorem dX12_neighbours_13 : decode cX12_neighbours 13 = .ok (.istore_n 3, 1) := by decide +kernel
theorem dX12_neighbours_14 : decode cX12_neighbours 14 = .ok (.iload_n 3, 1) := by decide +kernel
theorem dX12_neighbours_15 : decode cX12_neighbours 15 = .ok (.aload_n 0, 1) := by decide +kernel
theorem dX12_neighbours_16 : decode cX12_neighbours 16 = .ok (.getfield 256, 3) := by decide +kernel
theorem dX12_neighbours_19 : decode cX12_neighbours 19 = .ok (.if_icmp .ge 52, 3) := by decide +kernel
theorem dX12_neighbours_22 : decode cX12_neighbours 22 = .ok (.iload_n 2, 1) := by decide +kernel
theorem dX12_neighbours_23 : decode cX12_neighbours 23 = .ok (.iload_n 3, 1) := by decide +kernel
theorem dX12_neighbours_24 : decode cX12_neighbours 24 = .ok (.iload_n 1, 1) := by decide +kernel
theorem dX12_neighbours_25 : decode cX12_neighbours 25 = .ok (.if_icmp .eq 37, 3) := by decide +kernel
theorem dX12_neighbours_28 : decode cX12_neighbours 28 = .ok (.aload_n 0, 1) := by decide +kernel
theorem dX12_neighbours_29 : decode cX12_neighbours 29 = .ok (.iload_n 3, 1) := by decide +kernel
theorem dX12_neighbours_30 : decode cX12_neighbours 30 = .ok (.aload_n 0, 1) := by decide +kernel
theorem dX12_neighbours_31 : decode cX12_neighbours 31 = .ok (.iload_n 1, 1) := by decide +kernel
theorem dX12_neighbours_32 : decode cX12_neighbours 32 = .ok (.iconst 0, 1) := by decide +kernel
theorem dX12_neighbours_33 : decode cX12_neighbours 33 = .ok (.invokevirtual 262, 3) := by decide +kernel
theorem dX12_neighbours_36 : decode cX12_neighbours 36 = .ok (.invokevirtual 327, 3) := by decide +kernel
theorem dX12_neighbours_39 : decode cX12_neighbours 39 = .ok (.ifCond .ne 17, 3) := by decide +kernel
theorem dX12_neighbours_42 : decode cX12_neighbours 42 = .ok (.aload_n 0, 1) := by decide +kernel
theorem dX12_neighbours_43 : decode cX12_neighbours 43 = .ok (.iload_n 3, 1) := by decide +kernel
theorem dX12_neighbours_44 : decode cX12_neighbours 44 = .ok (.aload_n 0, 1) := by decide +kernel
theorem dX12_neighbours_45 : decode cX12_neighbours 45 = .ok (.iload_n 1, 1) := by decide +kernel
theorem dX12_neighbours_46 : decode cX12_neighbours 46 = .ok (.iconst 1, 1) := by decide +kernel
theorem dX12_neighbours_47 : decode cX12_neighbours 47 = .ok (.invokevirtual 262, 3) := by decide +kernel
theorem dX12_neighbours_50 : decode cX12_neighbours 50 = .ok (.invokevirtual 327, 3) := by decide +kernel
theorem dX12_neighbours_53 : decode cX12_neighbours 53 = .ok (.ifCond .eq 9, 3) := by decide +kernel
theorem dX12_neighbours_56 : decode cX12_neighbours 56 = .ok (.iconst 1, 1) := by decide +kernel
theorem dX12_neighbours_57 : decode cX12_neighbours 57 = .ok (.iload_n 3, 1) := by decide +kernel
theorem dX12_neighbours_58 : decode cX12_neighbours 58 = .ok (.ishl, 1) := by decide +kernel
theorem dX12_neighbours_59 : decode cX12_neighbours 59 = .ok (.goto 4, 3) := by decide +kernel
theorem dX12_neighbours_62 : decode cX12_neighbours 62 = .ok (.iconst 0, 1) := by decide +kernel
theorem dX12_neighbours_63 : decode cX12_neighbours 63 = .ok (.ior, 1) := by decide +kernel
theorem dX12_neighbours_64 : decode cX12_neighbours 64 = .ok (.istore_n 2, 1) := by decide +kernel
theorem dX12_neighbours_65 : decode cX12_neighbours 65 = .ok (.iinc 3 1, 3) := by decide +kernel
theorem dX12_neighbours_68 : decode cX12_neighbours 68 = .ok (.goto (-54), 3) := by decide +kernel
theorem dX12_neighbours_71 : decode cX12_neighbours 71 = .ok (.iload_n 2, 1) := by decide +kernel
theorem dX12_neighbours_72 : decode cX12_neighbours 72 = .ok (.ireturn, 1) := by decide +kernel
theorem dX12_odds_0 : decode cX12_odds 0 = .ok (.aload_n 0, 1) := by decide +kernel
theorem dX12_odds_1 : decode cX12_odds 1 = .ok (.iload_n 1, 1) := by decide +kernel
theorem dX12_odds_2 : decode cX12_odds 2 = .ok (.invokevirtual 305, 3) := by decide +kernel
theorem dX12_odds_5 : decode cX12_odds 5 = .ok (.ifCond .eq 23, 3) := by decide +kernel
theorem dX12_odds_8 : decode cX12_odds 8 = .ok (.iload_n 2, 1) := by decide +kernel
theorem dX12_odds_9 : decode cX12_odds 9 = .ok (.iconst 0, 1) := by decide +kernel
theorem dX12_odds_10 : decode cX12_odds 10 = .ok (.bipush 40, 2) := by decide +kernel
theorem dX12_odds_12 : decode cX12_odds 12 = .ok (.invokestatic 212, 3) := by decide +kernel
theorem dX12_odds_15 : decode cX12_odds 15 = .ok (.ifCond .eq 13, 3) := by decide +kernel
theorem dX12_odds_18 : decode cX12_odds 18 = .ok (.iload_n 3, 1) := by decide +kernel
theorem dX12_odds_19 : decode cX12_odds 19 = .ok (.iconst 0, 1) := by decide +kernel
theorem dX12_odds_20 : decode cX12_odds 20 = .ok (.bipush 100, 2) := by decide +kernel
theorem dX12_odds_22 : decode cX12_odds 22 = .ok (.invokestatic 212, 3) := by decide +kernel
theorem dX12_odds_25 : decode cX12_odds 25 = .ok (.ifCond .ne 5, 3) := by decide +kernel
theorem dX12_odds_28 : decode cX12_odds 28 = .ok (.iconst (-1), 1) := by decide +kernel
theorem dX12_odds_29 : decode cX12_odds 29 = .ok (.ireturn, 1) := by decide +kernel
theorem dX12_odds_30 : decode cX12_odds 30 = .ok (.iconst 0, 1) := by decide +kernel
theorem dX12_odds_31 : decode cX12_odds 31 = .ok (.istore 4, 2) := by decide +kernel
theorem dX12_odds_33 : decode cX12_odds 33 = .ok (.iload 4, 2) := by decide +kernel
theorem dX12_odds_35 : decode cX12_odds 35 = .ok (.bipush 99, 2) := by decide +kernel
theorem dX12_odds_37 : decode cX12_odds 37 = .ok (.if_icmp .gt 36, 3) := by decide +kernel
theorem dX12_odds_40 : decode cX12_odds 40 = .ok (.aload_n 0, 1) := by decide +kernel
theorem dX12_odds_41 : decode cX12_odds 41 = .ok (.getfield 87, 3) := by decide +kernel
theorem dX12_odds_44 : decode cX12_odds 44 = .ok (.iload 4, 2) := by decide +kernel
theorem dX12_odds_46 : decode cX12_odds 46 = .ok (.iload 4, 2) := by decide +kernel
theorem dX12_odds_48 : decode cX12_odds 48 = .ok (.aload_n 0, 1) := by decide +kernel
theorem dX12_odds_49 : decode cX12_odds 49 = .ok (.getfield 58, 3) := by decide +kernel
theorem dX12_odds_52 : decode cX12_odds 52 = .ok (.iconst 0, 1) := by decide +kernel
theorem dX12_odds_53 : decode cX12_odds 53 = .ok (.iload_n 1, 1) := by decide +kernel
theorem dX12_odds_54 : decode cX12_odds 54 = .ok (.iadd, 1) := by decide +kernel
theorem dX12_odds_55 : decode cX12_odds 55 = .ok (.iaload, 1) := by decide +kernel
theorem dX12_odds_56 : decode cX12_odds 56 = .ok (.if_icmp .ne 9, 3) := by decide +kernel
theorem dX12_odds_59 : decode cX12_odds 59 = .ok (.ldc2_w 419, 3) := by decide +kernel
theorem dX12_odds_62 : decode cX12_odds 62 = .ok (.goto 4, 3) := by decide +kernel
theorem dX12_odds_65 : decode cX12_odds 65 = .ok (.lconst 0, 1) := by decide +kernel
theorem dX12_odds_66 : decode cX12_odds 66 = .ok (.lastore, 1) := by decide +kernel
theorem dX12_odds_67 : decode cX12_odds 67 = .ok (.iinc 4 1, 3) := by decide +kernel
theorem dX12_odds_70 : decode cX12_odds 70 = .ok (.goto (-37), 3) := by decide +kernel
theorem dX12_odds_73 : decode cX12_odds 73 = .ok (.iconst 0, 1) := by decide +kernel
theorem dX12_odds_74 : decode cX12_odds 74 = .ok (.istore 4, 2) := by decide +kernel
theorem dX12_odds_76 : decode cX12_odds 76 = .ok (.iload 4, 2) := by decide +kernel
theorem dX12_odds_78 : decode cX12_odds 78 = .ok (.iload_n 2, 1) := by decide +kernel
theorem dX12_odds_79 : decode cX12_odds 79 = .ok (.if_icmp .ge 165, 3) := by decide +kernel
theorem dX12_odds_82 : decode cX12_odds 82 = .ok (.iconst 0, 1) := by decide +kernel
theorem dX12_odds_83 : decode cX12_odds 83 = .ok (.istore 5, 2) := by decide +kernel
theorem dX12_odds_85 : decode cX12_odds 85 = .ok (.iload 5, 2) := by decide +kernel
theorem dX12_odds_87 : decode cX12_odds 87 = .ok (.bipush 99, 2) := by decide +kernel
theorem dX12_odds_89 : decode cX12_odds 89 = .ok (.if_icmp .gt 17, 3) := by decide +kernel
theorem dX12_odds_92 : decode cX12_odds 92 = .ok (.aload_n 0, 1) := by decide +kernel
theorem dX12_odds_93 : decode cX12_odds 93 = .ok (.getfield 91, 3) := by decide +kernel
theorem dX12_odds_96 : decode cX12_odds 96 = .ok (.iload 5, 2) := by decide +kernel
theorem dX12_odds_98 : decode cX12_odds 98 = .ok (.lconst 0, 1) := by decide +kernel
theorem dX12_odds_99 : decode cX12_odds 99 = .ok (.lastore, 1) := by decide +kernel
theorem dX12_odds_100 : decode cX12_odds 100 = .ok (.iinc 5 1, 3) := by decide +kernel
theorem dX12_odds_103 : decode cX12_odds 103 = .ok (.goto (-18), 3) := by decide +kernel
theorem dX12_odds_106 : decode cX12_odds 106 = .ok (.iconst 0, 1) := by decide +kernel
theorem dX12_odds_107 : decode cX12_odds 107 = .ok (.istore 5, 2) := by decide +kernel
theorem dX12_odds_109 : decode cX12_odds 109 = .ok (.iload 5, 2) := by decide +kernel
theorem dX12_odds_111 : decode cX12_odds 111 = .ok (.bipush 99, 2) := by decide +kernel
theorem dX12_odds_113 : decode cX12_odds 113 = .ok (.if_icmp .gt 95, 3) := by decide +kernel
theorem dX12_odds_116 : decode cX12_odds 116 = .ok (.aload_n 0, 1) := by decide +kernel
theorem dX12_odds_117 : decode cX12_odds 117 = .ok (.getfield 87, 3) := by decide +kernel
theorem dX12_odds_120 : decode cX12_odds 120 = .ok (.iload 5, 2) := by decide +kernel
theorem dX12_odds_122 : decode cX12_odds 122 = .ok (.laload, 1) := by decide +kernel
theorem dX12_odds_123 : decode cX12_odds 123 = .ok (.iload_n 3, 1) := by decide +kernel
theorem dX12_odds_124 : decode cX12_odds 124 = .ok (.i2l, 1) := by decide +kernel
theorem dX12_odds_125 : decode cX12_odds 125 = .ok (.lmul, 1) := by decide +kernel
theorem dX12_odds_126 : decode cX12_odds 126 = .ok (.ldc2_w 421, 3) := by decide +kernel
theorem dX12_odds_129 : decode cX12_odds 129 = .ok (.ldiv, 1) := by decide +kernel
theorem dX12_odds_130 : decode cX12_odds 130 = .ok (.lstore 6, 2) := by decide +kernel
theorem dX12_odds_132 : decode cX12_odds 132 = .ok (.iload 5, 2) := by decide +kernel
theorem dX12_odds_134 : decode cX12_odds 134 = .ok (.aload_n 0, 1) := by decide +kernel
theorem dX12_odds_135 : decode cX12_odds 135 = .ok (.iload_n 1, 1) := by decide +kernel
theorem dX12_odds_136 : decode cX12_odds 136 = .ok (.iconst 4, 1) := by decide +kernel
theorem dX12_odds_137 : decode cX12_odds 137 = .ok (.invokevirtual 262, 3) := by decide +kernel
theorem dX12_odds_140 : decode cX12_odds 140 = .ok (.iadd, 1) := by decide +kernel
theorem dX12_odds_141 : decode cX12_odds 141 = .ok (.istore 8, 2) := by decide +kernel
theorem dX12_odds_143 : decode cX12_odds 143 = .ok (.aload_n 0, 1) := by decide +kernel
theorem dX12_odds_144 : decode cX12_odds 144 = .ok (.getfield 91, 3) := by decide +kernel
theorem dX12_odds_147 : decode cX12_odds 147 = .ok (.bipush 99, 2) := by decide +kernel
theorem dX12_odds_149 : decode cX12_odds 149 = .ok (.iload 8, 2) := by decide +kernel
theorem dX12_odds_151 : decode cX12_odds 151 = .ok (.aload_n 0, 1) := by decide +kernel
theorem dX12_odds_152 : decode cX12_odds 152 = .ok (.getfield 49, 3) := by decide +kernel
theorem dX12_odds_155 : decode cX12_odds 155 = .ok (.iconst 1, 1) := by decide +kernel
theorem dX12_odds_156 : decode cX12_odds 156 = .ok (.iaload, 1) := by decide +kernel
theorem dX12_odds_157 : decode cX12_odds 157 = .ok (.iadd, 1) := by decide +kernel
theorem dX12_odds_158 : decode cX12_odds 158 = .ok (.aload_n 0, 1) := by decide +kernel
theorem dX12_odds_159 : decode cX12_odds 159 = .ok (.getfield 58, 3) := by decide +kernel
theorem dX12_odds_162 : decode cX12_odds 162 = .ok (.bipush 9, 2) := by decide +kernel
theorem dX12_odds_164 : decode cX12_odds 164 = .ok (.iload_n 1, 1) := by decide +kernel
theorem dX12_odds_165 : decode cX12_odds 165 = .ok (.iadd, 1) := by decide +kernel
theorem dX12_odds_166 : decode cX12_odds 166 = .ok (.iaload, 1) := by decide +kernel
theorem dX12_odds_167 : decode cX12_odds 167 = .ok (.iadd, 1) := by decide +kernel
theorem dX12_odds_168 : decode cX12_odds 168 = .ok (.invokestatic 279, 3) := by decide +kernel
theorem dX12_odds_171 : decode cX12_odds 171 = .ok (.dup2, 1) := by decide +kernel
theorem dX12_odds_172 : decode cX12_odds 172 = .ok (.laload, 1) := by decide +kernel
theorem dX12_odds_173 : decode cX12_odds 173 = .ok (.lload 6, 2) := by decide +kernel
theorem dX12_odds_175 : decode cX12_odds 175 = .ok (.ladd, 1) := by decide +kernel
theorem dX12_odds_176 : decode cX12_odds 176 = .ok (.lastore, 1) := by decide +kernel
theorem dX12_odds_177 : decode cX12_odds 177 = .ok (.aload_n 0, 1) := by decide +kernel
theorem dX12_odds_178 : decode cX12_odds 178 = .ok (.getfield 91, 3) := by decide +kernel
theorem dX12_odds_181 : decode cX12_odds 181 = .ok (.bipush 99, 2) := by decide +kernel
theorem dX12_odds_183 : decode cX12_odds 183 = .ok (.iload 8, 2) := by decide +kernel
theorem dX12_odds_185 : decode cX12_odds 185 = .ok (.invokestatic 279, 3) := by decide +kernel
theorem dX12_odds_188 : decode cX12_odds 188 = .ok (.dup2, 1) := by decide +kernel
theorem dX12_odds_189 : decode cX12_odds 189 = .ok (.laload, 1) := by decide +kernel
theorem dX12_odds_190 : decode cX12_odds 190 = .ok (.aload_n 0, 1) := by decide +kernel
theorem dX12_odds_191 : decode cX12_odds 191 = .ok (.getfield 87, 3) := by decide +kernel
theorem dX12_odds_194 : decode cX12_odds 194 = .ok (.iload 5, 2) := by decide +kernel
theorem dX12_odds_196 : decode cX12_odds 196 = .ok (.laload, 1) := by decide +kernel
theorem dX12_odds_197 : decode cX12_odds 197 = .ok (.lload 6, 2) := by decide +kernel
theorem dX12_odds_199 : decode cX12_odds 199 = .ok (.lsub, 1) := by decide +kernel
theorem dX12_odds_200 : decode cX12_odds 200 = .ok (.ladd, 1) := by decide +kernel
theorem dX12_odds_201 : decode cX12_odds 201 = .ok (.lastore, 1) := by decide +kernel
theorem dX12_odds_202 : decode cX12_odds 202 = .ok (.iinc 5 1, 3) := by decide +kernel
theorem dX12_odds_205 : decode cX12_odds 205 = .ok (.goto (-96), 3) := by decide +kernel
theorem dX12_odds_208 : decode cX12_odds 208 = .ok (.iconst 0, 1) := by decide +kernel
theorem dX12_odds_209 : decode cX12_odds 209 = .ok (.istore 5, 2) := by decide +kernel
theorem dX12_odds_211 : decode cX12_odds 211 = .ok (.iload 5, 2) := by decide +kernel
theorem dX12_odds_213 : decode cX12_odds 213 = .ok (.bipush 99, 2) := by decide +kernel
theorem dX12_odds_215 : decode cX12_odds 215 = .ok (.if_icmp .gt 23, 3) := by decide +kernel
theorem dX12_odds_218 : decode cX12_odds 218 = .ok (.aload_n 0, 1) := by decide +kernel
theorem dX12_odds_219 : decode cX12_odds 219 = .ok (.getfield 87, 3) := by decide +kernel
theorem dX12_odds_222 : decode cX12_odds 222 = .ok (.iload 5, 2) := by decide +kernel
theorem dX12_odds_224 : decode cX12_odds 224 = .ok (.aload_n 0, 1) := by decide +kernel
theorem dX12_odds_225 : decode cX12_odds 225 = .ok (.getfield 91, 3) := by decide +kernel
theorem dX12_odds_228 : decode cX12_odds 228 = .ok (.iload 5, 2) := by decide +kernel
theorem dX12_odds_230 : decode cX12_odds 230 = .ok (.laload, 1) := by decide +kernel
theorem dX12_odds_231 : decode cX12_odds 231 = .ok (.lastore, 1) := by decide +kernel
theorem dX12_odds_232 : decode cX12_odds 232 = .ok (.iinc 5 1, 3) := by decide +kernel
theorem dX12_odds_235 : decode cX12_odds 235 = .ok (.goto (-24), 3) := by decide +kernel
theorem dX12_odds_238 : decode cX12_odds 238 = .ok (.iinc 4 1, 3) := by decide +kernel
theorem dX12_odds_241 : decode cX12_odds 241 = .ok (.goto (-165), 3) := by decide +kernel
theorem dX12_odds_244 : decode cX12_odds 244 = .ok (.lconst 0, 1) := by decide +kernel
theorem dX12_odds_245 : decode cX12_odds 245 = .ok (.lstore 4, 2) := by decide +kernel
theorem dX12_odds_247 : decode cX12_odds 247 = .ok (.bipush 60, 2) := by decide +kernel
theorem dX12_odds_249 : decode cX12_odds 249 = .ok (.istore 6, 2) := by decide +kernel
theorem dX12_odds_251 : decode cX12_odds 251 = .ok (.iload 6, 2) := by decide +kernel
theorem dX12_odds_253 : decode cX12_odds 253 = .ok (.bipush 99, 2) := by decide +kernel
theorem dX12_odds_255 : decode cX12_odds 255 = .ok (.if_icmp .gt 21, 3) := by decide +kernel
theorem dX12_odds_258 : decode cX12_odds 258 = .ok (.lload 4, 2) := by decide +kernel
theorem dX12_odds_260 : decode cX12_odds 260 = .ok (.aload_n 0, 1) := by decide +kernel
theorem dX12_odds_261 : decode cX12_odds 261 = .ok (.getfield 87, 3) := by decide +kernel
theorem dX12_odds_264 : decode cX12_odds 264 = .ok (.iload 6, 2) := by decide +kernel
theorem dX12_odds_266 : decode cX12_odds 266 = .ok (.laload, 1) := by decide +kernel
theorem dX12_odds_267 : decode cX12_odds 267 = .ok (.ladd, 1) := by decide +kernel
theorem dX12_odds_268 : decode cX12_odds 268 = .ok (.lstore 4, 2) := by decide +kernel
theorem dX12_odds_270 : decode cX12_odds 270 = .ok (.iinc 6 1, 3) := by decide +kernel
theorem dX12_odds_273 : decode cX12_odds 273 = .ok (.goto (-22), 3) := by decide +kernel
theorem dX12_odds_276 : decode cX12_odds 276 = .ok (.lload 4, 2) := by decide +kernel
theorem dX12_odds_278 : decode cX12_odds 278 = .ok (.l2i, 1) := by decide +kernel
theorem dX12_odds_279 : decode cX12_odds 279 = .ok (.ireturn, 1) := by decide +kernel
theorem dX12_passSeason_0 : decode cX12_passSeason 0 = .ok (.aload_n 0, 1) := by decide +kernel
theorem dX12_passSeason_1 : decode cX12_passSeason 1 = .ok (.aload_n 0, 1) := by decide +kernel
theorem dX12_passSeason_2 : decode cX12_passSeason 2 = .ok (.getfield 58, 3) := by decide +kernel
theorem dX12_passSeason_5 : decode cX12_passSeason 5 = .ok (.bipush 32, 2) := by decide +kernel
theorem dX12_passSeason_7 : decode cX12_passSeason 7 = .ok (.iaload, 1) := by decide +kernel
theorem dX12_passSeason_8 : decode cX12_passSeason 8 = .ok (.invokevirtual 330, 3) := by decide +kernel
theorem dX12_passSeason_11 : decode cX12_passSeason 11 = .ok (.aload_n 0, 1) := by decide +kernel
theorem dX12_passSeason_12 : decode cX12_passSeason 12 = .ok (.getfield 58, 3) := by decide +kernel
theorem dX12_passSeason_15 : decode cX12_passSeason 15 = .ok (.bipush 32, 2) := by decide +kernel
theorem dX12_passSeason_17 : decode cX12_passSeason 17 = .ok (.dup2, 1) := by decide +kernel
theorem dX12_passSeason_18 : decode cX12_passSeason 18 = .ok (.iaload, 1) := by decide +kernel
theorem dX12_passSeason_19 : decode cX12_passSeason 19 = .ok (.iconst 1, 1) := by decide +kernel
theorem dX12_passSeason_20 : decode cX12_passSeason 20 = .ok (.iadd, 1) := by decide +kernel
theorem dX12_passSeason_21 : decode cX12_passSeason 21 = .ok (.iastore, 1) := by decide +kernel
theorem dX12_passSeason_22 : decode cX12_passSeason 22 = .ok (.iconst 0, 1) := by decide +kernel
theorem dX12_passSeason_23 : decode cX12_passSeason 23 = .ok (.istore_n 1, 1) := by decide +kernel
theorem dX12_passSeason_24 : decode cX12_passSeason 24 = .ok (.iload_n 1, 1) := by decide +kernel
theorem dX12_passSeason_25 : decode cX12_passSeason 25 = .ok (.aload_n 0, 1) := by decide +kernel
theorem dX12_passSeason_26 : decode cX12_passSeason 26 = .ok (.getfield 259, 3) := by decide +kernel
theorem dX12_passSeason_29 : decode cX12_passSeason 29 = .ok (.if_icmp .ge 70, 3) := by decide +kernel
theorem dX12_passSeason_32 : decode cX12_passSeason 32 = .ok (.aload_n 0, 1) := by decide +kernel
theorem dX12_passSeason_33 : decode cX12_passSeason 33 = .ok (.getfield 58, 3) := by decide +kernel
theorem dX12_passSeason_36 : decode cX12_passSeason 36 = .ok (.bipush 32, 2) := by decide +kernel
theorem dX12_passSeason_38 : decode cX12_passSeason 38 = .ok (.iaload, 1) := by decide +kernel
theorem dX12_passSeason_39 : decode cX12_passSeason 39 = .ok (.iconst 4, 1) := by decide +kernel
theorem dX12_passSeason_40 : decode cX12_passSeason 40 = .ok (.irem, 1) := by decide +kernel
theorem dX12_passSeason_41 : decode cX12_passSeason 41 = .ok (.ifCond .ne 58, 3) := by decide +kernel
theorem dX12_passSeason_44 : decode cX12_passSeason 44 = .ok (.aload_n 0, 1) := by decide +kernel
theorem dX12_passSeason_45 : decode cX12_passSeason 45 = .ok (.getfield 58, 3) := by decide +kernel
theorem dX12_passSeason_48 : decode cX12_passSeason 48 = .ok (.bipush 24, 2) := by decide +kernel
theorem dX12_passSeason_50 : decode cX12_passSeason 50 = .ok (.iload_n 1, 1) := by decide +kernel
theorem dX12_passSeason_51 : decode cX12_passSeason 51 = .ok (.iadd, 1) := by decide +kernel
theorem dX12_passSeason_52 : decode cX12_passSeason 52 = .ok (.sipush 999, 3) := by decide +kernel
theorem dX12_passSeason_55 : decode cX12_passSeason 55 = .ok (.aload_n 0, 1) := by decide +kernel
theorem dX12_passSeason_56 : decode cX12_passSeason 56 = .ok (.getfield 58, 3) := by decide +kernel
theorem dX12_passSeason_59 : decode cX12_passSeason 59 = .ok (.bipush 24, 2) := by decide +kernel
theorem dX12_passSeason_61 : decode cX12_passSeason 61 = .ok (.iload_n 1, 1) := by decide +kernel
theorem dX12_passSeason_62 : decode cX12_passSeason 62 = .ok (.iadd, 1) := by decide +kernel
theorem dX12_passSeason_63 : decode cX12_passSeason 63 = .ok (.iaload, 1) := by decide +kernel
theorem dX12_passSeason_64 : decode cX12_passSeason 64 = .ok (.aload_n 0, 1) := by decide +kernel
theorem dX12_passSeason_65 : decode cX12_passSeason 65 = .ok (.getfield 58, 3) := by decide +kernel
theorem dX12_passSeason_68 : decode cX12_passSeason 68 = .ok (.bipush 18, 2) := by decide +kernel
theorem dX12_passSeason_70 : decode cX12_passSeason 70 = .ok (.iload_n 1, 1) := by decide +kernel
theorem dX12_passSeason_71 : decode cX12_passSeason 71 = .ok (.iadd, 1) := by decide +kernel
theorem dX12_passSeason_72 : decode cX12_passSeason 72 = .ok (.iaload, 1) := by decide +kernel
theorem dX12_passSeason_73 : decode cX12_passSeason 73 = .ok (.iadd, 1) := by decide +kernel
theorem dX12_passSeason_74 : decode cX12_passSeason 74 = .ok (.invokestatic 279, 3) := by decide +kernel
theorem dX12_passSeason_77 : decode cX12_passSeason 77 = .ok (.iastore, 1) := by decide +kernel
theorem dX12_passSeason_78 : decode cX12_passSeason 78 = .ok (.aload_n 0, 1) := by decide +kernel
theorem dX12_passSeason_79 : decode cX12_passSeason 79 = .ok (.getfield 58, 3) := by decide +kernel
theorem dX12_passSeason_82 : decode cX12_passSeason 82 = .ok (.bipush 18, 2) := by decide +kernel
theorem dX12_passSeason_84 : decode cX12_passSeason 84 = .ok (.iload_n 1, 1) := by decide +kernel
theorem dX12_passSeason_85 : decode cX12_passSeason 85 = .ok (.iadd, 1) := by decide +kernel
theorem dX12_passSeason_86 : decode cX12_passSeason 86 = .ok (.aload_n 0, 1) := by decide +kernel
theorem dX12_passSeason_87 : decode cX12_passSeason 87 = .ok (.getfield 49, 3) := by decide +kernel
theorem dX12_passSeason_90 : decode cX12_passSeason 90 = .ok (.iconst 0, 1) := by decide +kernel
theorem dX12_passSeason_91 : decode cX12_passSeason 91 = .ok (.iaload, 1) := by decide +kernel
theorem dX12_passSeason_92 : decode cX12_passSeason 92 = .ok (.iastore, 1) := by decide +kernel
theorem dX12_passSeason_93 : decode cX12_passSeason 93 = .ok (.iinc 1 1, 3) := by decide +kernel
theorem dX12_passSeason_96 : decode cX12_passSeason 96 = .ok (.goto (-72), 3) := by decide +kernel
theorem dX12_passSeason_99 : decode cX12_passSeason 99 = .ok (.iconst 0, 1) := by decide +kernel
theorem dX12_passSeason_100 : decode cX12_passSeason 100 = .ok (.istore_n 1, 1) := by decide +kernel
theorem dX12_passSeason_101 : decode cX12_passSeason 101 = .ok (.iconst 0, 1) := by decide +kernel
theorem dX12_passSeason_102 : decode cX12_passSeason 102 = .ok (.istore_n 2, 1) := by decide +kernel
theorem dX12_passSeason_103 : decode cX12_passSeason 103 = .ok (.iload_n 2, 1) := by decide +kernel
theorem dX12_passSeason_104 : decode cX12_passSeason 104 = .ok (.aload_n 0, 1) := by decide +kernel
theorem dX12_passSeason_105 : decode cX12_passSeason 105 = .ok (.getfield 256, 3) := by decide +kernel
theorem dX12_passSeason_108 : decode cX12_passSeason 108 = .ok (.if_icmp .ge 30, 3) := by decide +kernel
theorem dX12_passSeason_111 : decode cX12_passSeason 111 = .ok (.iload_n 1, 1) := by decide +kernel
theorem dX12_passSeason_112 : decode cX12_passSeason 112 = .ok (.aload_n 0, 1) := by decide +kernel
theorem dX12_passSeason_113 : decode cX12_passSeason 113 = .ok (.getfield 58, 3) := by decide +kernel
theorem dX12_passSeason_116 : decode cX12_passSeason 116 = .ok (.iconst 0, 1) := by decide +kernel
theorem dX12_passSeason_117 : decode cX12_passSeason 117 = .ok (.iload_n 2, 1) := by decide +kernel
theorem dX12_passSeason_118 : decode cX12_passSeason 118 = .ok (.iadd, 1) := by decide +kernel
theorem dX12_passSeason_119 : decode cX12_passSeason 119 = .ok (.iaload, 1) := by decide +kernel
theorem dX12_passSeason_120 : decode cX12_passSeason 120 = .ok (.bipush 60, 2) := by decide +kernel
theorem dX12_passSeason_122 : decode cX12_passSeason 122 = .ok (.if_icmp .lt 7, 3) := by decide +kernel
theorem dX12_passSeason_125 : decode cX12_passSeason 125 = .ok (.iconst 1, 1) := by decide +kernel
theorem dX12_passSeason_126 : decode cX12_passSeason 126 = .ok (.goto 4, 3) := by decide +kernel
theorem dX12_passSeason_129 : decode cX12_passSeason 129 = .ok (.iconst 0, 1) := by decide +kernel
theorem dX12_passSeason_130 : decode cX12_passSeason 130 = .ok (.iadd, 1) := by decide +kernel
theorem dX12_passSeason_131 : decode cX12_passSeason 131 = .ok (.istore_n 1, 1) := by decide +kernel
theorem dX12_passSeason_132 : decode cX12_passSeason 132 = .ok (.iinc 2 1, 3) := by decide +kernel
theorem dX12_passSeason_135 : decode cX12_passSeason 135 = .ok (.goto (-32), 3) := by decide +kernel
theorem dX12_passSeason_138 : decode cX12_passSeason 138 = .ok (.aload_n 0, 1) := by decide +kernel
theorem dX12_passSeason_139 : decode cX12_passSeason 139 = .ok (.getfield 58, 3) := by decide +kernel
theorem dX12_passSeason_142 : decode cX12_passSeason 142 = .ok (.bipush 33, 2) := by decide +kernel
theorem dX12_passSeason_144 : decode cX12_passSeason 144 = .ok (.iaload, 1) := by decide +kernel
theorem dX12_passSeason_145 : decode cX12_passSeason 145 = .ok (.bipush 60, 2) := by decide +kernel
theorem dX12_passSeason_147 : decode cX12_passSeason 147 = .ok (.if_icmp .ne 49, 3) := by decide +kernel
theorem dX12_passSeason_150 : decode cX12_passSeason 150 = .ok (.iconst 3, 1) := by decide +kernel
theorem dX12_passSeason_151 : decode cX12_passSeason 151 = .ok (.istore_n 2, 1) := by decide +kernel
theorem dX12_passSeason_152 : decode cX12_passSeason 152 = .ok (.iload_n 2, 1) := by decide +kernel
theorem dX12_passSeason_153 : decode cX12_passSeason 153 = .ok (.sipush 180, 3) := by decide +kernel
theorem dX12_passSeason_156 : decode cX12_passSeason 156 = .ok (.if_icmp .ge 29, 3) := by decide +kernel
theorem dX12_passSeason_159 : decode cX12_passSeason 159 = .ok (.aload_n 0, 1) := by decide +kernel
theorem dX12_passSeason_160 : decode cX12_passSeason 160 = .ok (.getfield 58, 3) := by decide +kernel
theorem dX12_passSeason_163 : decode cX12_passSeason 163 = .ok (.bipush 34, 2) := by decide +kernel
theorem dX12_passSeason_165 : decode cX12_passSeason 165 = .ok (.iload_n 2, 1) := by decide +kernel
theorem dX12_passSeason_166 : decode cX12_passSeason 166 = .ok (.iadd, 1) := by decide +kernel
theorem dX12_passSeason_167 : decode cX12_passSeason 167 = .ok (.iconst 3, 1) := by decide +kernel
theorem dX12_passSeason_168 : decode cX12_passSeason 168 = .ok (.isub, 1) := by decide +kernel
theorem dX12_passSeason_169 : decode cX12_passSeason 169 = .ok (.aload_n 0, 1) := by decide +kernel
theorem dX12_passSeason_170 : decode cX12_passSeason 170 = .ok (.getfield 58, 3) := by decide +kernel
theorem dX12_passSeason_173 : decode cX12_passSeason 173 = .ok (.bipush 34, 2) := by decide +kernel
theorem dX12_passSeason_175 : decode cX12_passSeason 175 = .ok (.iload_n 2, 1) := by decide +kernel
theorem dX12_passSeason_176 : decode cX12_passSeason 176 = .ok (.iadd, 1) := by decide +kernel
theorem dX12_passSeason_177 : decode cX12_passSeason 177 = .ok (.iaload, 1) := by decide +kernel
theorem dX12_passSeason_178 : decode cX12_passSeason 178 = .ok (.iastore, 1) := by decide +kernel
theorem dX12_passSeason_179 : decode cX12_passSeason 179 = .ok (.iinc 2 1, 3) := by decide +kernel
theorem dX12_passSeason_182 : decode cX12_passSeason 182 = .ok (.goto (-30), 3) := by decide +kernel
theorem dX12_passSeason_185 : decode cX12_passSeason 185 = .ok (.aload_n 0, 1) := by decide +kernel
theorem dX12_passSeason_186 : decode cX12_passSeason 186 = .ok (.getfield 58, 3) := by decide +kernel
theorem dX12_passSeason_189 : decode cX12_passSeason 189 = .ok (.bipush 33, 2) := by decide +kernel
theorem dX12_passSeason_191 : decode cX12_passSeason 191 = .ok (.dup2, 1) := by decide +kernel
theorem dX12_passSeason_192 : decode cX12_passSeason 192 = .ok (.iaload, 1) := by decide +kernel
theorem dX12_passSeason_193 : decode cX12_passSeason 193 = .ok (.iconst 1, 1) := by decide +kernel
theorem dX12_passSeason_194 : decode cX12_passSeason 194 = .ok (.isub, 1) := by decide +kernel
theorem dX12_passSeason_195 : decode cX12_passSeason 195 = .ok (.iastore, 1) := by decide +kernel
theorem dX12_passSeason_196 : decode cX12_passSeason 196 = .ok (.bipush 34, 2) := by decide +kernel
theorem dX12_passSeason_198 : decode cX12_passSeason 198 = .ok (.iconst 3, 1) := by decide +kernel
theorem dX12_passSeason_199 : decode cX12_passSeason 199 = .ok (.aload_n 0, 1) := by decide +kernel
theorem dX12_passSeason_200 : decode cX12_passSeason 200 = .ok (.getfield 58, 3) := by decide +kernel
theorem dX12_passSeason_203 : decode cX12_passSeason 203 = .ok (.bipush 33, 2) := by decide +kernel
theorem dX12_passSeason_205 : decode cX12_passSeason 205 = .ok (.iaload, 1) := by decide +kernel
theorem dX12_passSeason_206 : decode cX12_passSeason 206 = .ok (.imul, 1) := by decide +kernel
theorem dX12_passSeason_207 : decode cX12_passSeason 207 = .ok (.iadd, 1) := by decide +kernel
theorem dX12_passSeason_208 : decode cX12_passSeason 208 = .ok (.istore_n 2, 1) := by decide +kernel
theorem dX12_passSeason_209 : decode cX12_passSeason 209 = .ok (.aload_n 0, 1) := by decide +kernel
theorem dX12_passSeason_210 : decode cX12_passSeason 210 = .ok (.getfield 58, 3) := by decide +kernel
theorem dX12_passSeason_213 : decode cX12_passSeason 213 = .ok (.iload_n 2, 1) := by decide +kernel
theorem dX12_passSeason_214 : decode cX12_passSeason 214 = .ok (.aload_n 0, 1) := by decide +kernel
theorem dX12_passSeason_215 : decode cX12_passSeason 215 = .ok (.iconst 0, 1) := by decide +kernel
theorem dX12_passSeason_216 : decode cX12_passSeason 216 = .ok (.aload_n 0, 1) := by decide +kernel
theorem dX12_passSeason_217 : decode cX12_passSeason 217 = .ok (.getfield 256, 3) := by decide +kernel
theorem dX12_passSeason_220 : decode cX12_passSeason 220 = .ok (.invokevirtual 333, 3) := by decide +kernel
theorem dX12_passSeason_223 : decode cX12_passSeason 223 = .ok (.iastore, 1) := by decide +kernel
theorem dX12_passSeason_224 : decode cX12_passSeason 224 = .ok (.aload_n 0, 1) := by decide +kernel
theorem dX12_passSeason_225 : decode cX12_passSeason 225 = .ok (.getfield 58, 3) := by decide +kernel
theorem dX12_passSeason_228 : decode cX12_passSeason 228 = .ok (.iload_n 2, 1) := by decide +kernel
theorem dX12_passSeason_229 : decode cX12_passSeason 229 = .ok (.iconst 1, 1) := by decide +kernel
theorem dX12_passSeason_230 : decode cX12_passSeason 230 = .ok (.iadd, 1) := by decide +kernel
theorem dX12_passSeason_231 : decode cX12_passSeason 231 = .ok (.iload_n 1, 1) := by decide +kernel
theorem dX12_passSeason_232 : decode cX12_passSeason 232 = .ok (.iastore, 1) := by decide +kernel
theorem dX12_passSeason_233 : decode cX12_passSeason 233 = .ok (.aload_n 0, 1) := by decide +kernel
theorem dX12_passSeason_234 : decode cX12_passSeason 234 = .ok (.getfield 58, 3) := by decide +kernel
theorem dX12_passSeason_237 : decode cX12_passSeason 237 = .ok (.iload_n 2, 1) := by decide +kernel
theorem dX12_passSeason_238 : decode cX12_passSeason 238 = .ok (.iconst 2, 1) := by decide +kernel
theorem dX12_passSeason_239 : decode cX12_passSeason 239 = .ok (.iadd, 1) := by decide +kernel
theorem dX12_passSeason_240 : decode cX12_passSeason 240 = .ok (.aload_n 0, 1) := by decide +kernel
theorem dX12_passSeason_241 : decode cX12_passSeason 241 = .ok (.getfield 58, 3) := by decide +kernel
theorem dX12_passSeason_244 : decode cX12_passSeason 244 = .ok (.bipush 31, 2) := by decide +kernel
theorem dX12_passSeason_246 : decode cX12_passSeason 246 = .ok (.iaload, 1) := by decide +kernel
theorem dX12_passSeason_247 : decode cX12_passSeason 247 = .ok (.iastore, 1) := by decide +kernel
theorem dX12_passSeason_248 : decode cX12_passSeason 248 = .ok (.aload_n 0, 1) := by decide +kernel
theorem dX12_passSeason_249 : decode cX12_passSeason 249 = .ok (.getfield 58, 3) := by decide +kernel
theorem dX12_passSeason_252 : decode cX12_passSeason 252 = .ok (.bipush 33, 2) := by decide +kernel
theorem dX12_passSeason_254 : decode cX12_passSeason 254 = .ok (.dup2, 1) := by decide +kernel
theorem dX12_passSeason_255 : decode cX12_passSeason 255 = .ok (.iaload, 1) := by decide +kernel
theorem dX12_passSeason_256 : decode cX12_passSeason 256 = .ok (.iconst 1, 1) := by decide +kernel
theorem dX12_passSeason_257 : decode cX12_passSeason 257 = .ok (.iadd, 1) := by decide +kernel
theorem dX12_passSeason_258 : decode cX12_passSeason 258 = .ok (.iastore, 1) := by decide +kernel
theorem dX12_passSeason_259 : decode cX12_passSeason 259 = .ok (.aload_n 0, 1) := by decide +kernel
theorem dX12_passSeason_260 : decode cX12_passSeason 260 = .ok (.getfield 58, 3) := by decide +kernel
theorem dX12_passSeason_263 : decode cX12_passSeason 263 = .ok (.bipush 31, 2) := by decide +kernel
theorem dX12_passSeason_265 : decode cX12_passSeason 265 = .ok (.iconst 0, 1) := by decide +kernel
theorem dX12_passSeason_266 : decode cX12_passSeason 266 = .ok (.iastore, 1) := by decide +kernel
theorem dX12_passSeason_267 : decode cX12_passSeason 267 = .ok (.return_, 1) := by decide +kernel
theorem dX12_pay_0 : decode cX12_pay 0 = .ok (.aload_n 0, 1) := by decide +kernel
theorem dX12_pay_1 : decode cX12_pay 1 = .ok (.aload_n 0, 1) := by decide +kernel
theorem dX12_pay_2 : decode cX12_pay 2 = .ok (.iload_n 1, 1) := by decide +kernel
theorem dX12_pay_3 : decode cX12_pay 3 = .ok (.invokevirtual 308, 3) := by decide +kernel
theorem dX12_pay_6 : decode cX12_pay 6 = .ok (.ifCond .ne 7, 3) := by decide +kernel
theorem dX12_pay_9 : decode cX12_pay 9 = .ok (.iconst 0, 1) := by decide +kernel
theorem dX12_pay_10 : decode cX12_pay 10 = .ok (.goto 35, 3) := by decide +kernel
theorem dX12_pay_13 : decode cX12_pay 13 = .ok (.iload_n 2, 1) := by decide +kernel
theorem dX12_pay_14 : decode cX12_pay 14 = .ok (.iconst 1, 1) := by decide +kernel
theorem dX12_pay_15 : decode cX12_pay 15 = .ok (.bipush 9, 2) := by decide +kernel
theorem dX12_pay_17 : decode cX12_pay 17 = .ok (.invokestatic 212, 3) := by decide +kernel
theorem dX12_pay_20 : decode cX12_pay 20 = .ok (.ifCond .ne 7, 3) := by decide +kernel
theorem dX12_pay_23 : decode cX12_pay 23 = .ok (.iconst 1, 1) := by decide +kernel
theorem dX12_pay_24 : decode cX12_pay 24 = .ok (.goto 21, 3) := by decide +kernel
theorem dX12_pay_27 : decode cX12_pay 27 = .ok (.aload_n 0, 1) := by decide +kernel
theorem dX12_pay_28 : decode cX12_pay 28 = .ok (.getfield 58, 3) := by decide +kernel
theorem dX12_pay_31 : decode cX12_pay 31 = .ok (.bipush 18, 2) := by decide +kernel
theorem dX12_pay_33 : decode cX12_pay 33 = .ok (.iload_n 1, 1) := by decide +kernel
theorem dX12_pay_34 : decode cX12_pay 34 = .ok (.iadd, 1) := by decide +kernel
theorem dX12_pay_35 : decode cX12_pay 35 = .ok (.iaload, 1) := by decide +kernel
theorem dX12_pay_36 : decode cX12_pay 36 = .ok (.iload_n 2, 1) := by decide +kernel
theorem dX12_pay_37 : decode cX12_pay 37 = .ok (.if_icmp .ge 7, 3) := by decide +kernel
theorem dX12_pay_40 : decode cX12_pay 40 = .ok (.iconst 2, 1) := by decide +kernel
theorem dX12_pay_41 : decode cX12_pay 41 = .ok (.goto 4, 3) := by decide +kernel
theorem dX12_pay_44 : decode cX12_pay 44 = .ok (.iconst (-1), 1) := by decide +kernel
theorem dX12_pay_45 : decode cX12_pay 45 = .ok (.invokevirtual 317, 3) := by decide +kernel
theorem dX12_pay_48 : decode cX12_pay 48 = .ok (.ifCond .eq 5, 3) := by decide +kernel
theorem dX12_pay_51 : decode cX12_pay 51 = .ok (.iconst (-1), 1) := by decide +kernel
theorem dX12_pay_52 : decode cX12_pay 52 = .ok (.ireturn, 1) := by decide +kernel
theorem dX12_pay_53 : decode cX12_pay 53 = .ok (.aload_n 0, 1) := by decide +kernel
theorem dX12_pay_54 : decode cX12_pay 54 = .ok (.invokevirtual 320, 3) := by decide +kernel
theorem dX12_pay_57 : decode cX12_pay 57 = .ok (.aload_n 0, 1) := by decide +kernel
theorem dX12_pay_58 : decode cX12_pay 58 = .ok (.getfield 58, 3) := by decide +kernel
theorem dX12_pay_61 : decode cX12_pay 61 = .ok (.bipush 18, 2) := by decide +kernel
theorem dX12_pay_63 : decode cX12_pay 63 = .ok (.iload_n 1, 1) := by decide +kernel
theorem dX12_pay_64 : decode cX12_pay 64 = .ok (.iadd, 1) := by decide +kernel
theorem dX12_pay_65 : decode cX12_pay 65 = .ok (.dup2, 1) := by decide +kernel
theorem dX12_pay_66 : decode cX12_pay 66 = .ok (.iaload, 1) := by decide +kernel
theorem dX12_pay_67 : decode cX12_pay 67 = .ok (.iload_n 2, 1) := by decide +kernel
theorem dX12_pay_68 : decode cX12_pay 68 = .ok (.isub, 1) := by decide +kernel
theorem dX12_pay_69 : decode cX12_pay 69 = .ok (.iastore, 1) := by decide +kernel
theorem dX12_pay_70 : decode cX12_pay 70 = .ok (.aload_n 0, 1) := by decide +kernel
theorem dX12_pay_71 : decode cX12_pay 71 = .ok (.getfield 58, 3) := by decide +kernel
theorem dX12_pay_74 : decode cX12_pay 74 = .ok (.bipush 30, 2) := by decide +kernel
theorem dX12_pay_76 : decode cX12_pay 76 = .ok (.dup2, 1) := by decide +kernel
theorem dX12_pay_77 : decode cX12_pay 77 = .ok (.iaload, 1) := by decide +kernel
theorem dX12_pay_78 : decode cX12_pay 78 = .ok (.iload_n 2, 1) := by decide +kernel
theorem dX12_pay_79 : decode cX12_pay 79 = .ok (.aload_n 0, 1) := by decide +kernel
theorem dX12_pay_80 : decode cX12_pay 80 = .ok (.getfield 49, 3) := by decide +kernel
theorem dX12_pay_83 : decode cX12_pay 83 = .ok (.iconst 2, 1) := by decide +kernel
theorem dX12_pay_84 : decode cX12_pay 84 = .ok (.iaload, 1) := by decide +kernel
theorem dX12_pay_85 : decode cX12_pay 85 = .ok (.imul, 1) := by decide +kernel
theorem dX12_pay_86 : decode cX12_pay 86 = .ok (.iadd, 1) := by decide +kernel
theorem dX12_pay_87 : decode cX12_pay 87 = .ok (.iastore, 1) := by decide +kernel
theorem dX12_pay_88 : decode cX12_pay 88 = .ok (.aload_n 0, 1) := by decide +kernel
theorem dX12_pay_89 : decode cX12_pay 89 = .ok (.getfield 58, 3) := by decide +kernel
theorem dX12_pay_92 : decode cX12_pay 92 = .ok (.bipush 30, 2) := by decide +kernel
theorem dX12_pay_94 : decode cX12_pay 94 = .ok (.iaload, 1) := by decide +kernel
theorem dX12_pay_95 : decode cX12_pay 95 = .ok (.ireturn, 1) := by decide +kernel
theorem dX12_rests_0 : decode cX12_rests 0 = .ok (.aload_n 0, 1) := by decide +kernel
theorem dX12_rests_1 : decode cX12_rests 1 = .ok (.iload_n 1, 1) := by decide +kernel
theorem dX12_rests_2 : decode cX12_rests 2 = .ok (.iload_n 2, 1) := by decide +kernel
theorem dX12_rests_3 : decode cX12_rests 3 = .ok (.iload_n 3, 1) := by decide +kernel
theorem dX12_rests_4 : decode cX12_rests 4 = .ok (.invokevirtual 376, 3) := by decide +kernel
theorem dX12_rests_7 : decode cX12_rests 7 = .ok (.ifCond .eq 9, 3) := by decide +kernel
theorem dX12_rests_10 : decode cX12_rests 10 = .ok (.iload 4, 2) := by decide +kernel
theorem dX12_rests_12 : decode cX12_rests 12 = .ok (.iconst (-1), 1) := by decide +kernel
theorem dX12_rests_13 : decode cX12_rests 13 = .ok (.if_icmp .ge 5, 3) := by decide +kernel
theorem dX12_rests_16 : decode cX12_rests 16 = .ok (.iconst (-1), 1) := by decide +kernel
theorem dX12_rests_17 : decode cX12_rests 17 = .ok (.ireturn, 1) := by decide +kernel
theorem dX12_rests_18 : decode cX12_rests 18 = .ok (.iconst 0, 1) := by decide +kernel
theorem dX12_rests_19 : decode cX12_rests 19 = .ok (.istore 5, 2) := by decide +kernel
theorem dX12_rests_21 : decode cX12_rests 21 = .ok (.iconst 0, 1) := by decide +kernel
theorem dX12_rests_22 : decode cX12_rests 22 = .ok (.istore 6, 2) := by decide +kernel
theorem dX12_rests_24 : decode cX12_rests 24 = .ok (.iload 6, 2) := by decide +kernel
theorem dX12_rests_26 : decode cX12_rests 26 = .ok (.iconst 3, 1) := by decide +kernel
theorem dX12_rests_27 : decode cX12_rests 27 = .ok (.if_icmp .gt 73, 3) := by decide +kernel
theorem dX12_rests_30 : decode cX12_rests 30 = .ok (.iconst 0, 1) := by decide +kernel
theorem dX12_rests_31 : decode cX12_rests 31 = .ok (.istore 7, 2) := by decide +kernel
theorem dX12_rests_33 : decode cX12_rests 33 = .ok (.iload 7, 2) := by decide +kernel
theorem dX12_rests_35 : decode cX12_rests 35 = .ok (.iconst 3, 1) := by decide +kernel
theorem dX12_rests_36 : decode cX12_rests 36 = .ok (.if_icmp .gt 58, 3) := by decide +kernel
theorem dX12_rests_39 : decode cX12_rests 39 = .ok (.iload 6, 2) := by decide +kernel
theorem dX12_rests_41 : decode cX12_rests 41 = .ok (.invokestatic 379, 3) := by decide +kernel
theorem dX12_rests_44 : decode cX12_rests 44 = .ok (.ifCond .eq 44, 3) := by decide +kernel
theorem dX12_rests_47 : decode cX12_rests 47 = .ok (.iload 7, 2) := by decide +kernel
theorem dX12_rests_49 : decode cX12_rests 49 = .ok (.invokestatic 379, 3) := by decide +kernel
theorem dX12_rests_52 : decode cX12_rests 52 = .ok (.ifCond .eq 36, 3) := by decide +kernel
theorem dX12_rests_55 : decode cX12_rests 55 = .ok (.aload_n 0, 1) := by decide +kernel
theorem dX12_rests_56 : decode cX12_rests 56 = .ok (.iload_n 1, 1) := by decide +kernel
theorem dX12_rests_57 : decode cX12_rests 57 = .ok (.iload_n 2, 1) := by decide +kernel
theorem dX12_rests_58 : decode cX12_rests 58 = .ok (.iload_n 3, 1) := by decide +kernel
theorem dX12_rests_59 : decode cX12_rests 59 = .ok (.iload 6, 2) := by decide +kernel
theorem dX12_rests_61 : decode cX12_rests 61 = .ok (.iload 7, 2) := by decide +kernel
theorem dX12_rests_63 : decode cX12_rests 63 = .ok (.invokevirtual 387, 3) := by decide +kernel
theorem dX12_rests_66 : decode cX12_rests 66 = .ok (.ifCond .eq 22, 3) := by decide +kernel
theorem dX12_rests_69 : decode cX12_rests 69 = .ok (.iload 5, 2) := by decide +kernel
theorem dX12_rests_71 : decode cX12_rests 71 = .ok (.iload 4, 2) := by decide +kernel
theorem dX12_rests_73 : decode cX12_rests 73 = .ok (.if_icmp .ne 12, 3) := by decide +kernel
theorem dX12_rests_76 : decode cX12_rests 76 = .ok (.bipush 10, 2) := by decide +kernel
theorem dX12_rests_78 : decode cX12_rests 78 = .ok (.iload 6, 2) := by decide +kernel
theorem dX12_rests_80 : decode cX12_rests 80 = .ok (.imul, 1) := by decide +kernel
theorem dX12_rests_81 : decode cX12_rests 81 = .ok (.iload 7, 2) := by decide +kernel
theorem dX12_rests_83 : decode cX12_rests 83 = .ok (.iadd, 1) := by decide +kernel
theorem dX12_rests_84 : decode cX12_rests 84 = .ok (.ireturn, 1) := by decide +kernel
theorem dX12_rests_85 : decode cX12_rests 85 = .ok (.iinc 5 1, 3) := by decide +kernel
theorem dX12_rests_88 : decode cX12_rests 88 = .ok (.iinc 7 1, 3) := by decide +kernel
theorem dX12_rests_91 : decode cX12_rests 91 = .ok (.goto (-58), 3) := by decide +kernel
theorem dX12_rests_94 : decode cX12_rests 94 = .ok (.iinc 6 1, 3) := by decide +kernel
theorem dX12_rests_97 : decode cX12_rests 97 = .ok (.goto (-73), 3) := by decide +kernel
theorem dX12_rests_100 : decode cX12_rests 100 = .ok (.iload 4, 2) := by decide +kernel
theorem dX12_rests_102 : decode cX12_rests 102 = .ok (.iconst (-1), 1) := by decide +kernel
theorem dX12_rests_103 : decode cX12_rests 103 = .ok (.if_icmp .ne 8, 3) := by decide +kernel
theorem dX12_rests_106 : decode cX12_rests 106 = .ok (.iload 5, 2) := by decide +kernel
theorem dX12_rests_108 : decode cX12_rests 108 = .ok (.goto 4, 3) := by decide +kernel
theorem dX12_rests_111 : decode cX12_rests 111 = .ok (.iconst (-1), 1) := by decide +kernel
theorem dX12_rests_112 : decode cX12_rests 112 = .ok (.ireturn, 1) := by decide +kernel
theorem dX12_roadOf_0 : decode cX12_roadOf 0 = .ok (.aload_n 0, 1) := by decide +kernel
theorem dX12_roadOf_1 : decode cX12_roadOf 1 = .ok (.aload_n 0, 1) := by decide +kernel
theorem dX12_roadOf_2 : decode cX12_roadOf 2 = .ok (.iload_n 1, 1) := by decide +kernel
theorem dX12_roadOf_3 : decode cX12_roadOf 3 = .ok (.iconst 0, 1) := by decide +kernel
theorem dX12_roadOf_4 : decode cX12_roadOf 4 = .ok (.invokevirtual 287, 3) := by decide +kernel
theorem dX12_roadOf_7 : decode cX12_roadOf 7 = .ok (.iconst 0, 1) := by decide +kernel
theorem dX12_roadOf_8 : decode cX12_roadOf 8 = .ok (.invokevirtual 373, 3) := by decide +kernel
theorem dX12_roadOf_11 : decode cX12_roadOf 11 = .ok (.aload_n 0, 1) := by decide +kernel
theorem dX12_roadOf_12 : decode cX12_roadOf 12 = .ok (.getfield 363, 3) := by decide +kernel
theorem dX12_roadOf_15 : decode cX12_roadOf 15 = .ok (.iconst (-1), 1) := by decide +kernel
theorem dX12_roadOf_16 : decode cX12_roadOf 16 = .ok (.if_icmp .ne 7, 3) := by decide +kernel
theorem dX12_roadOf_19 : decode cX12_roadOf 19 = .ok (.iconst 0, 1) := by decide +kernel
theorem dX12_roadOf_20 : decode cX12_roadOf 20 = .ok (.goto 7, 3) := by decide +kernel
theorem dX12_roadOf_23 : decode cX12_roadOf 23 = .ok (.aload_n 0, 1) := by decide +kernel
theorem dX12_roadOf_24 : decode cX12_roadOf 24 = .ok (.getfield 363, 3) := by decide +kernel
theorem dX12_roadOf_27 : decode cX12_roadOf 27 = .ok (.ireturn, 1) := by decide +kernel
theorem dX12_road_0 : decode cX12_road 0 = .ok (.aload_n 0, 1) := by decide +kernel
theorem dX12_road_1 : decode cX12_road 1 = .ok (.iload_n 1, 1) := by decide +kernel
theorem dX12_road_2 : decode cX12_road 2 = .ok (.invokevirtual 308, 3) := by decide +kernel
theorem dX12_road_5 : decode cX12_road 5 = .ok (.ifCond .eq 11, 3) := by decide +kernel
theorem dX12_road_8 : decode cX12_road 8 = .ok (.aload_n 0, 1) := by decide +kernel
theorem dX12_road_9 : decode cX12_road 9 = .ok (.iload_n 1, 1) := by decide +kernel
theorem dX12_road_10 : decode cX12_road 10 = .ok (.invokevirtual 390, 3) := by decide +kernel
theorem dX12_road_13 : decode cX12_road 13 = .ok (.goto 4, 3) := by decide +kernel
theorem dX12_road_16 : decode cX12_road 16 = .ok (.iconst (-1), 1) := by decide +kernel
theorem dX12_road_17 : decode cX12_road 17 = .ok (.ireturn, 1) := by decide +kernel
theorem dX12_rule_0 : decode cX12_rule 0 = .ok (.aload_n 0, 1) := by decide +kernel
theorem dX12_rule_1 : decode cX12_rule 1 = .ok (.getfield 256, 3) := by decide +kernel
theorem dX12_rule_4 : decode cX12_rule 4 = .ok (.ifCond .le 21, 3) := by decide +kernel
theorem dX12_rule_7 : decode cX12_rule 7 = .ok (.iload_n 1, 1) := by decide +kernel
theorem dX12_rule_8 : decode cX12_rule 8 = .ok (.iconst 0, 1) := by decide +kernel
theorem dX12_rule_9 : decode cX12_rule 9 = .ok (.iconst 2, 1) := by decide +kernel
theorem dX12_rule_10 : decode cX12_rule 10 = .ok (.invokestatic 212, 3) := by decide +kernel
theorem dX12_rule_13 : decode cX12_rule 13 = .ok (.ifCond .eq 12, 3) := by decide +kernel
theorem dX12_rule_16 : decode cX12_rule 16 = .ok (.aload_n 0, 1) := by decide +kernel
theorem dX12_rule_17 : decode cX12_rule 17 = .ok (.getfield 49, 3) := by decide +kernel
theorem dX12_rule_20 : decode cX12_rule 20 = .ok (.iload_n 1, 1) := by decide +kernel
theorem dX12_rule_21 : decode cX12_rule 21 = .ok (.iaload, 1) := by decide +kernel
theorem dX12_rule_22 : decode cX12_rule 22 = .ok (.goto 4, 3) := by decide +kernel
theorem dX12_rule_25 : decode cX12_rule 25 = .ok (.iconst (-1), 1) := by decide +kernel
theorem dX12_rule_26 : decode cX12_rule 26 = .ok (.ireturn, 1) := by decide +kernel
theorem dX12_seasons_0 : decode cX12_seasons 0 = .ok (.aload_n 0, 1) := by decide +kernel
theorem dX12_seasons_1 : decode cX12_seasons 1 = .ok (.aload_n 0, 1) := by decide +kernel
theorem dX12_seasons_2 : decode cX12_seasons 2 = .ok (.getfield 256, 3) := by decide +kernel
theorem dX12_seasons_5 : decode cX12_seasons 5 = .ok (.ifCond .ne 7, 3) := by decide +kernel
theorem dX12_seasons_8 : decode cX12_seasons 8 = .ok (.iconst 0, 1) := by decide +kernel
theorem dX12_seasons_9 : decode cX12_seasons 9 = .ok (.goto 30, 3) := by decide +kernel
theorem dX12_seasons_12 : decode cX12_seasons 12 = .ok (.iload_n 1, 1) := by decide +kernel
theorem dX12_seasons_13 : decode cX12_seasons 13 = .ok (.iconst 1, 1) := by decide +kernel
theorem dX12_seasons_14 : decode cX12_seasons 14 = .ok (.bipush 60, 2) := by decide +kernel
theorem dX12_seasons_16 : decode cX12_seasons 16 = .ok (.invokestatic 212, 3) := by decide +kernel
theorem dX12_seasons_19 : decode cX12_seasons 19 = .ok (.ifCond .ne 7, 3) := by decide +kernel
theorem dX12_seasons_22 : decode cX12_seasons 22 = .ok (.iconst 1, 1) := by decide +kernel
theorem dX12_seasons_23 : decode cX12_seasons 23 = .ok (.goto 16, 3) := by decide +kernel
theorem dX12_seasons_26 : decode cX12_seasons 26 = .ok (.aload_n 0, 1) := by decide +kernel
theorem dX12_seasons_27 : decode cX12_seasons 27 = .ok (.iload_n 1, 1) := by decide +kernel
theorem dX12_seasons_28 : decode cX12_seasons 28 = .ok (.invokevirtual 336, 3) := by decide +kernel
theorem dX12_seasons_31 : decode cX12_seasons 31 = .ok (.ifCond .ne 7, 3) := by decide +kernel
theorem dX12_seasons_34 : decode cX12_seasons 34 = .ok (.iconst 4, 1) := by decide +kernel
theorem dX12_seasons_35 : decode cX12_seasons 35 = .ok (.goto 4, 3) := by decide +kernel
theorem dX12_seasons_38 : decode cX12_seasons 38 = .ok (.iconst (-1), 1) := by decide +kernel
theorem dX12_seasons_39 : decode cX12_seasons 39 = .ok (.invokevirtual 317, 3) := by decide +kernel
theorem dX12_seasons_42 : decode cX12_seasons 42 = .ok (.ifCond .eq 5, 3) := by decide +kernel
theorem dX12_seasons_45 : decode cX12_seasons 45 = .ok (.iconst (-1), 1) := by decide +kernel
theorem dX12_seasons_46 : decode cX12_seasons 46 = .ok (.ireturn, 1) := by decide +kernel
theorem dX12_seasons_47 : decode cX12_seasons 47 = .ok (.iconst 0, 1) := by decide +kernel
theorem dX12_seasons_48 : decode cX12_seasons 48 = .ok (.istore_n 2, 1) := by decide +kernel
theorem dX12_seasons_49 : decode cX12_seasons 49 = .ok (.iload_n 2, 1) := by decide +kernel
theorem dX12_seasons_50 : decode cX12_seasons 50 = .ok (.iload_n 1, 1) := by decide +kernel
theorem dX12_seasons_51 : decode cX12_seasons 51 = .ok (.if_icmp .ge 17, 3) := by decide +kernel
theorem dX12_seasons_54 : decode cX12_seasons 54 = .ok (.aload_n 0, 1) := by decide +kernel
theorem dX12_seasons_55 : decode cX12_seasons 55 = .ok (.invokevirtual 320, 3) := by decide +kernel
theorem dX12_seasons_58 : decode cX12_seasons 58 = .ok (.aload_n 0, 1) := by decide +kernel
theorem dX12_seasons_59 : decode cX12_seasons 59 = .ok (.invokevirtual 339, 3) := by decide +kernel
theorem dX12_seasons_62 : decode cX12_seasons 62 = .ok (.iinc 2 1, 3) := by decide +kernel
theorem dX12_seasons_65 : decode cX12_seasons 65 = .ok (.goto (-16), 3) := by decide +kernel
theorem dX12_seasons_68 : decode cX12_seasons 68 = .ok (.aload_n 0, 1) := by decide +kernel
theorem dX12_seasons_69 : decode cX12_seasons 69 = .ok (.getfield 58, 3) := by decide +kernel
theorem dX12_seasons_72 : decode cX12_seasons 72 = .ok (.bipush 32, 2) := by decide +kernel
theorem dX12_seasons_74 : decode cX12_seasons 74 = .ok (.iaload, 1) := by decide +kernel
theorem dX12_seasons_75 : decode cX12_seasons 75 = .ok (.ireturn, 1) := by decide +kernel
theorem dX12_seen_0 : decode cX12_seen 0 = .ok (.aload_n 0, 1) := by decide +kernel
theorem dX12_seen_1 : decode cX12_seen 1 = .ok (.getfield 256, 3) := by decide +kernel
theorem dX12_seen_4 : decode cX12_seen 4 = .ok (.ifCond .eq 28, 3) := by decide +kernel
theorem dX12_seen_7 : decode cX12_seen 7 = .ok (.iload_n 1, 1) := by decide +kernel
theorem dX12_seen_8 : decode cX12_seen 8 = .ok (.iconst 1, 1) := by decide +kernel
theorem dX12_seen_9 : decode cX12_seen 9 = .ok (.iconst 1, 1) := by decide +kernel
theorem dX12_seen_10 : decode cX12_seen 10 = .ok (.aload_n 0, 1) := by decide +kernel
theorem dX12_seen_11 : decode cX12_seen 11 = .ok (.getfield 259, 3) := by decide +kernel
theorem dX12_seen_14 : decode cX12_seen 14 = .ok (.ishl, 1) := by decide +kernel
theorem dX12_seen_15 : decode cX12_seen 15 = .ok (.iconst 1, 1) := by decide +kernel
theorem dX12_seen_16 : decode cX12_seen 16 = .ok (.isub, 1) := by decide +kernel
theorem dX12_seen_17 : decode cX12_seen 17 = .ok (.invokestatic 212, 3) := by decide +kernel
theorem dX12_seen_20 : decode cX12_seen 20 = .ok (.ifCond .eq 12, 3) := by decide +kernel
theorem dX12_seen_23 : decode cX12_seen 23 = .ok (.aload_n 0, 1) := by decide +kernel
theorem dX12_seen_24 : decode cX12_seen 24 = .ok (.getfield 268, 3) := by decide +kernel
theorem dX12_seen_27 : decode cX12_seen 27 = .ok (.bipush 10, 2) := by decide +kernel
theorem dX12_seen_29 : decode cX12_seen 29 = .ok (.if_icmp .ne 5, 3) := by decide +kernel
theorem dX12_seen_32 : decode cX12_seen 32 = .ok (.iconst (-1), 1) := by decide +kernel
theorem dX12_seen_33 : decode cX12_seen 33 = .ok (.ireturn, 1) := by decide +kernel
theorem dX12_seen_34 : decode cX12_seen 34 = .ok (.aload_n 0, 1) := by decide +kernel
theorem dX12_seen_35 : decode cX12_seen 35 = .ok (.getfield 77, 3) := by decide +kernel
theorem dX12_seen_38 : decode cX12_seen 38 = .ok (.aload_n 0, 1) := by decide +kernel
theorem dX12_seen_39 : decode cX12_seen 39 = .ok (.getfield 268, 3) := by decide +kernel
theorem dX12_seen_42 : decode cX12_seen 42 = .ok (.iload_n 1, 1) := by decide +kernel
theorem dX12_seen_43 : decode cX12_seen 43 = .ok (.iastore, 1) := by decide +kernel
theorem dX12_seen_44 : decode cX12_seen 44 = .ok (.aload_n 0, 1) := by decide +kernel
theorem dX12_seen_45 : decode cX12_seen 45 = .ok (.getfield 80, 3) := by decide +kernel
theorem dX12_seen_48 : decode cX12_seen 48 = .ok (.aload_n 0, 1) := by decide +kernel
theorem dX12_seen_49 : decode cX12_seen 49 = .ok (.getfield 268, 3) := by decide +kernel
theorem dX12_seen_52 : decode cX12_seen 52 = .ok (.iload_n 2, 1) := by decide +kernel
theorem dX12_seen_53 : decode cX12_seen 53 = .ok (.bastore, 1) := by decide +kernel
theorem dX12_seen_54 : decode cX12_seen 54 = .ok (.aload_n 0, 1) := by decide +kernel
theorem dX12_seen_55 : decode cX12_seen 55 = .ok (.dup, 1) := by decide +kernel
theorem dX12_seen_56 : decode cX12_seen 56 = .ok (.getfield 268, 3) := by decide +kernel
theorem dX12_seen_59 : decode cX12_seen 59 = .ok (.iconst 1, 1) := by decide +kernel
theorem dX12_seen_60 : decode cX12_seen 60 = .ok (.iadd, 1) := by decide +kernel
theorem dX12_seen_61 : decode cX12_seen 61 = .ok (.putfield 268, 3) := by decide +kernel
theorem dX12_seen_64 : decode cX12_seen 64 = .ok (.aload_n 0, 1) := by decide +kernel
theorem dX12_seen_65 : decode cX12_seen 65 = .ok (.getfield 268, 3) := by decide +kernel
theorem dX12_seen_68 : decode cX12_seen 68 = .ok (.ireturn, 1) := by decide +kernel
theorem dX12_useOf_0 : decode cX12_useOf 0 = .ok (.iconst 0, 1) := by decide +kernel
theorem dX12_useOf_1 : decode cX12_useOf 1 = .ok (.istore_n 2, 1) := by decide +kernel
theorem dX12_useOf_2 : decode cX12_useOf 2 = .ok (.iconst 0, 1) := by decide +kernel
theorem dX12_useOf_3 : decode cX12_useOf 3 = .ok (.istore_n 3, 1) := by decide +kernel
theorem dX12_useOf_4 : decode cX12_useOf 4 = .ok (.iload_n 3, 1) := by decide +kernel
theorem dX12_useOf_5 : decode cX12_useOf 5 = .ok (.aload_n 0, 1) := by decide +kernel
theorem dX12_useOf_6 : decode cX12_useOf 6 = .ok (.getfield 256, 3) := by decide +kernel
theorem dX12_useOf_9 : decode cX12_useOf 9 = .ok (.if_icmp .ge 30, 3) := by decide +kernel
theorem dX12_useOf_12 : decode cX12_useOf 12 = .ok (.iload_n 2, 1) := by decide +kernel
theorem dX12_useOf_13 : decode cX12_useOf 13 = .ok (.iload_n 1, 1) := by decide +kernel
theorem dX12_useOf_14 : decode cX12_useOf 14 = .ok (.iload_n 3, 1) := by decide +kernel
theorem dX12_useOf_15 : decode cX12_useOf 15 = .ok (.invokestatic 223, 3) := by decide +kernel
theorem dX12_useOf_18 : decode cX12_useOf 18 = .ok (.ifCond .eq 12, 3) := by decide +kernel
theorem dX12_useOf_21 : decode cX12_useOf 21 = .ok (.aload_n 0, 1) := by decide +kernel
theorem dX12_useOf_22 : decode cX12_useOf 22 = .ok (.iload_n 3, 1) := by decide +kernel
theorem dX12_useOf_23 : decode cX12_useOf 23 = .ok (.iconst 4, 1) := by decide +kernel
theorem dX12_useOf_24 : decode cX12_useOf 24 = .ok (.invokevirtual 262, 3) := by decide +kernel
theorem dX12_useOf_27 : decode cX12_useOf 27 = .ok (.goto 4, 3) := by decide +kernel
theorem dX12_useOf_30 : decode cX12_useOf 30 = .ok (.iconst 0, 1) := by decide +kernel
theorem dX12_useOf_31 : decode cX12_useOf 31 = .ok (.iadd, 1) := by decide +kernel
theorem dX12_useOf_32 : decode cX12_useOf 32 = .ok (.istore_n 2, 1) := by decide +kernel
theorem dX12_useOf_33 : decode cX12_useOf 33 = .ok (.iinc 3 1, 3) := by decide +kernel
theorem dX12_useOf_36 : decode cX12_useOf 36 = .ok (.goto (-32), 3) := by decide +kernel
theorem dX12_useOf_39 : decode cX12_useOf 39 = .ok (.iload_n 2, 1) := by decide +kernel
theorem dX12_useOf_40 : decode cX12_useOf 40 = .ok (.ireturn, 1) := by decide +kernel
theorem dX12_useOfAll_0 : decode cX12_useOfAll 0 = .ok (.iconst 0, 1) := by decide +kernel
theorem dX12_useOfAll_1 : decode cX12_useOfAll 1 = .ok (.istore_n 1, 1) := by decide +kernel
theorem dX12_useOfAll_2 : decode cX12_useOfAll 2 = .ok (.iconst 0, 1) := by decide +kernel
theorem dX12_useOfAll_3 : decode cX12_useOfAll 3 = .ok (.istore_n 2, 1) := by decide +kernel
theorem dX12_useOfAll_4 : decode cX12_useOfAll 4 = .ok (.iload_n 2, 1) := by decide +kernel
theorem dX12_useOfAll_5 : decode cX12_useOfAll 5 = .ok (.aload_n 0, 1) := by decide +kernel
theorem dX12_useOfAll_6 : decode cX12_useOfAll 6 = .ok (.getfield 259, 3) := by decide +kernel
theorem dX12_useOfAll_9 : decode cX12_useOfAll 9 = .ok (.if_icmp .ge 21, 3) := by decide +kernel
theorem dX12_useOfAll_12 : decode cX12_useOfAll 12 = .ok (.iload_n 1, 1) := by decide +kernel
theorem dX12_useOfAll_13 : decode cX12_useOfAll 13 = .ok (.aload_n 0, 1) := by decide +kernel
theorem dX12_useOfAll_14 : decode cX12_useOfAll 14 = .ok (.aload_n 0, 1) := by decide +kernel
theorem dX12_useOfAll_15 : decode cX12_useOfAll 15 = .ok (.iload_n 2, 1) := by decide +kernel
theorem dX12_useOfAll_16 : decode cX12_useOfAll 16 = .ok (.invokevirtual 390, 3) := by decide +kernel
theorem dX12_useOfAll_19 : decode cX12_useOfAll 19 = .ok (.invokevirtual 393, 3) := by decide +kernel
theorem dX12_useOfAll_22 : decode cX12_useOfAll 22 = .ok (.iadd, 1) := by decide +kernel
theorem dX12_useOfAll_23 : decode cX12_useOfAll 23 = .ok (.istore_n 1, 1) := by decide +kernel
theorem dX12_useOfAll_24 : decode cX12_useOfAll 24 = .ok (.iinc 2 1, 3) := by decide +kernel
theorem dX12_useOfAll_27 : decode cX12_useOfAll 27 = .ok (.goto (-23), 3) := by decide +kernel
theorem dX12_useOfAll_30 : decode cX12_useOfAll 30 = .ok (.iload_n 1, 1) := by decide +kernel
theorem dX12_useOfAll_31 : decode cX12_useOfAll 31 = .ok (.ireturn, 1) := by decide +kernel
theorem dX12_shares_0 : decode cX12_shares 0 = .ok (.aload_n 0, 1) := by decide +kernel
theorem dX12_shares_1 : decode cX12_shares 1 = .ok (.iload_n 1, 1) := by decide +kernel
theorem dX12_shares_2 : decode cX12_shares 2 = .ok (.invokevirtual 308, 3) := by decide +kernel
theorem dX12_shares_5 : decode cX12_shares 5 = .ok (.ifCond .eq 14, 3) := by decide +kernel
theorem dX12_shares_8 : decode cX12_shares 8 = .ok (.iload_n 2, 1) := by decide +kernel
theorem dX12_shares_9 : decode cX12_shares 9 = .ok (.iconst 0, 1) := by decide +kernel
theorem dX12_shares_10 : decode cX12_shares 10 = .ok (.sipush 999, 3) := by decide +kernel
theorem dX12_shares_13 : decode cX12_shares 13 = .ok (.invokestatic 212, 3) := by decide +kernel
theorem dX12_shares_16 : decode cX12_shares 16 = .ok (.ifCond .ne 5, 3) := by decide +kernel
theorem dX12_shares_19 : decode cX12_shares 19 = .ok (.iconst (-1), 1) := by decide +kernel
theorem dX12_shares_20 : decode cX12_shares 20 = .ok (.ireturn, 1) := by decide +kernel
theorem dX12_shares_21 : decode cX12_shares 21 = .ok (.aload_n 0, 1) := by decide +kernel
theorem dX12_shares_22 : decode cX12_shares 22 = .ok (.invokevirtual 396, 3) := by decide +kernel
theorem dX12_shares_25 : decode cX12_shares 25 = .ok (.istore_n 3, 1) := by decide +kernel
theorem dX12_shares_26 : decode cX12_shares 26 = .ok (.iload_n 3, 1) := by decide +kernel
theorem dX12_shares_27 : decode cX12_shares 27 = .ok (.ifCond .ne 7, 3) := by decide +kernel
theorem dX12_shares_30 : decode cX12_shares 30 = .ok (.iconst 0, 1) := by decide +kernel
theorem dX12_shares_31 : decode cX12_shares 31 = .ok (.goto 16, 3) := by decide +kernel
theorem dX12_shares_34 : decode cX12_shares 34 = .ok (.iload_n 2, 1) := by decide +kernel
theorem dX12_shares_35 : decode cX12_shares 35 = .ok (.aload_n 0, 1) := by decide +kernel
theorem dX12_shares_36 : decode cX12_shares 36 = .ok (.aload_n 0, 1) := by decide +kernel
theorem dX12_shares_37 : decode cX12_shares 37 = .ok (.iload_n 1, 1) := by decide +kernel
theorem dX12_shares_38 : decode cX12_shares 38 = .ok (.invokevirtual 390, 3) := by decide +kernel
theorem dX12_shares_41 : decode cX12_shares 41 = .ok (.invokevirtual 393, 3) := by decide +kernel
theorem dX12_shares_44 : decode cX12_shares 44 = .ok (.imul, 1) := by decide +kernel
theorem dX12_shares_45 : decode cX12_shares 45 = .ok (.iload_n 3, 1) := by decide +kernel
theorem dX12_shares_46 : decode cX12_shares 46 = .ok (.idiv, 1) := by decide +kernel
theorem dX12_shares_47 : decode cX12_shares 47 = .ok (.ireturn, 1) := by decide +kernel
theorem dX12_status_0 : decode cX12_status 0 = .ok (.iload_n 1, 1) := by decide +kernel
theorem dX12_status_1 : decode cX12_status 1 = .ok (.iconst 0, 1) := by decide +kernel
theorem dX12_status_2 : decode cX12_status 2 = .ok (.iconst 4, 1) := by decide +kernel
theorem dX12_status_3 : decode cX12_status 3 = .ok (.invokestatic 212, 3) := by decide +kernel
theorem dX12_status_6 : decode cX12_status 6 = .ok (.ifCond .eq 12, 3) := by decide +kernel
theorem dX12_status_9 : decode cX12_status 9 = .ok (.aload_n 0, 1) := by decide +kernel
theorem dX12_status_10 : decode cX12_status 10 = .ok (.getfield 61, 3) := by decide +kernel
theorem dX12_status_13 : decode cX12_status 13 = .ok (.iload_n 1, 1) := by decide +kernel
theorem dX12_status_14 : decode cX12_status 14 = .ok (.iaload, 1) := by decide +kernel
theorem dX12_status_15 : decode cX12_status 15 = .ok (.goto 4, 3) := by decide +kernel
theorem dX12_status_18 : decode cX12_status 18 = .ok (.iconst (-1), 1) := by decide +kernel
theorem dX12_status_19 : decode cX12_status 19 = .ok (.ireturn, 1) := by decide +kernel
theorem dX12_stretch_0 : decode cX12_stretch 0 = .ok (.aload_n 0, 1) := by decide +kernel
theorem dX12_stretch_1 : decode cX12_stretch 1 = .ok (.iload_n 1, 1) := by decide +kernel
theorem dX12_stretch_2 : decode cX12_stretch 2 = .ok (.invokevirtual 305, 3) := by decide +kernel
theorem dX12_stretch_5 : decode cX12_stretch 5 = .ok (.ifCond .eq 12, 3) := by decide +kernel
theorem dX12_stretch_8 : decode cX12_stretch 8 = .ok (.iload_n 2, 1) := by decide +kernel
theorem dX12_stretch_9 : decode cX12_stretch 9 = .ok (.iconst 0, 1) := by decide +kernel
theorem dX12_stretch_10 : decode cX12_stretch 10 = .ok (.iconst 4, 1) := by decide +kernel
theorem dX12_stretch_11 : decode cX12_stretch 11 = .ok (.invokestatic 212, 3) := by decide +kernel
theorem dX12_stretch_14 : decode cX12_stretch 14 = .ok (.ifCond .ne 5, 3) := by decide +kernel
theorem dX12_stretch_17 : decode cX12_stretch 17 = .ok (.iconst (-1), 1) := by decide +kernel
theorem dX12_stretch_18 : decode cX12_stretch 18 = .ok (.ireturn, 1) := by decide +kernel
theorem dX12_stretch_19 : decode cX12_stretch 19 = .ok (.iload_n 2, 1) := by decide +kernel
theorem dX12_stretch_20 : decode cX12_stretch 20 = .ok (.iconst 2, 1) := by decide +kernel
theorem dX12_stretch_21 : decode cX12_stretch 21 = .ok (.if_icmp .ne 14, 3) := by decide +kernel
theorem dX12_stretch_24 : decode cX12_stretch 24 = .ok (.aload_n 0, 1) := by decide +kernel
theorem dX12_stretch_25 : decode cX12_stretch 25 = .ok (.getfield 58, 3) := by decide +kernel
theorem dX12_stretch_28 : decode cX12_stretch 28 = .ok (.iconst 0, 1) := by decide +kernel
theorem dX12_stretch_29 : decode cX12_stretch 29 = .ok (.iload_n 1, 1) := by decide +kernel
theorem dX12_stretch_30 : decode cX12_stretch 30 = .ok (.iadd, 1) := by decide +kernel
theorem dX12_stretch_31 : decode cX12_stretch 31 = .ok (.iaload, 1) := by decide +kernel
theorem dX12_stretch_32 : decode cX12_stretch 32 = .ok (.goto 26, 3) := by decide +kernel
theorem dX12_stretch_35 : decode cX12_stretch 35 = .ok (.iload_n 2, 1) := by decide +kernel
theorem dX12_stretch_36 : decode cX12_stretch 36 = .ok (.iconst 3, 1) := by decide +kernel
theorem dX12_stretch_37 : decode cX12_stretch 37 = .ok (.if_icmp .ne 15, 3) := by decide +kernel
theorem dX12_stretch_40 : decode cX12_stretch 40 = .ok (.aload_n 0, 1) := by decide +kernel
theorem dX12_stretch_41 : decode cX12_stretch 41 = .ok (.getfield 58, 3) := by decide +kernel
theorem dX12_stretch_44 : decode cX12_stretch 44 = .ok (.bipush 9, 2) := by decide +kernel
theorem dX12_stretch_46 : decode cX12_stretch 46 = .ok (.iload_n 1, 1) := by decide +kernel
theorem dX12_stretch_47 : decode cX12_stretch 47 = .ok (.iadd, 1) := by decide +kernel
theorem dX12_stretch_48 : decode cX12_stretch 48 = .ok (.iaload, 1) := by decide +kernel
theorem dX12_stretch_49 : decode cX12_stretch 49 = .ok (.goto 9, 3) := by decide +kernel
theorem dX12_stretch_52 : decode cX12_stretch 52 = .ok (.aload_n 0, 1) := by decide +kernel
theorem dX12_stretch_53 : decode cX12_stretch 53 = .ok (.iload_n 1, 1) := by decide +kernel
theorem dX12_stretch_54 : decode cX12_stretch 54 = .ok (.iload_n 2, 1) := by decide +kernel
theorem dX12_stretch_55 : decode cX12_stretch 55 = .ok (.invokevirtual 262, 3) := by decide +kernel
theorem dX12_stretch_58 : decode cX12_stretch 58 = .ok (.ireturn, 1) := by decide +kernel
theorem dX12_takeParish_0 : decode cX12_takeParish 0 = .ok (.aload_n 0, 1) := by decide +kernel
theorem dX12_takeParish_1 : decode cX12_takeParish 1 = .ok (.aload_n 0, 1) := by decide +kernel
theorem dX12_takeParish_2 : decode cX12_takeParish 2 = .ok (.getfield 236, 3) := by decide +kernel
theorem dX12_takeParish_5 : decode cX12_takeParish 5 = .ok (.putfield 256, 3) := by decide +kernel
theorem dX12_takeParish_8 : decode cX12_takeParish 8 = .ok (.aload_n 0, 1) := by decide +kernel
theorem dX12_takeParish_9 : decode cX12_takeParish 9 = .ok (.aload_n 0, 1) := by decide +kernel
theorem dX12_takeParish_10 : decode cX12_takeParish 10 = .ok (.getfield 239, 3) := by decide +kernel
theorem dX12_takeParish_13 : decode cX12_takeParish 13 = .ok (.putfield 259, 3) := by decide +kernel
theorem dX12_takeParish_16 : decode cX12_takeParish 16 = .ok (.iconst 0, 1) := by decide +kernel
theorem dX12_takeParish_17 : decode cX12_takeParish 17 = .ok (.istore_n 1, 1) := by decide +kernel
theorem dX12_takeParish_18 : decode cX12_takeParish 18 = .ok (.iload_n 1, 1) := by decide +kernel
theorem dX12_takeParish_19 : decode cX12_takeParish 19 = .ok (.iconst 3, 1) := by decide +kernel
theorem dX12_takeParish_20 : decode cX12_takeParish 20 = .ok (.if_icmp .ge 21, 3) := by decide +kernel
theorem dX12_takeParish_23 : decode cX12_takeParish 23 = .ok (.aload_n 0, 1) := by decide +kernel
theorem dX12_takeParish_24 : decode cX12_takeParish 24 = .ok (.getfield 49, 3) := by decide +kernel
theorem dX12_takeParish_27 : decode cX12_takeParish 27 = .ok (.iload_n 1, 1) := by decide +kernel
theorem dX12_takeParish_28 : decode cX12_takeParish 28 = .ok (.aload_n 0, 1) := by decide +kernel
theorem dX12_takeParish_29 : decode cX12_takeParish 29 = .ok (.getfield 40, 3) := by decide +kernel
theorem dX12_takeParish_32 : decode cX12_takeParish 32 = .ok (.iload_n 1, 1) := by decide +kernel
theorem dX12_takeParish_33 : decode cX12_takeParish 33 = .ok (.iaload, 1) := by decide +kernel
theorem dX12_takeParish_34 : decode cX12_takeParish 34 = .ok (.iastore, 1) := by decide +kernel
theorem dX12_takeParish_35 : decode cX12_takeParish 35 = .ok (.iinc 1 1, 3) := by decide +kernel
theorem dX12_takeParish_38 : decode cX12_takeParish 38 = .ok (.goto (-20), 3) := by decide +kernel
theorem dX12_takeParish_41 : decode cX12_takeParish 41 = .ok (.iconst 0, 1) := by decide +kernel
theorem dX12_takeParish_42 : decode cX12_takeParish 42 = .ok (.istore_n 1, 1) := by decide +kernel
theorem dX12_takeParish_43 : decode cX12_takeParish 43 = .ok (.iload_n 1, 1) := by decide +kernel
theorem dX12_takeParish_44 : decode cX12_takeParish 44 = .ok (.bipush 45, 2) := by decide +kernel
theorem dX12_takeParish_46 : decode cX12_takeParish 46 = .ok (.if_icmp .ge 21, 3) := by decide +kernel
theorem dX12_takeParish_49 : decode cX12_takeParish 49 = .ok (.aload_n 0, 1) := by decide +kernel
theorem dX12_takeParish_50 : decode cX12_takeParish 50 = .ok (.getfield 52, 3) := by decide +kernel
theorem dX12_takeParish_53 : decode cX12_takeParish 53 = .ok (.iload_n 1, 1) := by decide +kernel
theorem dX12_takeParish_54 : decode cX12_takeParish 54 = .ok (.aload_n 0, 1) := by decide +kernel
theorem dX12_takeParish_55 : decode cX12_takeParish 55 = .ok (.getfield 43, 3) := by decide +kernel
theorem dX12_takeParish_58 : decode cX12_takeParish 58 = .ok (.iload_n 1, 1) := by decide +kernel
theorem dX12_takeParish_59 : decode cX12_takeParish 59 = .ok (.iaload, 1) := by decide +kernel
theorem dX12_takeParish_60 : decode cX12_takeParish 60 = .ok (.iastore, 1) := by decide +kernel
theorem dX12_takeParish_61 : decode cX12_takeParish 61 = .ok (.iinc 1 1, 3) := by decide +kernel
theorem dX12_takeParish_64 : decode cX12_takeParish 64 = .ok (.goto (-21), 3) := by decide +kernel
theorem dX12_takeParish_67 : decode cX12_takeParish 67 = .ok (.iconst 0, 1) := by decide +kernel
theorem dX12_takeParish_68 : decode cX12_takeParish 68 = .ok (.istore_n 1, 1) := by decide +kernel
theorem dX12_takeParish_69 : decode cX12_takeParish 69 = .ok (.iload_n 1, 1) := by decide +kernel
theorem dX12_takeParish_70 : decode cX12_takeParish 70 = .ok (.bipush 18, 2) := by decide +kernel
theorem dX12_takeParish_72 : decode cX12_takeParish 72 = .ok (.if_icmp .ge 21, 3) := by decide +kernel
theorem dX12_takeParish_75 : decode cX12_takeParish 75 = .ok (.aload_n 0, 1) := by decide +kernel
theorem dX12_takeParish_76 : decode cX12_takeParish 76 = .ok (.getfield 55, 3) := by decide +kernel
theorem dX12_takeParish_79 : decode cX12_takeParish 79 = .ok (.iload_n 1, 1) := by decide +kernel
theorem dX12_takeParish_80 : decode cX12_takeParish 80 = .ok (.aload_n 0, 1) := by decide +kernel
theorem dX12_takeParish_81 : decode cX12_takeParish 81 = .ok (.getfield 46, 3) := by decide +kernel
theorem dX12_takeParish_84 : decode cX12_takeParish 84 = .ok (.iload_n 1, 1) := by decide +kernel
theorem dX12_takeParish_85 : decode cX12_takeParish 85 = .ok (.iaload, 1) := by decide +kernel
theorem dX12_takeParish_86 : decode cX12_takeParish 86 = .ok (.iastore, 1) := by decide +kernel
theorem dX12_takeParish_87 : decode cX12_takeParish 87 = .ok (.iinc 1 1, 3) := by decide +kernel
theorem dX12_takeParish_90 : decode cX12_takeParish 90 = .ok (.goto (-21), 3) := by decide +kernel
theorem dX12_takeParish_93 : decode cX12_takeParish 93 = .ok (.iconst 0, 1) := by decide +kernel
theorem dX12_takeParish_94 : decode cX12_takeParish 94 = .ok (.istore_n 1, 1) := by decide +kernel
theorem dX12_takeParish_95 : decode cX12_takeParish 95 = .ok (.iload_n 1, 1) := by decide +kernel
theorem dX12_takeParish_96 : decode cX12_takeParish 96 = .ok (.sipush 214, 3) := by decide +kernel
theorem dX12_takeParish_99 : decode cX12_takeParish 99 = .ok (.if_icmp .ge 16, 3) := by decide +kernel
theorem dX12_takeParish_102 : decode cX12_takeParish 102 = .ok (.aload_n 0, 1) := by decide +kernel
theorem dX12_takeParish_103 : decode cX12_takeParish 103 = .ok (.getfield 58, 3) := by decide +kernel
theorem dX12_takeParish_106 : decode cX12_takeParish 106 = .ok (.iload_n 1, 1) := by decide +kernel
theorem dX12_takeParish_107 : decode cX12_takeParish 107 = .ok (.iconst 0, 1) := by decide +kernel
theorem dX12_takeParish_108 : decode cX12_takeParish 108 = .ok (.iastore, 1) := by decide +kernel
theorem dX12_takeParish_109 : decode cX12_takeParish 109 = .ok (.iinc 1 1, 3) := by decide +kernel
theorem dX12_takeParish_112 : decode cX12_takeParish 112 = .ok (.goto (-17), 3) := by decide +kernel
theorem dX12_takeParish_115 : decode cX12_takeParish 115 = .ok (.iconst 0, 1) := by decide +kernel
theorem dX12_takeParish_116 : decode cX12_takeParish 116 = .ok (.istore_n 1, 1) := by decide +kernel
theorem dX12_takeParish_117 : decode cX12_takeParish 117 = .ok (.iload_n 1, 1) := by decide +kernel
theorem dX12_takeParish_118 : decode cX12_takeParish 118 = .ok (.aload_n 0, 1) := by decide +kernel
theorem dX12_takeParish_119 : decode cX12_takeParish 119 = .ok (.getfield 256, 3) := by decide +kernel
theorem dX12_takeParish_122 : decode cX12_takeParish 122 = .ok (.if_icmp .ge 38, 3) := by decide +kernel
theorem dX12_takeParish_125 : decode cX12_takeParish 125 = .ok (.aload_n 0, 1) := by decide +kernel
theorem dX12_takeParish_126 : decode cX12_takeParish 126 = .ok (.getfield 58, 3) := by decide +kernel
theorem dX12_takeParish_129 : decode cX12_takeParish 129 = .ok (.iconst 0, 1) := by decide +kernel
theorem dX12_takeParish_130 : decode cX12_takeParish 130 = .ok (.iload_n 1, 1) := by decide +kernel
theorem dX12_takeParish_131 : decode cX12_takeParish 131 = .ok (.iadd, 1) := by decide +kernel
theorem dX12_takeParish_132 : decode cX12_takeParish 132 = .ok (.aload_n 0, 1) := by decide +kernel
theorem dX12_takeParish_133 : decode cX12_takeParish 133 = .ok (.iload_n 1, 1) := by decide +kernel
theorem dX12_takeParish_134 : decode cX12_takeParish 134 = .ok (.iconst 2, 1) := by decide +kernel
theorem dX12_takeParish_135 : decode cX12_takeParish 135 = .ok (.invokevirtual 262, 3) := by decide +kernel
theorem dX12_takeParish_138 : decode cX12_takeParish 138 = .ok (.iastore, 1) := by decide +kernel
theorem dX12_takeParish_139 : decode cX12_takeParish 139 = .ok (.aload_n 0, 1) := by decide +kernel
theorem dX12_takeParish_140 : decode cX12_takeParish 140 = .ok (.getfield 58, 3) := by decide +kernel
theorem dX12_takeParish_143 : decode cX12_takeParish 143 = .ok (.bipush 9, 2) := by decide +kernel
theorem dX12_takeParish_145 : decode cX12_takeParish 145 = .ok (.iload_n 1, 1) := by decide +kernel
theorem dX12_takeParish_146 : decode cX12_takeParish 146 = .ok (.iadd, 1) := by decide +kernel
theorem dX12_takeParish_147 : decode cX12_takeParish 147 = .ok (.aload_n 0, 1) := by decide +kernel
theorem dX12_takeParish_148 : decode cX12_takeParish 148 = .ok (.iload_n 1, 1) := by decide +kernel
theorem dX12_takeParish_149 : decode cX12_takeParish 149 = .ok (.iconst 3, 1) := by decide +kernel
theorem dX12_takeParish_150 : decode cX12_takeParish 150 = .ok (.invokevirtual 262, 3) := by decide +kernel
theorem dX12_takeParish_153 : decode cX12_takeParish 153 = .ok (.iastore, 1) := by decide +kernel
theorem dX12_takeParish_154 : decode cX12_takeParish 154 = .ok (.iinc 1 1, 3) := by decide +kernel
theorem dX12_takeParish_157 : decode cX12_takeParish 157 = .ok (.goto (-40), 3) := by decide +kernel
theorem dX12_takeParish_160 : decode cX12_takeParish 160 = .ok (.iconst 0, 1) := by decide +kernel
theorem dX12_takeParish_161 : decode cX12_takeParish 161 = .ok (.istore_n 1, 1) := by decide +kernel
theorem dX12_takeParish_162 : decode cX12_takeParish 162 = .ok (.iload_n 1, 1) := by decide +kernel
theorem dX12_takeParish_163 : decode cX12_takeParish 163 = .ok (.aload_n 0, 1) := by decide +kernel
theorem dX12_takeParish_164 : decode cX12_takeParish 164 = .ok (.getfield 259, 3) := by decide +kernel
theorem dX12_takeParish_167 : decode cX12_takeParish 167 = .ok (.if_icmp .ge 24, 3) := by decide +kernel
theorem dX12_takeParish_170 : decode cX12_takeParish 170 = .ok (.aload_n 0, 1) := by decide +kernel
theorem dX12_takeParish_171 : decode cX12_takeParish 171 = .ok (.getfield 58, 3) := by decide +kernel
theorem dX12_takeParish_174 : decode cX12_takeParish 174 = .ok (.bipush 18, 2) := by decide +kernel
theorem dX12_takeParish_176 : decode cX12_takeParish 176 = .ok (.iload_n 1, 1) := by decide +kernel
theorem dX12_takeParish_177 : decode cX12_takeParish 177 = .ok (.iadd, 1) := by decide +kernel
theorem dX12_takeParish_178 : decode cX12_takeParish 178 = .ok (.aload_n 0, 1) := by decide +kernel
theorem dX12_takeParish_179 : decode cX12_takeParish 179 = .ok (.getfield 49, 3) := by decide +kernel
theorem dX12_takeParish_182 : decode cX12_takeParish 182 = .ok (.iconst 0, 1) := by decide +kernel
theorem dX12_takeParish_183 : decode cX12_takeParish 183 = .ok (.iaload, 1) := by decide +kernel
theorem dX12_takeParish_184 : decode cX12_takeParish 184 = .ok (.iastore, 1) := by decide +kernel
theorem dX12_takeParish_185 : decode cX12_takeParish 185 = .ok (.iinc 1 1, 3) := by decide +kernel
theorem dX12_takeParish_188 : decode cX12_takeParish 188 = .ok (.goto (-26), 3) := by decide +kernel
theorem dX12_takeParish_191 : decode cX12_takeParish 191 = .ok (.aload_n 0, 1) := by decide +kernel
theorem dX12_takeParish_192 : decode cX12_takeParish 192 = .ok (.invokevirtual 265, 3) := by decide +kernel
theorem dX12_takeParish_195 : decode cX12_takeParish 195 = .ok (.aload_n 0, 1) := by decide +kernel
theorem dX12_takeParish_196 : decode cX12_takeParish 196 = .ok (.iconst 0, 1) := by decide +kernel
theorem dX12_takeParish_197 : decode cX12_takeParish 197 = .ok (.putfield 268, 3) := by decide +kernel
theorem dX12_takeParish_200 : decode cX12_takeParish 200 = .ok (.aload_n 0, 1) := by decide +kernel
theorem dX12_takeParish_201 : decode cX12_takeParish 201 = .ok (.iconst 0, 1) := by decide +kernel
theorem dX12_takeParish_202 : decode cX12_takeParish 202 = .ok (.putfield 271, 3) := by decide +kernel
theorem dX12_takeParish_205 : decode cX12_takeParish 205 = .ok (.aload_n 0, 1) := by decide +kernel
theorem dX12_takeParish_206 : decode cX12_takeParish 206 = .ok (.iconst 0, 1) := by decide +kernel
theorem dX12_takeParish_207 : decode cX12_takeParish 207 = .ok (.putfield 274, 3) := by decide +kernel
theorem dX12_takeParish_210 : decode cX12_takeParish 210 = .ok (.aload_n 0, 1) := by decide +kernel
theorem dX12_takeParish_211 : decode cX12_takeParish 211 = .ok (.getfield 256, 3) := by decide +kernel
theorem dX12_takeParish_214 : decode cX12_takeParish 214 = .ok (.ireturn, 1) := by decide +kernel
theorem dX12_text_0 : decode cX12_text 0 = .ok (.iload_n 1, 1) := by decide +kernel
theorem dX12_text_1 : decode cX12_text 1 = .ok (.ifCond .ne 21, 3) := by decide +kernel
theorem dX12_text_4 : decode cX12_text 4 = .ok (.aload_n 0, 1) := by decide +kernel
theorem dX12_text_5 : decode cX12_text 5 = .ok (.invokevirtual 250, 3) := by decide +kernel
theorem dX12_text_8 : decode cX12_text 8 = .ok (.iconst (-1), 1) := by decide +kernel
theorem dX12_text_9 : decode cX12_text 9 = .ok (.if_icmp .ne 13, 3) := by decide +kernel
theorem dX12_text_12 : decode cX12_text 12 = .ok (.aload_n 0, 1) := by decide +kernel
theorem dX12_text_13 : decode cX12_text 13 = .ok (.iconst 0, 1) := by decide +kernel
theorem dX12_text_14 : decode cX12_text 14 = .ok (.putfield 104, 3) := by decide +kernel
theorem dX12_text_17 : decode cX12_text 17 = .ok (.aload_n 0, 1) := by decide +kernel
theorem dX12_text_18 : decode cX12_text 18 = .ok (.invokevirtual 281, 3) := by decide +kernel
theorem dX12_text_21 : decode cX12_text 21 = .ok (.ireturn, 1) := by decide +kernel
theorem dX12_text_22 : decode cX12_text 22 = .ok (.iload_n 1, 1) := by decide +kernel
theorem dX12_text_23 : decode cX12_text 23 = .ok (.iconst 1, 1) := by decide +kernel
theorem dX12_text_24 : decode cX12_text 24 = .ok (.if_icmp .ne 45, 3) := by decide +kernel
theorem dX12_text_27 : decode cX12_text 27 = .ok (.aload_n 0, 1) := by decide +kernel
theorem dX12_text_28 : decode cX12_text 28 = .ok (.getfield 284, 3) := by decide +kernel
theorem dX12_text_31 : decode cX12_text 31 = .ok (.iconst 4, 1) := by decide +kernel
theorem dX12_text_32 : decode cX12_text 32 = .ok (.if_icmp .ge 37, 3) := by decide +kernel
theorem dX12_text_35 : decode cX12_text 35 = .ok (.aload_n 0, 1) := by decide +kernel
theorem dX12_text_36 : decode cX12_text 36 = .ok (.aload_n 0, 1) := by decide +kernel
theorem dX12_text_37 : decode cX12_text 37 = .ok (.getfield 284, 3) := by decide +kernel
theorem dX12_text_40 : decode cX12_text 40 = .ok (.invokevirtual 253, 3) := by decide +kernel
theorem dX12_text_43 : decode cX12_text 43 = .ok (.iconst (-1), 1) := by decide +kernel
theorem dX12_text_44 : decode cX12_text 44 = .ok (.if_icmp .ne 25, 3) := by decide +kernel
theorem dX12_text_47 : decode cX12_text 47 = .ok (.aload_n 0, 1) := by decide +kernel
theorem dX12_text_48 : decode cX12_text 48 = .ok (.iconst 0, 1) := by decide +kernel
theorem dX12_text_49 : decode cX12_text 49 = .ok (.putfield 104, 3) := by decide +kernel
theorem dX12_text_52 : decode cX12_text 52 = .ok (.aload_n 0, 1) := by decide +kernel
theorem dX12_text_53 : decode cX12_text 53 = .ok (.dup, 1) := by decide +kernel
theorem dX12_text_54 : decode cX12_text 54 = .ok (.getfield 284, 3) := by decide +kernel
theorem dX12_text_57 : decode cX12_text 57 = .ok (.iconst 1, 1) := by decide +kernel
theorem dX12_text_58 : decode cX12_text 58 = .ok (.iadd, 1) := by decide +kernel
theorem dX12_text_59 : decode cX12_text 59 = .ok (.putfield 284, 3) := by decide +kernel
theorem dX12_text_62 : decode cX12_text 62 = .ok (.aload_n 0, 1) := by decide +kernel
theorem dX12_text_63 : decode cX12_text 63 = .ok (.getfield 284, 3) := by decide +kernel
theorem dX12_text_66 : decode cX12_text 66 = .ok (.iconst 1, 1) := by decide +kernel
theorem dX12_text_67 : decode cX12_text 67 = .ok (.isub, 1) := by decide +kernel
theorem dX12_text_68 : decode cX12_text 68 = .ok (.ireturn, 1) := by decide +kernel
theorem dX12_text_69 : decode cX12_text 69 = .ok (.iconst (-1), 1) := by decide +kernel
theorem dX12_text_70 : decode cX12_text 70 = .ok (.ireturn, 1) := by decide +kernel
theorem dX12_thrown_0 : decode cX12_thrown 0 = .ok (.aload_n 0, 1) := by decide +kernel
theorem dX12_thrown_1 : decode cX12_thrown 1 = .ok (.getfield 97, 3) := by decide +kernel
theorem dX12_thrown_4 : decode cX12_thrown 4 = .ok (.ireturn, 1) := by decide +kernel
theorem dX12_toll_0 : decode cX12_toll 0 = .ok (.aload_n 0, 1) := by decide +kernel
theorem dX12_toll_1 : decode cX12_toll 1 = .ok (.getfield 256, 3) := by decide +kernel
theorem dX12_toll_4 : decode cX12_toll 4 = .ok (.ifCond .eq 22, 3) := by decide +kernel
theorem dX12_toll_7 : decode cX12_toll 7 = .ok (.iload_n 1, 1) := by decide +kernel
theorem dX12_toll_8 : decode cX12_toll 8 = .ok (.iconst 1, 1) := by decide +kernel
theorem dX12_toll_9 : decode cX12_toll 9 = .ok (.bipush 9, 2) := by decide +kernel
theorem dX12_toll_11 : decode cX12_toll 11 = .ok (.invokestatic 212, 3) := by decide +kernel
theorem dX12_toll_14 : decode cX12_toll 14 = .ok (.ifCond .eq 12, 3) := by decide +kernel
theorem dX12_toll_17 : decode cX12_toll 17 = .ok (.iload_n 2, 1) := by decide +kernel
theorem dX12_toll_18 : decode cX12_toll 18 = .ok (.iconst 0, 1) := by decide +kernel
theorem dX12_toll_19 : decode cX12_toll 19 = .ok (.iconst 1, 1) := by decide +kernel
theorem dX12_toll_20 : decode cX12_toll 20 = .ok (.invokestatic 212, 3) := by decide +kernel
theorem dX12_toll_23 : decode cX12_toll 23 = .ok (.ifCond .ne 5, 3) := by decide +kernel
theorem dX12_toll_26 : decode cX12_toll 26 = .ok (.iconst (-1), 1) := by decide +kernel
theorem dX12_toll_27 : decode cX12_toll 27 = .ok (.ireturn, 1) := by decide +kernel
theorem dX12_toll_28 : decode cX12_toll 28 = .ok (.iconst 0, 1) := by decide +kernel
theorem dX12_toll_29 : decode cX12_toll 29 = .ok (.istore_n 3, 1) := by decide +kernel
theorem dX12_toll_30 : decode cX12_toll 30 = .ok (.iconst 1, 1) := by decide +kernel
theorem dX12_toll_31 : decode cX12_toll 31 = .ok (.istore 4, 2) := by decide +kernel
theorem dX12_toll_33 : decode cX12_toll 33 = .ok (.iload 4, 2) := by decide +kernel
theorem dX12_toll_35 : decode cX12_toll 35 = .ok (.aload_n 0, 1) := by decide +kernel
theorem dX12_toll_36 : decode cX12_toll 36 = .ok (.getfield 259, 3) := by decide +kernel
theorem dX12_toll_39 : decode cX12_toll 39 = .ok (.if_icmp .ge 38, 3) := by decide +kernel
theorem dX12_toll_42 : decode cX12_toll 42 = .ok (.aload_n 0, 1) := by decide +kernel
theorem dX12_toll_43 : decode cX12_toll 43 = .ok (.aload_n 0, 1) := by decide +kernel
theorem dX12_toll_44 : decode cX12_toll 44 = .ok (.iload 4, 2) := by decide +kernel
theorem dX12_toll_46 : decode cX12_toll 46 = .ok (.invokevirtual 390, 3) := by decide +kernel
theorem dX12_toll_49 : decode cX12_toll 49 = .ok (.invokevirtual 393, 3) := by decide +kernel
theorem dX12_toll_52 : decode cX12_toll 52 = .ok (.aload_n 0, 1) := by decide +kernel
theorem dX12_toll_53 : decode cX12_toll 53 = .ok (.aload_n 0, 1) := by decide +kernel
theorem dX12_toll_54 : decode cX12_toll 54 = .ok (.iload_n 3, 1) := by decide +kernel
theorem dX12_toll_55 : decode cX12_toll 55 = .ok (.invokevirtual 390, 3) := by decide +kernel
theorem dX12_toll_58 : decode cX12_toll 58 = .ok (.invokevirtual 393, 3) := by decide +kernel
theorem dX12_toll_61 : decode cX12_toll 61 = .ok (.if_icmp .le 8, 3) := by decide +kernel
theorem dX12_toll_64 : decode cX12_toll 64 = .ok (.iload 4, 2) := by decide +kernel
theorem dX12_toll_66 : decode cX12_toll 66 = .ok (.goto 4, 3) := by decide +kernel
theorem dX12_toll_69 : decode cX12_toll 69 = .ok (.iload_n 3, 1) := by decide +kernel
theorem dX12_toll_70 : decode cX12_toll 70 = .ok (.istore_n 3, 1) := by decide +kernel
theorem dX12_toll_71 : decode cX12_toll 71 = .ok (.iinc 4 1, 3) := by decide +kernel
theorem dX12_toll_74 : decode cX12_toll 74 = .ok (.goto (-41), 3) := by decide +kernel
theorem dX12_toll_77 : decode cX12_toll 77 = .ok (.iload_n 2, 1) := by decide +kernel
theorem dX12_toll_78 : decode cX12_toll 78 = .ok (.ifCond .ne 7, 3) := by decide +kernel
theorem dX12_toll_81 : decode cX12_toll 81 = .ok (.iload_n 3, 1) := by decide +kernel
theorem dX12_toll_82 : decode cX12_toll 82 = .ok (.goto 9, 3) := by decide +kernel
theorem dX12_toll_85 : decode cX12_toll 85 = .ok (.iload_n 1, 1) := by decide +kernel
theorem dX12_toll_86 : decode cX12_toll 86 = .ok (.aload_n 0, 1) := by decide +kernel
theorem dX12_toll_87 : decode cX12_toll 87 = .ok (.invokevirtual 396, 3) := by decide +kernel
theorem dX12_toll_90 : decode cX12_toll 90 = .ok (.imul, 1) := by decide +kernel
theorem dX12_toll_91 : decode cX12_toll 91 = .ok (.ireturn, 1) := by decide +kernel
theorem dX12_undo_0 : decode cX12_undo 0 = .ok (.aload_n 0, 1) := by decide +kernel
theorem dX12_undo_1 : decode cX12_undo 1 = .ok (.getfield 271, 3) := by decide +kernel
theorem dX12_undo_4 : decode cX12_undo 4 = .ok (.ifCond .ne 5, 3) := by decide +kernel
theorem dX12_undo_7 : decode cX12_undo 7 = .ok (.iconst (-1), 1) := by decide +kernel
theorem dX12_undo_8 : decode cX12_undo 8 = .ok (.ireturn, 1) := by decide +kernel
theorem dX12_undo_9 : decode cX12_undo 9 = .ok (.aload_n 0, 1) := by decide +kernel
theorem dX12_undo_10 : decode cX12_undo 10 = .ok (.dup, 1) := by decide +kernel
theorem dX12_undo_11 : decode cX12_undo 11 = .ok (.getfield 271, 3) := by decide +kernel
theorem dX12_undo_14 : decode cX12_undo 14 = .ok (.iconst 1, 1) := by decide +kernel
theorem dX12_undo_15 : decode cX12_undo 15 = .ok (.isub, 1) := by decide +kernel
theorem dX12_undo_16 : decode cX12_undo 16 = .ok (.putfield 271, 3) := by decide +kernel
theorem dX12_undo_19 : decode cX12_undo 19 = .ok (.iconst 0, 1) := by decide +kernel
theorem dX12_undo_20 : decode cX12_undo 20 = .ok (.istore_n 1, 1) := by decide +kernel
theorem dX12_undo_21 : decode cX12_undo 21 = .ok (.iload_n 1, 1) := by decide +kernel
theorem dX12_undo_22 : decode cX12_undo 22 = .ok (.sipush 214, 3) := by decide +kernel
theorem dX12_undo_25 : decode cX12_undo 25 = .ok (.if_icmp .ge 30, 3) := by decide +kernel
theorem dX12_undo_28 : decode cX12_undo 28 = .ok (.aload_n 0, 1) := by decide +kernel
theorem dX12_undo_29 : decode cX12_undo 29 = .ok (.getfield 58, 3) := by decide +kernel
theorem dX12_undo_32 : decode cX12_undo 32 = .ok (.iload_n 1, 1) := by decide +kernel
theorem dX12_undo_33 : decode cX12_undo 33 = .ok (.aload_n 0, 1) := by decide +kernel
theorem dX12_undo_34 : decode cX12_undo 34 = .ok (.getfield 71, 3) := by decide +kernel
theorem dX12_undo_37 : decode cX12_undo 37 = .ok (.sipush 214, 3) := by decide +kernel
theorem dX12_undo_40 : decode cX12_undo 40 = .ok (.aload_n 0, 1) := by decide +kernel
theorem dX12_undo_41 : decode cX12_undo 41 = .ok (.getfield 271, 3) := by decide +kernel
theorem dX12_undo_44 : decode cX12_undo 44 = .ok (.imul, 1) := by decide +kernel
theorem dX12_undo_45 : decode cX12_undo 45 = .ok (.iload_n 1, 1) := by decide +kernel
theorem dX12_undo_46 : decode cX12_undo 46 = .ok (.iadd, 1) := by decide +kernel
theorem dX12_undo_47 : decode cX12_undo 47 = .ok (.iaload, 1) := by decide +kernel
theorem dX12_undo_48 : decode cX12_undo 48 = .ok (.iastore, 1) := by decide +kernel
theorem dX12_undo_49 : decode cX12_undo 49 = .ok (.iinc 1 1, 3) := by decide +kernel
theorem dX12_undo_52 : decode cX12_undo 52 = .ok (.goto (-31), 3) := by decide +kernel
theorem dX12_undo_55 : decode cX12_undo 55 = .ok (.aload_n 0, 1) := by decide +kernel
theorem dX12_undo_56 : decode cX12_undo 56 = .ok (.getfield 271, 3) := by decide +kernel
theorem dX12_undo_59 : decode cX12_undo 59 = .ok (.ireturn, 1) := by decide +kernel
theorem dX12_way_0 : decode cX12_way 0 = .ok (.aload_n 0, 1) := by decide +kernel
theorem dX12_way_1 : decode cX12_way 1 = .ok (.getfield 256, 3) := by decide +kernel
theorem dX12_way_4 : decode cX12_way 4 = .ok (.ifCond .eq 32, 3) := by decide +kernel
theorem dX12_way_7 : decode cX12_way 7 = .ok (.iload_n 1, 1) := by decide +kernel
theorem dX12_way_8 : decode cX12_way 8 = .ok (.iconst 0, 1) := by decide +kernel
theorem dX12_way_9 : decode cX12_way 9 = .ok (.bipush 7, 2) := by decide +kernel
theorem dX12_way_11 : decode cX12_way 11 = .ok (.invokestatic 212, 3) := by decide +kernel
theorem dX12_way_14 : decode cX12_way 14 = .ok (.ifCond .eq 22, 3) := by decide +kernel
theorem dX12_way_17 : decode cX12_way 17 = .ok (.iload_n 2, 1) := by decide +kernel
theorem dX12_way_18 : decode cX12_way 18 = .ok (.iconst 0, 1) := by decide +kernel
theorem dX12_way_19 : decode cX12_way 19 = .ok (.bipush 7, 2) := by decide +kernel
theorem dX12_way_21 : decode cX12_way 21 = .ok (.invokestatic 212, 3) := by decide +kernel
theorem dX12_way_24 : decode cX12_way 24 = .ok (.ifCond .eq 12, 3) := by decide +kernel
theorem dX12_way_27 : decode cX12_way 27 = .ok (.iload_n 3, 1) := by decide +kernel
theorem dX12_way_28 : decode cX12_way 28 = .ok (.iconst 0, 1) := by decide +kernel
theorem dX12_way_29 : decode cX12_way 29 = .ok (.iconst 1, 1) := by decide +kernel
theorem dX12_way_30 : decode cX12_way 30 = .ok (.invokestatic 212, 3) := by decide +kernel
theorem dX12_way_33 : decode cX12_way 33 = .ok (.ifCond .ne 5, 3) := by decide +kernel
theorem dX12_way_36 : decode cX12_way 36 = .ok (.iconst (-1), 1) := by decide +kernel
theorem dX12_way_37 : decode cX12_way 37 = .ok (.ireturn, 1) := by decide +kernel
theorem dX12_way_38 : decode cX12_way 38 = .ok (.aload_n 0, 1) := by decide +kernel
theorem dX12_way_39 : decode cX12_way 39 = .ok (.iload_n 1, 1) := by decide +kernel
theorem dX12_way_40 : decode cX12_way 40 = .ok (.iload_n 2, 1) := by decide +kernel
theorem dX12_way_41 : decode cX12_way 41 = .ok (.invokevirtual 373, 3) := by decide +kernel
theorem dX12_way_44 : decode cX12_way 44 = .ok (.aload_n 0, 1) := by decide +kernel
theorem dX12_way_45 : decode cX12_way 45 = .ok (.getfield 363, 3) := by decide +kernel
theorem dX12_way_48 : decode cX12_way 48 = .ok (.iconst (-1), 1) := by decide +kernel
theorem dX12_way_49 : decode cX12_way 49 = .ok (.if_icmp .eq 8, 3) := by decide +kernel
theorem dX12_way_52 : decode cX12_way 52 = .ok (.iload_n 3, 1) := by decide +kernel
theorem dX12_way_53 : decode cX12_way 53 = .ok (.iconst 1, 1) := by decide +kernel
theorem dX12_way_54 : decode cX12_way 54 = .ok (.if_icmp .ne 10, 3) := by decide +kernel
theorem dX12_way_57 : decode cX12_way 57 = .ok (.aload_n 0, 1) := by decide +kernel
theorem dX12_way_58 : decode cX12_way 58 = .ok (.getfield 363, 3) := by decide +kernel
theorem dX12_way_61 : decode cX12_way 61 = .ok (.goto 7, 3) := by decide +kernel
theorem dX12_way_64 : decode cX12_way 64 = .ok (.aload_n 0, 1) := by decide +kernel
theorem dX12_way_65 : decode cX12_way 65 = .ok (.getfield 366, 3) := by decide +kernel
theorem dX12_way_68 : decode cX12_way 68 = .ok (.ireturn, 1) := by decide +kernel
theorem dX12_whose_0 : decode cX12_whose 0 = .ok (.aload_n 0, 1) := by decide +kernel
theorem dX12_whose_1 : decode cX12_whose 1 = .ok (.iload_n 1, 1) := by decide +kernel
theorem dX12_whose_2 : decode cX12_whose 2 = .ok (.invokevirtual 305, 3) := by decide +kernel
theorem dX12_whose_5 : decode cX12_whose 5 = .ok (.ifCond .eq 13, 3) := by decide +kernel
theorem dX12_whose_8 : decode cX12_whose 8 = .ok (.iload_n 2, 1) := by decide +kernel
theorem dX12_whose_9 : decode cX12_whose 9 = .ok (.iconst 0, 1) := by decide +kernel
theorem dX12_whose_10 : decode cX12_whose 10 = .ok (.bipush 99, 2) := by decide +kernel
theorem dX12_whose_12 : decode cX12_whose 12 = .ok (.invokestatic 212, 3) := by decide +kernel
theorem dX12_whose_15 : decode cX12_whose 15 = .ok (.ifCond .ne 5, 3) := by decide +kernel
theorem dX12_whose_18 : decode cX12_whose 18 = .ok (.iconst (-1), 1) := by decide +kernel
theorem dX12_whose_19 : decode cX12_whose 19 = .ok (.ireturn, 1) := by decide +kernel
theorem dX12_whose_20 : decode cX12_whose 20 = .ok (.iconst 0, 1) := by decide +kernel
theorem dX12_whose_21 : decode cX12_whose 21 = .ok (.istore_n 3, 1) := by decide +kernel
theorem dX12_whose_22 : decode cX12_whose 22 = .ok (.iconst 0, 1) := by decide +kernel
theorem dX12_whose_23 : decode cX12_whose 23 = .ok (.istore 4, 2) := by decide +kernel
theorem dX12_whose_25 : decode cX12_whose 25 = .ok (.iload 4, 2) := by decide +kernel
theorem dX12_whose_27 : decode cX12_whose 27 = .ok (.aload_n 0, 1) := by decide +kernel
theorem dX12_whose_28 : decode cX12_whose 28 = .ok (.getfield 259, 3) := by decide +kernel
theorem dX12_whose_31 : decode cX12_whose 31 = .ok (.if_icmp .ge 66, 3) := by decide +kernel
theorem dX12_whose_34 : decode cX12_whose 34 = .ok (.aload_n 0, 1) := by decide +kernel
theorem dX12_whose_35 : decode cX12_whose 35 = .ok (.iload 4, 2) := by decide +kernel
theorem dX12_whose_37 : decode cX12_whose 37 = .ok (.iload_n 1, 1) := by decide +kernel
theorem dX12_whose_38 : decode cX12_whose 38 = .ok (.invokevirtual 311, 3) := by decide +kernel
theorem dX12_whose_41 : decode cX12_whose 41 = .ok (.ifCond .eq 31, 3) := by decide +kernel
theorem dX12_whose_44 : decode cX12_whose 44 = .ok (.aload_n 0, 1) := by decide +kernel
theorem dX12_whose_45 : decode cX12_whose 45 = .ok (.iload 4, 2) := by decide +kernel
theorem dX12_whose_47 : decode cX12_whose 47 = .ok (.iload_n 1, 1) := by decide +kernel
theorem dX12_whose_48 : decode cX12_whose 48 = .ok (.iconst 0, 1) := by decide +kernel
theorem dX12_whose_49 : decode cX12_whose 49 = .ok (.invokevirtual 314, 3) := by decide +kernel
theorem dX12_whose_52 : decode cX12_whose 52 = .ok (.iload_n 2, 1) := by decide +kernel
theorem dX12_whose_53 : decode cX12_whose 53 = .ok (.if_icmp .eq 15, 3) := by decide +kernel
theorem dX12_whose_56 : decode cX12_whose 56 = .ok (.aload_n 0, 1) := by decide +kernel
theorem dX12_whose_57 : decode cX12_whose 57 = .ok (.iload 4, 2) := by decide +kernel
theorem dX12_whose_59 : decode cX12_whose 59 = .ok (.iload_n 1, 1) := by decide +kernel
theorem dX12_whose_60 : decode cX12_whose 60 = .ok (.iconst 1, 1) := by decide +kernel
theorem dX12_whose_61 : decode cX12_whose 61 = .ok (.invokevirtual 314, 3) := by decide +kernel
theorem dX12_whose_64 : decode cX12_whose 64 = .ok (.iload_n 2, 1) := by decide +kernel
theorem dX12_whose_65 : decode cX12_whose 65 = .ok (.if_icmp .ne 7, 3) := by decide +kernel
theorem dX12_whose_68 : decode cX12_whose 68 = .ok (.iconst 1, 1) := by decide +kernel
theorem dX12_whose_69 : decode cX12_whose 69 = .ok (.goto 4, 3) := by decide +kernel
theorem dX12_whose_72 : decode cX12_whose 72 = .ok (.iconst 0, 1) := by decide +kernel
theorem dX12_whose_73 : decode cX12_whose 73 = .ok (.istore 5, 2) := by decide +kernel
theorem dX12_whose_75 : decode cX12_whose 75 = .ok (.iload_n 3, 1) := by decide +kernel
theorem dX12_whose_76 : decode cX12_whose 76 = .ok (.iload 5, 2) := by decide +kernel
theorem dX12_whose_78 : decode cX12_whose 78 = .ok (.ifCond .eq 10, 3) := by decide +kernel
theorem dX12_whose_81 : decode cX12_whose 81 = .ok (.iconst 1, 1) := by decide +kernel
theorem dX12_whose_82 : decode cX12_whose 82 = .ok (.iload 4, 2) := by decide +kernel
theorem dX12_whose_84 : decode cX12_whose 84 = .ok (.ishl, 1) := by decide +kernel
theorem dX12_whose_85 : decode cX12_whose 85 = .ok (.goto 4, 3) := by decide +kernel
theorem dX12_whose_88 : decode cX12_whose 88 = .ok (.iconst 0, 1) := by decide +kernel
theorem dX12_whose_89 : decode cX12_whose 89 = .ok (.ior, 1) := by decide +kernel
theorem dX12_whose_90 : decode cX12_whose 90 = .ok (.istore_n 3, 1) := by decide +kernel
theorem dX12_whose_91 : decode cX12_whose 91 = .ok (.iinc 4 1, 3) := by decide +kernel
theorem dX12_whose_94 : decode cX12_whose 94 = .ok (.goto (-69), 3) := by decide +kernel
theorem dX12_whose_97 : decode cX12_whose 97 = .ok (.iload_n 3, 1) := by decide +kernel
theorem dX12_whose_98 : decode cX12_whose 98 = .ok (.ireturn, 1) := by decide +kernel
theorem dX12_work_0 : decode cX12_work 0 = .ok (.iconst 0, 1) := by decide +kernel
theorem dX12_work_1 : decode cX12_work 1 = .ok (.istore 4, 2) := by decide +kernel
theorem dX12_work_3 : decode cX12_work 3 = .ok (.aload_n 0, 1) := by decide +kernel
theorem dX12_work_4 : decode cX12_work 4 = .ok (.iload_n 1, 1) := by decide +kernel
theorem dX12_work_5 : decode cX12_work 5 = .ok (.invokevirtual 308, 3) := by decide +kernel
theorem dX12_work_8 : decode cX12_work 8 = .ok (.ifCond .eq 57, 3) := by decide +kernel
theorem dX12_work_11 : decode cX12_work 11 = .ok (.aload_n 0, 1) := by decide +kernel
theorem dX12_work_12 : decode cX12_work 12 = .ok (.iload_n 2, 1) := by decide +kernel
theorem dX12_work_13 : decode cX12_work 13 = .ok (.invokevirtual 305, 3) := by decide +kernel
theorem dX12_work_16 : decode cX12_work 16 = .ok (.ifCond .eq 49, 3) := by decide +kernel
theorem dX12_work_19 : decode cX12_work 19 = .ok (.iload_n 3, 1) := by decide +kernel
theorem dX12_work_20 : decode cX12_work 20 = .ok (.iconst 0, 1) := by decide +kernel
theorem dX12_work_21 : decode cX12_work 21 = .ok (.iconst 3, 1) := by decide +kernel
theorem dX12_work_22 : decode cX12_work 22 = .ok (.invokestatic 212, 3) := by decide +kernel
theorem dX12_work_25 : decode cX12_work 25 = .ok (.ifCond .ne 7, 3) := by decide +kernel
theorem dX12_work_28 : decode cX12_work 28 = .ok (.iconst 1, 1) := by decide +kernel
theorem dX12_work_29 : decode cX12_work 29 = .ok (.goto 34, 3) := by decide +kernel
theorem dX12_work_32 : decode cX12_work 32 = .ok (.aload_n 0, 1) := by decide +kernel
theorem dX12_work_33 : decode cX12_work 33 = .ok (.getfield 58, 3) := by decide +kernel
theorem dX12_work_36 : decode cX12_work 36 = .ok (.bipush 18, 2) := by decide +kernel
theorem dX12_work_38 : decode cX12_work 38 = .ok (.iload_n 1, 1) := by decide +kernel
theorem dX12_work_39 : decode cX12_work 39 = .ok (.iadd, 1) := by decide +kernel
theorem dX12_work_40 : decode cX12_work 40 = .ok (.iaload, 1) := by decide +kernel
theorem dX12_work_41 : decode cX12_work 41 = .ok (.ifCond .eq 17, 3) := by decide +kernel
theorem dX12_work_44 : decode cX12_work 44 = .ok (.iload_n 3, 1) := by decide +kernel
theorem dX12_work_45 : decode cX12_work 45 = .ok (.iconst 2, 1) := by decide +kernel
theorem dX12_work_46 : decode cX12_work 46 = .ok (.if_icmp .eq 16, 3) := by decide +kernel
theorem dX12_work_49 : decode cX12_work 49 = .ok (.aload_n 0, 1) := by decide +kernel
theorem dX12_work_50 : decode cX12_work 50 = .ok (.iload_n 1, 1) := by decide +kernel
theorem dX12_work_51 : decode cX12_work 51 = .ok (.iload_n 2, 1) := by decide +kernel
theorem dX12_work_52 : decode cX12_work 52 = .ok (.invokevirtual 311, 3) := by decide +kernel
theorem dX12_work_55 : decode cX12_work 55 = .ok (.ifCond .ne 7, 3) := by decide +kernel
theorem dX12_work_58 : decode cX12_work 58 = .ok (.iconst 2, 1) := by decide +kernel
theorem dX12_work_59 : decode cX12_work 59 = .ok (.goto 4, 3) := by decide +kernel
theorem dX12_work_62 : decode cX12_work 62 = .ok (.iconst (-1), 1) := by decide +kernel
theorem dX12_work_63 : decode cX12_work 63 = .ok (.istore 4, 2) := by decide +kernel
theorem dX12_work_65 : decode cX12_work 65 = .ok (.aload_n 0, 1) := by decide +kernel
theorem dX12_work_66 : decode cX12_work 66 = .ok (.iload 4, 2) := by decide +kernel
theorem dX12_work_68 : decode cX12_work 68 = .ok (.invokevirtual 317, 3) := by decide +kernel
theorem dX12_work_71 : decode cX12_work 71 = .ok (.ifCond .eq 5, 3) := by decide +kernel
theorem dX12_work_74 : decode cX12_work 74 = .ok (.iconst (-1), 1) := by decide +kernel
theorem dX12_work_75 : decode cX12_work 75 = .ok (.ireturn, 1) := by decide +kernel
theorem dX12_work_76 : decode cX12_work 76 = .ok (.aload_n 0, 1) := by decide +kernel
theorem dX12_work_77 : decode cX12_work 77 = .ok (.invokevirtual 320, 3) := by decide +kernel
theorem dX12_work_80 : decode cX12_work 80 = .ok (.aload_n 0, 1) := by decide +kernel
theorem dX12_work_81 : decode cX12_work 81 = .ok (.iload_n 1, 1) := by decide +kernel
theorem dX12_work_82 : decode cX12_work 82 = .ok (.iload_n 2, 1) := by decide +kernel
theorem dX12_work_83 : decode cX12_work 83 = .ok (.iload_n 3, 1) := by decide +kernel
theorem dX12_work_84 : decode cX12_work 84 = .ok (.invokevirtual 323, 3) := by decide +kernel
theorem dX12_work_87 : decode cX12_work 87 = .ok (.aload_n 0, 1) := by decide +kernel
theorem dX12_work_88 : decode cX12_work 88 = .ok (.getfield 58, 3) := by decide +kernel
theorem dX12_work_91 : decode cX12_work 91 = .ok (.iconst 0, 1) := by decide +kernel
theorem dX12_work_92 : decode cX12_work 92 = .ok (.iload_n 2, 1) := by decide +kernel
theorem dX12_work_93 : decode cX12_work 93 = .ok (.iadd, 1) := by decide +kernel
theorem dX12_work_94 : decode cX12_work 94 = .ok (.iaload, 1) := by decide +kernel
theorem dX12_work_95 : decode cX12_work 95 = .ok (.ireturn, 1) := by decide +kernel
theorem dX12_worst_0 : decode cX12_worst 0 = .ok (.iconst (-1), 1) := by decide +kernel
theorem dX12_worst_1 : decode cX12_worst 1 = .ok (.istore_n 1, 1) := by decide +kernel
theorem dX12_worst_2 : decode cX12_worst 2 = .ok (.iconst 0, 1) := by decide +kernel
theorem dX12_worst_3 : decode cX12_worst 3 = .ok (.istore_n 2, 1) := by decide +kernel
theorem dX12_worst_4 : decode cX12_worst 4 = .ok (.iload_n 2, 1) := by decide +kernel
theorem dX12_worst_5 : decode cX12_worst 5 = .ok (.aload_n 0, 1) := by decide +kernel
theorem dX12_worst_6 : decode cX12_worst 6 = .ok (.getfield 256, 3) := by decide +kernel
theorem dX12_worst_9 : decode cX12_worst 9 = .ok (.if_icmp .ge 39, 3) := by decide +kernel
theorem dX12_worst_12 : decode cX12_worst 12 = .ok (.iload_n 1, 1) := by decide +kernel
theorem dX12_worst_13 : decode cX12_worst 13 = .ok (.iconst (-1), 1) := by decide +kernel
theorem dX12_worst_14 : decode cX12_worst 14 = .ok (.if_icmp .eq 22, 3) := by decide +kernel
theorem dX12_worst_17 : decode cX12_worst 17 = .ok (.aload_n 0, 1) := by decide +kernel
theorem dX12_worst_18 : decode cX12_worst 18 = .ok (.getfield 58, 3) := by decide +kernel
theorem dX12_worst_21 : decode cX12_worst 21 = .ok (.iconst 0, 1) := by decide +kernel
theorem dX12_worst_22 : decode cX12_worst 22 = .ok (.iload_n 2, 1) := by decide +kernel
theorem dX12_worst_23 : decode cX12_worst 23 = .ok (.iadd, 1) := by decide +kernel
theorem dX12_worst_24 : decode cX12_worst 24 = .ok (.iaload, 1) := by decide +kernel
theorem dX12_worst_25 : decode cX12_worst 25 = .ok (.aload_n 0, 1) := by decide +kernel
theorem dX12_worst_26 : decode cX12_worst 26 = .ok (.getfield 58, 3) := by decide +kernel
theorem dX12_worst_29 : decode cX12_worst 29 = .ok (.iconst 0, 1) := by decide +kernel
theorem dX12_worst_30 : decode cX12_worst 30 = .ok (.iload_n 1, 1) := by decide +kernel
theorem dX12_worst_31 : decode cX12_worst 31 = .ok (.iadd, 1) := by decide +kernel
theorem dX12_worst_32 : decode cX12_worst 32 = .ok (.iaload, 1) := by decide +kernel
theorem dX12_worst_33 : decode cX12_worst 33 = .ok (.if_icmp .le 7, 3) := by decide +kernel
theorem dX12_worst_36 : decode cX12_worst 36 = .ok (.iload_n 2, 1) := by decide +kernel
theorem dX12_worst_37 : decode cX12_worst 37 = .ok (.goto 4, 3) := by decide +kernel
theorem dX12_worst_40 : decode cX12_worst 40 = .ok (.iload_n 1, 1) := by decide +kernel
theorem dX12_worst_41 : decode cX12_worst 41 = .ok (.istore_n 1, 1) := by decide +kernel
theorem dX12_worst_42 : decode cX12_worst 42 = .ok (.iinc 2 1, 3) := by decide +kernel
theorem dX12_worst_45 : decode cX12_worst 45 = .ok (.goto (-41), 3) := by decide +kernel
theorem dX12_worst_48 : decode cX12_worst 48 = .ok (.iload_n 1, 1) := by decide +kernel
theorem dX12_worst_49 : decode cX12_worst 49 = .ok (.ireturn, 1) := by decide +kernel
theorem dX12_worth_0 : decode cX12_worth 0 = .ok (.iconst (-1), 1) := by decide +kernel
theorem dX12_worth_1 : decode cX12_worth 1 = .ok (.istore_n 2, 1) := by decide +kernel
theorem dX12_worth_2 : decode cX12_worth 2 = .ok (.iconst 0, 1) := by decide +kernel
theorem dX12_worth_3 : decode cX12_worth 3 = .ok (.istore_n 3, 1) := by decide +kernel
theorem dX12_worth_4 : decode cX12_worth 4 = .ok (.iload_n 3, 1) := by decide +kernel
theorem dX12_worth_5 : decode cX12_worth 5 = .ok (.aload_n 0, 1) := by decide +kernel
theorem dX12_worth_6 : decode cX12_worth 6 = .ok (.getfield 256, 3) := by decide +kernel
theorem dX12_worth_9 : decode cX12_worth 9 = .ok (.if_icmp .ge 54, 3) := by decide +kernel
theorem dX12_worth_12 : decode cX12_worth 12 = .ok (.aload_n 0, 1) := by decide +kernel
theorem dX12_worth_13 : decode cX12_worth 13 = .ok (.iload_n 1, 1) := by decide +kernel
theorem dX12_worth_14 : decode cX12_worth 14 = .ok (.invokevirtual 308, 3) := by decide +kernel
theorem dX12_worth_17 : decode cX12_worth 17 = .ok (.ifCond .eq 46, 3) := by decide +kernel
theorem dX12_worth_20 : decode cX12_worth 20 = .ok (.aload_n 0, 1) := by decide +kernel
theorem dX12_worth_21 : decode cX12_worth 21 = .ok (.iload_n 1, 1) := by decide +kernel
theorem dX12_worth_22 : decode cX12_worth 22 = .ok (.iload_n 3, 1) := by decide +kernel
theorem dX12_worth_23 : decode cX12_worth 23 = .ok (.invokevirtual 311, 3) := by decide +kernel
theorem dX12_worth_26 : decode cX12_worth 26 = .ok (.ifCond .eq 29, 3) := by decide +kernel
theorem dX12_worth_29 : decode cX12_worth 29 = .ok (.iload_n 2, 1) := by decide +kernel
theorem dX12_worth_30 : decode cX12_worth 30 = .ok (.iconst (-1), 1) := by decide +kernel
theorem dX12_worth_31 : decode cX12_worth 31 = .ok (.if_icmp .eq 20, 3) := by decide +kernel
theorem dX12_worth_34 : decode cX12_worth 34 = .ok (.aload_n 0, 1) := by decide +kernel
theorem dX12_worth_35 : decode cX12_worth 35 = .ok (.iload_n 1, 1) := by decide +kernel
theorem dX12_worth_36 : decode cX12_worth 36 = .ok (.iload_n 3, 1) := by decide +kernel
theorem dX12_worth_37 : decode cX12_worth 37 = .ok (.iconst 0, 1) := by decide +kernel
theorem dX12_worth_38 : decode cX12_worth 38 = .ok (.invokevirtual 314, 3) := by decide +kernel
theorem dX12_worth_41 : decode cX12_worth 41 = .ok (.aload_n 0, 1) := by decide +kernel
theorem dX12_worth_42 : decode cX12_worth 42 = .ok (.iload_n 1, 1) := by decide +kernel
theorem dX12_worth_43 : decode cX12_worth 43 = .ok (.iload_n 2, 1) := by decide +kernel
theorem dX12_worth_44 : decode cX12_worth 44 = .ok (.iconst 0, 1) := by decide +kernel
theorem dX12_worth_45 : decode cX12_worth 45 = .ok (.invokevirtual 314, 3) := by decide +kernel
theorem dX12_worth_48 : decode cX12_worth 48 = .ok (.if_icmp .le 7, 3) := by decide +kernel
theorem dX12_worth_51 : decode cX12_worth 51 = .ok (.iload_n 3, 1) := by decide +kernel
theorem dX12_worth_52 : decode cX12_worth 52 = .ok (.goto 4, 3) := by decide +kernel
theorem dX12_worth_55 : decode cX12_worth 55 = .ok (.iload_n 2, 1) := by decide +kernel
theorem dX12_worth_56 : decode cX12_worth 56 = .ok (.istore_n 2, 1) := by decide +kernel
theorem dX12_worth_57 : decode cX12_worth 57 = .ok (.iinc 3 1, 3) := by decide +kernel
theorem dX12_worth_60 : decode cX12_worth 60 = .ok (.goto (-56), 3) := by decide +kernel
theorem dX12_worth_63 : decode cX12_worth 63 = .ok (.iload_n 2, 1) := by decide +kernel
theorem dX12_worth_64 : decode cX12_worth 64 = .ok (.ireturn, 1) := by decide +kernel
theorem dX12_years_0 : decode cX12_years 0 = .ok (.aload_n 0, 1) := by decide +kernel
theorem dX12_years_1 : decode cX12_years 1 = .ok (.getfield 256, 3) := by decide +kernel
theorem dX12_years_4 : decode cX12_years 4 = .ok (.ifCond .eq 11, 3) := by decide +kernel
theorem dX12_years_7 : decode cX12_years 7 = .ok (.aload_n 0, 1) := by decide +kernel
theorem dX12_years_8 : decode cX12_years 8 = .ok (.iload_n 1, 1) := by decide +kernel
theorem dX12_years_9 : decode cX12_years 9 = .ok (.invokevirtual 336, 3) := by decide +kernel
theorem dX12_years_12 : decode cX12_years 12 = .ok (.ifCond .ne 5, 3) := by decide +kernel
theorem dX12_years_15 : decode cX12_years 15 = .ok (.iconst (-1), 1) := by decide +kernel
theorem dX12_years_16 : decode cX12_years 16 = .ok (.ireturn, 1) := by decide +kernel
theorem dX12_years_17 : decode cX12_years 17 = .ok (.aload_n 0, 1) := by decide +kernel
theorem dX12_years_18 : decode cX12_years 18 = .ok (.lload_n 2, 1) := by decide +kernel
theorem dX12_years_19 : decode cX12_years 19 = .ok (.putfield 342, 3) := by decide +kernel
theorem dX12_years_22 : decode cX12_years 22 = .ok (.iconst 0, 1) := by decide +kernel
theorem dX12_years_23 : decode cX12_years 23 = .ok (.istore 4, 2) := by decide +kernel
theorem dX12_years_25 : decode cX12_years 25 = .ok (.iload 4, 2) := by decide +kernel
theorem dX12_years_27 : decode cX12_years 27 = .ok (.iload_n 1, 1) := by decide +kernel
theorem dX12_years_28 : decode cX12_years 28 = .ok (.if_icmp .ge 54, 3) := by decide +kernel
theorem dX12_years_31 : decode cX12_years 31 = .ok (.aload_n 0, 1) := by decide +kernel
theorem dX12_years_32 : decode cX12_years 32 = .ok (.invokevirtual 320, 3) := by decide +kernel
theorem dX12_years_35 : decode cX12_years 35 = .ok (.iconst 0, 1) := by decide +kernel
theorem dX12_years_36 : decode cX12_years 36 = .ok (.istore 5, 2) := by decide +kernel
theorem dX12_years_38 : decode cX12_years 38 = .ok (.iload 5, 2) := by decide +kernel
theorem dX12_years_40 : decode cX12_years 40 = .ok (.aload_n 0, 1) := by decide +kernel
theorem dX12_years_41 : decode cX12_years 41 = .ok (.getfield 259, 3) := by decide +kernel
theorem dX12_years_44 : decode cX12_years 44 = .ok (.if_icmp .ge 28, 3) := by decide +kernel
theorem dX12_years_47 : decode cX12_years 47 = .ok (.aload_n 0, 1) := by decide +kernel
theorem dX12_years_48 : decode cX12_years 48 = .ok (.getfield 58, 3) := by decide +kernel
theorem dX12_years_51 : decode cX12_years 51 = .ok (.bipush 18, 2) := by decide +kernel
theorem dX12_years_53 : decode cX12_years 53 = .ok (.iload 5, 2) := by decide +kernel
theorem dX12_years_55 : decode cX12_years 55 = .ok (.iadd, 1) := by decide +kernel
theorem dX12_years_56 : decode cX12_years 56 = .ok (.iaload, 1) := by decide +kernel
theorem dX12_years_57 : decode cX12_years 57 = .ok (.ifCond .le 9, 3) := by decide +kernel
theorem dX12_years_60 : decode cX12_years 60 = .ok (.aload_n 0, 1) := by decide +kernel
theorem dX12_years_61 : decode cX12_years 61 = .ok (.iload 5, 2) := by decide +kernel
theorem dX12_years_63 : decode cX12_years 63 = .ok (.invokevirtual 353, 3) := by decide +kernel
theorem dX12_years_66 : decode cX12_years 66 = .ok (.iinc 5 1, 3) := by decide +kernel
theorem dX12_years_69 : decode cX12_years 69 = .ok (.goto (-31), 3) := by decide +kernel
theorem dX12_years_72 : decode cX12_years 72 = .ok (.aload_n 0, 1) := by decide +kernel
theorem dX12_years_73 : decode cX12_years 73 = .ok (.invokevirtual 339, 3) := by decide +kernel
theorem dX12_years_76 : decode cX12_years 76 = .ok (.iinc 4 1, 3) := by decide +kernel
theorem dX12_years_79 : decode cX12_years 79 = .ok (.goto (-54), 3) := by decide +kernel
theorem dX12_years_82 : decode cX12_years 82 = .ok (.aload_n 0, 1) := by decide +kernel
theorem dX12_years_83 : decode cX12_years 83 = .ok (.getfield 58, 3) := by decide +kernel
theorem dX12_years_86 : decode cX12_years 86 = .ok (.bipush 32, 2) := by decide +kernel
theorem dX12_years_88 : decode cX12_years 88 = .ok (.iaload, 1) := by decide +kernel
theorem dX12_years_89 : decode cX12_years 89 = .ok (.ireturn, 1) := by decide +kernel
