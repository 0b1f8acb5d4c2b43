theorem dX1_empty_0 : decode cX1_empty 0 = .ok (.aload_n 0, 1) := by decide +kernel
theorem dX1_empty_1 : decode cX1_empty 1 = .ok (.iconst 0, 1) := by decide +kernel
theorem dX1_empty_2 : decode cX1_empty 2 = .ok (.putfield 18, 3) := by decide +kernel
theorem dX1_empty_5 : decode cX1_empty 5 = .ok (.return_, 1) := by decide +kernel
theorem dX1_add_0 : decode cX1_add 0 = .ok (.aload_n 0, 1) := by decide +kernel
theorem dX1_add_1 : decode cX1_add 1 = .ok (.getfield 18, 3) := by decide +kernel
theorem dX1_add_4 : decode cX1_add 4 = .ok (.sipush 240, 3) := by decide +kernel
theorem dX1_add_7 : decode cX1_add 7 = .ok (.if_icmp .ge 23, 3) := by decide +kernel
theorem dX1_add_10 : decode cX1_add 10 = .ok (.aload_n 0, 1) := by decide +kernel
theorem dX1_add_11 : decode cX1_add 11 = .ok (.getfield 9, 3) := by decide +kernel
theorem dX1_add_14 : decode cX1_add 14 = .ok (.aload_n 0, 1) := by decide +kernel
theorem dX1_add_15 : decode cX1_add 15 = .ok (.getfield 18, 3) := by decide +kernel
theorem dX1_add_18 : decode cX1_add 18 = .ok (.iload_n 1, 1) := by decide +kernel
theorem dX1_add_19 : decode cX1_add 19 = .ok (.iastore, 1) := by decide +kernel
theorem dX1_add_20 : decode cX1_add 20 = .ok (.aload_n 0, 1) := by decide +kernel
theorem dX1_add_21 : decode cX1_add 21 = .ok (.dup, 1) := by decide +kernel
theorem dX1_add_22 : decode cX1_add 22 = .ok (.getfield 18, 3) := by decide +kernel
theorem dX1_add_25 : decode cX1_add 25 = .ok (.iconst 1, 1) := by decide +kernel
theorem dX1_add_26 : decode cX1_add 26 = .ok (.iadd, 1) := by decide +kernel
theorem dX1_add_27 : decode cX1_add 27 = .ok (.putfield 18, 3) := by decide +kernel
theorem dX1_add_30 : decode cX1_add 30 = .ok (.return_, 1) := by decide +kernel
theorem dX1_size_0 : decode cX1_size 0 = .ok (.aload_n 0, 1) := by decide +kernel
theorem dX1_size_1 : decode cX1_size 1 = .ok (.getfield 18, 3) := by decide +kernel
theorem dX1_size_4 : decode cX1_size 4 = .ok (.ireturn, 1) := by decide +kernel
theorem dX1_leapFrom_0 : decode cX1_leapFrom 0 = .ok (.iload_n 1, 1) := by decide +kernel
theorem dX1_leapFrom_1 : decode cX1_leapFrom 1 = .ok (.ifCond .lt 25, 3) := by decide +kernel
theorem dX1_leapFrom_4 : decode cX1_leapFrom 4 = .ok (.iload_n 1, 1) := by decide +kernel
theorem dX1_leapFrom_5 : decode cX1_leapFrom 5 = .ok (.aload_n 0, 1) := by decide +kernel
theorem dX1_leapFrom_6 : decode cX1_leapFrom 6 = .ok (.getfield 18, 3) := by decide +kernel
theorem dX1_leapFrom_9 : decode cX1_leapFrom 9 = .ok (.if_icmp .ge 17, 3) := by decide +kernel
theorem dX1_leapFrom_12 : decode cX1_leapFrom 12 = .ok (.aload_n 0, 1) := by decide +kernel
theorem dX1_leapFrom_13 : decode cX1_leapFrom 13 = .ok (.getfield 9, 3) := by decide +kernel
theorem dX1_leapFrom_16 : decode cX1_leapFrom 16 = .ok (.iload_n 1, 1) := by decide +kernel
theorem dX1_leapFrom_17 : decode cX1_leapFrom 17 = .ok (.sipush (-1000), 3) := by decide +kernel
theorem dX1_leapFrom_20 : decode cX1_leapFrom 20 = .ok (.aload_n 0, 1) := by decide +kernel
theorem dX1_leapFrom_21 : decode cX1_leapFrom 21 = .ok (.getfield 18, 3) := by decide +kernel
theorem dX1_leapFrom_24 : decode cX1_leapFrom 24 = .ok (.isub, 1) := by decide +kernel
theorem dX1_leapFrom_25 : decode cX1_leapFrom 25 = .ok (.iastore, 1) := by decide +kernel
theorem dX1_leapFrom_26 : decode cX1_leapFrom 26 = .ok (.return_, 1) := by decide +kernel
theorem dX1_take_0 : decode cX1_take 0 = .ok (.aload_n 1, 1) := by decide +kernel
theorem dX1_take_1 : decode cX1_take 1 = .ok (.getfield 9, 3) := by decide +kernel
theorem dX1_take_4 : decode cX1_take 4 = .ok (.iconst 0, 1) := by decide +kernel
theorem dX1_take_5 : decode cX1_take 5 = .ok (.aload_n 0, 1) := by decide +kernel
theorem dX1_take_6 : decode cX1_take 6 = .ok (.getfield 9, 3) := by decide +kernel
theorem dX1_take_9 : decode cX1_take 9 = .ok (.iconst 0, 1) := by decide +kernel
theorem dX1_take_10 : decode cX1_take 10 = .ok (.aload_n 0, 1) := by decide +kernel
theorem dX1_take_11 : decode cX1_take 11 = .ok (.getfield 9, 3) := by decide +kernel
theorem dX1_take_14 : decode cX1_take 14 = .ok (.arraylength, 1) := by decide +kernel
theorem dX1_take_15 : decode cX1_take 15 = .ok (.invokestatic 22, 3) := by decide +kernel
theorem dX1_take_18 : decode cX1_take 18 = .ok (.aload_n 0, 1) := by decide +kernel
theorem dX1_take_19 : decode cX1_take 19 = .ok (.aload_n 1, 1) := by decide +kernel
theorem dX1_take_20 : decode cX1_take 20 = .ok (.getfield 18, 3) := by decide +kernel
theorem dX1_take_23 : decode cX1_take 23 = .ok (.putfield 18, 3) := by decide +kernel
theorem dX1_take_26 : decode cX1_take 26 = .ok (.return_, 1) := by decide +kernel
theorem dX1_valueFor_0 : decode cX1_valueFor 0 = .ok (.iconst 0, 1) := by decide +kernel
theorem dX1_valueFor_1 : decode cX1_valueFor 1 = .ok (.istore_n 2, 1) := by decide +kernel
theorem dX1_valueFor_2 : decode cX1_valueFor 2 = .ok (.iconst 0, 1) := by decide +kernel
theorem dX1_valueFor_3 : decode cX1_valueFor 3 = .ok (.istore_n 3, 1) := by decide +kernel
theorem dX1_valueFor_4 : decode cX1_valueFor 4 = .ok (.iload_n 3, 1) := by decide +kernel
theorem dX1_valueFor_5 : decode cX1_valueFor 5 = .ok (.aload_n 0, 1) := by decide +kernel
theorem dX1_valueFor_6 : decode cX1_valueFor 6 = .ok (.getfield 18, 3) := by decide +kernel
theorem dX1_valueFor_9 : decode cX1_valueFor 9 = .ok (.if_icmp .ge 187, 3) := by decide +kernel
theorem dX1_valueFor_12 : decode cX1_valueFor 12 = .ok (.aload_n 0, 1) := by decide +kernel
theorem dX1_valueFor_13 : decode cX1_valueFor 13 = .ok (.getfield 9, 3) := by decide +kernel
theorem dX1_valueFor_16 : decode cX1_valueFor 16 = .ok (.iload_n 3, 1) := by decide +kernel
theorem dX1_valueFor_17 : decode cX1_valueFor 17 = .ok (.iaload, 1) := by decide +kernel
theorem dX1_valueFor_18 : decode cX1_valueFor 18 = .ok (.istore 4, 2) := by decide +kernel
theorem dX1_valueFor_20 : decode cX1_valueFor 20 = .ok (.iload 4, 2) := by decide +kernel
theorem dX1_valueFor_22 : decode cX1_valueFor 22 = .ok (.bipush (-6), 2) := by decide +kernel
theorem dX1_valueFor_24 : decode cX1_valueFor 24 = .ok (.if_icmp .lt 37, 3) := by decide +kernel
theorem dX1_valueFor_27 : decode cX1_valueFor 27 = .ok (.iload_n 2, 1) := by decide +kernel
theorem dX1_valueFor_28 : decode cX1_valueFor 28 = .ok (.bipush 32, 2) := by decide +kernel
theorem dX1_valueFor_30 : decode cX1_valueFor 30 = .ok (.if_icmp .ge 160, 3) := by decide +kernel
theorem dX1_valueFor_33 : decode cX1_valueFor 33 = .ok (.aload_n 0, 1) := by decide +kernel
theorem dX1_valueFor_34 : decode cX1_valueFor 34 = .ok (.getfield 15, 3) := by decide +kernel
theorem dX1_valueFor_37 : decode cX1_valueFor 37 = .ok (.iload_n 2, 1) := by decide +kernel
theorem dX1_valueFor_38 : decode cX1_valueFor 38 = .ok (.iload 4, 2) := by decide +kernel
theorem dX1_valueFor_40 : decode cX1_valueFor 40 = .ok (.ifCond .lt 8, 3) := by decide +kernel
theorem dX1_valueFor_43 : decode cX1_valueFor 43 = .ok (.iload 4, 2) := by decide +kernel
theorem dX1_valueFor_45 : decode cX1_valueFor 45 = .ok (.goto 9, 3) := by decide +kernel
theorem dX1_valueFor_48 : decode cX1_valueFor 48 = .ok (.aload_n 1, 1) := by decide +kernel
theorem dX1_valueFor_49 : decode cX1_valueFor 49 = .ok (.iconst (-1), 1) := by decide +kernel
theorem dX1_valueFor_50 : decode cX1_valueFor 50 = .ok (.iload 4, 2) := by decide +kernel
theorem dX1_valueFor_52 : decode cX1_valueFor 52 = .ok (.isub, 1) := by decide +kernel
theorem dX1_valueFor_53 : decode cX1_valueFor 53 = .ok (.iaload, 1) := by decide +kernel
theorem dX1_valueFor_54 : decode cX1_valueFor 54 = .ok (.iastore, 1) := by decide +kernel
theorem dX1_valueFor_55 : decode cX1_valueFor 55 = .ok (.iinc 2 1, 3) := by decide +kernel
theorem dX1_valueFor_58 : decode cX1_valueFor 58 = .ok (.goto 132, 3) := by decide +kernel
theorem dX1_valueFor_61 : decode cX1_valueFor 61 = .ok (.iload_n 2, 1) := by decide +kernel
theorem dX1_valueFor_62 : decode cX1_valueFor 62 = .ok (.iconst 1, 1) := by decide +kernel
theorem dX1_valueFor_63 : decode cX1_valueFor 63 = .ok (.if_icmp .ge 5, 3) := by decide +kernel
theorem dX1_valueFor_66 : decode cX1_valueFor 66 = .ok (.iconst 0, 1) := by decide +kernel
theorem dX1_valueFor_67 : decode cX1_valueFor 67 = .ok (.ireturn, 1) := by decide +kernel
theorem dX1_valueFor_68 : decode cX1_valueFor 68 = .ok (.iload 4, 2) := by decide +kernel
theorem dX1_valueFor_70 : decode cX1_valueFor 70 = .ok (.sipush (-1000), 3) := by decide +kernel
theorem dX1_valueFor_73 : decode cX1_valueFor 73 = .ok (.if_icmp .gt 37, 3) := by decide +kernel
theorem dX1_valueFor_76 : decode cX1_valueFor 76 = .ok (.iinc 2 (-1), 3) := by decide +kernel
theorem dX1_valueFor_79 : decode cX1_valueFor 79 = .ok (.aload_n 0, 1) := by decide +kernel
theorem dX1_valueFor_80 : decode cX1_valueFor 80 = .ok (.getfield 15, 3) := by decide +kernel
theorem dX1_valueFor_83 : decode cX1_valueFor 83 = .ok (.iload_n 2, 1) := by decide +kernel
theorem dX1_valueFor_84 : decode cX1_valueFor 84 = .ok (.iaload, 1) := by decide +kernel
theorem dX1_valueFor_85 : decode cX1_valueFor 85 = .ok (.ifCond .ne 105, 3) := by decide +kernel
theorem dX1_valueFor_88 : decode cX1_valueFor 88 = .ok (.sipush (-1000), 3) := by decide +kernel
theorem dX1_valueFor_91 : decode cX1_valueFor 91 = .ok (.iload 4, 2) := by decide +kernel
theorem dX1_valueFor_93 : decode cX1_valueFor 93 = .ok (.isub, 1) := by decide +kernel
theorem dX1_valueFor_94 : decode cX1_valueFor 94 = .ok (.iload_n 3, 1) := by decide +kernel
theorem dX1_valueFor_95 : decode cX1_valueFor 95 = .ok (.if_icmp .le 95, 3) := by decide +kernel
theorem dX1_valueFor_98 : decode cX1_valueFor 98 = .ok (.sipush (-1000), 3) := by decide +kernel
theorem dX1_valueFor_101 : decode cX1_valueFor 101 = .ok (.iload 4, 2) := by decide +kernel
theorem dX1_valueFor_103 : decode cX1_valueFor 103 = .ok (.isub, 1) := by decide +kernel
theorem dX1_valueFor_104 : decode cX1_valueFor 104 = .ok (.iconst 1, 1) := by decide +kernel
theorem dX1_valueFor_105 : decode cX1_valueFor 105 = .ok (.isub, 1) := by decide +kernel
theorem dX1_valueFor_106 : decode cX1_valueFor 106 = .ok (.istore_n 3, 1) := by decide +kernel
theorem dX1_valueFor_107 : decode cX1_valueFor 107 = .ok (.goto 83, 3) := by decide +kernel
theorem dX1_valueFor_110 : decode cX1_valueFor 110 = .ok (.iload 4, 2) := by decide +kernel
theorem dX1_valueFor_112 : decode cX1_valueFor 112 = .ok (.bipush (-59), 2) := by decide +kernel
theorem dX1_valueFor_114 : decode cX1_valueFor 114 = .ok (.if_icmp .ne 12, 3) := by decide +kernel
theorem dX1_valueFor_117 : decode cX1_valueFor 117 = .ok (.aload_n 0, 1) := by decide +kernel
theorem dX1_valueFor_118 : decode cX1_valueFor 118 = .ok (.getfield 15, 3) := by decide +kernel
theorem dX1_valueFor_121 : decode cX1_valueFor 121 = .ok (.iload_n 2, 1) := by decide +kernel
theorem dX1_valueFor_122 : decode cX1_valueFor 122 = .ok (.iconst 1, 1) := by decide +kernel
theorem dX1_valueFor_123 : decode cX1_valueFor 123 = .ok (.isub, 1) := by decide +kernel
theorem dX1_valueFor_124 : decode cX1_valueFor 124 = .ok (.iaload, 1) := by decide +kernel
theorem dX1_valueFor_125 : decode cX1_valueFor 125 = .ok (.ireturn, 1) := by decide +kernel
theorem dX1_valueFor_126 : decode cX1_valueFor 126 = .ok (.iload 4, 2) := by decide +kernel
theorem dX1_valueFor_128 : decode cX1_valueFor 128 = .ok (.bipush (-33), 2) := by decide +kernel
theorem dX1_valueFor_130 : decode cX1_valueFor 130 = .ok (.if_icmp .ne 24, 3) := by decide +kernel
theorem dX1_valueFor_133 : decode cX1_valueFor 133 = .ok (.aload_n 0, 1) := by decide +kernel
theorem dX1_valueFor_134 : decode cX1_valueFor 134 = .ok (.getfield 15, 3) := by decide +kernel
theorem dX1_valueFor_137 : decode cX1_valueFor 137 = .ok (.iload_n 2, 1) := by decide +kernel
theorem dX1_valueFor_138 : decode cX1_valueFor 138 = .ok (.iconst 1, 1) := by decide +kernel
theorem dX1_valueFor_139 : decode cX1_valueFor 139 = .ok (.isub, 1) := by decide +kernel
theorem dX1_valueFor_140 : decode cX1_valueFor 140 = .ok (.iconst 1, 1) := by decide +kernel
theorem dX1_valueFor_141 : decode cX1_valueFor 141 = .ok (.aload_n 0, 1) := by decide +kernel
theorem dX1_valueFor_142 : decode cX1_valueFor 142 = .ok (.getfield 15, 3) := by decide +kernel
theorem dX1_valueFor_145 : decode cX1_valueFor 145 = .ok (.iload_n 2, 1) := by decide +kernel
theorem dX1_valueFor_146 : decode cX1_valueFor 146 = .ok (.iconst 1, 1) := by decide +kernel
theorem dX1_valueFor_147 : decode cX1_valueFor 147 = .ok (.isub, 1) := by decide +kernel
theorem dX1_valueFor_148 : decode cX1_valueFor 148 = .ok (.iaload, 1) := by decide +kernel
theorem dX1_valueFor_149 : decode cX1_valueFor 149 = .ok (.isub, 1) := by decide +kernel
theorem dX1_valueFor_150 : decode cX1_valueFor 150 = .ok (.iastore, 1) := by decide +kernel
theorem dX1_valueFor_151 : decode cX1_valueFor 151 = .ok (.goto 39, 3) := by decide +kernel
theorem dX1_valueFor_154 : decode cX1_valueFor 154 = .ok (.iload_n 2, 1) := by decide +kernel
theorem dX1_valueFor_155 : decode cX1_valueFor 155 = .ok (.iconst 1, 1) := by decide +kernel
theorem dX1_valueFor_156 : decode cX1_valueFor 156 = .ok (.if_icmp .le 34, 3) := by decide +kernel
theorem dX1_valueFor_159 : decode cX1_valueFor 159 = .ok (.iinc 2 (-1), 3) := by decide +kernel
theorem dX1_valueFor_162 : decode cX1_valueFor 162 = .ok (.aload_n 0, 1) := by decide +kernel
theorem dX1_valueFor_163 : decode cX1_valueFor 163 = .ok (.getfield 15, 3) := by decide +kernel
theorem dX1_valueFor_166 : decode cX1_valueFor 166 = .ok (.iload_n 2, 1) := by decide +kernel
theorem dX1_valueFor_167 : decode cX1_valueFor 167 = .ok (.iconst 1, 1) := by decide +kernel
theorem dX1_valueFor_168 : decode cX1_valueFor 168 = .ok (.isub, 1) := by decide +kernel
theorem dX1_valueFor_169 : decode cX1_valueFor 169 = .ok (.iload 4, 2) := by decide +kernel
theorem dX1_valueFor_171 : decode cX1_valueFor 171 = .ok (.ineg, 1) := by decide +kernel
theorem dX1_valueFor_172 : decode cX1_valueFor 172 = .ok (.aload_n 0, 1) := by decide +kernel
theorem dX1_valueFor_173 : decode cX1_valueFor 173 = .ok (.getfield 15, 3) := by decide +kernel
theorem dX1_valueFor_176 : decode cX1_valueFor 176 = .ok (.iload_n 2, 1) := by decide +kernel
theorem dX1_valueFor_177 : decode cX1_valueFor 177 = .ok (.iconst 1, 1) := by decide +kernel
theorem dX1_valueFor_178 : decode cX1_valueFor 178 = .ok (.isub, 1) := by decide +kernel
theorem dX1_valueFor_179 : decode cX1_valueFor 179 = .ok (.iaload, 1) := by decide +kernel
theorem dX1_valueFor_180 : decode cX1_valueFor 180 = .ok (.aload_n 0, 1) := by decide +kernel
theorem dX1_valueFor_181 : decode cX1_valueFor 181 = .ok (.getfield 15, 3) := by decide +kernel
theorem dX1_valueFor_184 : decode cX1_valueFor 184 = .ok (.iload_n 2, 1) := by decide +kernel
theorem dX1_valueFor_185 : decode cX1_valueFor 185 = .ok (.iaload, 1) := by decide +kernel
theorem dX1_valueFor_186 : decode cX1_valueFor 186 = .ok (.invokestatic 28, 3) := by decide +kernel
theorem dX1_valueFor_189 : decode cX1_valueFor 189 = .ok (.iastore, 1) := by decide +kernel
theorem dX1_valueFor_190 : decode cX1_valueFor 190 = .ok (.iinc 3 1, 3) := by decide +kernel
theorem dX1_valueFor_193 : decode cX1_valueFor 193 = .ok (.goto (-189), 3) := by decide +kernel
theorem dX1_valueFor_196 : decode cX1_valueFor 196 = .ok (.iconst 0, 1) := by decide +kernel
theorem dX1_valueFor_197 : decode cX1_valueFor 197 = .ok (.ireturn, 1) := by decide +kernel
theorem dX1_joined_0 : decode cX1_joined 0 = .ok (.iload_n 0, 1) := by decide +kernel
theorem dX1_joined_1 : decode cX1_joined 1 = .ok (.lookupswitch 112 #[(38, 92), (47, 100), (60, 70), (61, 59), (62, 81), (124, 96)], 59) := by decide +kernel
theorem dX1_joined_60 : decode cX1_joined 60 = .ok (.iload_n 1, 1) := by decide +kernel
theorem dX1_joined_61 : decode cX1_joined 61 = .ok (.iload_n 2, 1) := by decide +kernel
theorem dX1_joined_62 : decode cX1_joined 62 = .ok (.if_icmp .ne 7, 3) := by decide +kernel
theorem dX1_joined_65 : decode cX1_joined 65 = .ok (.iconst 1, 1) := by decide +kernel
theorem dX1_joined_66 : decode cX1_joined 66 = .ok (.goto 4, 3) := by decide +kernel
theorem dX1_joined_69 : decode cX1_joined 69 = .ok (.iconst 0, 1) := by decide +kernel
theorem dX1_joined_70 : decode cX1_joined 70 = .ok (.ireturn, 1) := by decide +kernel
theorem dX1_joined_71 : decode cX1_joined 71 = .ok (.iload_n 1, 1) := by decide +kernel
theorem dX1_joined_72 : decode cX1_joined 72 = .ok (.iload_n 2, 1) := by decide +kernel
theorem dX1_joined_73 : decode cX1_joined 73 = .ok (.if_icmp .ge 7, 3) := by decide +kernel
theorem dX1_joined_76 : decode cX1_joined 76 = .ok (.iconst 1, 1) := by decide +kernel
theorem dX1_joined_77 : decode cX1_joined 77 = .ok (.goto 4, 3) := by decide +kernel
theorem dX1_joined_80 : decode cX1_joined 80 = .ok (.iconst 0, 1) := by decide +kernel
theorem dX1_joined_81 : decode cX1_joined 81 = .ok (.ireturn, 1) := by decide +kernel
theorem dX1_joined_82 : decode cX1_joined 82 = .ok (.iload_n 1, 1) := by decide +kernel
theorem dX1_joined_83 : decode cX1_joined 83 = .ok (.iload_n 2, 1) := by decide +kernel
theorem dX1_joined_84 : decode cX1_joined 84 = .ok (.if_icmp .le 7, 3) := by decide +kernel
theorem dX1_joined_87 : decode cX1_joined 87 = .ok (.iconst 1, 1) := by decide +kernel
theorem dX1_joined_88 : decode cX1_joined 88 = .ok (.goto 4, 3) := by decide +kernel
theorem dX1_joined_91 : decode cX1_joined 91 = .ok (.iconst 0, 1) := by decide +kernel
theorem dX1_joined_92 : decode cX1_joined 92 = .ok (.ireturn, 1) := by decide +kernel
theorem dX1_joined_93 : decode cX1_joined 93 = .ok (.iload_n 1, 1) := by decide +kernel
theorem dX1_joined_94 : decode cX1_joined 94 = .ok (.iload_n 2, 1) := by decide +kernel
theorem dX1_joined_95 : decode cX1_joined 95 = .ok (.iand, 1) := by decide +kernel
theorem dX1_joined_96 : decode cX1_joined 96 = .ok (.ireturn, 1) := by decide +kernel
theorem dX1_joined_97 : decode cX1_joined 97 = .ok (.iload_n 1, 1) := by decide +kernel
theorem dX1_joined_98 : decode cX1_joined 98 = .ok (.iload_n 2, 1) := by decide +kernel
theorem dX1_joined_99 : decode cX1_joined 99 = .ok (.ior, 1) := by decide +kernel
theorem dX1_joined_100 : decode cX1_joined 100 = .ok (.ireturn, 1) := by decide +kernel
theorem dX1_joined_101 : decode cX1_joined 101 = .ok (.iload_n 2, 1) := by decide +kernel
theorem dX1_joined_102 : decode cX1_joined 102 = .ok (.ifCond .ne 7, 3) := by decide +kernel
theorem dX1_joined_105 : decode cX1_joined 105 = .ok (.iconst 0, 1) := by decide +kernel
theorem dX1_joined_106 : decode cX1_joined 106 = .ok (.goto 6, 3) := by decide +kernel
theorem dX1_joined_109 : decode cX1_joined 109 = .ok (.iload_n 1, 1) := by decide +kernel
theorem dX1_joined_110 : decode cX1_joined 110 = .ok (.iload_n 2, 1) := by decide +kernel
theorem dX1_joined_111 : decode cX1_joined 111 = .ok (.idiv, 1) := by decide +kernel
theorem dX1_joined_112 : decode cX1_joined 112 = .ok (.ireturn, 1) := by decide +kernel
theorem dX1_joined_113 : decode cX1_joined 113 = .ok (.iload_n 0, 1) := by decide +kernel
theorem dX1_joined_114 : decode cX1_joined 114 = .ok (.iload_n 1, 1) := by decide +kernel
theorem dX1_joined_115 : decode cX1_joined 115 = .ok (.i2l, 1) := by decide +kernel
theorem dX1_joined_116 : decode cX1_joined 116 = .ok (.iload_n 2, 1) := by decide +kernel
theorem dX1_joined_117 : decode cX1_joined 117 = .ok (.i2l, 1) := by decide +kernel
theorem dX1_joined_118 : decode cX1_joined 118 = .ok (.invokestatic 32, 3) := by decide +kernel
theorem dX1_joined_121 : decode cX1_joined 121 = .ok (.ireturn, 1) := by decide +kernel
theorem dX1_reckoned_0 : decode cX1_reckoned 0 = .ok (.lload_n 1, 1) := by decide +kernel
theorem dX1_reckoned_1 : decode cX1_reckoned 1 = .ok (.lload_n 3, 1) := by decide +kernel
theorem dX1_reckoned_2 : decode cX1_reckoned 2 = .ok (.lmul, 1) := by decide +kernel
theorem dX1_reckoned_3 : decode cX1_reckoned 3 = .ok (.lstore 5, 2) := by decide +kernel
theorem dX1_reckoned_5 : decode cX1_reckoned 5 = .ok (.iload_n 0, 1) := by decide +kernel
theorem dX1_reckoned_6 : decode cX1_reckoned 6 = .ok (.bipush 43, 2) := by decide +kernel
theorem dX1_reckoned_8 : decode cX1_reckoned 8 = .ok (.if_icmp .ne 11, 3) := by decide +kernel
theorem dX1_reckoned_11 : decode cX1_reckoned 11 = .ok (.lload_n 1, 1) := by decide +kernel
theorem dX1_reckoned_12 : decode cX1_reckoned 12 = .ok (.lload_n 3, 1) := by decide +kernel
theorem dX1_reckoned_13 : decode cX1_reckoned 13 = .ok (.ladd, 1) := by decide +kernel
theorem dX1_reckoned_14 : decode cX1_reckoned 14 = .ok (.lstore 5, 2) := by decide +kernel
theorem dX1_reckoned_16 : decode cX1_reckoned 16 = .ok (.goto 14, 3) := by decide +kernel
theorem dX1_reckoned_19 : decode cX1_reckoned 19 = .ok (.iload_n 0, 1) := by decide +kernel
theorem dX1_reckoned_20 : decode cX1_reckoned 20 = .ok (.bipush 45, 2) := by decide +kernel
theorem dX1_reckoned_22 : decode cX1_reckoned 22 = .ok (.if_icmp .ne 8, 3) := by decide +kernel
theorem dX1_reckoned_25 : decode cX1_reckoned 25 = .ok (.lload_n 1, 1) := by decide +kernel
theorem dX1_reckoned_26 : decode cX1_reckoned 26 = .ok (.lload_n 3, 1) := by decide +kernel
theorem dX1_reckoned_27 : decode cX1_reckoned 27 = .ok (.lsub, 1) := by decide +kernel
theorem dX1_reckoned_28 : decode cX1_reckoned 28 = .ok (.lstore 5, 2) := by decide +kernel
theorem dX1_reckoned_30 : decode cX1_reckoned 30 = .ok (.lload 5, 2) := by decide +kernel
theorem dX1_reckoned_32 : decode cX1_reckoned 32 = .ok (.ldc2_w 36, 3) := by decide +kernel
theorem dX1_reckoned_35 : decode cX1_reckoned 35 = .ok (.lcmp, 1) := by decide +kernel
theorem dX1_reckoned_36 : decode cX1_reckoned 36 = .ok (.ifCond .le 6, 3) := by decide +kernel
theorem dX1_reckoned_39 : decode cX1_reckoned 39 = .ok (.ldc 38, 2) := by decide +kernel
theorem dX1_reckoned_41 : decode cX1_reckoned 41 = .ok (.ireturn, 1) := by decide +kernel
theorem dX1_reckoned_42 : decode cX1_reckoned 42 = .ok (.lload 5, 2) := by decide +kernel
theorem dX1_reckoned_44 : decode cX1_reckoned 44 = .ok (.ldc2_w 39, 3) := by decide +kernel
theorem dX1_reckoned_47 : decode cX1_reckoned 47 = .ok (.lcmp, 1) := by decide +kernel
theorem dX1_reckoned_48 : decode cX1_reckoned 48 = .ok (.ifCond .ge 8, 3) := by decide +kernel
theorem dX1_reckoned_51 : decode cX1_reckoned 51 = .ok (.ldc 41, 2) := by decide +kernel
theorem dX1_reckoned_53 : decode cX1_reckoned 53 = .ok (.goto 6, 3) := by decide +kernel
theorem dX1_reckoned_56 : decode cX1_reckoned 56 = .ok (.lload 5, 2) := by decide +kernel
theorem dX1_reckoned_58 : decode cX1_reckoned 58 = .ok (.l2i, 1) := by decide +kernel
theorem dX1_reckoned_59 : decode cX1_reckoned 59 = .ok (.ireturn, 1) := by decide +kernel
theorem dX4_empty_0 : decode cX4_empty 0 = .ok (.aload_n 0, 1) := by decide +kernel
theorem dX4_empty_1 : decode cX4_empty 1 = .ok (.iconst 0, 1) := by decide +kernel
theorem dX4_empty_2 : decode cX4_empty 2 = .ok (.putfield 18, 3) := by decide +kernel
theorem dX4_empty_5 : decode cX4_empty 5 = .ok (.aload_n 0, 1) := by decide +kernel
theorem dX4_empty_6 : decode cX4_empty 6 = .ok (.iconst 0, 1) := by decide +kernel
theorem dX4_empty_7 : decode cX4_empty 7 = .ok (.putfield 22, 3) := by decide +kernel
theorem dX4_empty_10 : decode cX4_empty 10 = .ok (.return_, 1) := by decide +kernel
theorem dX4_addStretch_0 : decode cX4_addStretch 0 = .ok (.aload_n 0, 1) := by decide +kernel
theorem dX4_addStretch_1 : decode cX4_addStretch 1 = .ok (.dup, 1) := by decide +kernel
theorem dX4_addStretch_2 : decode cX4_addStretch 2 = .ok (.getfield 18, 3) := by decide +kernel
theorem dX4_addStretch_5 : decode cX4_addStretch 5 = .ok (.iconst 1, 1) := by decide +kernel
theorem dX4_addStretch_6 : decode cX4_addStretch 6 = .ok (.iadd, 1) := by decide +kernel
theorem dX4_addStretch_7 : decode cX4_addStretch 7 = .ok (.putfield 18, 3) := by decide +kernel
theorem dX4_addStretch_10 : decode cX4_addStretch 10 = .ok (.iconst 1, 1) := by decide +kernel
theorem dX4_addStretch_11 : decode cX4_addStretch 11 = .ok (.aload_n 0, 1) := by decide +kernel
theorem dX4_addStretch_12 : decode cX4_addStretch 12 = .ok (.getfield 18, 3) := by decide +kernel
theorem dX4_addStretch_15 : decode cX4_addStretch 15 = .ok (.iadd, 1) := by decide +kernel
theorem dX4_addStretch_16 : decode cX4_addStretch 16 = .ok (.iconst 1, 1) := by decide +kernel
theorem dX4_addStretch_17 : decode cX4_addStretch 17 = .ok (.isub, 1) := by decide +kernel
theorem dX4_addStretch_18 : decode cX4_addStretch 18 = .ok (.ireturn, 1) := by decide +kernel
theorem dX4_addHouse_0 : decode cX4_addHouse 0 = .ok (.aload_n 0, 1) := by decide +kernel
theorem dX4_addHouse_1 : decode cX4_addHouse 1 = .ok (.dup, 1) := by decide +kernel
theorem dX4_addHouse_2 : decode cX4_addHouse 2 = .ok (.getfield 22, 3) := by decide +kernel
theorem dX4_addHouse_5 : decode cX4_addHouse 5 = .ok (.iconst 1, 1) := by decide +kernel
theorem dX4_addHouse_6 : decode cX4_addHouse 6 = .ok (.iadd, 1) := by decide +kernel
theorem dX4_addHouse_7 : decode cX4_addHouse 7 = .ok (.putfield 22, 3) := by decide +kernel
theorem dX4_addHouse_10 : decode cX4_addHouse 10 = .ok (.bipush 10, 2) := by decide +kernel
theorem dX4_addHouse_12 : decode cX4_addHouse 12 = .ok (.aload_n 0, 1) := by decide +kernel
theorem dX4_addHouse_13 : decode cX4_addHouse 13 = .ok (.getfield 22, 3) := by decide +kernel
theorem dX4_addHouse_16 : decode cX4_addHouse 16 = .ok (.iadd, 1) := by decide +kernel
theorem dX4_addHouse_17 : decode cX4_addHouse 17 = .ok (.iconst 1, 1) := by decide +kernel
theorem dX4_addHouse_18 : decode cX4_addHouse 18 = .ok (.isub, 1) := by decide +kernel
theorem dX4_addHouse_19 : decode cX4_addHouse 19 = .ok (.ireturn, 1) := by decide +kernel
theorem dX4_set_0 : decode cX4_set 0 = .ok (.iload_n 1, 1) := by decide +kernel
theorem dX4_set_1 : decode cX4_set 1 = .ok (.ifCond .lt 29, 3) := by decide +kernel
theorem dX4_set_4 : decode cX4_set 4 = .ok (.iload_n 1, 1) := by decide +kernel
theorem dX4_set_5 : decode cX4_set 5 = .ok (.bipush 16, 2) := by decide +kernel
theorem dX4_set_7 : decode cX4_set 7 = .ok (.if_icmp .ge 23, 3) := by decide +kernel
theorem dX4_set_10 : decode cX4_set 10 = .ok (.iload_n 2, 1) := by decide +kernel
theorem dX4_set_11 : decode cX4_set 11 = .ok (.ifCond .lt 19, 3) := by decide +kernel
theorem dX4_set_14 : decode cX4_set 14 = .ok (.iload_n 2, 1) := by decide +kernel
theorem dX4_set_15 : decode cX4_set 15 = .ok (.iconst 5, 1) := by decide +kernel
theorem dX4_set_16 : decode cX4_set 16 = .ok (.if_icmp .ge 14, 3) := by decide +kernel
theorem dX4_set_19 : decode cX4_set 19 = .ok (.aload_n 0, 1) := by decide +kernel
theorem dX4_set_20 : decode cX4_set 20 = .ok (.getfield 11, 3) := by decide +kernel
theorem dX4_set_23 : decode cX4_set 23 = .ok (.iload_n 1, 1) := by decide +kernel
theorem dX4_set_24 : decode cX4_set 24 = .ok (.iconst 5, 1) := by decide +kernel
theorem dX4_set_25 : decode cX4_set 25 = .ok (.imul, 1) := by decide +kernel
theorem dX4_set_26 : decode cX4_set 26 = .ok (.iload_n 2, 1) := by decide +kernel
theorem dX4_set_27 : decode cX4_set 27 = .ok (.iadd, 1) := by decide +kernel
theorem dX4_set_28 : decode cX4_set 28 = .ok (.iload_n 3, 1) := by decide +kernel
theorem dX4_set_29 : decode cX4_set 29 = .ok (.iastore, 1) := by decide +kernel
theorem dX4_set_30 : decode cX4_set 30 = .ok (.return_, 1) := by decide +kernel
theorem dX4_take_0 : decode cX4_take 0 = .ok (.aload_n 1, 1) := by decide +kernel
theorem dX4_take_1 : decode cX4_take 1 = .ok (.getfield 11, 3) := by decide +kernel
theorem dX4_take_4 : decode cX4_take 4 = .ok (.iconst 0, 1) := by decide +kernel
theorem dX4_take_5 : decode cX4_take 5 = .ok (.aload_n 0, 1) := by decide +kernel
theorem dX4_take_6 : decode cX4_take 6 = .ok (.getfield 11, 3) := by decide +kernel
theorem dX4_take_9 : decode cX4_take 9 = .ok (.iconst 0, 1) := by decide +kernel
theorem dX4_take_10 : decode cX4_take 10 = .ok (.aload_n 0, 1) := by decide +kernel
theorem dX4_take_11 : decode cX4_take 11 = .ok (.getfield 11, 3) := by decide +kernel
theorem dX4_take_14 : decode cX4_take 14 = .ok (.arraylength, 1) := by decide +kernel
theorem dX4_take_15 : decode cX4_take 15 = .ok (.invokestatic 25, 3) := by decide +kernel
theorem dX4_take_18 : decode cX4_take 18 = .ok (.aload_n 0, 1) := by decide +kernel
theorem dX4_take_19 : decode cX4_take 19 = .ok (.aload_n 1, 1) := by decide +kernel
theorem dX4_take_20 : decode cX4_take 20 = .ok (.getfield 18, 3) := by decide +kernel
theorem dX4_take_23 : decode cX4_take 23 = .ok (.putfield 18, 3) := by decide +kernel
theorem dX4_take_26 : decode cX4_take 26 = .ok (.aload_n 0, 1) := by decide +kernel
theorem dX4_take_27 : decode cX4_take 27 = .ok (.aload_n 1, 1) := by decide +kernel
theorem dX4_take_28 : decode cX4_take 28 = .ok (.getfield 22, 3) := by decide +kernel
theorem dX4_take_31 : decode cX4_take 31 = .ok (.putfield 22, 3) := by decide +kernel
theorem dX4_take_34 : decode cX4_take 34 = .ok (.aload_n 0, 1) := by decide +kernel
theorem dX4_take_35 : decode cX4_take 35 = .ok (.invokevirtual 31, 3) := by decide +kernel
theorem dX4_take_38 : decode cX4_take 38 = .ok (.return_, 1) := by decide +kernel
theorem dX4_isNone_0 : decode cX4_isNone 0 = .ok (.aload_n 0, 1) := by decide +kernel
theorem dX4_isNone_1 : decode cX4_isNone 1 = .ok (.getfield 18, 3) := by decide +kernel
theorem dX4_isNone_4 : decode cX4_isNone 4 = .ok (.ifCond .ne 7, 3) := by decide +kernel
theorem dX4_isNone_7 : decode cX4_isNone 7 = .ok (.iconst 1, 1) := by decide +kernel
theorem dX4_isNone_8 : decode cX4_isNone 8 = .ok (.goto 4, 3) := by decide +kernel
theorem dX4_isNone_11 : decode cX4_isNone 11 = .ok (.iconst 0, 1) := by decide +kernel
theorem dX4_isNone_12 : decode cX4_isNone 12 = .ok (.ireturn, 1) := by decide +kernel
theorem dX4_hasStretch_0 : decode cX4_hasStretch 0 = .ok (.iload_n 1, 1) := by decide +kernel
theorem dX4_hasStretch_1 : decode cX4_hasStretch 1 = .ok (.ifCond .lt 15, 3) := by decide +kernel
theorem dX4_hasStretch_4 : decode cX4_hasStretch 4 = .ok (.iload_n 1, 1) := by decide +kernel
theorem dX4_hasStretch_5 : decode cX4_hasStretch 5 = .ok (.aload_n 0, 1) := by decide +kernel
theorem dX4_hasStretch_6 : decode cX4_hasStretch 6 = .ok (.getfield 18, 3) := by decide +kernel
theorem dX4_hasStretch_9 : decode cX4_hasStretch 9 = .ok (.if_icmp .ge 7, 3) := by decide +kernel
theorem dX4_hasStretch_12 : decode cX4_hasStretch 12 = .ok (.iconst 1, 1) := by decide +kernel
theorem dX4_hasStretch_13 : decode cX4_hasStretch 13 = .ok (.goto 4, 3) := by decide +kernel
theorem dX4_hasStretch_16 : decode cX4_hasStretch 16 = .ok (.iconst 0, 1) := by decide +kernel
theorem dX4_hasStretch_17 : decode cX4_hasStretch 17 = .ok (.ireturn, 1) := by decide +kernel
theorem dX4_hasHouse_0 : decode cX4_hasHouse 0 = .ok (.iload_n 1, 1) := by decide +kernel
theorem dX4_hasHouse_1 : decode cX4_hasHouse 1 = .ok (.ifCond .lt 15, 3) := by decide +kernel
theorem dX4_hasHouse_4 : decode cX4_hasHouse 4 = .ok (.iload_n 1, 1) := by decide +kernel
theorem dX4_hasHouse_5 : decode cX4_hasHouse 5 = .ok (.aload_n 0, 1) := by decide +kernel
theorem dX4_hasHouse_6 : decode cX4_hasHouse 6 = .ok (.getfield 22, 3) := by decide +kernel
theorem dX4_hasHouse_9 : decode cX4_hasHouse 9 = .ok (.if_icmp .ge 7, 3) := by decide +kernel
theorem dX4_hasHouse_12 : decode cX4_hasHouse 12 = .ok (.iconst 1, 1) := by decide +kernel
theorem dX4_hasHouse_13 : decode cX4_hasHouse 13 = .ok (.goto 4, 3) := by decide +kernel
theorem dX4_hasHouse_16 : decode cX4_hasHouse 16 = .ok (.iconst 0, 1) := by decide +kernel
theorem dX4_hasHouse_17 : decode cX4_hasHouse 17 = .ok (.ireturn, 1) := by decide +kernel
theorem dX4_stretches_0 : decode cX4_stretches 0 = .ok (.aload_n 0, 1) := by decide +kernel
theorem dX4_stretches_1 : decode cX4_stretches 1 = .ok (.getfield 18, 3) := by decide +kernel
theorem dX4_stretches_4 : decode cX4_stretches 4 = .ok (.ireturn, 1) := by decide +kernel
theorem dX4_houses_0 : decode cX4_houses 0 = .ok (.aload_n 0, 1) := by decide +kernel
theorem dX4_houses_1 : decode cX4_houses 1 = .ok (.getfield 22, 3) := by decide +kernel
theorem dX4_houses_4 : decode cX4_houses 4 = .ok (.ireturn, 1) := by decide +kernel
theorem dX4_ofRules_0 : decode cX4_ofRules 0 = .ok (.aload_n 0, 1) := by decide +kernel
theorem dX4_ofRules_1 : decode cX4_ofRules 1 = .ok (.getfield 11, 3) := by decide +kernel
theorem dX4_ofRules_4 : decode cX4_ofRules 4 = .ok (.iload_n 1, 1) := by decide +kernel
theorem dX4_ofRules_5 : decode cX4_ofRules 5 = .ok (.iaload, 1) := by decide +kernel
theorem dX4_ofRules_6 : decode cX4_ofRules 6 = .ok (.ireturn, 1) := by decide +kernel
theorem dX4_ofStretch_0 : decode cX4_ofStretch 0 = .ok (.aload_n 0, 1) := by decide +kernel
theorem dX4_ofStretch_1 : decode cX4_ofStretch 1 = .ok (.getfield 11, 3) := by decide +kernel
theorem dX4_ofStretch_4 : decode cX4_ofStretch 4 = .ok (.iconst 1, 1) := by decide +kernel
theorem dX4_ofStretch_5 : decode cX4_ofStretch 5 = .ok (.iload_n 1, 1) := by decide +kernel
theorem dX4_ofStretch_6 : decode cX4_ofStretch 6 = .ok (.iadd, 1) := by decide +kernel
theorem dX4_ofStretch_7 : decode cX4_ofStretch 7 = .ok (.iconst 5, 1) := by decide +kernel
theorem dX4_ofStretch_8 : decode cX4_ofStretch 8 = .ok (.imul, 1) := by decide +kernel
theorem dX4_ofStretch_9 : decode cX4_ofStretch 9 = .ok (.iload_n 2, 1) := by decide +kernel
theorem dX4_ofStretch_10 : decode cX4_ofStretch 10 = .ok (.iadd, 1) := by decide +kernel
theorem dX4_ofStretch_11 : decode cX4_ofStretch 11 = .ok (.iaload, 1) := by decide +kernel
theorem dX4_ofStretch_12 : decode cX4_ofStretch 12 = .ok (.ireturn, 1) := by decide +kernel
theorem dX4_ofHouse_0 : decode cX4_ofHouse 0 = .ok (.aload_n 0, 1) := by decide +kernel
theorem dX4_ofHouse_1 : decode cX4_ofHouse 1 = .ok (.getfield 11, 3) := by decide +kernel
theorem dX4_ofHouse_4 : decode cX4_ofHouse 4 = .ok (.bipush 10, 2) := by decide +kernel
theorem dX4_ofHouse_6 : decode cX4_ofHouse 6 = .ok (.iload_n 1, 1) := by decide +kernel
theorem dX4_ofHouse_7 : decode cX4_ofHouse 7 = .ok (.iadd, 1) := by decide +kernel
theorem dX4_ofHouse_8 : decode cX4_ofHouse 8 = .ok (.iconst 5, 1) := by decide +kernel
theorem dX4_ofHouse_9 : decode cX4_ofHouse 9 = .ok (.imul, 1) := by decide +kernel
theorem dX4_ofHouse_10 : decode cX4_ofHouse 10 = .ok (.iload_n 2, 1) := by decide +kernel
theorem dX4_ofHouse_11 : decode cX4_ofHouse 11 = .ok (.iadd, 1) := by decide +kernel
theorem dX4_ofHouse_12 : decode cX4_ofHouse 12 = .ok (.iaload, 1) := by decide +kernel
theorem dX4_ofHouse_13 : decode cX4_ofHouse 13 = .ok (.ireturn, 1) := by decide +kernel
theorem dX4_touches_0 : decode cX4_touches 0 = .ok (.aload_n 0, 1) := by decide +kernel
theorem dX4_touches_1 : decode cX4_touches 1 = .ok (.iload_n 1, 1) := by decide +kernel
theorem dX4_touches_2 : decode cX4_touches 2 = .ok (.iconst 0, 1) := by decide +kernel
theorem dX4_touches_3 : decode cX4_touches 3 = .ok (.invokevirtual 34, 3) := by decide +kernel
theorem dX4_touches_6 : decode cX4_touches 6 = .ok (.iload_n 2, 1) := by decide +kernel
theorem dX4_touches_7 : decode cX4_touches 7 = .ok (.if_icmp .eq 13, 3) := by decide +kernel
theorem dX4_touches_10 : decode cX4_touches 10 = .ok (.aload_n 0, 1) := by decide +kernel
theorem dX4_touches_11 : decode cX4_touches 11 = .ok (.iload_n 1, 1) := by decide +kernel
theorem dX4_touches_12 : decode cX4_touches 12 = .ok (.iconst 1, 1) := by decide +kernel
theorem dX4_touches_13 : decode cX4_touches 13 = .ok (.invokevirtual 34, 3) := by decide +kernel
theorem dX4_touches_16 : decode cX4_touches 16 = .ok (.iload_n 2, 1) := by decide +kernel
theorem dX4_touches_17 : decode cX4_touches 17 = .ok (.if_icmp .ne 7, 3) := by decide +kernel
theorem dX4_touches_20 : decode cX4_touches 20 = .ok (.iconst 1, 1) := by decide +kernel
theorem dX4_touches_21 : decode cX4_touches 21 = .ok (.goto 4, 3) := by decide +kernel
theorem dX4_touches_24 : decode cX4_touches 24 = .ok (.iconst 0, 1) := by decide +kernel
theorem dX4_touches_25 : decode cX4_touches 25 = .ok (.ireturn, 1) := by decide +kernel
theorem dX4_hasLoop_0 : decode cX4_hasLoop 0 = .ok (.iconst 0, 1) := by decide +kernel
theorem dX4_hasLoop_1 : decode cX4_hasLoop 1 = .ok (.istore_n 1, 1) := by decide +kernel
theorem dX4_hasLoop_2 : decode cX4_hasLoop 2 = .ok (.iload_n 1, 1) := by decide +kernel
theorem dX4_hasLoop_3 : decode cX4_hasLoop 3 = .ok (.aload_n 0, 1) := by decide +kernel
theorem dX4_hasLoop_4 : decode cX4_hasLoop 4 = .ok (.getfield 18, 3) := by decide +kernel
theorem dX4_hasLoop_7 : decode cX4_hasLoop 7 = .ok (.if_icmp .ge 26, 3) := by decide +kernel
theorem dX4_hasLoop_10 : decode cX4_hasLoop 10 = .ok (.aload_n 0, 1) := by decide +kernel
theorem dX4_hasLoop_11 : decode cX4_hasLoop 11 = .ok (.iload_n 1, 1) := by decide +kernel
theorem dX4_hasLoop_12 : decode cX4_hasLoop 12 = .ok (.iconst 0, 1) := by decide +kernel
theorem dX4_hasLoop_13 : decode cX4_hasLoop 13 = .ok (.invokevirtual 34, 3) := by decide +kernel
theorem dX4_hasLoop_16 : decode cX4_hasLoop 16 = .ok (.aload_n 0, 1) := by decide +kernel
theorem dX4_hasLoop_17 : decode cX4_hasLoop 17 = .ok (.iload_n 1, 1) := by decide +kernel
theorem dX4_hasLoop_18 : decode cX4_hasLoop 18 = .ok (.iconst 1, 1) := by decide +kernel
theorem dX4_hasLoop_19 : decode cX4_hasLoop 19 = .ok (.invokevirtual 34, 3) := by decide +kernel
theorem dX4_hasLoop_22 : decode cX4_hasLoop 22 = .ok (.if_icmp .ne 5, 3) := by decide +kernel
theorem dX4_hasLoop_25 : decode cX4_hasLoop 25 = .ok (.iconst 1, 1) := by decide +kernel
theorem dX4_hasLoop_26 : decode cX4_hasLoop 26 = .ok (.ireturn, 1) := by decide +kernel
theorem dX4_hasLoop_27 : decode cX4_hasLoop 27 = .ok (.iinc 1 1, 3) := by decide +kernel
theorem dX4_hasLoop_30 : decode cX4_hasLoop 30 = .ok (.goto (-28), 3) := by decide +kernel
theorem dX4_hasLoop_33 : decode cX4_hasLoop 33 = .ok (.iconst 0, 1) := by decide +kernel
theorem dX4_hasLoop_34 : decode cX4_hasLoop 34 = .ok (.ireturn, 1) := by decide +kernel
theorem dX4_stepsTo_0 : decode cX4_stepsTo 0 = .ok (.aload_n 0, 1) := by decide +kernel
theorem dX4_stepsTo_1 : decode cX4_stepsTo 1 = .ok (.iload_n 1, 1) := by decide +kernel
theorem dX4_stepsTo_2 : decode cX4_stepsTo 2 = .ok (.iconst 0, 1) := by decide +kernel
theorem dX4_stepsTo_3 : decode cX4_stepsTo 3 = .ok (.invokevirtual 38, 3) := by decide +kernel
theorem dX4_stepsTo_6 : decode cX4_stepsTo 6 = .ok (.bipush 8, 2) := by decide +kernel
theorem dX4_stepsTo_8 : decode cX4_stepsTo 8 = .ok (.imul, 1) := by decide +kernel
theorem dX4_stepsTo_9 : decode cX4_stepsTo 9 = .ok (.istore_n 3, 1) := by decide +kernel
theorem dX4_stepsTo_10 : decode cX4_stepsTo 10 = .ok (.aload_n 0, 1) := by decide +kernel
theorem dX4_stepsTo_11 : decode cX4_stepsTo 11 = .ok (.getfield 15, 3) := by decide +kernel
theorem dX4_stepsTo_14 : decode cX4_stepsTo 14 = .ok (.iload_n 3, 1) := by decide +kernel
theorem dX4_stepsTo_15 : decode cX4_stepsTo 15 = .ok (.aload_n 0, 1) := by decide +kernel
theorem dX4_stepsTo_16 : decode cX4_stepsTo 16 = .ok (.iload_n 2, 1) := by decide +kernel
theorem dX4_stepsTo_17 : decode cX4_stepsTo 17 = .ok (.iconst 0, 1) := by decide +kernel
theorem dX4_stepsTo_18 : decode cX4_stepsTo 18 = .ok (.invokevirtual 34, 3) := by decide +kernel
theorem dX4_stepsTo_21 : decode cX4_stepsTo 21 = .ok (.iadd, 1) := by decide +kernel
theorem dX4_stepsTo_22 : decode cX4_stepsTo 22 = .ok (.iaload, 1) := by decide +kernel
theorem dX4_stepsTo_23 : decode cX4_stepsTo 23 = .ok (.istore 4, 2) := by decide +kernel
theorem dX4_stepsTo_25 : decode cX4_stepsTo 25 = .ok (.aload_n 0, 1) := by decide +kernel
theorem dX4_stepsTo_26 : decode cX4_stepsTo 26 = .ok (.getfield 15, 3) := by decide +kernel
theorem dX4_stepsTo_29 : decode cX4_stepsTo 29 = .ok (.iload_n 3, 1) := by decide +kernel
theorem dX4_stepsTo_30 : decode cX4_stepsTo 30 = .ok (.aload_n 0, 1) := by decide +kernel
theorem dX4_stepsTo_31 : decode cX4_stepsTo 31 = .ok (.iload_n 2, 1) := by decide +kernel
theorem dX4_stepsTo_32 : decode cX4_stepsTo 32 = .ok (.iconst 1, 1) := by decide +kernel
theorem dX4_stepsTo_33 : decode cX4_stepsTo 33 = .ok (.invokevirtual 34, 3) := by decide +kernel
theorem dX4_stepsTo_36 : decode cX4_stepsTo 36 = .ok (.iadd, 1) := by decide +kernel
theorem dX4_stepsTo_37 : decode cX4_stepsTo 37 = .ok (.iaload, 1) := by decide +kernel
theorem dX4_stepsTo_38 : decode cX4_stepsTo 38 = .ok (.istore 5, 2) := by decide +kernel
theorem dX4_stepsTo_40 : decode cX4_stepsTo 40 = .ok (.iload 4, 2) := by decide +kernel
theorem dX4_stepsTo_42 : decode cX4_stepsTo 42 = .ok (.iload 5, 2) := by decide +kernel
theorem dX4_stepsTo_44 : decode cX4_stepsTo 44 = .ok (.if_icmp .ge 8, 3) := by decide +kernel
theorem dX4_stepsTo_47 : decode cX4_stepsTo 47 = .ok (.iload 4, 2) := by decide +kernel
theorem dX4_stepsTo_49 : decode cX4_stepsTo 49 = .ok (.goto 5, 3) := by decide +kernel
theorem dX4_stepsTo_52 : decode cX4_stepsTo 52 = .ok (.iload 5, 2) := by decide +kernel
theorem dX4_stepsTo_54 : decode cX4_stepsTo 54 = .ok (.istore 6, 2) := by decide +kernel
theorem dX4_stepsTo_56 : decode cX4_stepsTo 56 = .ok (.iload 6, 2) := by decide +kernel
theorem dX4_stepsTo_58 : decode cX4_stepsTo 58 = .ok (.sipush 1000, 3) := by decide +kernel
theorem dX4_stepsTo_61 : decode cX4_stepsTo 61 = .ok (.if_icmp .lt 7, 3) := by decide +kernel
theorem dX4_stepsTo_64 : decode cX4_stepsTo 64 = .ok (.iconst (-1), 1) := by decide +kernel
theorem dX4_stepsTo_65 : decode cX4_stepsTo 65 = .ok (.goto 5, 3) := by decide +kernel
theorem dX4_stepsTo_68 : decode cX4_stepsTo 68 = .ok (.iload 6, 2) := by decide +kernel
theorem dX4_stepsTo_70 : decode cX4_stepsTo 70 = .ok (.ireturn, 1) := by decide +kernel
theorem dX4_measure_0 : decode cX4_measure 0 = .ok (.aload_n 0, 1) := by decide +kernel
theorem dX4_measure_1 : decode cX4_measure 1 = .ok (.getfield 15, 3) := by decide +kernel
theorem dX4_measure_4 : decode cX4_measure 4 = .ok (.sipush 1000, 3) := by decide +kernel
theorem dX4_measure_7 : decode cX4_measure 7 = .ok (.invokestatic 41, 3) := by decide +kernel
theorem dX4_measure_10 : decode cX4_measure 10 = .ok (.iconst 0, 1) := by decide +kernel
theorem dX4_measure_11 : decode cX4_measure 11 = .ok (.istore_n 1, 1) := by decide +kernel
theorem dX4_measure_12 : decode cX4_measure 12 = .ok (.iload_n 1, 1) := by decide +kernel
theorem dX4_measure_13 : decode cX4_measure 13 = .ok (.bipush 8, 2) := by decide +kernel
theorem dX4_measure_15 : decode cX4_measure 15 = .ok (.if_icmp .ge 21, 3) := by decide +kernel
theorem dX4_measure_18 : decode cX4_measure 18 = .ok (.aload_n 0, 1) := by decide +kernel
theorem dX4_measure_19 : decode cX4_measure 19 = .ok (.getfield 15, 3) := by decide +kernel
theorem dX4_measure_22 : decode cX4_measure 22 = .ok (.iload_n 1, 1) := by decide +kernel
theorem dX4_measure_23 : decode cX4_measure 23 = .ok (.bipush 8, 2) := by decide +kernel
theorem dX4_measure_25 : decode cX4_measure 25 = .ok (.imul, 1) := by decide +kernel
theorem dX4_measure_26 : decode cX4_measure 26 = .ok (.iload_n 1, 1) := by decide +kernel
theorem dX4_measure_27 : decode cX4_measure 27 = .ok (.iadd, 1) := by decide +kernel
theorem dX4_measure_28 : decode cX4_measure 28 = .ok (.iconst 0, 1) := by decide +kernel
theorem dX4_measure_29 : decode cX4_measure 29 = .ok (.iastore, 1) := by decide +kernel
theorem dX4_measure_30 : decode cX4_measure 30 = .ok (.iinc 1 1, 3) := by decide +kernel
theorem dX4_measure_33 : decode cX4_measure 33 = .ok (.goto (-21), 3) := by decide +kernel
theorem dX4_measure_36 : decode cX4_measure 36 = .ok (.iconst 0, 1) := by decide +kernel
theorem dX4_measure_37 : decode cX4_measure 37 = .ok (.istore_n 1, 1) := by decide +kernel
theorem dX4_measure_38 : decode cX4_measure 38 = .ok (.iload_n 1, 1) := by decide +kernel
theorem dX4_measure_39 : decode cX4_measure 39 = .ok (.aload_n 0, 1) := by decide +kernel
theorem dX4_measure_40 : decode cX4_measure 40 = .ok (.getfield 18, 3) := by decide +kernel
theorem dX4_measure_43 : decode cX4_measure 43 = .ok (.if_icmp .ge 47, 3) := by decide +kernel
theorem dX4_measure_46 : decode cX4_measure 46 = .ok (.aload_n 0, 1) := by decide +kernel
theorem dX4_measure_47 : decode cX4_measure 47 = .ok (.iload_n 1, 1) := by decide +kernel
theorem dX4_measure_48 : decode cX4_measure 48 = .ok (.iconst 0, 1) := by decide +kernel
theorem dX4_measure_49 : decode cX4_measure 49 = .ok (.invokevirtual 34, 3) := by decide +kernel
theorem dX4_measure_52 : decode cX4_measure 52 = .ok (.istore_n 2, 1) := by decide +kernel
theorem dX4_measure_53 : decode cX4_measure 53 = .ok (.aload_n 0, 1) := by decide +kernel
theorem dX4_measure_54 : decode cX4_measure 54 = .ok (.iload_n 1, 1) := by decide +kernel
theorem dX4_measure_55 : decode cX4_measure 55 = .ok (.iconst 1, 1) := by decide +kernel
theorem dX4_measure_56 : decode cX4_measure 56 = .ok (.invokevirtual 34, 3) := by decide +kernel
theorem dX4_measure_59 : decode cX4_measure 59 = .ok (.istore_n 3, 1) := by decide +kernel
theorem dX4_measure_60 : decode cX4_measure 60 = .ok (.aload_n 0, 1) := by decide +kernel
theorem dX4_measure_61 : decode cX4_measure 61 = .ok (.getfield 15, 3) := by decide +kernel
theorem dX4_measure_64 : decode cX4_measure 64 = .ok (.iload_n 2, 1) := by decide +kernel
theorem dX4_measure_65 : decode cX4_measure 65 = .ok (.bipush 8, 2) := by decide +kernel
theorem dX4_measure_67 : decode cX4_measure 67 = .ok (.imul, 1) := by decide +kernel
theorem dX4_measure_68 : decode cX4_measure 68 = .ok (.iload_n 3, 1) := by decide +kernel
theorem dX4_measure_69 : decode cX4_measure 69 = .ok (.iadd, 1) := by decide +kernel
theorem dX4_measure_70 : decode cX4_measure 70 = .ok (.iconst 1, 1) := by decide +kernel
theorem dX4_measure_71 : decode cX4_measure 71 = .ok (.iastore, 1) := by decide +kernel
theorem dX4_measure_72 : decode cX4_measure 72 = .ok (.aload_n 0, 1) := by decide +kernel
theorem dX4_measure_73 : decode cX4_measure 73 = .ok (.getfield 15, 3) := by decide +kernel
theorem dX4_measure_76 : decode cX4_measure 76 = .ok (.iload_n 3, 1) := by decide +kernel
theorem dX4_measure_77 : decode cX4_measure 77 = .ok (.bipush 8, 2) := by decide +kernel
theorem dX4_measure_79 : decode cX4_measure 79 = .ok (.imul, 1) := by decide +kernel
theorem dX4_measure_80 : decode cX4_measure 80 = .ok (.iload_n 2, 1) := by decide +kernel
theorem dX4_measure_81 : decode cX4_measure 81 = .ok (.iadd, 1) := by decide +kernel
theorem dX4_measure_82 : decode cX4_measure 82 = .ok (.iconst 1, 1) := by decide +kernel
theorem dX4_measure_83 : decode cX4_measure 83 = .ok (.iastore, 1) := by decide +kernel
theorem dX4_measure_84 : decode cX4_measure 84 = .ok (.iinc 1 1, 3) := by decide +kernel
theorem dX4_measure_87 : decode cX4_measure 87 = .ok (.goto (-49), 3) := by decide +kernel
theorem dX4_measure_90 : decode cX4_measure 90 = .ok (.iconst 0, 1) := by decide +kernel
theorem dX4_measure_91 : decode cX4_measure 91 = .ok (.istore_n 1, 1) := by decide +kernel
theorem dX4_measure_92 : decode cX4_measure 92 = .ok (.iload_n 1, 1) := by decide +kernel
theorem dX4_measure_93 : decode cX4_measure 93 = .ok (.bipush 8, 2) := by decide +kernel
theorem dX4_measure_95 : decode cX4_measure 95 = .ok (.if_icmp .ge 14, 3) := by decide +kernel
theorem dX4_measure_98 : decode cX4_measure 98 = .ok (.aload_n 0, 1) := by decide +kernel
theorem dX4_measure_99 : decode cX4_measure 99 = .ok (.iload_n 1, 1) := by decide +kernel
theorem dX4_measure_100 : decode cX4_measure 100 = .ok (.invokevirtual 47, 3) := by decide +kernel
theorem dX4_measure_103 : decode cX4_measure 103 = .ok (.iinc 1 1, 3) := by decide +kernel
theorem dX4_measure_106 : decode cX4_measure 106 = .ok (.goto (-14), 3) := by decide +kernel
theorem dX4_measure_109 : decode cX4_measure 109 = .ok (.return_, 1) := by decide +kernel
theorem dX4_shortenBy_0 : decode cX4_shortenBy 0 = .ok (.iconst 0, 1) := by decide +kernel
theorem dX4_shortenBy_1 : decode cX4_shortenBy 1 = .ok (.istore_n 2, 1) := by decide +kernel
theorem dX4_shortenBy_2 : decode cX4_shortenBy 2 = .ok (.iload_n 2, 1) := by decide +kernel
theorem dX4_shortenBy_3 : decode cX4_shortenBy 3 = .ok (.bipush 8, 2) := by decide +kernel
theorem dX4_shortenBy_5 : decode cX4_shortenBy 5 = .ok (.if_icmp .ge 77, 3) := by decide +kernel
theorem dX4_shortenBy_8 : decode cX4_shortenBy 8 = .ok (.iconst 0, 1) := by decide +kernel
theorem dX4_shortenBy_9 : decode cX4_shortenBy 9 = .ok (.istore_n 3, 1) := by decide +kernel
theorem dX4_shortenBy_10 : decode cX4_shortenBy 10 = .ok (.iload_n 3, 1) := by decide +kernel
theorem dX4_shortenBy_11 : decode cX4_shortenBy 11 = .ok (.bipush 8, 2) := by decide +kernel
theorem dX4_shortenBy_13 : decode cX4_shortenBy 13 = .ok (.if_icmp .ge 63, 3) := by decide +kernel
theorem dX4_shortenBy_16 : decode cX4_shortenBy 16 = .ok (.aload_n 0, 1) := by decide +kernel
theorem dX4_shortenBy_17 : decode cX4_shortenBy 17 = .ok (.getfield 15, 3) := by decide +kernel
theorem dX4_shortenBy_20 : decode cX4_shortenBy 20 = .ok (.iload_n 2, 1) := by decide +kernel
theorem dX4_shortenBy_21 : decode cX4_shortenBy 21 = .ok (.bipush 8, 2) := by decide +kernel
theorem dX4_shortenBy_23 : decode cX4_shortenBy 23 = .ok (.imul, 1) := by decide +kernel
theorem dX4_shortenBy_24 : decode cX4_shortenBy 24 = .ok (.iload_n 1, 1) := by decide +kernel
theorem dX4_shortenBy_25 : decode cX4_shortenBy 25 = .ok (.iadd, 1) := by decide +kernel
theorem dX4_shortenBy_26 : decode cX4_shortenBy 26 = .ok (.iaload, 1) := by decide +kernel
theorem dX4_shortenBy_27 : decode cX4_shortenBy 27 = .ok (.aload_n 0, 1) := by decide +kernel
theorem dX4_shortenBy_28 : decode cX4_shortenBy 28 = .ok (.getfield 15, 3) := by decide +kernel
theorem dX4_shortenBy_31 : decode cX4_shortenBy 31 = .ok (.iload_n 1, 1) := by decide +kernel
theorem dX4_shortenBy_32 : decode cX4_shortenBy 32 = .ok (.bipush 8, 2) := by decide +kernel
theorem dX4_shortenBy_34 : decode cX4_shortenBy 34 = .ok (.imul, 1) := by decide +kernel
theorem dX4_shortenBy_35 : decode cX4_shortenBy 35 = .ok (.iload_n 3, 1) := by decide +kernel
theorem dX4_shortenBy_36 : decode cX4_shortenBy 36 = .ok (.iadd, 1) := by decide +kernel
theorem dX4_shortenBy_37 : decode cX4_shortenBy 37 = .ok (.iaload, 1) := by decide +kernel
theorem dX4_shortenBy_38 : decode cX4_shortenBy 38 = .ok (.iadd, 1) := by decide +kernel
theorem dX4_shortenBy_39 : decode cX4_shortenBy 39 = .ok (.istore 4, 2) := by decide +kernel
theorem dX4_shortenBy_41 : decode cX4_shortenBy 41 = .ok (.iload 4, 2) := by decide +kernel
theorem dX4_shortenBy_43 : decode cX4_shortenBy 43 = .ok (.aload_n 0, 1) := by decide +kernel
theorem dX4_shortenBy_44 : decode cX4_shortenBy 44 = .ok (.getfield 15, 3) := by decide +kernel
theorem dX4_shortenBy_47 : decode cX4_shortenBy 47 = .ok (.iload_n 2, 1) := by decide +kernel
theorem dX4_shortenBy_48 : decode cX4_shortenBy 48 = .ok (.bipush 8, 2) := by decide +kernel
theorem dX4_shortenBy_50 : decode cX4_shortenBy 50 = .ok (.imul, 1) := by decide +kernel
theorem dX4_shortenBy_51 : decode cX4_shortenBy 51 = .ok (.iload_n 3, 1) := by decide +kernel
theorem dX4_shortenBy_52 : decode cX4_shortenBy 52 = .ok (.iadd, 1) := by decide +kernel
theorem dX4_shortenBy_53 : decode cX4_shortenBy 53 = .ok (.iaload, 1) := by decide +kernel
theorem dX4_shortenBy_54 : decode cX4_shortenBy 54 = .ok (.if_icmp .ge 16, 3) := by decide +kernel
theorem dX4_shortenBy_57 : decode cX4_shortenBy 57 = .ok (.aload_n 0, 1) := by decide +kernel
theorem dX4_shortenBy_58 : decode cX4_shortenBy 58 = .ok (.getfield 15, 3) := by decide +kernel
theorem dX4_shortenBy_61 : decode cX4_shortenBy 61 = .ok (.iload_n 2, 1) := by decide +kernel
theorem dX4_shortenBy_62 : decode cX4_shortenBy 62 = .ok (.bipush 8, 2) := by decide +kernel
theorem dX4_shortenBy_64 : decode cX4_shortenBy 64 = .ok (.imul, 1) := by decide +kernel
theorem dX4_shortenBy_65 : decode cX4_shortenBy 65 = .ok (.iload_n 3, 1) := by decide +kernel
theorem dX4_shortenBy_66 : decode cX4_shortenBy 66 = .ok (.iadd, 1) := by decide +kernel
theorem dX4_shortenBy_67 : decode cX4_shortenBy 67 = .ok (.iload 4, 2) := by decide +kernel
theorem dX4_shortenBy_69 : decode cX4_shortenBy 69 = .ok (.iastore, 1) := by decide +kernel
theorem dX4_shortenBy_70 : decode cX4_shortenBy 70 = .ok (.iinc 3 1, 3) := by decide +kernel
theorem dX4_shortenBy_73 : decode cX4_shortenBy 73 = .ok (.goto (-63), 3) := by decide +kernel
theorem dX4_shortenBy_76 : decode cX4_shortenBy 76 = .ok (.iinc 2 1, 3) := by decide +kernel
theorem dX4_shortenBy_79 : decode cX4_shortenBy 79 = .ok (.goto (-77), 3) := by decide +kernel
theorem dX4_shortenBy_82 : decode cX4_shortenBy 82 = .ok (.return_, 1) := by decide +kernel
theorem dX6_keep_0 : decode cX6_keep 0 = .ok (.aload_n 1, 1) := by decide +kernel
theorem dX6_keep_1 : decode cX6_keep 1 = .ok (.aload_n 0, 1) := by decide +kernel
theorem dX6_keep_2 : decode cX6_keep 2 = .ok (.getfield 11, 3) := by decide +kernel
theorem dX6_keep_5 : decode cX6_keep 5 = .ok (.aload_n 0, 1) := by decide +kernel
theorem dX6_keep_6 : decode cX6_keep 6 = .ok (.getfield 19, 3) := by decide +kernel
theorem dX6_keep_9 : decode cX6_keep 9 = .ok (.bipush 34, 2) := by decide +kernel
theorem dX6_keep_11 : decode cX6_keep 11 = .ok (.imul, 1) := by decide +kernel
theorem dX6_keep_12 : decode cX6_keep 12 = .ok (.invokevirtual 22, 3) := by decide +kernel
theorem dX6_keep_15 : decode cX6_keep 15 = .ok (.aload_n 0, 1) := by decide +kernel
theorem dX6_keep_16 : decode cX6_keep 16 = .ok (.aload_n 0, 1) := by decide +kernel
theorem dX6_keep_17 : decode cX6_keep 17 = .ok (.getfield 19, 3) := by decide +kernel
theorem dX6_keep_20 : decode cX6_keep 20 = .ok (.iconst 1, 1) := by decide +kernel
theorem dX6_keep_21 : decode cX6_keep 21 = .ok (.iadd, 1) := by decide +kernel
theorem dX6_keep_22 : decode cX6_keep 22 = .ok (.bipush 40, 2) := by decide +kernel
theorem dX6_keep_24 : decode cX6_keep 24 = .ok (.irem, 1) := by decide +kernel
theorem dX6_keep_25 : decode cX6_keep 25 = .ok (.putfield 19, 3) := by decide +kernel
theorem dX6_keep_28 : decode cX6_keep 28 = .ok (.aload_n 0, 1) := by decide +kernel
theorem dX6_keep_29 : decode cX6_keep 29 = .ok (.getfield 15, 3) := by decide +kernel
theorem dX6_keep_32 : decode cX6_keep 32 = .ok (.bipush 40, 2) := by decide +kernel
theorem dX6_keep_34 : decode cX6_keep 34 = .ok (.if_icmp .ge 13, 3) := by decide +kernel
theorem dX6_keep_37 : decode cX6_keep 37 = .ok (.aload_n 0, 1) := by decide +kernel
theorem dX6_keep_38 : decode cX6_keep 38 = .ok (.dup, 1) := by decide +kernel
theorem dX6_keep_39 : decode cX6_keep 39 = .ok (.getfield 15, 3) := by decide +kernel
theorem dX6_keep_42 : decode cX6_keep 42 = .ok (.iconst 1, 1) := by decide +kernel
theorem dX6_keep_43 : decode cX6_keep 43 = .ok (.iadd, 1) := by decide +kernel
theorem dX6_keep_44 : decode cX6_keep 44 = .ok (.putfield 15, 3) := by decide +kernel
theorem dX6_keep_47 : decode cX6_keep 47 = .ok (.return_, 1) := by decide +kernel
theorem dX6_bringBack_0 : decode cX6_bringBack 0 = .ok (.aload_n 0, 1) := by decide +kernel
theorem dX6_bringBack_1 : decode cX6_bringBack 1 = .ok (.getfield 15, 3) := by decide +kernel
theorem dX6_bringBack_4 : decode cX6_bringBack 4 = .ok (.ifCond .ne 5, 3) := by decide +kernel
theorem dX6_bringBack_7 : decode cX6_bringBack 7 = .ok (.iconst 0, 1) := by decide +kernel
theorem dX6_bringBack_8 : decode cX6_bringBack 8 = .ok (.ireturn, 1) := by decide +kernel
theorem dX6_bringBack_9 : decode cX6_bringBack 9 = .ok (.aload_n 0, 1) := by decide +kernel
theorem dX6_bringBack_10 : decode cX6_bringBack 10 = .ok (.dup, 1) := by decide +kernel
theorem dX6_bringBack_11 : decode cX6_bringBack 11 = .ok (.getfield 15, 3) := by decide +kernel
theorem dX6_bringBack_14 : decode cX6_bringBack 14 = .ok (.iconst 1, 1) := by decide +kernel
theorem dX6_bringBack_15 : decode cX6_bringBack 15 = .ok (.isub, 1) := by decide +kernel
theorem dX6_bringBack_16 : decode cX6_bringBack 16 = .ok (.putfield 15, 3) := by decide +kernel
theorem dX6_bringBack_19 : decode cX6_bringBack 19 = .ok (.aload_n 0, 1) := by decide +kernel
theorem dX6_bringBack_20 : decode cX6_bringBack 20 = .ok (.aload_n 0, 1) := by decide +kernel
theorem dX6_bringBack_21 : decode cX6_bringBack 21 = .ok (.getfield 19, 3) := by decide +kernel
theorem dX6_bringBack_24 : decode cX6_bringBack 24 = .ok (.bipush 40, 2) := by decide +kernel
theorem dX6_bringBack_26 : decode cX6_bringBack 26 = .ok (.iadd, 1) := by decide +kernel
theorem dX6_bringBack_27 : decode cX6_bringBack 27 = .ok (.iconst 1, 1) := by decide +kernel
theorem dX6_bringBack_28 : decode cX6_bringBack 28 = .ok (.isub, 1) := by decide +kernel
theorem dX6_bringBack_29 : decode cX6_bringBack 29 = .ok (.bipush 40, 2) := by decide +kernel
theorem dX6_bringBack_31 : decode cX6_bringBack 31 = .ok (.irem, 1) := by decide +kernel
theorem dX6_bringBack_32 : decode cX6_bringBack 32 = .ok (.putfield 19, 3) := by decide +kernel
theorem dX6_bringBack_35 : decode cX6_bringBack 35 = .ok (.aload_n 1, 1) := by decide +kernel
theorem dX6_bringBack_36 : decode cX6_bringBack 36 = .ok (.aload_n 0, 1) := by decide +kernel
theorem dX6_bringBack_37 : decode cX6_bringBack 37 = .ok (.getfield 11, 3) := by decide +kernel
theorem dX6_bringBack_40 : decode cX6_bringBack 40 = .ok (.aload_n 0, 1) := by decide +kernel
theorem dX6_bringBack_41 : decode cX6_bringBack 41 = .ok (.getfield 19, 3) := by decide +kernel
theorem dX6_bringBack_44 : decode cX6_bringBack 44 = .ok (.bipush 34, 2) := by decide +kernel
theorem dX6_bringBack_46 : decode cX6_bringBack 46 = .ok (.imul, 1) := by decide +kernel
theorem dX6_bringBack_47 : decode cX6_bringBack 47 = .ok (.invokevirtual 26, 3) := by decide +kernel
theorem dX6_bringBack_50 : decode cX6_bringBack 50 = .ok (.iconst 1, 1) := by decide +kernel
theorem dX6_bringBack_51 : decode cX6_bringBack 51 = .ok (.ireturn, 1) := by decide +kernel
theorem dX6_forget_0 : decode cX6_forget 0 = .ok (.aload_n 0, 1) := by decide +kernel
theorem dX6_forget_1 : decode cX6_forget 1 = .ok (.iconst 0, 1) := by decide +kernel
theorem dX6_forget_2 : decode cX6_forget 2 = .ok (.putfield 15, 3) := by decide +kernel
theorem dX6_forget_5 : decode cX6_forget 5 = .ok (.return_, 1) := by decide +kernel
theorem dX6_size_0 : decode cX6_size 0 = .ok (.aload_n 0, 1) := by decide +kernel
theorem dX6_size_1 : decode cX6_size 1 = .ok (.getfield 15, 3) := by decide +kernel
theorem dX6_size_4 : decode cX6_size 4 = .ok (.ireturn, 1) := by decide +kernel
theorem dX9_begin_0 : decode cX9_begin 0 = .ok (.aload_n 0, 1) := by decide +kernel
theorem dX9_begin_1 : decode cX9_begin 1 = .ok (.getfield 11, 3) := by decide +kernel
theorem dX9_begin_4 : decode cX9_begin 4 = .ok (.iconst 0, 1) := by decide +kernel
theorem dX9_begin_5 : decode cX9_begin 5 = .ok (.invokestatic 18, 3) := by decide +kernel
theorem dX9_begin_8 : decode cX9_begin 8 = .ok (.iconst 0, 1) := by decide +kernel
theorem dX9_begin_9 : decode cX9_begin 9 = .ok (.istore_n 2, 1) := by decide +kernel
theorem dX9_begin_10 : decode cX9_begin 10 = .ok (.iload_n 2, 1) := by decide +kernel
theorem dX9_begin_11 : decode cX9_begin 11 = .ok (.aload_n 1, 1) := by decide +kernel
theorem dX9_begin_12 : decode cX9_begin 12 = .ok (.invokevirtual 24, 3) := by decide +kernel
theorem dX9_begin_15 : decode cX9_begin 15 = .ok (.if_icmp .ge 38, 3) := by decide +kernel
theorem dX9_begin_18 : decode cX9_begin 18 = .ok (.aload_n 0, 1) := by decide +kernel
theorem dX9_begin_19 : decode cX9_begin 19 = .ok (.getfield 11, 3) := by decide +kernel
theorem dX9_begin_22 : decode cX9_begin 22 = .ok (.iconst 0, 1) := by decide +kernel
theorem dX9_begin_23 : decode cX9_begin 23 = .ok (.iload_n 2, 1) := by decide +kernel
theorem dX9_begin_24 : decode cX9_begin 24 = .ok (.iadd, 1) := by decide +kernel
theorem dX9_begin_25 : decode cX9_begin 25 = .ok (.aload_n 1, 1) := by decide +kernel
theorem dX9_begin_26 : decode cX9_begin 26 = .ok (.iload_n 2, 1) := by decide +kernel
theorem dX9_begin_27 : decode cX9_begin 27 = .ok (.iconst 2, 1) := by decide +kernel
theorem dX9_begin_28 : decode cX9_begin 28 = .ok (.invokevirtual 30, 3) := by decide +kernel
theorem dX9_begin_31 : decode cX9_begin 31 = .ok (.iastore, 1) := by decide +kernel
theorem dX9_begin_32 : decode cX9_begin 32 = .ok (.aload_n 0, 1) := by decide +kernel
theorem dX9_begin_33 : decode cX9_begin 33 = .ok (.getfield 11, 3) := by decide +kernel
theorem dX9_begin_36 : decode cX9_begin 36 = .ok (.bipush 9, 2) := by decide +kernel
theorem dX9_begin_38 : decode cX9_begin 38 = .ok (.iload_n 2, 1) := by decide +kernel
theorem dX9_begin_39 : decode cX9_begin 39 = .ok (.iadd, 1) := by decide +kernel
theorem dX9_begin_40 : decode cX9_begin 40 = .ok (.aload_n 1, 1) := by decide +kernel
theorem dX9_begin_41 : decode cX9_begin 41 = .ok (.iload_n 2, 1) := by decide +kernel
theorem dX9_begin_42 : decode cX9_begin 42 = .ok (.iconst 3, 1) := by decide +kernel
theorem dX9_begin_43 : decode cX9_begin 43 = .ok (.invokevirtual 30, 3) := by decide +kernel
theorem dX9_begin_46 : decode cX9_begin 46 = .ok (.iastore, 1) := by decide +kernel
theorem dX9_begin_47 : decode cX9_begin 47 = .ok (.iinc 2 1, 3) := by decide +kernel
theorem dX9_begin_50 : decode cX9_begin 50 = .ok (.goto (-40), 3) := by decide +kernel
theorem dX9_begin_53 : decode cX9_begin 53 = .ok (.iconst 0, 1) := by decide +kernel
theorem dX9_begin_54 : decode cX9_begin 54 = .ok (.istore_n 2, 1) := by decide +kernel
theorem dX9_begin_55 : decode cX9_begin 55 = .ok (.iload_n 2, 1) := by decide +kernel
theorem dX9_begin_56 : decode cX9_begin 56 = .ok (.aload_n 1, 1) := by decide +kernel
theorem dX9_begin_57 : decode cX9_begin 57 = .ok (.invokevirtual 34, 3) := by decide +kernel
theorem dX9_begin_60 : decode cX9_begin 60 = .ok (.if_icmp .ge 23, 3) := by decide +kernel
theorem dX9_begin_63 : decode cX9_begin 63 = .ok (.aload_n 0, 1) := by decide +kernel
theorem dX9_begin_64 : decode cX9_begin 64 = .ok (.getfield 11, 3) := by decide +kernel
theorem dX9_begin_67 : decode cX9_begin 67 = .ok (.bipush 18, 2) := by decide +kernel
theorem dX9_begin_69 : decode cX9_begin 69 = .ok (.iload_n 2, 1) := by decide +kernel
theorem dX9_begin_70 : decode cX9_begin 70 = .ok (.iadd, 1) := by decide +kernel
theorem dX9_begin_71 : decode cX9_begin 71 = .ok (.aload_n 1, 1) := by decide +kernel
theorem dX9_begin_72 : decode cX9_begin 72 = .ok (.iconst 0, 1) := by decide +kernel
theorem dX9_begin_73 : decode cX9_begin 73 = .ok (.invokevirtual 37, 3) := by decide +kernel
theorem dX9_begin_76 : decode cX9_begin 76 = .ok (.iastore, 1) := by decide +kernel
theorem dX9_begin_77 : decode cX9_begin 77 = .ok (.iinc 2 1, 3) := by decide +kernel
theorem dX9_begin_80 : decode cX9_begin 80 = .ok (.goto (-25), 3) := by decide +kernel
theorem dX9_begin_83 : decode cX9_begin 83 = .ok (.return_, 1) := by decide +kernel
theorem dX9_takeAll_0 : decode cX9_takeAll 0 = .ok (.aload_n 1, 1) := by decide +kernel
theorem dX9_takeAll_1 : decode cX9_takeAll 1 = .ok (.getfield 11, 3) := by decide +kernel
theorem dX9_takeAll_4 : decode cX9_takeAll 4 = .ok (.iconst 0, 1) := by decide +kernel
theorem dX9_takeAll_5 : decode cX9_takeAll 5 = .ok (.aload_n 0, 1) := by decide +kernel
theorem dX9_takeAll_6 : decode cX9_takeAll 6 = .ok (.getfield 11, 3) := by decide +kernel
theorem dX9_takeAll_9 : decode cX9_takeAll 9 = .ok (.iconst 0, 1) := by decide +kernel
theorem dX9_takeAll_10 : decode cX9_takeAll 10 = .ok (.bipush 34, 2) := by decide +kernel
theorem dX9_takeAll_12 : decode cX9_takeAll 12 = .ok (.invokestatic 41, 3) := by decide +kernel
theorem dX9_takeAll_15 : decode cX9_takeAll 15 = .ok (.aload_n 1, 1) := by decide +kernel
theorem dX9_takeAll_16 : decode cX9_takeAll 16 = .ok (.getfield 15, 3) := by decide +kernel
theorem dX9_takeAll_19 : decode cX9_takeAll 19 = .ok (.iconst 0, 1) := by decide +kernel
theorem dX9_takeAll_20 : decode cX9_takeAll 20 = .ok (.aload_n 0, 1) := by decide +kernel
theorem dX9_takeAll_21 : decode cX9_takeAll 21 = .ok (.getfield 15, 3) := by decide +kernel
theorem dX9_takeAll_24 : decode cX9_takeAll 24 = .ok (.iconst 0, 1) := by decide +kernel
theorem dX9_takeAll_25 : decode cX9_takeAll 25 = .ok (.aload_n 0, 1) := by decide +kernel
theorem dX9_takeAll_26 : decode cX9_takeAll 26 = .ok (.getfield 15, 3) := by decide +kernel
theorem dX9_takeAll_29 : decode cX9_takeAll 29 = .ok (.arraylength, 1) := by decide +kernel
theorem dX9_takeAll_30 : decode cX9_takeAll 30 = .ok (.invokestatic 41, 3) := by decide +kernel
theorem dX9_takeAll_33 : decode cX9_takeAll 33 = .ok (.return_, 1) := by decide +kernel
theorem dX9_writeTo_0 : decode cX9_writeTo 0 = .ok (.iload_n 2, 1) := by decide +kernel
theorem dX9_writeTo_1 : decode cX9_writeTo 1 = .ok (.ifCond .lt 24, 3) := by decide +kernel
theorem dX9_writeTo_4 : decode cX9_writeTo 4 = .ok (.iload_n 2, 1) := by decide +kernel
theorem dX9_writeTo_5 : decode cX9_writeTo 5 = .ok (.bipush 34, 2) := by decide +kernel
theorem dX9_writeTo_7 : decode cX9_writeTo 7 = .ok (.iadd, 1) := by decide +kernel
theorem dX9_writeTo_8 : decode cX9_writeTo 8 = .ok (.aload_n 1, 1) := by decide +kernel
theorem dX9_writeTo_9 : decode cX9_writeTo 9 = .ok (.arraylength, 1) := by decide +kernel
theorem dX9_writeTo_10 : decode cX9_writeTo 10 = .ok (.if_icmp .gt 15, 3) := by decide +kernel
theorem dX9_writeTo_13 : decode cX9_writeTo 13 = .ok (.aload_n 0, 1) := by decide +kernel
theorem dX9_writeTo_14 : decode cX9_writeTo 14 = .ok (.getfield 11, 3) := by decide +kernel
theorem dX9_writeTo_17 : decode cX9_writeTo 17 = .ok (.iconst 0, 1) := by decide +kernel
theorem dX9_writeTo_18 : decode cX9_writeTo 18 = .ok (.aload_n 1, 1) := by decide +kernel
theorem dX9_writeTo_19 : decode cX9_writeTo 19 = .ok (.iload_n 2, 1) := by decide +kernel
theorem dX9_writeTo_20 : decode cX9_writeTo 20 = .ok (.bipush 34, 2) := by decide +kernel
theorem dX9_writeTo_22 : decode cX9_writeTo 22 = .ok (.invokestatic 41, 3) := by decide +kernel
theorem dX9_writeTo_25 : decode cX9_writeTo 25 = .ok (.return_, 1) := by decide +kernel
theorem dX9_readFrom_0 : decode cX9_readFrom 0 = .ok (.iload_n 2, 1) := by decide +kernel
theorem dX9_readFrom_1 : decode cX9_readFrom 1 = .ok (.ifCond .lt 24, 3) := by decide +kernel
theorem dX9_readFrom_4 : decode cX9_readFrom 4 = .ok (.iload_n 2, 1) := by decide +kernel
theorem dX9_readFrom_5 : decode cX9_readFrom 5 = .ok (.bipush 34, 2) := by decide +kernel
theorem dX9_readFrom_7 : decode cX9_readFrom 7 = .ok (.iadd, 1) := by decide +kernel
theorem dX9_readFrom_8 : decode cX9_readFrom 8 = .ok (.aload_n 1, 1) := by decide +kernel
theorem dX9_readFrom_9 : decode cX9_readFrom 9 = .ok (.arraylength, 1) := by decide +kernel
theorem dX9_readFrom_10 : decode cX9_readFrom 10 = .ok (.if_icmp .gt 15, 3) := by decide +kernel
theorem dX9_readFrom_13 : decode cX9_readFrom 13 = .ok (.aload_n 1, 1) := by decide +kernel
theorem dX9_readFrom_14 : decode cX9_readFrom 14 = .ok (.iload_n 2, 1) := by decide +kernel
theorem dX9_readFrom_15 : decode cX9_readFrom 15 = .ok (.aload_n 0, 1) := by decide +kernel
theorem dX9_readFrom_16 : decode cX9_readFrom 16 = .ok (.getfield 11, 3) := by decide +kernel
theorem dX9_readFrom_19 : decode cX9_readFrom 19 = .ok (.iconst 0, 1) := by decide +kernel
theorem dX9_readFrom_20 : decode cX9_readFrom 20 = .ok (.bipush 34, 2) := by decide +kernel
theorem dX9_readFrom_22 : decode cX9_readFrom 22 = .ok (.invokestatic 41, 3) := by decide +kernel
theorem dX9_readFrom_25 : decode cX9_readFrom 25 = .ok (.return_, 1) := by decide +kernel
theorem dX9_wear_0 : decode cX9_wear 0 = .ok (.aload_n 0, 1) := by decide +kernel
theorem dX9_wear_1 : decode cX9_wear 1 = .ok (.getfield 11, 3) := by decide +kernel
theorem dX9_wear_4 : decode cX9_wear 4 = .ok (.iconst 0, 1) := by decide +kernel
theorem dX9_wear_5 : decode cX9_wear 5 = .ok (.iload_n 1, 1) := by decide +kernel
theorem dX9_wear_6 : decode cX9_wear 6 = .ok (.iadd, 1) := by decide +kernel
theorem dX9_wear_7 : decode cX9_wear 7 = .ok (.iaload, 1) := by decide +kernel
theorem dX9_wear_8 : decode cX9_wear 8 = .ok (.ireturn, 1) := by decide +kernel
theorem dX9_setWear_0 : decode cX9_setWear 0 = .ok (.aload_n 0, 1) := by decide +kernel
theorem dX9_setWear_1 : decode cX9_setWear 1 = .ok (.getfield 11, 3) := by decide +kernel
theorem dX9_setWear_4 : decode cX9_setWear 4 = .ok (.iconst 0, 1) := by decide +kernel
theorem dX9_setWear_5 : decode cX9_setWear 5 = .ok (.iload_n 1, 1) := by decide +kernel
theorem dX9_setWear_6 : decode cX9_setWear 6 = .ok (.iadd, 1) := by decide +kernel
theorem dX9_setWear_7 : decode cX9_setWear 7 = .ok (.iload_n 2, 1) := by decide +kernel
theorem dX9_setWear_8 : decode cX9_setWear 8 = .ok (.iastore, 1) := by decide +kernel
theorem dX9_setWear_9 : decode cX9_setWear 9 = .ok (.return_, 1) := by decide +kernel
theorem dX9_wet_0 : decode cX9_wet 0 = .ok (.aload_n 0, 1) := by decide +kernel
theorem dX9_wet_1 : decode cX9_wet 1 = .ok (.getfield 11, 3) := by decide +kernel
theorem dX9_wet_4 : decode cX9_wet 4 = .ok (.bipush 9, 2) := by decide +kernel
theorem dX9_wet_6 : decode cX9_wet 6 = .ok (.iload_n 1, 1) := by decide +kernel
theorem dX9_wet_7 : decode cX9_wet 7 = .ok (.iadd, 1) := by decide +kernel
theorem dX9_wet_8 : decode cX9_wet 8 = .ok (.iaload, 1) := by decide +kernel
theorem dX9_wet_9 : decode cX9_wet 9 = .ok (.ireturn, 1) := by decide +kernel
theorem dX9_setWet_0 : decode cX9_setWet 0 = .ok (.aload_n 0, 1) := by decide +kernel
theorem dX9_setWet_1 : decode cX9_setWet 1 = .ok (.getfield 11, 3) := by decide +kernel
theorem dX9_setWet_4 : decode cX9_setWet 4 = .ok (.bipush 9, 2) := by decide +kernel
theorem dX9_setWet_6 : decode cX9_setWet 6 = .ok (.iload_n 1, 1) := by decide +kernel
theorem dX9_setWet_7 : decode cX9_setWet 7 = .ok (.iadd, 1) := by decide +kernel
theorem dX9_setWet_8 : decode cX9_setWet 8 = .ok (.iload_n 2, 1) := by decide +kernel
theorem dX9_setWet_9 : decode cX9_setWet 9 = .ok (.iastore, 1) := by decide +kernel
theorem dX9_setWet_10 : decode cX9_setWet 10 = .ok (.return_, 1) := by decide +kernel
theorem dX9_owed_0 : decode cX9_owed 0 = .ok (.aload_n 0, 1) := by decide +kernel
theorem dX9_owed_1 : decode cX9_owed 1 = .ok (.getfield 11, 3) := by decide +kernel
theorem dX9_owed_4 : decode cX9_owed 4 = .ok (.bipush 18, 2) := by decide +kernel
theorem dX9_owed_6 : decode cX9_owed 6 = .ok (.iload_n 1, 1) := by decide +kernel
theorem dX9_owed_7 : decode cX9_owed 7 = .ok (.iadd, 1) := by decide +kernel
theorem dX9_owed_8 : decode cX9_owed 8 = .ok (.iaload, 1) := by decide +kernel
theorem dX9_owed_9 : decode cX9_owed 9 = .ok (.ireturn, 1) := by decide +kernel
theorem dX9_setOwed_0 : decode cX9_setOwed 0 = .ok (.aload_n 0, 1) := by decide +kernel
theorem dX9_setOwed_1 : decode cX9_setOwed 1 = .ok (.getfield 11, 3) := by decide +kernel
theorem dX9_setOwed_4 : decode cX9_setOwed 4 = .ok (.bipush 18, 2) := by decide +kernel
theorem dX9_setOwed_6 : decode cX9_setOwed 6 = .ok (.iload_n 1, 1) := by decide +kernel
theorem dX9_setOwed_7 : decode cX9_setOwed 7 = .ok (.iadd, 1) := by decide +kernel
theorem dX9_setOwed_8 : decode cX9_setOwed 8 = .ok (.iload_n 2, 1) := by decide +kernel
theorem dX9_setOwed_9 : decode cX9_setOwed 9 = .ok (.iastore, 1) := by decide +kernel
theorem dX9_setOwed_10 : decode cX9_setOwed 10 = .ok (.return_, 1) := by decide +kernel
theorem dX9_debt_0 : decode cX9_debt 0 = .ok (.aload_n 0, 1) := by decide +kernel
theorem dX9_debt_1 : decode cX9_debt 1 = .ok (.getfield 11, 3) := by decide +kernel
theorem dX9_debt_4 : decode cX9_debt 4 = .ok (.bipush 24, 2) := by decide +kernel
theorem dX9_debt_6 : decode cX9_debt 6 = .ok (.iload_n 1, 1) := by decide +kernel
theorem dX9_debt_7 : decode cX9_debt 7 = .ok (.iadd, 1) := by decide +kernel
theorem dX9_debt_8 : decode cX9_debt 8 = .ok (.iaload, 1) := by decide +kernel
theorem dX9_debt_9 : decode cX9_debt 9 = .ok (.ireturn, 1) := by decide +kernel
theorem dX9_setDebt_0 : decode cX9_setDebt 0 = .ok (.aload_n 0, 1) := by decide +kernel
theorem dX9_setDebt_1 : decode cX9_setDebt 1 = .ok (.getfield 11, 3) := by decide +kernel
theorem dX9_setDebt_4 : decode cX9_setDebt 4 = .ok (.bipush 24, 2) := by decide +kernel
theorem dX9_setDebt_6 : decode cX9_setDebt 6 = .ok (.iload_n 1, 1) := by decide +kernel
theorem dX9_setDebt_7 : decode cX9_setDebt 7 = .ok (.iadd, 1) := by decide +kernel
theorem dX9_setDebt_8 : decode cX9_setDebt 8 = .ok (.iload_n 2, 1) := by decide +kernel
theorem dX9_setDebt_9 : decode cX9_setDebt 9 = .ok (.iastore, 1) := by decide +kernel
theorem dX9_setDebt_10 : decode cX9_setDebt 10 = .ok (.return_, 1) := by decide +kernel
theorem dX9_box_0 : decode cX9_box 0 = .ok (.aload_n 0, 1) := by decide +kernel
theorem dX9_box_1 : decode cX9_box 1 = .ok (.getfield 11, 3) := by decide +kernel
theorem dX9_box_4 : decode cX9_box 4 = .ok (.bipush 30, 2) := by decide +kernel
theorem dX9_box_6 : decode cX9_box 6 = .ok (.iaload, 1) := by decide +kernel
theorem dX9_box_7 : decode cX9_box 7 = .ok (.ireturn, 1) := by decide +kernel
theorem dX9_addToBox_0 : decode cX9_addToBox 0 = .ok (.aload_n 0, 1) := by decide +kernel
theorem dX9_addToBox_1 : decode cX9_addToBox 1 = .ok (.getfield 11, 3) := by decide +kernel
theorem dX9_addToBox_4 : decode cX9_addToBox 4 = .ok (.bipush 30, 2) := by decide +kernel
theorem dX9_addToBox_6 : decode cX9_addToBox 6 = .ok (.dup2, 1) := by decide +kernel
theorem dX9_addToBox_7 : decode cX9_addToBox 7 = .ok (.iaload, 1) := by decide +kernel
theorem dX9_addToBox_8 : decode cX9_addToBox 8 = .ok (.iload_n 1, 1) := by decide +kernel
theorem dX9_addToBox_9 : decode cX9_addToBox 9 = .ok (.iadd, 1) := by decide +kernel
theorem dX9_addToBox_10 : decode cX9_addToBox 10 = .ok (.iastore, 1) := by decide +kernel
theorem dX9_addToBox_11 : decode cX9_addToBox 11 = .ok (.return_, 1) := by decide +kernel
theorem dX9_season_0 : decode cX9_season 0 = .ok (.aload_n 0, 1) := by decide +kernel
theorem dX9_season_1 : decode cX9_season 1 = .ok (.getfield 11, 3) := by decide +kernel
theorem dX9_season_4 : decode cX9_season 4 = .ok (.bipush 31, 2) := by decide +kernel
theorem dX9_season_6 : decode cX9_season 6 = .ok (.iaload, 1) := by decide +kernel
theorem dX9_season_7 : decode cX9_season 7 = .ok (.ireturn, 1) := by decide +kernel
theorem dX9_isWinter_0 : decode cX9_isWinter 0 = .ok (.aload_n 0, 1) := by decide +kernel
theorem dX9_isWinter_1 : decode cX9_isWinter 1 = .ok (.getfield 11, 3) := by decide +kernel
theorem dX9_isWinter_4 : decode cX9_isWinter 4 = .ok (.bipush 31, 2) := by decide +kernel
theorem dX9_isWinter_6 : decode cX9_isWinter 6 = .ok (.iaload, 1) := by decide +kernel
theorem dX9_isWinter_7 : decode cX9_isWinter 7 = .ok (.iconst 4, 1) := by decide +kernel
theorem dX9_isWinter_8 : decode cX9_isWinter 8 = .ok (.irem, 1) := by decide +kernel
theorem dX9_isWinter_9 : decode cX9_isWinter 9 = .ok (.iconst 3, 1) := by decide +kernel
theorem dX9_isWinter_10 : decode cX9_isWinter 10 = .ok (.if_icmp .ne 7, 3) := by decide +kernel
theorem dX9_isWinter_13 : decode cX9_isWinter 13 = .ok (.iconst 1, 1) := by decide +kernel
theorem dX9_isWinter_14 : decode cX9_isWinter 14 = .ok (.goto 4, 3) := by decide +kernel
theorem dX9_isWinter_17 : decode cX9_isWinter 17 = .ok (.iconst 0, 1) := by decide +kernel
theorem dX9_isWinter_18 : decode cX9_isWinter 18 = .ok (.ireturn, 1) := by decide +kernel
theorem dX9_worked_0 : decode cX9_worked 0 = .ok (.aload_n 0, 1) := by decide +kernel
theorem dX9_worked_1 : decode cX9_worked 1 = .ok (.getfield 11, 3) := by decide +kernel
theorem dX9_worked_4 : decode cX9_worked 4 = .ok (.bipush 32, 2) := by decide +kernel
theorem dX9_worked_6 : decode cX9_worked 6 = .ok (.iaload, 1) := by decide +kernel
theorem dX9_worked_7 : decode cX9_worked 7 = .ok (.ireturn, 1) := by decide +kernel
theorem dX9_countWork_0 : decode cX9_countWork 0 = .ok (.aload_n 0, 1) := by decide +kernel
theorem dX9_countWork_1 : decode cX9_countWork 1 = .ok (.getfield 11, 3) := by decide +kernel
theorem dX9_countWork_4 : decode cX9_countWork 4 = .ok (.bipush 32, 2) := by decide +kernel
theorem dX9_countWork_6 : decode cX9_countWork 6 = .ok (.dup2, 1) := by decide +kernel
theorem dX9_countWork_7 : decode cX9_countWork 7 = .ok (.iaload, 1) := by decide +kernel
theorem dX9_countWork_8 : decode cX9_countWork 8 = .ok (.iconst 1, 1) := by decide +kernel
theorem dX9_countWork_9 : decode cX9_countWork 9 = .ok (.iadd, 1) := by decide +kernel
theorem dX9_countWork_10 : decode cX9_countWork 10 = .ok (.iastore, 1) := by decide +kernel
theorem dX9_countWork_11 : decode cX9_countWork 11 = .ok (.return_, 1) := by decide +kernel
theorem dX9_allWear_0 : decode cX9_allWear 0 = .ok (.aload_n 0, 1) := by decide +kernel
theorem dX9_allWear_1 : decode cX9_allWear 1 = .ok (.iconst 0, 1) := by decide +kernel
theorem dX9_allWear_2 : decode cX9_allWear 2 = .ok (.bipush 9, 2) := by decide +kernel
theorem dX9_allWear_4 : decode cX9_allWear 4 = .ok (.invokevirtual 47, 3) := by decide +kernel
theorem dX9_allWear_7 : decode cX9_allWear 7 = .ok (.ireturn, 1) := by decide +kernel
theorem dX9_allOwed_0 : decode cX9_allOwed 0 = .ok (.aload_n 0, 1) := by decide +kernel
theorem dX9_allOwed_1 : decode cX9_allOwed 1 = .ok (.bipush 18, 2) := by decide +kernel
theorem dX9_allOwed_3 : decode cX9_allOwed 3 = .ok (.bipush 6, 2) := by decide +kernel
theorem dX9_allOwed_5 : decode cX9_allOwed 5 = .ok (.invokevirtual 47, 3) := by decide +kernel
theorem dX9_allOwed_8 : decode cX9_allOwed 8 = .ok (.ireturn, 1) := by decide +kernel
theorem dX9_allDebt_0 : decode cX9_allDebt 0 = .ok (.aload_n 0, 1) := by decide +kernel
theorem dX9_allDebt_1 : decode cX9_allDebt 1 = .ok (.bipush 24, 2) := by decide +kernel
theorem dX9_allDebt_3 : decode cX9_allDebt 3 = .ok (.bipush 6, 2) := by decide +kernel
theorem dX9_allDebt_5 : decode cX9_allDebt 5 = .ok (.invokevirtual 47, 3) := by decide +kernel
theorem dX9_allDebt_8 : decode cX9_allDebt 8 = .ok (.ireturn, 1) := by decide +kernel
theorem dX9_nextSeason_0 : decode cX9_nextSeason 0 = .ok (.aload_n 0, 1) := by decide +kernel
theorem dX9_nextSeason_1 : decode cX9_nextSeason 1 = .ok (.getfield 11, 3) := by decide +kernel
theorem dX9_nextSeason_4 : decode cX9_nextSeason 4 = .ok (.bipush 31, 2) := by decide +kernel
theorem dX9_nextSeason_6 : decode cX9_nextSeason 6 = .ok (.dup2, 1) := by decide +kernel
theorem dX9_nextSeason_7 : decode cX9_nextSeason 7 = .ok (.iaload, 1) := by decide +kernel
theorem dX9_nextSeason_8 : decode cX9_nextSeason 8 = .ok (.iconst 1, 1) := by decide +kernel
theorem dX9_nextSeason_9 : decode cX9_nextSeason 9 = .ok (.iadd, 1) := by decide +kernel
theorem dX9_nextSeason_10 : decode cX9_nextSeason 10 = .ok (.iastore, 1) := by decide +kernel
theorem dX9_nextSeason_11 : decode cX9_nextSeason 11 = .ok (.return_, 1) := by decide +kernel
theorem dX9_writeLog_0 : decode cX9_writeLog 0 = .ok (.aload_n 0, 1) := by decide +kernel
theorem dX9_writeLog_1 : decode cX9_writeLog 1 = .ok (.getfield 11, 3) := by decide +kernel
theorem dX9_writeLog_4 : decode cX9_writeLog 4 = .ok (.bipush 33, 2) := by decide +kernel
theorem dX9_writeLog_6 : decode cX9_writeLog 6 = .ok (.iaload, 1) := by decide +kernel
theorem dX9_writeLog_7 : decode cX9_writeLog 7 = .ok (.bipush 100, 2) := by decide +kernel
theorem dX9_writeLog_9 : decode cX9_writeLog 9 = .ok (.irem, 1) := by decide +kernel
theorem dX9_writeLog_10 : decode cX9_writeLog 10 = .ok (.iconst 3, 1) := by decide +kernel
theorem dX9_writeLog_11 : decode cX9_writeLog 11 = .ok (.imul, 1) := by decide +kernel
theorem dX9_writeLog_12 : decode cX9_writeLog 12 = .ok (.istore_n 1, 1) := by decide +kernel
theorem dX9_writeLog_13 : decode cX9_writeLog 13 = .ok (.aload_n 0, 1) := by decide +kernel
theorem dX9_writeLog_14 : decode cX9_writeLog 14 = .ok (.getfield 15, 3) := by decide +kernel
theorem dX9_writeLog_17 : decode cX9_writeLog 17 = .ok (.iload_n 1, 1) := by decide +kernel
theorem dX9_writeLog_18 : decode cX9_writeLog 18 = .ok (.aload_n 0, 1) := by decide +kernel
theorem dX9_writeLog_19 : decode cX9_writeLog 19 = .ok (.invokevirtual 50, 3) := by decide +kernel
theorem dX9_writeLog_22 : decode cX9_writeLog 22 = .ok (.iastore, 1) := by decide +kernel
theorem dX9_writeLog_23 : decode cX9_writeLog 23 = .ok (.aload_n 0, 1) := by decide +kernel
theorem dX9_writeLog_24 : decode cX9_writeLog 24 = .ok (.getfield 15, 3) := by decide +kernel
theorem dX9_writeLog_27 : decode cX9_writeLog 27 = .ok (.iload_n 1, 1) := by decide +kernel
theorem dX9_writeLog_28 : decode cX9_writeLog 28 = .ok (.iconst 1, 1) := by decide +kernel
theorem dX9_writeLog_29 : decode cX9_writeLog 29 = .ok (.iadd, 1) := by decide +kernel
theorem dX9_writeLog_30 : decode cX9_writeLog 30 = .ok (.aload_n 0, 1) := by decide +kernel
theorem dX9_writeLog_31 : decode cX9_writeLog 31 = .ok (.invokevirtual 53, 3) := by decide +kernel
theorem dX9_writeLog_34 : decode cX9_writeLog 34 = .ok (.iastore, 1) := by decide +kernel
theorem dX9_writeLog_35 : decode cX9_writeLog 35 = .ok (.aload_n 0, 1) := by decide +kernel
theorem dX9_writeLog_36 : decode cX9_writeLog 36 = .ok (.getfield 15, 3) := by decide +kernel
theorem dX9_writeLog_39 : decode cX9_writeLog 39 = .ok (.iload_n 1, 1) := by decide +kernel
theorem dX9_writeLog_40 : decode cX9_writeLog 40 = .ok (.iconst 2, 1) := by decide +kernel
theorem dX9_writeLog_41 : decode cX9_writeLog 41 = .ok (.iadd, 1) := by decide +kernel
theorem dX9_writeLog_42 : decode cX9_writeLog 42 = .ok (.aload_n 0, 1) := by decide +kernel
theorem dX9_writeLog_43 : decode cX9_writeLog 43 = .ok (.getfield 11, 3) := by decide +kernel
theorem dX9_writeLog_46 : decode cX9_writeLog 46 = .ok (.bipush 32, 2) := by decide +kernel
theorem dX9_writeLog_48 : decode cX9_writeLog 48 = .ok (.iaload, 1) := by decide +kernel
theorem dX9_writeLog_49 : decode cX9_writeLog 49 = .ok (.iastore, 1) := by decide +kernel
theorem dX9_writeLog_50 : decode cX9_writeLog 50 = .ok (.aload_n 0, 1) := by decide +kernel
theorem dX9_writeLog_51 : decode cX9_writeLog 51 = .ok (.getfield 11, 3) := by decide +kernel
theorem dX9_writeLog_54 : decode cX9_writeLog 54 = .ok (.bipush 33, 2) := by decide +kernel
theorem dX9_writeLog_56 : decode cX9_writeLog 56 = .ok (.dup2, 1) := by decide +kernel
theorem dX9_writeLog_57 : decode cX9_writeLog 57 = .ok (.iaload, 1) := by decide +kernel
theorem dX9_writeLog_58 : decode cX9_writeLog 58 = .ok (.iconst 1, 1) := by decide +kernel
theorem dX9_writeLog_59 : decode cX9_writeLog 59 = .ok (.iadd, 1) := by decide +kernel
theorem dX9_writeLog_60 : decode cX9_writeLog 60 = .ok (.iastore, 1) := by decide +kernel
theorem dX9_writeLog_61 : decode cX9_writeLog 61 = .ok (.aload_n 0, 1) := by decide +kernel
theorem dX9_writeLog_62 : decode cX9_writeLog 62 = .ok (.getfield 11, 3) := by decide +kernel
theorem dX9_writeLog_65 : decode cX9_writeLog 65 = .ok (.bipush 32, 2) := by decide +kernel
theorem dX9_writeLog_67 : decode cX9_writeLog 67 = .ok (.iconst 0, 1) := by decide +kernel
theorem dX9_writeLog_68 : decode cX9_writeLog 68 = .ok (.iastore, 1) := by decide +kernel
theorem dX9_writeLog_69 : decode cX9_writeLog 69 = .ok (.return_, 1) := by decide +kernel
theorem dX9_logLength_0 : decode cX9_logLength 0 = .ok (.aload_n 0, 1) := by decide +kernel
theorem dX9_logLength_1 : decode cX9_logLength 1 = .ok (.getfield 11, 3) := by decide +kernel
theorem dX9_logLength_4 : decode cX9_logLength 4 = .ok (.bipush 33, 2) := by decide +kernel
theorem dX9_logLength_6 : decode cX9_logLength 6 = .ok (.iaload, 1) := by decide +kernel
theorem dX9_logLength_7 : decode cX9_logLength 7 = .ok (.bipush 60, 2) := by decide +kernel
theorem dX9_logLength_9 : decode cX9_logLength 9 = .ok (.if_icmp .ge 13, 3) := by decide +kernel
theorem dX9_logLength_12 : decode cX9_logLength 12 = .ok (.aload_n 0, 1) := by decide +kernel
theorem dX9_logLength_13 : decode cX9_logLength 13 = .ok (.getfield 11, 3) := by decide +kernel
theorem dX9_logLength_16 : decode cX9_logLength 16 = .ok (.bipush 33, 2) := by decide +kernel
theorem dX9_logLength_18 : decode cX9_logLength 18 = .ok (.iaload, 1) := by decide +kernel
theorem dX9_logLength_19 : decode cX9_logLength 19 = .ok (.goto 5, 3) := by decide +kernel
theorem dX9_logLength_22 : decode cX9_logLength 22 = .ok (.bipush 60, 2) := by decide +kernel
theorem dX9_logLength_24 : decode cX9_logLength 24 = .ok (.ireturn, 1) := by decide +kernel
theorem dX9_logged_0 : decode cX9_logged 0 = .ok (.iload_n 1, 1) := by decide +kernel
theorem dX9_logged_1 : decode cX9_logged 1 = .ok (.ifCond .lt 20, 3) := by decide +kernel
theorem dX9_logged_4 : decode cX9_logged 4 = .ok (.iload_n 1, 1) := by decide +kernel
theorem dX9_logged_5 : decode cX9_logged 5 = .ok (.aload_n 0, 1) := by decide +kernel
theorem dX9_logged_6 : decode cX9_logged 6 = .ok (.invokevirtual 56, 3) := by decide +kernel
theorem dX9_logged_9 : decode cX9_logged 9 = .ok (.if_icmp .ge 12, 3) := by decide +kernel
theorem dX9_logged_12 : decode cX9_logged 12 = .ok (.iload_n 2, 1) := by decide +kernel
theorem dX9_logged_13 : decode cX9_logged 13 = .ok (.ifCond .lt 8, 3) := by decide +kernel
theorem dX9_logged_16 : decode cX9_logged 16 = .ok (.iload_n 2, 1) := by decide +kernel
theorem dX9_logged_17 : decode cX9_logged 17 = .ok (.iconst 3, 1) := by decide +kernel
theorem dX9_logged_18 : decode cX9_logged 18 = .ok (.if_icmp .lt 5, 3) := by decide +kernel
theorem dX9_logged_21 : decode cX9_logged 21 = .ok (.iconst (-1), 1) := by decide +kernel
theorem dX9_logged_22 : decode cX9_logged 22 = .ok (.ireturn, 1) := by decide +kernel
theorem dX9_logged_23 : decode cX9_logged 23 = .ok (.aload_n 0, 1) := by decide +kernel
theorem dX9_logged_24 : decode cX9_logged 24 = .ok (.getfield 15, 3) := by decide +kernel
theorem dX9_logged_27 : decode cX9_logged 27 = .ok (.aload_n 0, 1) := by decide +kernel
theorem dX9_logged_28 : decode cX9_logged 28 = .ok (.getfield 11, 3) := by decide +kernel
theorem dX9_logged_31 : decode cX9_logged 31 = .ok (.bipush 33, 2) := by decide +kernel
theorem dX9_logged_33 : decode cX9_logged 33 = .ok (.iaload, 1) := by decide +kernel
theorem dX9_logged_34 : decode cX9_logged 34 = .ok (.iconst 1, 1) := by decide +kernel
theorem dX9_logged_35 : decode cX9_logged 35 = .ok (.isub, 1) := by decide +kernel
theorem dX9_logged_36 : decode cX9_logged 36 = .ok (.iload_n 1, 1) := by decide +kernel
theorem dX9_logged_37 : decode cX9_logged 37 = .ok (.isub, 1) := by decide +kernel
theorem dX9_logged_38 : decode cX9_logged 38 = .ok (.bipush 100, 2) := by decide +kernel
theorem dX9_logged_40 : decode cX9_logged 40 = .ok (.irem, 1) := by decide +kernel
theorem dX9_logged_41 : decode cX9_logged 41 = .ok (.iconst 3, 1) := by decide +kernel
theorem dX9_logged_42 : decode cX9_logged 42 = .ok (.imul, 1) := by decide +kernel
theorem dX9_logged_43 : decode cX9_logged 43 = .ok (.iload_n 2, 1) := by decide +kernel
theorem dX9_logged_44 : decode cX9_logged 44 = .ok (.iadd, 1) := by decide +kernel
theorem dX9_logged_45 : decode cX9_logged 45 = .ok (.iaload, 1) := by decide +kernel
theorem dX9_logged_46 : decode cX9_logged 46 = .ok (.ireturn, 1) := by decide +kernel
theorem dX9_bad_0 : decode cX9_bad 0 = .ok (.iconst 0, 1) := by decide +kernel
theorem dX9_bad_1 : decode cX9_bad 1 = .ok (.istore_n 1, 1) := by decide +kernel
theorem dX9_bad_2 : decode cX9_bad 2 = .ok (.iconst 0, 1) := by decide +kernel
theorem dX9_bad_3 : decode cX9_bad 3 = .ok (.istore_n 2, 1) := by decide +kernel
theorem dX9_bad_4 : decode cX9_bad 4 = .ok (.iload_n 2, 1) := by decide +kernel
theorem dX9_bad_5 : decode cX9_bad 5 = .ok (.bipush 9, 2) := by decide +kernel
theorem dX9_bad_7 : decode cX9_bad 7 = .ok (.if_icmp .ge 22, 3) := by decide +kernel
theorem dX9_bad_10 : decode cX9_bad 10 = .ok (.aload_n 0, 1) := by decide +kernel
theorem dX9_bad_11 : decode cX9_bad 11 = .ok (.iload_n 2, 1) := by decide +kernel
theorem dX9_bad_12 : decode cX9_bad 12 = .ok (.invokevirtual 59, 3) := by decide +kernel
theorem dX9_bad_15 : decode cX9_bad 15 = .ok (.bipush 60, 2) := by decide +kernel
theorem dX9_bad_17 : decode cX9_bad 17 = .ok (.if_icmp .lt 6, 3) := by decide +kernel
theorem dX9_bad_20 : decode cX9_bad 20 = .ok (.iinc 1 1, 3) := by decide +kernel
theorem dX9_bad_23 : decode cX9_bad 23 = .ok (.iinc 2 1, 3) := by decide +kernel
theorem dX9_bad_26 : decode cX9_bad 26 = .ok (.goto (-22), 3) := by decide +kernel
theorem dX9_bad_29 : decode cX9_bad 29 = .ok (.iload_n 1, 1) := by decide +kernel
theorem dX9_bad_30 : decode cX9_bad 30 = .ok (.ireturn, 1) := by decide +kernel
theorem dX9_sum_0 : decode cX9_sum 0 = .ok (.iconst 0, 1) := by decide +kernel
theorem dX9_sum_1 : decode cX9_sum 1 = .ok (.istore_n 3, 1) := by decide +kernel
theorem dX9_sum_2 : decode cX9_sum 2 = .ok (.iconst 0, 1) := by decide +kernel
theorem dX9_sum_3 : decode cX9_sum 3 = .ok (.istore 4, 2) := by decide +kernel
theorem dX9_sum_5 : decode cX9_sum 5 = .ok (.iload 4, 2) := by decide +kernel
theorem dX9_sum_7 : decode cX9_sum 7 = .ok (.iload_n 2, 1) := by decide +kernel
theorem dX9_sum_8 : decode cX9_sum 8 = .ok (.if_icmp .ge 21, 3) := by decide +kernel
theorem dX9_sum_11 : decode cX9_sum 11 = .ok (.iload_n 3, 1) := by decide +kernel
theorem dX9_sum_12 : decode cX9_sum 12 = .ok (.aload_n 0, 1) := by decide +kernel
theorem dX9_sum_13 : decode cX9_sum 13 = .ok (.getfield 11, 3) := by decide +kernel
theorem dX9_sum_16 : decode cX9_sum 16 = .ok (.iload_n 1, 1) := by decide +kernel
theorem dX9_sum_17 : decode cX9_sum 17 = .ok (.iload 4, 2) := by decide +kernel
theorem dX9_sum_19 : decode cX9_sum 19 = .ok (.iadd, 1) := by decide +kernel
theorem dX9_sum_20 : decode cX9_sum 20 = .ok (.iaload, 1) := by decide +kernel
theorem dX9_sum_21 : decode cX9_sum 21 = .ok (.iadd, 1) := by decide +kernel
theorem dX9_sum_22 : decode cX9_sum 22 = .ok (.istore_n 3, 1) := by decide +kernel
theorem dX9_sum_23 : decode cX9_sum 23 = .ok (.iinc 4 1, 3) := by decide +kernel
theorem dX9_sum_26 : decode cX9_sum 26 = .ok (.goto (-21), 3) := by decide +kernel
theorem dX9_sum_29 : decode cX9_sum 29 = .ok (.iload_n 3, 1) := by decide +kernel
theorem dX9_sum_30 : decode cX9_sum 30 = .ok (.ireturn, 1) := by decide +kernel
theorem dX10_signsIn_0 : decode cX10_signsIn 0 = .ok (.iconst 0, 1) := by decide +kernel
theorem dX10_signsIn_1 : decode cX10_signsIn 1 = .ok (.istore_n 1, 1) := by decide +kernel
theorem dX10_signsIn_2 : decode cX10_signsIn 2 = .ok (.bipush 24, 2) := by decide +kernel
theorem dX10_signsIn_4 : decode cX10_signsIn 4 = .ok (.istore_n 2, 1) := by decide +kernel
theorem dX10_signsIn_5 : decode cX10_signsIn 5 = .ok (.iload_n 2, 1) := by decide +kernel
theorem dX10_signsIn_6 : decode cX10_signsIn 6 = .ok (.ifCond .lt 22, 3) := by decide +kernel
theorem dX10_signsIn_9 : decode cX10_signsIn 9 = .ok (.iload_n 0, 1) := by decide +kernel
theorem dX10_signsIn_10 : decode cX10_signsIn 10 = .ok (.iload_n 2, 1) := by decide +kernel
theorem dX10_signsIn_11 : decode cX10_signsIn 11 = .ok (.iushr, 1) := by decide +kernel
theorem dX10_signsIn_12 : decode cX10_signsIn 12 = .ok (.sipush 255, 3) := by decide +kernel
theorem dX10_signsIn_15 : decode cX10_signsIn 15 = .ok (.iand, 1) := by decide +kernel
theorem dX10_signsIn_16 : decode cX10_signsIn 16 = .ok (.ifCond .eq 6, 3) := by decide +kernel
theorem dX10_signsIn_19 : decode cX10_signsIn 19 = .ok (.iinc 1 1, 3) := by decide +kernel
theorem dX10_signsIn_22 : decode cX10_signsIn 22 = .ok (.iinc 2 (-8), 3) := by decide +kernel
theorem dX10_signsIn_25 : decode cX10_signsIn 25 = .ok (.goto (-20), 3) := by decide +kernel
theorem dX10_signsIn_28 : decode cX10_signsIn 28 = .ok (.iload_n 1, 1) := by decide +kernel
theorem dX10_signsIn_29 : decode cX10_signsIn 29 = .ok (.ireturn, 1) := by decide +kernel
theorem dX10_add_0 : decode cX10_add 0 = .ok (.bipush 24, 2) := by decide +kernel
theorem dX10_add_2 : decode cX10_add 2 = .ok (.istore_n 2, 1) := by decide +kernel
theorem dX10_add_3 : decode cX10_add 3 = .ok (.iload_n 2, 1) := by decide +kernel
theorem dX10_add_4 : decode cX10_add 4 = .ok (.ifCond .lt 52, 3) := by decide +kernel
theorem dX10_add_7 : decode cX10_add 7 = .ok (.iload_n 1, 1) := by decide +kernel
theorem dX10_add_8 : decode cX10_add 8 = .ok (.iload_n 2, 1) := by decide +kernel
theorem dX10_add_9 : decode cX10_add 9 = .ok (.iushr, 1) := by decide +kernel
theorem dX10_add_10 : decode cX10_add 10 = .ok (.sipush 255, 3) := by decide +kernel
theorem dX10_add_13 : decode cX10_add 13 = .ok (.iand, 1) := by decide +kernel
theorem dX10_add_14 : decode cX10_add 14 = .ok (.istore_n 3, 1) := by decide +kernel
theorem dX10_add_15 : decode cX10_add 15 = .ok (.iload_n 3, 1) := by decide +kernel
theorem dX10_add_16 : decode cX10_add 16 = .ok (.ifCond .eq 34, 3) := by decide +kernel
theorem dX10_add_19 : decode cX10_add 19 = .ok (.aload_n 0, 1) := by decide +kernel
theorem dX10_add_20 : decode cX10_add 20 = .ok (.getfield 15, 3) := by decide +kernel
theorem dX10_add_23 : decode cX10_add 23 = .ok (.sipush 240, 3) := by decide +kernel
theorem dX10_add_26 : decode cX10_add 26 = .ok (.if_icmp .ge 24, 3) := by decide +kernel
theorem dX10_add_29 : decode cX10_add 29 = .ok (.aload_n 0, 1) := by decide +kernel
theorem dX10_add_30 : decode cX10_add 30 = .ok (.getfield 9, 3) := by decide +kernel
theorem dX10_add_33 : decode cX10_add 33 = .ok (.aload_n 0, 1) := by decide +kernel
theorem dX10_add_34 : decode cX10_add 34 = .ok (.getfield 15, 3) := by decide +kernel
theorem dX10_add_37 : decode cX10_add 37 = .ok (.iload_n 3, 1) := by decide +kernel
theorem dX10_add_38 : decode cX10_add 38 = .ok (.i2b, 1) := by decide +kernel
theorem dX10_add_39 : decode cX10_add 39 = .ok (.bastore, 1) := by decide +kernel
theorem dX10_add_40 : decode cX10_add 40 = .ok (.aload_n 0, 1) := by decide +kernel
theorem dX10_add_41 : decode cX10_add 41 = .ok (.dup, 1) := by decide +kernel
theorem dX10_add_42 : decode cX10_add 42 = .ok (.getfield 15, 3) := by decide +kernel
theorem dX10_add_45 : decode cX10_add 45 = .ok (.iconst 1, 1) := by decide +kernel
theorem dX10_add_46 : decode cX10_add 46 = .ok (.iadd, 1) := by decide +kernel
theorem dX10_add_47 : decode cX10_add 47 = .ok (.putfield 15, 3) := by decide +kernel
theorem dX10_add_50 : decode cX10_add 50 = .ok (.iinc 2 (-8), 3) := by decide +kernel
theorem dX10_add_53 : decode cX10_add 53 = .ok (.goto (-50), 3) := by decide +kernel
theorem dX10_add_56 : decode cX10_add 56 = .ok (.return_, 1) := by decide +kernel
theorem dX10_shorten_0 : decode cX10_shorten 0 = .ok (.iload_n 1, 1) := by decide +kernel
theorem dX10_shorten_1 : decode cX10_shorten 1 = .ok (.ifCond .lt 11, 3) := by decide +kernel
theorem dX10_shorten_4 : decode cX10_shorten 4 = .ok (.iload_n 1, 1) := by decide +kernel
theorem dX10_shorten_5 : decode cX10_shorten 5 = .ok (.aload_n 0, 1) := by decide +kernel
theorem dX10_shorten_6 : decode cX10_shorten 6 = .ok (.getfield 15, 3) := by decide +kernel
theorem dX10_shorten_9 : decode cX10_shorten 9 = .ok (.if_icmp .le 5, 3) := by decide +kernel
theorem dX10_shorten_12 : decode cX10_shorten 12 = .ok (.iconst 0, 1) := by decide +kernel
theorem dX10_shorten_13 : decode cX10_shorten 13 = .ok (.ireturn, 1) := by decide +kernel
theorem dX10_shorten_14 : decode cX10_shorten 14 = .ok (.aload_n 0, 1) := by decide +kernel
theorem dX10_shorten_15 : decode cX10_shorten 15 = .ok (.iload_n 1, 1) := by decide +kernel
theorem dX10_shorten_16 : decode cX10_shorten 16 = .ok (.putfield 15, 3) := by decide +kernel
theorem dX10_shorten_19 : decode cX10_shorten 19 = .ok (.iconst 1, 1) := by decide +kernel
theorem dX10_shorten_20 : decode cX10_shorten 20 = .ok (.ireturn, 1) := by decide +kernel
theorem dX10_size_0 : decode cX10_size 0 = .ok (.aload_n 0, 1) := by decide +kernel
theorem dX10_size_1 : decode cX10_size 1 = .ok (.getfield 15, 3) := by decide +kernel
theorem dX10_size_4 : decode cX10_size 4 = .ok (.ireturn, 1) := by decide +kernel
theorem dX10_sign_0 : decode cX10_sign 0 = .ok (.iload_n 1, 1) := by decide +kernel
theorem dX10_sign_1 : decode cX10_sign 1 = .ok (.ifCond .lt 24, 3) := by decide +kernel
theorem dX10_sign_4 : decode cX10_sign 4 = .ok (.iload_n 1, 1) := by decide +kernel
theorem dX10_sign_5 : decode cX10_sign 5 = .ok (.aload_n 0, 1) := by decide +kernel
theorem dX10_sign_6 : decode cX10_sign 6 = .ok (.getfield 15, 3) := by decide +kernel
theorem dX10_sign_9 : decode cX10_sign 9 = .ok (.if_icmp .ge 16, 3) := by decide +kernel
theorem dX10_sign_12 : decode cX10_sign 12 = .ok (.aload_n 0, 1) := by decide +kernel
theorem dX10_sign_13 : decode cX10_sign 13 = .ok (.getfield 9, 3) := by decide +kernel
theorem dX10_sign_16 : decode cX10_sign 16 = .ok (.iload_n 1, 1) := by decide +kernel
theorem dX10_sign_17 : decode cX10_sign 17 = .ok (.baload, 1) := by decide +kernel
theorem dX10_sign_18 : decode cX10_sign 18 = .ok (.sipush 255, 3) := by decide +kernel
theorem dX10_sign_21 : decode cX10_sign 21 = .ok (.iand, 1) := by decide +kernel
theorem dX10_sign_22 : decode cX10_sign 22 = .ok (.goto 4, 3) := by decide +kernel
theorem dX10_sign_25 : decode cX10_sign 25 = .ok (.iconst 0, 1) := by decide +kernel
theorem dX10_sign_26 : decode cX10_sign 26 = .ok (.ireturn, 1) := by decide +kernel
theorem dX10_isDigit_0 : decode cX10_isDigit 0 = .ok (.aload_n 0, 1) := by decide +kernel
theorem dX10_isDigit_1 : decode cX10_isDigit 1 = .ok (.iload_n 1, 1) := by decide +kernel
theorem dX10_isDigit_2 : decode cX10_isDigit 2 = .ok (.invokevirtual 19, 3) := by decide +kernel
theorem dX10_isDigit_5 : decode cX10_isDigit 5 = .ok (.istore_n 2, 1) := by decide +kernel
theorem dX10_isDigit_6 : decode cX10_isDigit 6 = .ok (.iload_n 2, 1) := by decide +kernel
theorem dX10_isDigit_7 : decode cX10_isDigit 7 = .ok (.bipush 48, 2) := by decide +kernel
theorem dX10_isDigit_9 : decode cX10_isDigit 9 = .ok (.if_icmp .lt 13, 3) := by decide +kernel
theorem dX10_isDigit_12 : decode cX10_isDigit 12 = .ok (.iload_n 2, 1) := by decide +kernel
theorem dX10_isDigit_13 : decode cX10_isDigit 13 = .ok (.bipush 57, 2) := by decide +kernel
theorem dX10_isDigit_15 : decode cX10_isDigit 15 = .ok (.if_icmp .gt 7, 3) := by decide +kernel
theorem dX10_isDigit_18 : decode cX10_isDigit 18 = .ok (.iconst 1, 1) := by decide +kernel
theorem dX10_isDigit_19 : decode cX10_isDigit 19 = .ok (.goto 4, 3) := by decide +kernel
theorem dX10_isDigit_22 : decode cX10_isDigit 22 = .ok (.iconst 0, 1) := by decide +kernel
theorem dX10_isDigit_23 : decode cX10_isDigit 23 = .ok (.ireturn, 1) := by decide +kernel
theorem dX10_pastBlanks_0 : decode cX10_pastBlanks 0 = .ok (.iload_n 1, 1) := by decide +kernel
theorem dX10_pastBlanks_1 : decode cX10_pastBlanks 1 = .ok (.ifCond .ge 7, 3) := by decide +kernel
theorem dX10_pastBlanks_4 : decode cX10_pastBlanks 4 = .ok (.iconst 0, 1) := by decide +kernel
theorem dX10_pastBlanks_5 : decode cX10_pastBlanks 5 = .ok (.goto 4, 3) := by decide +kernel
theorem dX10_pastBlanks_8 : decode cX10_pastBlanks 8 = .ok (.iload_n 1, 1) := by decide +kernel
theorem dX10_pastBlanks_9 : decode cX10_pastBlanks 9 = .ok (.istore_n 2, 1) := by decide +kernel
theorem dX10_pastBlanks_10 : decode cX10_pastBlanks 10 = .ok (.iload_n 2, 1) := by decide +kernel
theorem dX10_pastBlanks_11 : decode cX10_pastBlanks 11 = .ok (.aload_n 0, 1) := by decide +kernel
theorem dX10_pastBlanks_12 : decode cX10_pastBlanks 12 = .ok (.getfield 15, 3) := by decide +kernel
theorem dX10_pastBlanks_15 : decode cX10_pastBlanks 15 = .ok (.if_icmp .ge 20, 3) := by decide +kernel
theorem dX10_pastBlanks_18 : decode cX10_pastBlanks 18 = .ok (.aload_n 0, 1) := by decide +kernel
theorem dX10_pastBlanks_19 : decode cX10_pastBlanks 19 = .ok (.getfield 9, 3) := by decide +kernel
theorem dX10_pastBlanks_22 : decode cX10_pastBlanks 22 = .ok (.iload_n 2, 1) := by decide +kernel
theorem dX10_pastBlanks_23 : decode cX10_pastBlanks 23 = .ok (.baload, 1) := by decide +kernel
theorem dX10_pastBlanks_24 : decode cX10_pastBlanks 24 = .ok (.bipush 32, 2) := by decide +kernel
theorem dX10_pastBlanks_26 : decode cX10_pastBlanks 26 = .ok (.if_icmp .ne 9, 3) := by decide +kernel
theorem dX10_pastBlanks_29 : decode cX10_pastBlanks 29 = .ok (.iinc 2 1, 3) := by decide +kernel
theorem dX10_pastBlanks_32 : decode cX10_pastBlanks 32 = .ok (.goto (-22), 3) := by decide +kernel
theorem dX10_pastBlanks_35 : decode cX10_pastBlanks 35 = .ok (.iload_n 2, 1) := by decide +kernel
theorem dX10_pastBlanks_36 : decode cX10_pastBlanks 36 = .ok (.ireturn, 1) := by decide +kernel
theorem dJ6_bitCount_0f7a4_0 : decode cJ6_bitCount_0f7a4 0 = .ok (.iload_n 0, 1) := by decide +kernel
theorem dJ6_bitCount_0f7a4_1 : decode cJ6_bitCount_0f7a4 1 = .ok (.iload_n 0, 1) := by decide +kernel
theorem dJ6_bitCount_0f7a4_2 : decode cJ6_bitCount_0f7a4 2 = .ok (.iconst 1, 1) := by decide +kernel
theorem dJ6_bitCount_0f7a4_3 : decode cJ6_bitCount_0f7a4 3 = .ok (.iushr, 1) := by decide +kernel
theorem dJ6_bitCount_0f7a4_4 : decode cJ6_bitCount_0f7a4 4 = .ok (.ldc_w 265, 3) := by decide +kernel
theorem dJ6_bitCount_0f7a4_7 : decode cJ6_bitCount_0f7a4 7 = .ok (.iand, 1) := by decide +kernel
theorem dJ6_bitCount_0f7a4_8 : decode cJ6_bitCount_0f7a4 8 = .ok (.isub, 1) := by decide +kernel
theorem dJ6_bitCount_0f7a4_9 : decode cJ6_bitCount_0f7a4 9 = .ok (.istore_n 0, 1) := by decide +kernel
theorem dJ6_bitCount_0f7a4_10 : decode cJ6_bitCount_0f7a4 10 = .ok (.iload_n 0, 1) := by decide +kernel
theorem dJ6_bitCount_0f7a4_11 : decode cJ6_bitCount_0f7a4 11 = .ok (.ldc_w 266, 3) := by decide +kernel
theorem dJ6_bitCount_0f7a4_14 : decode cJ6_bitCount_0f7a4 14 = .ok (.iand, 1) := by decide +kernel
theorem dJ6_bitCount_0f7a4_15 : decode cJ6_bitCount_0f7a4 15 = .ok (.iload_n 0, 1) := by decide +kernel
theorem dJ6_bitCount_0f7a4_16 : decode cJ6_bitCount_0f7a4 16 = .ok (.iconst 2, 1) := by decide +kernel
theorem dJ6_bitCount_0f7a4_17 : decode cJ6_bitCount_0f7a4 17 = .ok (.iushr, 1) := by decide +kernel
theorem dJ6_bitCount_0f7a4_18 : decode cJ6_bitCount_0f7a4 18 = .ok (.ldc_w 266, 3) := by decide +kernel
theorem dJ6_bitCount_0f7a4_21 : decode cJ6_bitCount_0f7a4 21 = .ok (.iand, 1) := by decide +kernel
theorem dJ6_bitCount_0f7a4_22 : decode cJ6_bitCount_0f7a4 22 = .ok (.iadd, 1) := by decide +kernel
theorem dJ6_bitCount_0f7a4_23 : decode cJ6_bitCount_0f7a4 23 = .ok (.istore_n 0, 1) := by decide +kernel
theorem dJ6_bitCount_0f7a4_24 : decode cJ6_bitCount_0f7a4 24 = .ok (.iload_n 0, 1) := by decide +kernel
theorem dJ6_bitCount_0f7a4_25 : decode cJ6_bitCount_0f7a4 25 = .ok (.iload_n 0, 1) := by decide +kernel
theorem dJ6_bitCount_0f7a4_26 : decode cJ6_bitCount_0f7a4 26 = .ok (.iconst 4, 1) := by decide +kernel
theorem dJ6_bitCount_0f7a4_27 : decode cJ6_bitCount_0f7a4 27 = .ok (.iushr, 1) := by decide +kernel
theorem dJ6_bitCount_0f7a4_28 : decode cJ6_bitCount_0f7a4 28 = .ok (.iadd, 1) := by decide +kernel
theorem dJ6_bitCount_0f7a4_29 : decode cJ6_bitCount_0f7a4 29 = .ok (.ldc_w 267, 3) := by decide +kernel
theorem dJ6_bitCount_0f7a4_32 : decode cJ6_bitCount_0f7a4 32 = .ok (.iand, 1) := by decide +kernel
theorem dJ6_bitCount_0f7a4_33 : decode cJ6_bitCount_0f7a4 33 = .ok (.istore_n 0, 1) := by decide +kernel
theorem dJ6_bitCount_0f7a4_34 : decode cJ6_bitCount_0f7a4 34 = .ok (.iload_n 0, 1) := by decide +kernel
theorem dJ6_bitCount_0f7a4_35 : decode cJ6_bitCount_0f7a4 35 = .ok (.iload_n 0, 1) := by decide +kernel
theorem dJ6_bitCount_0f7a4_36 : decode cJ6_bitCount_0f7a4 36 = .ok (.bipush 8, 2) := by decide +kernel
theorem dJ6_bitCount_0f7a4_38 : decode cJ6_bitCount_0f7a4 38 = .ok (.iushr, 1) := by decide +kernel
theorem dJ6_bitCount_0f7a4_39 : decode cJ6_bitCount_0f7a4 39 = .ok (.iadd, 1) := by decide +kernel
theorem dJ6_bitCount_0f7a4_40 : decode cJ6_bitCount_0f7a4 40 = .ok (.istore_n 0, 1) := by decide +kernel
theorem dJ6_bitCount_0f7a4_41 : decode cJ6_bitCount_0f7a4 41 = .ok (.iload_n 0, 1) := by decide +kernel
theorem dJ6_bitCount_0f7a4_42 : decode cJ6_bitCount_0f7a4 42 = .ok (.iload_n 0, 1) := by decide +kernel
theorem dJ6_bitCount_0f7a4_43 : decode cJ6_bitCount_0f7a4 43 = .ok (.bipush 16, 2) := by decide +kernel
theorem dJ6_bitCount_0f7a4_45 : decode cJ6_bitCount_0f7a4 45 = .ok (.iushr, 1) := by decide +kernel
theorem dJ6_bitCount_0f7a4_46 : decode cJ6_bitCount_0f7a4 46 = .ok (.iadd, 1) := by decide +kernel
theorem dJ6_bitCount_0f7a4_47 : decode cJ6_bitCount_0f7a4 47 = .ok (.istore_n 0, 1) := by decide +kernel
theorem dJ6_bitCount_0f7a4_48 : decode cJ6_bitCount_0f7a4 48 = .ok (.iload_n 0, 1) := by decide +kernel
theorem dJ6_bitCount_0f7a4_49 : decode cJ6_bitCount_0f7a4 49 = .ok (.bipush 63, 2) := by decide +kernel
theorem dJ6_bitCount_0f7a4_51 : decode cJ6_bitCount_0f7a4 51 = .ok (.iand, 1) := by decide +kernel
theorem dJ6_bitCount_0f7a4_52 : decode cJ6_bitCount_0f7a4 52 = .ok (.ireturn, 1) := by decide +kernel
theorem dJ7_fill_53178_0 : decode cJ7_fill_53178 0 = .ok (.iconst 0, 1) := by decide +kernel
theorem dJ7_fill_53178_1 : decode cJ7_fill_53178 1 = .ok (.istore_n 2, 1) := by decide +kernel
theorem dJ7_fill_53178_2 : decode cJ7_fill_53178 2 = .ok (.aload_n 0, 1) := by decide +kernel
theorem dJ7_fill_53178_3 : decode cJ7_fill_53178 3 = .ok (.arraylength, 1) := by decide +kernel
theorem dJ7_fill_53178_4 : decode cJ7_fill_53178 4 = .ok (.istore_n 3, 1) := by decide +kernel
theorem dJ7_fill_53178_5 : decode cJ7_fill_53178 5 = .ok (.iload_n 2, 1) := by decide +kernel
theorem dJ7_fill_53178_6 : decode cJ7_fill_53178 6 = .ok (.iload_n 3, 1) := by decide +kernel
theorem dJ7_fill_53178_7 : decode cJ7_fill_53178 7 = .ok (.if_icmp .ge 13, 3) := by decide +kernel
theorem dJ7_fill_53178_10 : decode cJ7_fill_53178 10 = .ok (.aload_n 0, 1) := by decide +kernel
theorem dJ7_fill_53178_11 : decode cJ7_fill_53178 11 = .ok (.iload_n 2, 1) := by decide +kernel
theorem dJ7_fill_53178_12 : decode cJ7_fill_53178 12 = .ok (.iload_n 1, 1) := by decide +kernel
theorem dJ7_fill_53178_13 : decode cJ7_fill_53178 13 = .ok (.iastore, 1) := by decide +kernel
theorem dJ7_fill_53178_14 : decode cJ7_fill_53178 14 = .ok (.iinc 2 1, 3) := by decide +kernel
theorem dJ7_fill_53178_17 : decode cJ7_fill_53178 17 = .ok (.goto (-12), 3) := by decide +kernel
theorem dJ7_fill_53178_20 : decode cJ7_fill_53178 20 = .ok (.return_, 1) := by decide +kernel
