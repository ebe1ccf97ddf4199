theorem dX13_opens_0 : decode cX13_opens 0 = .ok (.aload_n 0, 1) := by decide +kernel
theorem dX13_opens_1 : decode cX13_opens 1 = .ok (.getfield 340, 3) := by decide +kernel
theorem dX13_opens_4 : decode cX13_opens 4 = .ok (.iconst 4, 1) := by decide +kernel
theorem dX13_opens_5 : decode cX13_opens 5 = .ok (.if_icmp .ne 11, 3) := by decide +kernel
theorem dX13_opens_8 : decode cX13_opens 8 = .ok (.aload_n 0, 1) := by decide +kernel
theorem dX13_opens_9 : decode cX13_opens 9 = .ok (.aload_n 0, 1) := by decide +kernel
theorem dX13_opens_10 : decode cX13_opens 10 = .ok (.getfield 202, 3) := by decide +kernel
theorem dX13_opens_13 : decode cX13_opens 13 = .ok (.invokevirtual 216, 3) := by decide +kernel
theorem dX13_opens_16 : decode cX13_opens 16 = .ok (.aload_n 0, 1) := by decide +kernel
theorem dX13_opens_17 : decode cX13_opens 17 = .ok (.dup, 1) := by decide +kernel
theorem dX13_opens_18 : decode cX13_opens 18 = .ok (.getfield 340, 3) := by decide +kernel
theorem dX13_opens_21 : decode cX13_opens 21 = .ok (.iconst 1, 1) := by decide +kernel
theorem dX13_opens_22 : decode cX13_opens 22 = .ok (.iadd, 1) := by decide +kernel
theorem dX13_opens_23 : decode cX13_opens 23 = .ok (.putfield 340, 3) := by decide +kernel
theorem dX13_opens_26 : decode cX13_opens 26 = .ok (.return_, 1) := by decide +kernel
theorem dX13_bracket_0 : decode cX13_bracket 0 = .ok (.aload_n 0, 1) := by decide +kernel
theorem dX13_bracket_1 : decode cX13_bracket 1 = .ok (.aload_n 0, 1) := by decide +kernel
theorem dX13_bracket_2 : decode cX13_bracket 2 = .ok (.getfield 202, 3) := by decide +kernel
theorem dX13_bracket_5 : decode cX13_bracket 5 = .ok (.invokevirtual 212, 3) := by decide +kernel
theorem dX13_bracket_8 : decode cX13_bracket 8 = .ok (.bipush 40, 2) := by decide +kernel
theorem dX13_bracket_10 : decode cX13_bracket 10 = .ok (.if_icmp .ne 7, 3) := by decide +kernel
theorem dX13_bracket_13 : decode cX13_bracket 13 = .ok (.aload_n 0, 1) := by decide +kernel
theorem dX13_bracket_14 : decode cX13_bracket 14 = .ok (.invokevirtual 343, 3) := by decide +kernel
theorem dX13_bracket_17 : decode cX13_bracket 17 = .ok (.aload_n 0, 1) := by decide +kernel
theorem dX13_bracket_18 : decode cX13_bracket 18 = .ok (.bipush 40, 2) := by decide +kernel
theorem dX13_bracket_20 : decode cX13_bracket 20 = .ok (.invokevirtual 222, 3) := by decide +kernel
theorem dX13_bracket_23 : decode cX13_bracket 23 = .ok (.return_, 1) := by decide +kernel
theorem dX13_readSelector_0 : decode cX13_readSelector 0 = .ok (.aload_n 0, 1) := by decide +kernel
theorem dX13_readSelector_1 : decode cX13_readSelector 1 = .ok (.aload_n 0, 1) := by decide +kernel
theorem dX13_readSelector_2 : decode cX13_readSelector 2 = .ok (.getfield 202, 3) := by decide +kernel
theorem dX13_readSelector_5 : decode cX13_readSelector 5 = .ok (.invokevirtual 212, 3) := by decide +kernel
theorem dX13_readSelector_8 : decode cX13_readSelector 8 = .ok (.istore_n 2, 1) := by decide +kernel
theorem dX13_readSelector_9 : decode cX13_readSelector 9 = .ok (.aload_n 0, 1) := by decide +kernel
theorem dX13_readSelector_10 : decode cX13_readSelector 10 = .ok (.iconst 2, 1) := by decide +kernel
theorem dX13_readSelector_11 : decode cX13_readSelector 11 = .ok (.iload_n 1, 1) := by decide +kernel
theorem dX13_readSelector_12 : decode cX13_readSelector 12 = .ok (.iconst 0, 1) := by decide +kernel
theorem dX13_readSelector_13 : decode cX13_readSelector 13 = .ok (.invokevirtual 326, 3) := by decide +kernel
theorem dX13_readSelector_16 : decode cX13_readSelector 16 = .ok (.iload_n 2, 1) := by decide +kernel
theorem dX13_readSelector_17 : decode cX13_readSelector 17 = .ok (.bipush 39, 2) := by decide +kernel
theorem dX13_readSelector_19 : decode cX13_readSelector 19 = .ok (.if_icmp .ne 30, 3) := by decide +kernel
theorem dX13_readSelector_22 : decode cX13_readSelector 22 = .ok (.aload_n 0, 1) := by decide +kernel
theorem dX13_readSelector_23 : decode cX13_readSelector 23 = .ok (.bipush 39, 2) := by decide +kernel
theorem dX13_readSelector_25 : decode cX13_readSelector 25 = .ok (.iconst (-1), 1) := by decide +kernel
theorem dX13_readSelector_26 : decode cX13_readSelector 26 = .ok (.invokevirtual 251, 3) := by decide +kernel
theorem dX13_readSelector_29 : decode cX13_readSelector 29 = .ok (.aload_n 0, 1) := by decide +kernel
theorem dX13_readSelector_30 : decode cX13_readSelector 30 = .ok (.iload_n 1, 1) := by decide +kernel
theorem dX13_readSelector_31 : decode cX13_readSelector 31 = .ok (.iconst 0, 1) := by decide +kernel
theorem dX13_readSelector_32 : decode cX13_readSelector 32 = .ok (.aload_n 0, 1) := by decide +kernel
theorem dX13_readSelector_33 : decode cX13_readSelector 33 = .ok (.getfield 225, 3) := by decide +kernel
theorem dX13_readSelector_36 : decode cX13_readSelector 36 = .ok (.aload_n 0, 1) := by decide +kernel
theorem dX13_readSelector_37 : decode cX13_readSelector 37 = .ok (.getfield 228, 3) := by decide +kernel
theorem dX13_readSelector_40 : decode cX13_readSelector 40 = .ok (.iconst 0, 1) := by decide +kernel
theorem dX13_readSelector_41 : decode cX13_readSelector 41 = .ok (.iconst 0, 1) := by decide +kernel
theorem dX13_readSelector_42 : decode cX13_readSelector 42 = .ok (.invokevirtual 330, 3) := by decide +kernel
theorem dX13_readSelector_45 : decode cX13_readSelector 45 = .ok (.pop, 1) := by decide +kernel
theorem dX13_readSelector_46 : decode cX13_readSelector 46 = .ok (.goto 137, 3) := by decide +kernel
theorem dX13_readSelector_49 : decode cX13_readSelector 49 = .ok (.iload_n 2, 1) := by decide +kernel
theorem dX13_readSelector_50 : decode cX13_readSelector 50 = .ok (.bipush 42, 2) := by decide +kernel
theorem dX13_readSelector_52 : decode cX13_readSelector 52 = .ok (.if_icmp .ne 27, 3) := by decide +kernel
theorem dX13_readSelector_55 : decode cX13_readSelector 55 = .ok (.aload_n 0, 1) := by decide +kernel
theorem dX13_readSelector_56 : decode cX13_readSelector 56 = .ok (.dup, 1) := by decide +kernel
theorem dX13_readSelector_57 : decode cX13_readSelector 57 = .ok (.getfield 202, 3) := by decide +kernel
theorem dX13_readSelector_60 : decode cX13_readSelector 60 = .ok (.iconst 1, 1) := by decide +kernel
theorem dX13_readSelector_61 : decode cX13_readSelector 61 = .ok (.iadd, 1) := by decide +kernel
theorem dX13_readSelector_62 : decode cX13_readSelector 62 = .ok (.putfield 202, 3) := by decide +kernel
theorem dX13_readSelector_65 : decode cX13_readSelector 65 = .ok (.aload_n 0, 1) := by decide +kernel
theorem dX13_readSelector_66 : decode cX13_readSelector 66 = .ok (.iload_n 1, 1) := by decide +kernel
theorem dX13_readSelector_67 : decode cX13_readSelector 67 = .ok (.iconst 1, 1) := by decide +kernel
theorem dX13_readSelector_68 : decode cX13_readSelector 68 = .ok (.iconst 0, 1) := by decide +kernel
theorem dX13_readSelector_69 : decode cX13_readSelector 69 = .ok (.iconst 0, 1) := by decide +kernel
theorem dX13_readSelector_70 : decode cX13_readSelector 70 = .ok (.iconst 0, 1) := by decide +kernel
theorem dX13_readSelector_71 : decode cX13_readSelector 71 = .ok (.iconst 0, 1) := by decide +kernel
theorem dX13_readSelector_72 : decode cX13_readSelector 72 = .ok (.invokevirtual 330, 3) := by decide +kernel
theorem dX13_readSelector_75 : decode cX13_readSelector 75 = .ok (.pop, 1) := by decide +kernel
theorem dX13_readSelector_76 : decode cX13_readSelector 76 = .ok (.goto 107, 3) := by decide +kernel
theorem dX13_readSelector_79 : decode cX13_readSelector 79 = .ok (.iload_n 2, 1) := by decide +kernel
theorem dX13_readSelector_80 : decode cX13_readSelector 80 = .ok (.bipush 58, 2) := by decide +kernel
theorem dX13_readSelector_82 : decode cX13_readSelector 82 = .ok (.if_icmp .eq 10, 3) := by decide +kernel
theorem dX13_readSelector_85 : decode cX13_readSelector 85 = .ok (.aload_n 0, 1) := by decide +kernel
theorem dX13_readSelector_86 : decode cX13_readSelector 86 = .ok (.invokevirtual 337, 3) := by decide +kernel
theorem dX13_readSelector_89 : decode cX13_readSelector 89 = .ok (.ifCond .eq 11, 3) := by decide +kernel
theorem dX13_readSelector_92 : decode cX13_readSelector 92 = .ok (.aload_n 0, 1) := by decide +kernel
theorem dX13_readSelector_93 : decode cX13_readSelector 93 = .ok (.iload_n 1, 1) := by decide +kernel
theorem dX13_readSelector_94 : decode cX13_readSelector 94 = .ok (.invokevirtual 346, 3) := by decide +kernel
theorem dX13_readSelector_97 : decode cX13_readSelector 97 = .ok (.goto 86, 3) := by decide +kernel
theorem dX13_readSelector_100 : decode cX13_readSelector 100 = .ok (.iload_n 2, 1) := by decide +kernel
theorem dX13_readSelector_101 : decode cX13_readSelector 101 = .ok (.bipush 63, 2) := by decide +kernel
theorem dX13_readSelector_103 : decode cX13_readSelector 103 = .ok (.if_icmp .ne 72, 3) := by decide +kernel
theorem dX13_readSelector_106 : decode cX13_readSelector 106 = .ok (.aload_n 0, 1) := by decide +kernel
theorem dX13_readSelector_107 : decode cX13_readSelector 107 = .ok (.invokevirtual 343, 3) := by decide +kernel
theorem dX13_readSelector_110 : decode cX13_readSelector 110 = .ok (.aload_n 0, 1) := by decide +kernel
theorem dX13_readSelector_111 : decode cX13_readSelector 111 = .ok (.dup, 1) := by decide +kernel
theorem dX13_readSelector_112 : decode cX13_readSelector 112 = .ok (.getfield 202, 3) := by decide +kernel
theorem dX13_readSelector_115 : decode cX13_readSelector 115 = .ok (.iconst 1, 1) := by decide +kernel
theorem dX13_readSelector_116 : decode cX13_readSelector 116 = .ok (.iadd, 1) := by decide +kernel
theorem dX13_readSelector_117 : decode cX13_readSelector 117 = .ok (.putfield 202, 3) := by decide +kernel
theorem dX13_readSelector_120 : decode cX13_readSelector 120 = .ok (.aload_n 0, 1) := by decide +kernel
theorem dX13_readSelector_121 : decode cX13_readSelector 121 = .ok (.getfield 103, 3) := by decide +kernel
theorem dX13_readSelector_124 : decode cX13_readSelector 124 = .ok (.aload_n 0, 1) := by decide +kernel
theorem dX13_readSelector_125 : decode cX13_readSelector 125 = .ok (.getfield 349, 3) := by decide +kernel
theorem dX13_readSelector_128 : decode cX13_readSelector 128 = .ok (.iconst (-1), 1) := by decide +kernel
theorem dX13_readSelector_129 : decode cX13_readSelector 129 = .ok (.iastore, 1) := by decide +kernel
theorem dX13_readSelector_130 : decode cX13_readSelector 130 = .ok (.aload_n 0, 1) := by decide +kernel
theorem dX13_readSelector_131 : decode cX13_readSelector 131 = .ok (.iload_n 1, 1) := by decide +kernel
theorem dX13_readSelector_132 : decode cX13_readSelector 132 = .ok (.iconst 4, 1) := by decide +kernel
theorem dX13_readSelector_133 : decode cX13_readSelector 133 = .ok (.aload_n 0, 1) := by decide +kernel
theorem dX13_readSelector_134 : decode cX13_readSelector 134 = .ok (.getfield 349, 3) := by decide +kernel
theorem dX13_readSelector_137 : decode cX13_readSelector 137 = .ok (.iconst 0, 1) := by decide +kernel
theorem dX13_readSelector_138 : decode cX13_readSelector 138 = .ok (.iconst 0, 1) := by decide +kernel
theorem dX13_readSelector_139 : decode cX13_readSelector 139 = .ok (.iconst 0, 1) := by decide +kernel
theorem dX13_readSelector_140 : decode cX13_readSelector 140 = .ok (.invokevirtual 330, 3) := by decide +kernel
theorem dX13_readSelector_143 : decode cX13_readSelector 143 = .ok (.pop, 1) := by decide +kernel
theorem dX13_readSelector_144 : decode cX13_readSelector 144 = .ok (.aload_n 0, 1) := by decide +kernel
theorem dX13_readSelector_145 : decode cX13_readSelector 145 = .ok (.bipush 19, 2) := by decide +kernel
theorem dX13_readSelector_147 : decode cX13_readSelector 147 = .ok (.iconst 0, 1) := by decide +kernel
theorem dX13_readSelector_148 : decode cX13_readSelector 148 = .ok (.iconst 0, 1) := by decide +kernel
theorem dX13_readSelector_149 : decode cX13_readSelector 149 = .ok (.invokevirtual 326, 3) := by decide +kernel
theorem dX13_readSelector_152 : decode cX13_readSelector 152 = .ok (.aload_n 0, 1) := by decide +kernel
theorem dX13_readSelector_153 : decode cX13_readSelector 153 = .ok (.iconst 3, 1) := by decide +kernel
theorem dX13_readSelector_154 : decode cX13_readSelector 154 = .ok (.aload_n 0, 1) := by decide +kernel
theorem dX13_readSelector_155 : decode cX13_readSelector 155 = .ok (.getfield 349, 3) := by decide +kernel
theorem dX13_readSelector_158 : decode cX13_readSelector 158 = .ok (.iconst 0, 1) := by decide +kernel
theorem dX13_readSelector_159 : decode cX13_readSelector 159 = .ok (.invokevirtual 326, 3) := by decide +kernel
theorem dX13_readSelector_162 : decode cX13_readSelector 162 = .ok (.aload_n 0, 1) := by decide +kernel
theorem dX13_readSelector_163 : decode cX13_readSelector 163 = .ok (.dup, 1) := by decide +kernel
theorem dX13_readSelector_164 : decode cX13_readSelector 164 = .ok (.getfield 349, 3) := by decide +kernel
theorem dX13_readSelector_167 : decode cX13_readSelector 167 = .ok (.iconst 1, 1) := by decide +kernel
theorem dX13_readSelector_168 : decode cX13_readSelector 168 = .ok (.iadd, 1) := by decide +kernel
theorem dX13_readSelector_169 : decode cX13_readSelector 169 = .ok (.putfield 349, 3) := by decide +kernel
theorem dX13_readSelector_172 : decode cX13_readSelector 172 = .ok (.goto 11, 3) := by decide +kernel
theorem dX13_readSelector_175 : decode cX13_readSelector 175 = .ok (.aload_n 0, 1) := by decide +kernel
theorem dX13_readSelector_176 : decode cX13_readSelector 176 = .ok (.aload_n 0, 1) := by decide +kernel
theorem dX13_readSelector_177 : decode cX13_readSelector 177 = .ok (.getfield 202, 3) := by decide +kernel
theorem dX13_readSelector_180 : decode cX13_readSelector 180 = .ok (.invokevirtual 216, 3) := by decide +kernel
theorem dX13_readSelector_183 : decode cX13_readSelector 183 = .ok (.return_, 1) := by decide +kernel
theorem dX13_readNext_0 : decode cX13_readNext 0 = .ok (.aload_n 0, 1) := by decide +kernel
theorem dX13_readNext_1 : decode cX13_readNext 1 = .ok (.aload_n 0, 1) := by decide +kernel
theorem dX13_readNext_2 : decode cX13_readNext 2 = .ok (.getfield 202, 3) := by decide +kernel
theorem dX13_readNext_5 : decode cX13_readNext 5 = .ok (.invokevirtual 212, 3) := by decide +kernel
theorem dX13_readNext_8 : decode cX13_readNext 8 = .ok (.bipush 44, 2) := by decide +kernel
theorem dX13_readNext_10 : decode cX13_readNext 10 = .ok (.if_icmp .ne 33, 3) := by decide +kernel
theorem dX13_readNext_13 : decode cX13_readNext 13 = .ok (.aload_n 0, 1) := by decide +kernel
theorem dX13_readNext_14 : decode cX13_readNext 14 = .ok (.getfield 76, 3) := by decide +kernel
theorem dX13_readNext_17 : decode cX13_readNext 17 = .ok (.iload_n 1, 1) := by decide +kernel
theorem dX13_readNext_18 : decode cX13_readNext 18 = .ok (.iaload, 1) := by decide +kernel
theorem dX13_readNext_19 : decode cX13_readNext 19 = .ok (.iconst 4, 1) := by decide +kernel
theorem dX13_readNext_20 : decode cX13_readNext 20 = .ok (.if_icmp .ge 23, 3) := by decide +kernel
theorem dX13_readNext_23 : decode cX13_readNext 23 = .ok (.aload_n 0, 1) := by decide +kernel
theorem dX13_readNext_24 : decode cX13_readNext 24 = .ok (.dup, 1) := by decide +kernel
theorem dX13_readNext_25 : decode cX13_readNext 25 = .ok (.getfield 202, 3) := by decide +kernel
theorem dX13_readNext_28 : decode cX13_readNext 28 = .ok (.iconst 1, 1) := by decide +kernel
theorem dX13_readNext_29 : decode cX13_readNext 29 = .ok (.iadd, 1) := by decide +kernel
theorem dX13_readNext_30 : decode cX13_readNext 30 = .ok (.putfield 202, 3) := by decide +kernel
theorem dX13_readNext_33 : decode cX13_readNext 33 = .ok (.aload_n 0, 1) := by decide +kernel
theorem dX13_readNext_34 : decode cX13_readNext 34 = .ok (.iconst 1, 1) := by decide +kernel
theorem dX13_readNext_35 : decode cX13_readNext 35 = .ok (.iload_n 1, 1) := by decide +kernel
theorem dX13_readNext_36 : decode cX13_readNext 36 = .ok (.iconst 0, 1) := by decide +kernel
theorem dX13_readNext_37 : decode cX13_readNext 37 = .ok (.invokevirtual 326, 3) := by decide +kernel
theorem dX13_readNext_40 : decode cX13_readNext 40 = .ok (.goto 21, 3) := by decide +kernel
theorem dX13_readNext_43 : decode cX13_readNext 43 = .ok (.aload_n 0, 1) := by decide +kernel
theorem dX13_readNext_44 : decode cX13_readNext 44 = .ok (.bipush 93, 2) := by decide +kernel
theorem dX13_readNext_46 : decode cX13_readNext 46 = .ok (.invokevirtual 222, 3) := by decide +kernel
theorem dX13_readNext_49 : decode cX13_readNext 49 = .ok (.aload_n 0, 1) := by decide +kernel
theorem dX13_readNext_50 : decode cX13_readNext 50 = .ok (.iconst 0, 1) := by decide +kernel
theorem dX13_readNext_51 : decode cX13_readNext 51 = .ok (.aload_n 0, 1) := by decide +kernel
theorem dX13_readNext_52 : decode cX13_readNext 52 = .ok (.getfield 79, 3) := by decide +kernel
theorem dX13_readNext_55 : decode cX13_readNext 55 = .ok (.iload_n 1, 1) := by decide +kernel
theorem dX13_readNext_56 : decode cX13_readNext 56 = .ok (.iaload, 1) := by decide +kernel
theorem dX13_readNext_57 : decode cX13_readNext 57 = .ok (.iconst 0, 1) := by decide +kernel
theorem dX13_readNext_58 : decode cX13_readNext 58 = .ok (.invokevirtual 326, 3) := by decide +kernel
theorem dX13_readNext_61 : decode cX13_readNext 61 = .ok (.return_, 1) := by decide +kernel
theorem dX13_isTwice_0 : decode cX13_isTwice 0 = .ok (.aload_n 0, 1) := by decide +kernel
theorem dX13_isTwice_1 : decode cX13_isTwice 1 = .ok (.aload_n 0, 1) := by decide +kernel
theorem dX13_isTwice_2 : decode cX13_isTwice 2 = .ok (.getfield 202, 3) := by decide +kernel
theorem dX13_isTwice_5 : decode cX13_isTwice 5 = .ok (.invokevirtual 212, 3) := by decide +kernel
theorem dX13_isTwice_8 : decode cX13_isTwice 8 = .ok (.iload_n 1, 1) := by decide +kernel
theorem dX13_isTwice_9 : decode cX13_isTwice 9 = .ok (.if_icmp .eq 5, 3) := by decide +kernel
theorem dX13_isTwice_12 : decode cX13_isTwice 12 = .ok (.iconst 0, 1) := by decide +kernel
theorem dX13_isTwice_13 : decode cX13_isTwice 13 = .ok (.ireturn, 1) := by decide +kernel
theorem dX13_isTwice_14 : decode cX13_isTwice 14 = .ok (.aload_n 0, 1) := by decide +kernel
theorem dX13_isTwice_15 : decode cX13_isTwice 15 = .ok (.dup, 1) := by decide +kernel
theorem dX13_isTwice_16 : decode cX13_isTwice 16 = .ok (.getfield 202, 3) := by decide +kernel
theorem dX13_isTwice_19 : decode cX13_isTwice 19 = .ok (.iconst 1, 1) := by decide +kernel
theorem dX13_isTwice_20 : decode cX13_isTwice 20 = .ok (.iadd, 1) := by decide +kernel
theorem dX13_isTwice_21 : decode cX13_isTwice 21 = .ok (.putfield 202, 3) := by decide +kernel
theorem dX13_isTwice_24 : decode cX13_isTwice 24 = .ok (.aload_n 0, 1) := by decide +kernel
theorem dX13_isTwice_25 : decode cX13_isTwice 25 = .ok (.iload_n 1, 1) := by decide +kernel
theorem dX13_isTwice_26 : decode cX13_isTwice 26 = .ok (.invokevirtual 222, 3) := by decide +kernel
theorem dX13_isTwice_29 : decode cX13_isTwice 29 = .ok (.iconst 1, 1) := by decide +kernel
theorem dX13_isTwice_30 : decode cX13_isTwice 30 = .ok (.ireturn, 1) := by decide +kernel
theorem dX13_readTest_0 : decode cX13_readTest 0 = .ok (.aload_n 0, 1) := by decide +kernel
theorem dX13_readTest_1 : decode cX13_readTest 1 = .ok (.aload_n 0, 1) := by decide +kernel
theorem dX13_readTest_2 : decode cX13_readTest 2 = .ok (.getfield 202, 3) := by decide +kernel
theorem dX13_readTest_5 : decode cX13_readTest 5 = .ok (.invokevirtual 212, 3) := by decide +kernel
theorem dX13_readTest_8 : decode cX13_readTest 8 = .ok (.istore_n 2, 1) := by decide +kernel
theorem dX13_readTest_9 : decode cX13_readTest 9 = .ok (.iload_n 2, 1) := by decide +kernel
theorem dX13_readTest_10 : decode cX13_readTest 10 = .ok (.bipush 33, 2) := by decide +kernel
theorem dX13_readTest_12 : decode cX13_readTest 12 = .ok (.if_icmp .ne 36, 3) := by decide +kernel
theorem dX13_readTest_15 : decode cX13_readTest 15 = .ok (.aload_n 0, 1) := by decide +kernel
theorem dX13_readTest_16 : decode cX13_readTest 16 = .ok (.invokevirtual 343, 3) := by decide +kernel
theorem dX13_readTest_19 : decode cX13_readTest 19 = .ok (.aload_n 0, 1) := by decide +kernel
theorem dX13_readTest_20 : decode cX13_readTest 20 = .ok (.dup, 1) := by decide +kernel
theorem dX13_readTest_21 : decode cX13_readTest 21 = .ok (.getfield 202, 3) := by decide +kernel
theorem dX13_readTest_24 : decode cX13_readTest 24 = .ok (.iconst 1, 1) := by decide +kernel
theorem dX13_readTest_25 : decode cX13_readTest 25 = .ok (.iadd, 1) := by decide +kernel
theorem dX13_readTest_26 : decode cX13_readTest 26 = .ok (.putfield 202, 3) := by decide +kernel
theorem dX13_readTest_29 : decode cX13_readTest 29 = .ok (.aload_n 0, 1) := by decide +kernel
theorem dX13_readTest_30 : decode cX13_readTest 30 = .ok (.bipush 10, 2) := by decide +kernel
theorem dX13_readTest_32 : decode cX13_readTest 32 = .ok (.iload_n 1, 1) := by decide +kernel
theorem dX13_readTest_33 : decode cX13_readTest 33 = .ok (.iconst 0, 1) := by decide +kernel
theorem dX13_readTest_34 : decode cX13_readTest 34 = .ok (.invokevirtual 326, 3) := by decide +kernel
theorem dX13_readTest_37 : decode cX13_readTest 37 = .ok (.aload_n 0, 1) := by decide +kernel
theorem dX13_readTest_38 : decode cX13_readTest 38 = .ok (.bipush 9, 2) := by decide +kernel
theorem dX13_readTest_40 : decode cX13_readTest 40 = .ok (.iload_n 1, 1) := by decide +kernel
theorem dX13_readTest_41 : decode cX13_readTest 41 = .ok (.iconst 0, 1) := by decide +kernel
theorem dX13_readTest_42 : decode cX13_readTest 42 = .ok (.invokevirtual 326, 3) := by decide +kernel
theorem dX13_readTest_45 : decode cX13_readTest 45 = .ok (.goto 103, 3) := by decide +kernel
theorem dX13_readTest_48 : decode cX13_readTest 48 = .ok (.iload_n 2, 1) := by decide +kernel
theorem dX13_readTest_49 : decode cX13_readTest 49 = .ok (.bipush 40, 2) := by decide +kernel
theorem dX13_readTest_51 : decode cX13_readTest 51 = .ok (.if_icmp .ne 35, 3) := by decide +kernel
theorem dX13_readTest_54 : decode cX13_readTest 54 = .ok (.aload_n 0, 1) := by decide +kernel
theorem dX13_readTest_55 : decode cX13_readTest 55 = .ok (.invokevirtual 343, 3) := by decide +kernel
theorem dX13_readTest_58 : decode cX13_readTest 58 = .ok (.aload_n 0, 1) := by decide +kernel
theorem dX13_readTest_59 : decode cX13_readTest 59 = .ok (.dup, 1) := by decide +kernel
theorem dX13_readTest_60 : decode cX13_readTest 60 = .ok (.getfield 202, 3) := by decide +kernel
theorem dX13_readTest_63 : decode cX13_readTest 63 = .ok (.iconst 1, 1) := by decide +kernel
theorem dX13_readTest_64 : decode cX13_readTest 64 = .ok (.iadd, 1) := by decide +kernel
theorem dX13_readTest_65 : decode cX13_readTest 65 = .ok (.putfield 202, 3) := by decide +kernel
theorem dX13_readTest_68 : decode cX13_readTest 68 = .ok (.aload_n 0, 1) := by decide +kernel
theorem dX13_readTest_69 : decode cX13_readTest 69 = .ok (.bipush 11, 2) := by decide +kernel
theorem dX13_readTest_71 : decode cX13_readTest 71 = .ok (.iconst 0, 1) := by decide +kernel
theorem dX13_readTest_72 : decode cX13_readTest 72 = .ok (.iconst 0, 1) := by decide +kernel
theorem dX13_readTest_73 : decode cX13_readTest 73 = .ok (.invokevirtual 326, 3) := by decide +kernel
theorem dX13_readTest_76 : decode cX13_readTest 76 = .ok (.aload_n 0, 1) := by decide +kernel
theorem dX13_readTest_77 : decode cX13_readTest 77 = .ok (.iconst 3, 1) := by decide +kernel
theorem dX13_readTest_78 : decode cX13_readTest 78 = .ok (.iload_n 1, 1) := by decide +kernel
theorem dX13_readTest_79 : decode cX13_readTest 79 = .ok (.iconst 0, 1) := by decide +kernel
theorem dX13_readTest_80 : decode cX13_readTest 80 = .ok (.invokevirtual 326, 3) := by decide +kernel
theorem dX13_readTest_83 : decode cX13_readTest 83 = .ok (.goto 65, 3) := by decide +kernel
theorem dX13_readTest_86 : decode cX13_readTest 86 = .ok (.iload_n 2, 1) := by decide +kernel
theorem dX13_readTest_87 : decode cX13_readTest 87 = .ok (.bipush 64, 2) := by decide +kernel
theorem dX13_readTest_89 : decode cX13_readTest 89 = .ok (.if_icmp .eq 9, 3) := by decide +kernel
theorem dX13_readTest_92 : decode cX13_readTest 92 = .ok (.iload_n 2, 1) := by decide +kernel
theorem dX13_readTest_93 : decode cX13_readTest 93 = .ok (.bipush 36, 2) := by decide +kernel
theorem dX13_readTest_95 : decode cX13_readTest 95 = .ok (.if_icmp .ne 37, 3) := by decide +kernel
theorem dX13_readTest_98 : decode cX13_readTest 98 = .ok (.aload_n 0, 1) := by decide +kernel
theorem dX13_readTest_99 : decode cX13_readTest 99 = .ok (.iload_n 2, 1) := by decide +kernel
theorem dX13_readTest_100 : decode cX13_readTest 100 = .ok (.bipush 36, 2) := by decide +kernel
theorem dX13_readTest_102 : decode cX13_readTest 102 = .ok (.if_icmp .ne 7, 3) := by decide +kernel
theorem dX13_readTest_105 : decode cX13_readTest 105 = .ok (.iconst 1, 1) := by decide +kernel
theorem dX13_readTest_106 : decode cX13_readTest 106 = .ok (.goto 4, 3) := by decide +kernel
theorem dX13_readTest_109 : decode cX13_readTest 109 = .ok (.iconst 0, 1) := by decide +kernel
theorem dX13_readTest_110 : decode cX13_readTest 110 = .ok (.invokevirtual 352, 3) := by decide +kernel
theorem dX13_readTest_113 : decode cX13_readTest 113 = .ok (.istore_n 3, 1) := by decide +kernel
theorem dX13_readTest_114 : decode cX13_readTest 114 = .ok (.aload_n 0, 1) := by decide +kernel
theorem dX13_readTest_115 : decode cX13_readTest 115 = .ok (.bipush 12, 2) := by decide +kernel
theorem dX13_readTest_117 : decode cX13_readTest 117 = .ok (.iload_n 1, 1) := by decide +kernel
theorem dX13_readTest_118 : decode cX13_readTest 118 = .ok (.iload_n 3, 1) := by decide +kernel
theorem dX13_readTest_119 : decode cX13_readTest 119 = .ok (.invokevirtual 326, 3) := by decide +kernel
theorem dX13_readTest_122 : decode cX13_readTest 122 = .ok (.aload_n 0, 1) := by decide +kernel
theorem dX13_readTest_123 : decode cX13_readTest 123 = .ok (.iconst 0, 1) := by decide +kernel
theorem dX13_readTest_124 : decode cX13_readTest 124 = .ok (.iload_n 3, 1) := by decide +kernel
theorem dX13_readTest_125 : decode cX13_readTest 125 = .ok (.iconst 0, 1) := by decide +kernel
theorem dX13_readTest_126 : decode cX13_readTest 126 = .ok (.invokevirtual 326, 3) := by decide +kernel
theorem dX13_readTest_129 : decode cX13_readTest 129 = .ok (.goto 19, 3) := by decide +kernel
theorem dX13_readTest_132 : decode cX13_readTest 132 = .ok (.aload_n 0, 1) := by decide +kernel
theorem dX13_readTest_133 : decode cX13_readTest 133 = .ok (.bipush 13, 2) := by decide +kernel
theorem dX13_readTest_135 : decode cX13_readTest 135 = .ok (.iload_n 1, 1) := by decide +kernel
theorem dX13_readTest_136 : decode cX13_readTest 136 = .ok (.iconst 0, 1) := by decide +kernel
theorem dX13_readTest_137 : decode cX13_readTest 137 = .ok (.invokevirtual 326, 3) := by decide +kernel
theorem dX13_readTest_140 : decode cX13_readTest 140 = .ok (.aload_n 0, 1) := by decide +kernel
theorem dX13_readTest_141 : decode cX13_readTest 141 = .ok (.bipush 14, 2) := by decide +kernel
theorem dX13_readTest_143 : decode cX13_readTest 143 = .ok (.iload_n 1, 1) := by decide +kernel
theorem dX13_readTest_144 : decode cX13_readTest 144 = .ok (.iconst 0, 1) := by decide +kernel
theorem dX13_readTest_145 : decode cX13_readTest 145 = .ok (.invokevirtual 326, 3) := by decide +kernel
theorem dX13_readTest_148 : decode cX13_readTest 148 = .ok (.return_, 1) := by decide +kernel
theorem dX13_isSingle_0 : decode cX13_isSingle 0 = .ok (.iconst 1, 1) := by decide +kernel
theorem dX13_isSingle_1 : decode cX13_isSingle 1 = .ok (.istore_n 2, 1) := by decide +kernel
theorem dX13_isSingle_2 : decode cX13_isSingle 2 = .ok (.aload_n 0, 1) := by decide +kernel
theorem dX13_isSingle_3 : decode cX13_isSingle 3 = .ok (.getfield 57, 3) := by decide +kernel
theorem dX13_isSingle_6 : decode cX13_isSingle 6 = .ok (.iload_n 1, 1) := by decide +kernel
theorem dX13_isSingle_7 : decode cX13_isSingle 7 = .ok (.iaload, 1) := by decide +kernel
theorem dX13_isSingle_8 : decode cX13_isSingle 8 = .ok (.istore_n 3, 1) := by decide +kernel
theorem dX13_isSingle_9 : decode cX13_isSingle 9 = .ok (.iload_n 3, 1) := by decide +kernel
theorem dX13_isSingle_10 : decode cX13_isSingle 10 = .ok (.iconst (-1), 1) := by decide +kernel
theorem dX13_isSingle_11 : decode cX13_isSingle 11 = .ok (.if_icmp .eq 71, 3) := by decide +kernel
theorem dX13_isSingle_14 : decode cX13_isSingle 14 = .ok (.iload_n 2, 1) := by decide +kernel
theorem dX13_isSingle_15 : decode cX13_isSingle 15 = .ok (.ifCond .eq 55, 3) := by decide +kernel
theorem dX13_isSingle_18 : decode cX13_isSingle 18 = .ok (.aload_n 0, 1) := by decide +kernel
theorem dX13_isSingle_19 : decode cX13_isSingle 19 = .ok (.getfield 82, 3) := by decide +kernel
theorem dX13_isSingle_22 : decode cX13_isSingle 22 = .ok (.iload_n 3, 1) := by decide +kernel
theorem dX13_isSingle_23 : decode cX13_isSingle 23 = .ok (.baload, 1) := by decide +kernel
theorem dX13_isSingle_24 : decode cX13_isSingle 24 = .ok (.ifCond .ne 46, 3) := by decide +kernel
theorem dX13_isSingle_27 : decode cX13_isSingle 27 = .ok (.aload_n 0, 1) := by decide +kernel
theorem dX13_isSingle_28 : decode cX13_isSingle 28 = .ok (.getfield 76, 3) := by decide +kernel
theorem dX13_isSingle_31 : decode cX13_isSingle 31 = .ok (.iload_n 3, 1) := by decide +kernel
theorem dX13_isSingle_32 : decode cX13_isSingle 32 = .ok (.iaload, 1) := by decide +kernel
theorem dX13_isSingle_33 : decode cX13_isSingle 33 = .ok (.iconst 1, 1) := by decide +kernel
theorem dX13_isSingle_34 : decode cX13_isSingle 34 = .ok (.if_icmp .ne 36, 3) := by decide +kernel
theorem dX13_isSingle_37 : decode cX13_isSingle 37 = .ok (.aload_n 0, 1) := by decide +kernel
theorem dX13_isSingle_38 : decode cX13_isSingle 38 = .ok (.getfield 85, 3) := by decide +kernel
theorem dX13_isSingle_41 : decode cX13_isSingle 41 = .ok (.aload_n 0, 1) := by decide +kernel
theorem dX13_isSingle_42 : decode cX13_isSingle 42 = .ok (.getfield 70, 3) := by decide +kernel
theorem dX13_isSingle_45 : decode cX13_isSingle 45 = .ok (.iload_n 3, 1) := by decide +kernel
theorem dX13_isSingle_46 : decode cX13_isSingle 46 = .ok (.iaload, 1) := by decide +kernel
theorem dX13_isSingle_47 : decode cX13_isSingle 47 = .ok (.iaload, 1) := by decide +kernel
theorem dX13_isSingle_48 : decode cX13_isSingle 48 = .ok (.ifCond .eq 18, 3) := by decide +kernel
theorem dX13_isSingle_51 : decode cX13_isSingle 51 = .ok (.aload_n 0, 1) := by decide +kernel
theorem dX13_isSingle_52 : decode cX13_isSingle 52 = .ok (.getfield 85, 3) := by decide +kernel
theorem dX13_isSingle_55 : decode cX13_isSingle 55 = .ok (.aload_n 0, 1) := by decide +kernel
theorem dX13_isSingle_56 : decode cX13_isSingle 56 = .ok (.getfield 70, 3) := by decide +kernel
theorem dX13_isSingle_59 : decode cX13_isSingle 59 = .ok (.iload_n 3, 1) := by decide +kernel
theorem dX13_isSingle_60 : decode cX13_isSingle 60 = .ok (.iaload, 1) := by decide +kernel
theorem dX13_isSingle_61 : decode cX13_isSingle 61 = .ok (.iaload, 1) := by decide +kernel
theorem dX13_isSingle_62 : decode cX13_isSingle 62 = .ok (.iconst 2, 1) := by decide +kernel
theorem dX13_isSingle_63 : decode cX13_isSingle 63 = .ok (.if_icmp .ne 7, 3) := by decide +kernel
theorem dX13_isSingle_66 : decode cX13_isSingle 66 = .ok (.iconst 1, 1) := by decide +kernel
theorem dX13_isSingle_67 : decode cX13_isSingle 67 = .ok (.goto 4, 3) := by decide +kernel
theorem dX13_isSingle_70 : decode cX13_isSingle 70 = .ok (.iconst 0, 1) := by decide +kernel
theorem dX13_isSingle_71 : decode cX13_isSingle 71 = .ok (.istore_n 2, 1) := by decide +kernel
theorem dX13_isSingle_72 : decode cX13_isSingle 72 = .ok (.aload_n 0, 1) := by decide +kernel
theorem dX13_isSingle_73 : decode cX13_isSingle 73 = .ok (.getfield 67, 3) := by decide +kernel
theorem dX13_isSingle_76 : decode cX13_isSingle 76 = .ok (.iload_n 3, 1) := by decide +kernel
theorem dX13_isSingle_77 : decode cX13_isSingle 77 = .ok (.iaload, 1) := by decide +kernel
theorem dX13_isSingle_78 : decode cX13_isSingle 78 = .ok (.istore_n 3, 1) := by decide +kernel
theorem dX13_isSingle_79 : decode cX13_isSingle 79 = .ok (.goto (-70), 3) := by decide +kernel
theorem dX13_isSingle_82 : decode cX13_isSingle 82 = .ok (.iload_n 2, 1) := by decide +kernel
theorem dX13_isSingle_83 : decode cX13_isSingle 83 = .ok (.ireturn, 1) := by decide +kernel
theorem dX13_mustBeSingle_0 : decode cX13_mustBeSingle 0 = .ok (.aload_n 0, 1) := by decide +kernel
theorem dX13_mustBeSingle_1 : decode cX13_mustBeSingle 1 = .ok (.iload_n 1, 1) := by decide +kernel
theorem dX13_mustBeSingle_2 : decode cX13_mustBeSingle 2 = .ok (.invokevirtual 356, 3) := by decide +kernel
theorem dX13_mustBeSingle_5 : decode cX13_mustBeSingle 5 = .ok (.ifCond .ne 13, 3) := by decide +kernel
theorem dX13_mustBeSingle_8 : decode cX13_mustBeSingle 8 = .ok (.aload_n 0, 1) := by decide +kernel
theorem dX13_mustBeSingle_9 : decode cX13_mustBeSingle 9 = .ok (.aload_n 0, 1) := by decide +kernel
theorem dX13_mustBeSingle_10 : decode cX13_mustBeSingle 10 = .ok (.getfield 54, 3) := by decide +kernel
theorem dX13_mustBeSingle_13 : decode cX13_mustBeSingle 13 = .ok (.iload_n 1, 1) := by decide +kernel
theorem dX13_mustBeSingle_14 : decode cX13_mustBeSingle 14 = .ok (.iaload, 1) := by decide +kernel
theorem dX13_mustBeSingle_15 : decode cX13_mustBeSingle 15 = .ok (.invokevirtual 216, 3) := by decide +kernel
theorem dX13_mustBeSingle_18 : decode cX13_mustBeSingle 18 = .ok (.return_, 1) := by decide +kernel
theorem dX13_readTestPath_0 : decode cX13_readTestPath 0 = .ok (.aload_n 0, 1) := by decide +kernel
theorem dX13_readTestPath_1 : decode cX13_readTestPath 1 = .ok (.aload_n 0, 1) := by decide +kernel
theorem dX13_readTestPath_2 : decode cX13_readTestPath 2 = .ok (.getfield 202, 3) := by decide +kernel
theorem dX13_readTestPath_5 : decode cX13_readTestPath 5 = .ok (.invokevirtual 212, 3) := by decide +kernel
theorem dX13_readTestPath_8 : decode cX13_readTestPath 8 = .ok (.istore_n 3, 1) := by decide +kernel
theorem dX13_readTestPath_9 : decode cX13_readTestPath 9 = .ok (.iload_n 3, 1) := by decide +kernel
theorem dX13_readTestPath_10 : decode cX13_readTestPath 10 = .ok (.bipush 61, 2) := by decide +kernel
theorem dX13_readTestPath_12 : decode cX13_readTestPath 12 = .ok (.if_icmp .eq 21, 3) := by decide +kernel
theorem dX13_readTestPath_15 : decode cX13_readTestPath 15 = .ok (.iload_n 3, 1) := by decide +kernel
theorem dX13_readTestPath_16 : decode cX13_readTestPath 16 = .ok (.bipush 33, 2) := by decide +kernel
theorem dX13_readTestPath_18 : decode cX13_readTestPath 18 = .ok (.if_icmp .eq 15, 3) := by decide +kernel
theorem dX13_readTestPath_21 : decode cX13_readTestPath 21 = .ok (.iload_n 3, 1) := by decide +kernel
theorem dX13_readTestPath_22 : decode cX13_readTestPath 22 = .ok (.bipush 60, 2) := by decide +kernel
theorem dX13_readTestPath_24 : decode cX13_readTestPath 24 = .ok (.if_icmp .eq 9, 3) := by decide +kernel
theorem dX13_readTestPath_27 : decode cX13_readTestPath 27 = .ok (.iload_n 3, 1) := by decide +kernel
theorem dX13_readTestPath_28 : decode cX13_readTestPath 28 = .ok (.bipush 62, 2) := by decide +kernel
theorem dX13_readTestPath_30 : decode cX13_readTestPath 30 = .ok (.if_icmp .ne 27, 3) := by decide +kernel
theorem dX13_readTestPath_33 : decode cX13_readTestPath 33 = .ok (.aload_n 0, 1) := by decide +kernel
theorem dX13_readTestPath_34 : decode cX13_readTestPath 34 = .ok (.iload_n 2, 1) := by decide +kernel
theorem dX13_readTestPath_35 : decode cX13_readTestPath 35 = .ok (.invokevirtual 359, 3) := by decide +kernel
theorem dX13_readTestPath_38 : decode cX13_readTestPath 38 = .ok (.aload_n 0, 1) := by decide +kernel
theorem dX13_readTestPath_39 : decode cX13_readTestPath 39 = .ok (.iload_n 1, 1) := by decide +kernel
theorem dX13_readTestPath_40 : decode cX13_readTestPath 40 = .ok (.iconst 1, 1) := by decide +kernel
theorem dX13_readTestPath_41 : decode cX13_readTestPath 41 = .ok (.iload_n 2, 1) := by decide +kernel
theorem dX13_readTestPath_42 : decode cX13_readTestPath 42 = .ok (.iconst 0, 1) := by decide +kernel
theorem dX13_readTestPath_43 : decode cX13_readTestPath 43 = .ok (.invokevirtual 362, 3) := by decide +kernel
theorem dX13_readTestPath_46 : decode cX13_readTestPath 46 = .ok (.aload_n 0, 1) := by decide +kernel
theorem dX13_readTestPath_47 : decode cX13_readTestPath 47 = .ok (.bipush 13, 2) := by decide +kernel
theorem dX13_readTestPath_49 : decode cX13_readTestPath 49 = .ok (.iload_n 1, 1) := by decide +kernel
theorem dX13_readTestPath_50 : decode cX13_readTestPath 50 = .ok (.iconst 0, 1) := by decide +kernel
theorem dX13_readTestPath_51 : decode cX13_readTestPath 51 = .ok (.invokevirtual 326, 3) := by decide +kernel
theorem dX13_readTestPath_54 : decode cX13_readTestPath 54 = .ok (.goto 11, 3) := by decide +kernel
theorem dX13_readTestPath_57 : decode cX13_readTestPath 57 = .ok (.aload_n 0, 1) := by decide +kernel
theorem dX13_readTestPath_58 : decode cX13_readTestPath 58 = .ok (.iload_n 1, 1) := by decide +kernel
theorem dX13_readTestPath_59 : decode cX13_readTestPath 59 = .ok (.iconst 0, 1) := by decide +kernel
theorem dX13_readTestPath_60 : decode cX13_readTestPath 60 = .ok (.iload_n 2, 1) := by decide +kernel
theorem dX13_readTestPath_61 : decode cX13_readTestPath 61 = .ok (.iconst 0, 1) := by decide +kernel
theorem dX13_readTestPath_62 : decode cX13_readTestPath 62 = .ok (.invokevirtual 362, 3) := by decide +kernel
theorem dX13_readTestPath_65 : decode cX13_readTestPath 65 = .ok (.return_, 1) := by decide +kernel
theorem dX13_readRelation_0 : decode cX13_readRelation 0 = .ok (.aload_n 0, 1) := by decide +kernel
theorem dX13_readRelation_1 : decode cX13_readRelation 1 = .ok (.aload_n 0, 1) := by decide +kernel
theorem dX13_readRelation_2 : decode cX13_readRelation 2 = .ok (.getfield 202, 3) := by decide +kernel
theorem dX13_readRelation_5 : decode cX13_readRelation 5 = .ok (.invokevirtual 212, 3) := by decide +kernel
theorem dX13_readRelation_8 : decode cX13_readRelation 8 = .ok (.istore_n 2, 1) := by decide +kernel
theorem dX13_readRelation_9 : decode cX13_readRelation 9 = .ok (.iconst 0, 1) := by decide +kernel
theorem dX13_readRelation_10 : decode cX13_readRelation 10 = .ok (.istore_n 3, 1) := by decide +kernel
theorem dX13_readRelation_11 : decode cX13_readRelation 11 = .ok (.iload_n 2, 1) := by decide +kernel
theorem dX13_readRelation_12 : decode cX13_readRelation 12 = .ok (.bipush 61, 2) := by decide +kernel
theorem dX13_readRelation_14 : decode cX13_readRelation 14 = .ok (.if_icmp .eq 9, 3) := by decide +kernel
theorem dX13_readRelation_17 : decode cX13_readRelation 17 = .ok (.iload_n 2, 1) := by decide +kernel
theorem dX13_readRelation_18 : decode cX13_readRelation 18 = .ok (.bipush 33, 2) := by decide +kernel
theorem dX13_readRelation_20 : decode cX13_readRelation 20 = .ok (.if_icmp .ne 34, 3) := by decide +kernel
theorem dX13_readRelation_23 : decode cX13_readRelation 23 = .ok (.aload_n 0, 1) := by decide +kernel
theorem dX13_readRelation_24 : decode cX13_readRelation 24 = .ok (.dup, 1) := by decide +kernel
theorem dX13_readRelation_25 : decode cX13_readRelation 25 = .ok (.getfield 202, 3) := by decide +kernel
theorem dX13_readRelation_28 : decode cX13_readRelation 28 = .ok (.iconst 1, 1) := by decide +kernel
theorem dX13_readRelation_29 : decode cX13_readRelation 29 = .ok (.iadd, 1) := by decide +kernel
theorem dX13_readRelation_30 : decode cX13_readRelation 30 = .ok (.putfield 202, 3) := by decide +kernel
theorem dX13_readRelation_33 : decode cX13_readRelation 33 = .ok (.aload_n 0, 1) := by decide +kernel
theorem dX13_readRelation_34 : decode cX13_readRelation 34 = .ok (.bipush 61, 2) := by decide +kernel
theorem dX13_readRelation_36 : decode cX13_readRelation 36 = .ok (.invokevirtual 222, 3) := by decide +kernel
theorem dX13_readRelation_39 : decode cX13_readRelation 39 = .ok (.iload_n 2, 1) := by decide +kernel
theorem dX13_readRelation_40 : decode cX13_readRelation 40 = .ok (.bipush 61, 2) := by decide +kernel
theorem dX13_readRelation_42 : decode cX13_readRelation 42 = .ok (.if_icmp .ne 7, 3) := by decide +kernel
theorem dX13_readRelation_45 : decode cX13_readRelation 45 = .ok (.iconst 0, 1) := by decide +kernel
theorem dX13_readRelation_46 : decode cX13_readRelation 46 = .ok (.goto 4, 3) := by decide +kernel
theorem dX13_readRelation_49 : decode cX13_readRelation 49 = .ok (.iconst 1, 1) := by decide +kernel
theorem dX13_readRelation_50 : decode cX13_readRelation 50 = .ok (.istore_n 3, 1) := by decide +kernel
theorem dX13_readRelation_51 : decode cX13_readRelation 51 = .ok (.goto 98, 3) := by decide +kernel
theorem dX13_readRelation_54 : decode cX13_readRelation 54 = .ok (.iload_n 2, 1) := by decide +kernel
theorem dX13_readRelation_55 : decode cX13_readRelation 55 = .ok (.bipush 60, 2) := by decide +kernel
theorem dX13_readRelation_57 : decode cX13_readRelation 57 = .ok (.if_icmp .eq 9, 3) := by decide +kernel
theorem dX13_readRelation_60 : decode cX13_readRelation 60 = .ok (.iload_n 2, 1) := by decide +kernel
theorem dX13_readRelation_61 : decode cX13_readRelation 61 = .ok (.bipush 62, 2) := by decide +kernel
theorem dX13_readRelation_63 : decode cX13_readRelation 63 = .ok (.if_icmp .ne 78, 3) := by decide +kernel
theorem dX13_readRelation_66 : decode cX13_readRelation 66 = .ok (.aload_n 0, 1) := by decide +kernel
theorem dX13_readRelation_67 : decode cX13_readRelation 67 = .ok (.dup, 1) := by decide +kernel
theorem dX13_readRelation_68 : decode cX13_readRelation 68 = .ok (.getfield 202, 3) := by decide +kernel
theorem dX13_readRelation_71 : decode cX13_readRelation 71 = .ok (.iconst 1, 1) := by decide +kernel
theorem dX13_readRelation_72 : decode cX13_readRelation 72 = .ok (.iadd, 1) := by decide +kernel
theorem dX13_readRelation_73 : decode cX13_readRelation 73 = .ok (.putfield 202, 3) := by decide +kernel
theorem dX13_readRelation_76 : decode cX13_readRelation 76 = .ok (.aload_n 0, 1) := by decide +kernel
theorem dX13_readRelation_77 : decode cX13_readRelation 77 = .ok (.aload_n 0, 1) := by decide +kernel
theorem dX13_readRelation_78 : decode cX13_readRelation 78 = .ok (.getfield 202, 3) := by decide +kernel
theorem dX13_readRelation_81 : decode cX13_readRelation 81 = .ok (.invokevirtual 212, 3) := by decide +kernel
theorem dX13_readRelation_84 : decode cX13_readRelation 84 = .ok (.bipush 61, 2) := by decide +kernel
theorem dX13_readRelation_86 : decode cX13_readRelation 86 = .ok (.if_icmp .ne 7, 3) := by decide +kernel
theorem dX13_readRelation_89 : decode cX13_readRelation 89 = .ok (.iconst 1, 1) := by decide +kernel
theorem dX13_readRelation_90 : decode cX13_readRelation 90 = .ok (.goto 4, 3) := by decide +kernel
theorem dX13_readRelation_93 : decode cX13_readRelation 93 = .ok (.iconst 0, 1) := by decide +kernel
theorem dX13_readRelation_94 : decode cX13_readRelation 94 = .ok (.istore 4, 2) := by decide +kernel
theorem dX13_readRelation_96 : decode cX13_readRelation 96 = .ok (.aload_n 0, 1) := by decide +kernel
theorem dX13_readRelation_97 : decode cX13_readRelation 97 = .ok (.dup, 1) := by decide +kernel
theorem dX13_readRelation_98 : decode cX13_readRelation 98 = .ok (.getfield 202, 3) := by decide +kernel
theorem dX13_readRelation_101 : decode cX13_readRelation 101 = .ok (.iload 4, 2) := by decide +kernel
theorem dX13_readRelation_103 : decode cX13_readRelation 103 = .ok (.ifCond .eq 7, 3) := by decide +kernel
theorem dX13_readRelation_106 : decode cX13_readRelation 106 = .ok (.iconst 1, 1) := by decide +kernel
theorem dX13_readRelation_107 : decode cX13_readRelation 107 = .ok (.goto 4, 3) := by decide +kernel
theorem dX13_readRelation_110 : decode cX13_readRelation 110 = .ok (.iconst 0, 1) := by decide +kernel
theorem dX13_readRelation_111 : decode cX13_readRelation 111 = .ok (.iadd, 1) := by decide +kernel
theorem dX13_readRelation_112 : decode cX13_readRelation 112 = .ok (.putfield 202, 3) := by decide +kernel
theorem dX13_readRelation_115 : decode cX13_readRelation 115 = .ok (.iload_n 2, 1) := by decide +kernel
theorem dX13_readRelation_116 : decode cX13_readRelation 116 = .ok (.bipush 60, 2) := by decide +kernel
theorem dX13_readRelation_118 : decode cX13_readRelation 118 = .ok (.if_icmp .ne 7, 3) := by decide +kernel
theorem dX13_readRelation_121 : decode cX13_readRelation 121 = .ok (.iconst 2, 1) := by decide +kernel
theorem dX13_readRelation_122 : decode cX13_readRelation 122 = .ok (.goto 4, 3) := by decide +kernel
theorem dX13_readRelation_125 : decode cX13_readRelation 125 = .ok (.iconst 4, 1) := by decide +kernel
theorem dX13_readRelation_126 : decode cX13_readRelation 126 = .ok (.iload 4, 2) := by decide +kernel
theorem dX13_readRelation_128 : decode cX13_readRelation 128 = .ok (.ifCond .eq 7, 3) := by decide +kernel
theorem dX13_readRelation_131 : decode cX13_readRelation 131 = .ok (.iconst 1, 1) := by decide +kernel
theorem dX13_readRelation_132 : decode cX13_readRelation 132 = .ok (.goto 4, 3) := by decide +kernel
theorem dX13_readRelation_135 : decode cX13_readRelation 135 = .ok (.iconst 0, 1) := by decide +kernel
theorem dX13_readRelation_136 : decode cX13_readRelation 136 = .ok (.iadd, 1) := by decide +kernel
theorem dX13_readRelation_137 : decode cX13_readRelation 137 = .ok (.istore_n 3, 1) := by decide +kernel
theorem dX13_readRelation_138 : decode cX13_readRelation 138 = .ok (.goto 11, 3) := by decide +kernel
theorem dX13_readRelation_141 : decode cX13_readRelation 141 = .ok (.aload_n 0, 1) := by decide +kernel
theorem dX13_readRelation_142 : decode cX13_readRelation 142 = .ok (.aload_n 0, 1) := by decide +kernel
theorem dX13_readRelation_143 : decode cX13_readRelation 143 = .ok (.getfield 202, 3) := by decide +kernel
theorem dX13_readRelation_146 : decode cX13_readRelation 146 = .ok (.invokevirtual 216, 3) := by decide +kernel
theorem dX13_readRelation_149 : decode cX13_readRelation 149 = .ok (.aload_n 0, 1) := by decide +kernel
theorem dX13_readRelation_150 : decode cX13_readRelation 150 = .ok (.bipush 15, 2) := by decide +kernel
theorem dX13_readRelation_152 : decode cX13_readRelation 152 = .ok (.iload_n 1, 1) := by decide +kernel
theorem dX13_readRelation_153 : decode cX13_readRelation 153 = .ok (.iload_n 3, 1) := by decide +kernel
theorem dX13_readRelation_154 : decode cX13_readRelation 154 = .ok (.invokevirtual 326, 3) := by decide +kernel
theorem dX13_readRelation_157 : decode cX13_readRelation 157 = .ok (.aload_n 0, 1) := by decide +kernel
theorem dX13_readRelation_158 : decode cX13_readRelation 158 = .ok (.bipush 14, 2) := by decide +kernel
theorem dX13_readRelation_160 : decode cX13_readRelation 160 = .ok (.iload_n 1, 1) := by decide +kernel
theorem dX13_readRelation_161 : decode cX13_readRelation 161 = .ok (.iconst 0, 1) := by decide +kernel
theorem dX13_readRelation_162 : decode cX13_readRelation 162 = .ok (.invokevirtual 326, 3) := by decide +kernel
theorem dX13_readRelation_165 : decode cX13_readRelation 165 = .ok (.return_, 1) := by decide +kernel
def mo_opens_j16 (S : md_S) : Option md_S :=
  md_l (md_p S 31 ((S.1 31) + 1)) fun S23 =>
  some S23
theorem ro_opens_j16 {l : Launch} {G : mv_G} {B : mv_H} {m d : Nat} (hG : mv_ok G) (hm : G.2.2.1 ≤ m) {S : md_S} {q : md_S} (hq : mo_opens_j16  S = some q) : mv_rq l G mX13_opens (d + 2) 16 [some (.ref m)] [] (md_H G B m S) (md_V G B m q) := by
  unfold mo_opens_j16 at hq
  refine q_aload_n dX13_opens_16 rfl ?_
  refine q_dup dX13_opens_17 rfl ?_
  refine r_geti 31 dX13_opens_18 fl_RX13_340 (by decide) rfl ki_31 ?_
  refine q_iconst (v := 1) dX13_opens_21 (by decide) ?_
  refine q_iadd dX13_opens_22 ?_
  refine r_puti 31 .int dX13_opens_23 fl_RX13_340 (by decide) rfl ki_31 rfl kp_31 rfl rfl hm (fun S23 e23 => ?_)
  have hq := md_l_e e23 hq
  clear e23
  show mv_rq l G mX13_opens (d + 2) 26 [some (.ref m)] [] (md_H G B m S23) _
  obtain rfl := Option.some.inj hq
  exact q_vret dX13_opens_26 rfl ⟨rfl, rfl⟩
def mo_opens (S : md_S) : Option md_S :=
  if (S.1 31) = 4 then
    md_c (mo_fail (S.1 6) S) fun S13 =>
    mo_opens_j16  S13
  else
    mo_opens_j16  S
theorem ro_opens {l : Launch} {G : mv_G} {B : mv_H} {m d : Nat} (hG : mv_ok G) (hm : G.2.2.1 ≤ m) {S : md_S} {q : md_S} (hq : mo_opens S = some q) : mv_rq l G mX13_opens (d + 2) 0 (mv_in [.ref m] 1) [] (md_H G B m S) (md_V G B m q) := by
  unfold mo_opens at hq
  show mv_rq l G mX13_opens (d + 2) 0 [some (.ref m)] [] (md_H G B m S) _
  refine q_aload_n dX13_opens_0 rfl ?_
  refine r_geti 31 dX13_opens_1 fl_RX13_340 (by decide) rfl ki_31 ?_
  refine q_iconst (v := 4) dX13_opens_4 (by decide) ?_
  refine q_icmp_ne (tgt := 16) dX13_opens_5 (by decide) (fun c5 => ?_) (fun c5 => ?_)
  ·
    have hq := md_neg c5 hq
    refine mv_weak (A := [some (.ref m)]) (by repeat' constructor) ?_
    exact ro_opens_j16 hG hm hq
  ·
    have hq := md_pos c5 hq
    refine q_aload_n dX13_opens_8 rfl ?_
    refine q_aload_n dX13_opens_9 rfl ?_
    refine r_geti 6 dX13_opens_10 fl_RX13_202 (by decide) rfl ki_6 ?_
    obtain ⟨S13, e13, hq⟩ := md_c_e hq
    refine q_cV (Y := mX13_fail) (As := [.int (S.1 6)]) (st := []) (b := m) (ci := 15) vc_X13_fail dX13_opens_13 ml_RX13_216 rfl md_obj rfl (Nat.le_of_ble_eq_true rfl) rfl (Nat.le_of_ble_eq_true rfl) (ro_fail (d := d) hG hm e13) (fun v h1 hq1 => ?_) (fun E h1 hq1 => md_nV hq1)
    obtain ⟨hv, rfl⟩ := hq1
    cases hv
    show mv_rq l G mX13_opens (d + 2) 16 [some (.ref m)] [] (md_H G B m S13) _
    refine mv_weak (A := [some (.ref m)]) (by repeat' constructor) ?_
    exact ro_opens_j16 hG hm hq
def mo_bracket_j17 (S : md_S) : Option md_S :=
  md_c (mo_need 40 S) fun S20 =>
  some S20
theorem ro_bracket_j17 {l : Launch} {G : mv_G} {B : mv_H} {m d : Nat} (hG : mv_ok G) (hm : G.2.2.1 ≤ m) {S : md_S} {q : md_S} (hq : mo_bracket_j17  S = some q) : mv_rq l G mX13_bracket (d + 3) 17 [some (.ref m)] [] (md_H G B m S) (md_V G B m q) := by
  unfold mo_bracket_j17 at hq
  refine q_aload_n dX13_bracket_17 rfl ?_
  refine q_bipush (v := 40) dX13_bracket_18 (by decide) ?_
  obtain ⟨S20, e20, hq⟩ := md_c_e hq
  refine q_cV (Y := mX13_need) (As := [.int 40]) (st := []) (b := m) (ci := 15) vc_X13_need dX13_bracket_20 ml_RX13_222 rfl md_obj rfl (Nat.le_of_ble_eq_true rfl) rfl (Nat.le_of_ble_eq_true rfl) (ro_need (d := d) hG hm e20) (fun v h1 hq1 => ?_) (fun E h1 hq1 => md_nV hq1)
  obtain ⟨hv, rfl⟩ := hq1
  cases hv
  show mv_rq l G mX13_bracket (d + 3) 23 [some (.ref m)] [] (md_H G B m S20) _
  obtain rfl := Option.some.inj hq
  exact q_vret dX13_bracket_23 rfl ⟨rfl, rfl⟩
def mo_bracket (S : md_S) : Option md_S :=
  md_b (mo_at (S.1 6) S) fun v5 S5 =>
  if v5 = 40 then
    md_c (mo_opens S5) fun S14 =>
    mo_bracket_j17  S14
  else
    mo_bracket_j17  S5
theorem ro_bracket {l : Launch} {G : mv_G} {B : mv_H} {m d : Nat} (hG : mv_ok G) (hm : G.2.2.1 ≤ m) {S : md_S} {q : md_S} (hq : mo_bracket S = some q) : mv_rq l G mX13_bracket (d + 3) 0 (mv_in [.ref m] 1) [] (md_H G B m S) (md_V G B m q) := by
  unfold mo_bracket at hq
  show mv_rq l G mX13_bracket (d + 3) 0 [some (.ref m)] [] (md_H G B m S) _
  refine q_aload_n dX13_bracket_0 rfl ?_
  refine q_aload_n dX13_bracket_1 rfl ?_
  refine r_geti 6 dX13_bracket_2 fl_RX13_202 (by decide) rfl ki_6 ?_
  obtain ⟨v5, S5, e5, hq⟩ := md_b_e hq
  refine q_cV (Y := mX13_at) (As := [.int (S.1 6)]) (st := []) (b := m) (ci := 15) vc_X13_at dX13_bracket_5 ml_RX13_212 rfl md_obj rfl (Nat.le_of_ble_eq_true rfl) rfl (Nat.le_of_ble_eq_true rfl) (ro_at (d := d + 2) hG hm e5) (fun v h1 hq1 => ?_) (fun E h1 hq1 => md_nQ hq1)
  obtain ⟨hv, rfl⟩ := hq1
  cases hv
  show mv_rq l G mX13_bracket (d + 3) 8 [some (.ref m)] [.int v5] (md_H G B m S5) _
  refine q_bipush (v := 40) dX13_bracket_8 (by decide) ?_
  refine q_icmp_ne (tgt := 17) dX13_bracket_10 (by decide) (fun c10 => ?_) (fun c10 => ?_)
  ·
    have hq := md_neg c10 hq
    refine mv_weak (A := [some (.ref m)]) (by repeat' constructor) ?_
    exact ro_bracket_j17 hG hm hq
  ·
    have hq := md_pos c10 hq
    refine q_aload_n dX13_bracket_13 rfl ?_
    obtain ⟨S14, e14, hq⟩ := md_c_e hq
    refine q_cV (Y := mX13_opens) (As := []) (st := []) (b := m) (ci := 15) vc_X13_opens dX13_bracket_14 ml_RX13_343 rfl md_obj rfl (Nat.le_of_ble_eq_true rfl) rfl (Nat.le_of_ble_eq_true rfl) (ro_opens (d := d) hG hm e14) (fun v h1 hq1 => ?_) (fun E h1 hq1 => md_nV hq1)
    obtain ⟨hv, rfl⟩ := hq1
    cases hv
    show mv_rq l G mX13_bracket (d + 3) 17 [some (.ref m)] [] (md_H G B m S14) _
    refine mv_weak (A := [some (.ref m)]) (by repeat' constructor) ?_
    exact ro_bracket_j17 hG hm hq
def mo_readSelector_j92 (N : Nat) (x1 : Int32) (S : md_S) : Option md_S :=
  md_c (mo_readPlaces N x1 S) fun S94 =>
  some S94
theorem ro_readSelector_j92 {l : Launch} {G : mv_G} {B : mv_H} {m N d : Nat} (hG : mv_ok G) (hm : G.2.2.1 ≤ m) {x1 : Int32} {S : md_S} {q : md_S} (hq : mo_readSelector_j92 N x1 S = some q) : mv_rq l G mX13_readSelector (d + 4) 92 [some (.ref m), some (.int x1), none] [] (md_H G B m S) (md_V G B m q) := by
  unfold mo_readSelector_j92 at hq
  refine q_aload_n dX13_readSelector_92 rfl ?_
  refine q_iload_n dX13_readSelector_93 rfl ?_
  obtain ⟨S94, e94, hq⟩ := md_c_e hq
  refine q_cV (Y := mX13_readPlaces) (As := [.int x1]) (st := []) (b := m) (ci := 15) vc_X13_readPlaces dX13_readSelector_94 ml_RX13_346 rfl md_obj rfl (Nat.le_of_ble_eq_true rfl) rfl (Nat.le_of_ble_eq_true rfl) (ro_readPlaces (d := d) hG hm e94) (fun v h1 hq1 => ?_) (fun E h1 hq1 => md_nV hq1)
  obtain ⟨hv, rfl⟩ := hq1
  cases hv
  show mv_rq l G mX13_readSelector (d + 4) 97 [some (.ref m), some (.int x1), none] [] (md_H G B m S94) _
  refine q_goto (tgt := 183) dX13_readSelector_97 (by decide) ?_
  obtain rfl := Option.some.inj hq
  exact q_vret dX13_readSelector_183 rfl ⟨rfl, rfl⟩
def mo_readSelector (N : Nat) (x1 : Int32) (S : md_S) : Option md_S :=
  md_b (mo_at (S.1 6) S) fun v5 S5 =>
  md_c (mo_push 2 x1 0 S5) fun S13 =>
  if v5 = 39 then
    md_c (mo_readString N 39 (-1) S13) fun S26 =>
    md_b (mo_newSelector x1 0 (S26.1 86) (S26.1 87) 0 0 S26) fun v42 S42 =>
    some S42
  else
    if v5 = 42 then
      md_l (md_p S13 6 ((S13.1 6) + 1)) fun S62 =>
      md_b (mo_newSelector x1 1 0 0 0 0 S62) fun v72 S72 =>
      some S72
    else
      if v5 = 58 then
        mo_readSelector_j92 N x1 S13
      else
        md_b (mo_isNumberNext S13) fun v86 S86 =>
        if v86 = 0 then
          if v5 = 63 then
            md_c (mo_opens S86) fun S107 =>
            md_l (md_p S107 6 ((S107.1 6) + 1)) fun S117 =>
            if md_in (S117.1 29) 50 then
            md_l (md_w S117 49 (S117.1 29).toNatClampNeg (-1)) fun S129 =>
            md_b (mo_newSelector x1 4 (S129.1 29) 0 0 0 S129) fun v140 S140 =>
            md_c (mo_push 19 0 0 S140) fun S149 =>
            md_c (mo_push 3 (S149.1 29) 0 S149) fun S159 =>
            md_l (md_p S159 29 ((S159.1 29) + 1)) fun S169 =>
            some S169
            else none
          else
            md_c (mo_fail (S86.1 6) S86) fun S180 =>
            some S180
        else
          mo_readSelector_j92 N x1 S86
theorem ro_readSelector {l : Launch} {G : mv_G} {B : mv_H} {m N d : Nat} (hG : mv_ok G) (hm : G.2.2.1 ≤ m) {x1 : Int32} {S : md_S} {q : md_S} (hq : mo_readSelector N x1 S = some q) : mv_rq l G mX13_readSelector (d + 4) 0 (mv_in [.ref m, .int x1] 3) [] (md_H G B m S) (md_V G B m q) := by
  unfold mo_readSelector at hq
  show mv_rq l G mX13_readSelector (d + 4) 0 [some (.ref m), some (.int x1), none] [] (md_H G B m S) _
  refine q_aload_n dX13_readSelector_0 rfl ?_
  refine q_aload_n dX13_readSelector_1 rfl ?_
  refine r_geti 6 dX13_readSelector_2 fl_RX13_202 (by decide) rfl ki_6 ?_
  obtain ⟨v5, S5, e5, hq⟩ := md_b_e hq
  refine q_cV (Y := mX13_at) (As := [.int (S.1 6)]) (st := []) (b := m) (ci := 15) vc_X13_at dX13_readSelector_5 ml_RX13_212 rfl md_obj rfl (Nat.le_of_ble_eq_true rfl) rfl (Nat.le_of_ble_eq_true rfl) (ro_at (d := d + 3) hG hm e5) (fun v h1 hq1 => ?_) (fun E h1 hq1 => md_nQ hq1)
  obtain ⟨hv, rfl⟩ := hq1
  cases hv
  show mv_rq l G mX13_readSelector (d + 4) 8 [some (.ref m), some (.int x1), none] [.int v5] (md_H G B m S5) _
  refine q_istore_n dX13_readSelector_8 (Nat.le_of_ble_eq_true rfl) rfl ?_
  show mv_rq l G mX13_readSelector (d + 4) 9 [some (.ref m), some (.int x1), some (.int v5)] [] (md_H G B m S5) _
  refine q_aload_n dX13_readSelector_9 rfl ?_
  refine q_iconst (v := 2) dX13_readSelector_10 (by decide) ?_
  refine q_iload_n dX13_readSelector_11 rfl ?_
  refine q_iconst (v := 0) dX13_readSelector_12 (by decide) ?_
  obtain ⟨S13, e13, hq⟩ := md_c_e hq
  refine q_cV (Y := mX13_push) (As := [.int 2, .int x1, .int 0]) (st := []) (b := m) (ci := 15) vc_X13_push dX13_readSelector_13 ml_RX13_326 rfl md_obj rfl (Nat.le_of_ble_eq_true rfl) rfl (Nat.le_of_ble_eq_true rfl) (ro_push (d := d + 3) hG hm e13) (fun v h1 hq1 => ?_) (fun E h1 hq1 => md_nV hq1)
  obtain ⟨hv, rfl⟩ := hq1
  cases hv
  show mv_rq l G mX13_readSelector (d + 4) 16 [some (.ref m), some (.int x1), some (.int v5)] [] (md_H G B m S13) _
  refine q_iload_n dX13_readSelector_16 rfl ?_
  refine q_bipush (v := 39) dX13_readSelector_17 (by decide) ?_
  refine q_icmp_ne (tgt := 49) dX13_readSelector_19 (by decide) (fun c19 => ?_) (fun c19 => ?_)
  ·
    have hq := md_neg c19 hq
    refine q_iload_n dX13_readSelector_49 rfl ?_
    refine q_bipush (v := 42) dX13_readSelector_50 (by decide) ?_
    refine q_icmp_ne (tgt := 79) dX13_readSelector_52 (by decide) (fun c52 => ?_) (fun c52 => ?_)
    ·
      have hq := md_neg c52 hq
      refine q_iload_n dX13_readSelector_79 rfl ?_
      refine q_bipush (v := 58) dX13_readSelector_80 (by decide) ?_
      refine q_icmp_eq (tgt := 92) dX13_readSelector_82 (by decide) (fun c82 => ?_) (fun c82 => ?_)
      ·
        have hq := md_pos c82 hq
        refine mv_weak (A := [some (.ref m), some (.int x1), none]) (by repeat' constructor) ?_
        exact ro_readSelector_j92 hG hm hq
      ·
        have hq := md_neg c82 hq
        refine q_aload_n dX13_readSelector_85 rfl ?_
        obtain ⟨v86, S86, e86, hq⟩ := md_b_e hq
        refine q_cV (Y := mX13_isNumberNext) (As := []) (st := []) (b := m) (ci := 15) vc_X13_isNumberNext dX13_readSelector_86 ml_RX13_337 rfl md_obj rfl (Nat.le_of_ble_eq_true rfl) rfl (Nat.le_of_ble_eq_true rfl) (ro_isNumberNext (d := d + 2) hG hm e86) (fun v h1 hq1 => ?_) (fun E h1 hq1 => md_nQ hq1)
        obtain ⟨hv, rfl⟩ := hq1
        cases hv
        show mv_rq l G mX13_readSelector (d + 4) 89 [some (.ref m), some (.int x1), some (.int v5)] [.int v86] (md_H G B m S86) _
        refine q_if_eq (tgt := 100) dX13_readSelector_89 (by decide) (fun c89 => ?_) (fun c89 => ?_)
        ·
          have hq := md_pos c89 hq
          refine q_iload_n dX13_readSelector_100 rfl ?_
          refine q_bipush (v := 63) dX13_readSelector_101 (by decide) ?_
          refine q_icmp_ne (tgt := 175) dX13_readSelector_103 (by decide) (fun c103 => ?_) (fun c103 => ?_)
          ·
            have hq := md_neg c103 hq
            refine q_aload_n dX13_readSelector_175 rfl ?_
            refine q_aload_n dX13_readSelector_176 rfl ?_
            refine r_geti 6 dX13_readSelector_177 fl_RX13_202 (by decide) rfl ki_6 ?_
            obtain ⟨S180, e180, hq⟩ := md_c_e hq
            refine q_cV (Y := mX13_fail) (As := [.int (S86.1 6)]) (st := []) (b := m) (ci := 15) vc_X13_fail dX13_readSelector_180 ml_RX13_216 rfl md_obj rfl (Nat.le_of_ble_eq_true rfl) rfl (Nat.le_of_ble_eq_true rfl) (ro_fail (d := d + 2) hG hm e180) (fun v h1 hq1 => ?_) (fun E h1 hq1 => md_nV hq1)
            obtain ⟨hv, rfl⟩ := hq1
            cases hv
            show mv_rq l G mX13_readSelector (d + 4) 183 [some (.ref m), some (.int x1), some (.int v5)] [] (md_H G B m S180) _
            obtain rfl := Option.some.inj hq
            exact q_vret dX13_readSelector_183 rfl ⟨rfl, rfl⟩
          ·
            have hq := md_pos c103 hq
            refine q_aload_n dX13_readSelector_106 rfl ?_
            obtain ⟨S107, e107, hq⟩ := md_c_e hq
            refine q_cV (Y := mX13_opens) (As := []) (st := []) (b := m) (ci := 15) vc_X13_opens dX13_readSelector_107 ml_RX13_343 rfl md_obj rfl (Nat.le_of_ble_eq_true rfl) rfl (Nat.le_of_ble_eq_true rfl) (ro_opens (d := d + 1) hG hm e107) (fun v h1 hq1 => ?_) (fun E h1 hq1 => md_nV hq1)
            obtain ⟨hv, rfl⟩ := hq1
            cases hv
            show mv_rq l G mX13_readSelector (d + 4) 110 [some (.ref m), some (.int x1), some (.int v5)] [] (md_H G B m S107) _
            refine q_aload_n dX13_readSelector_110 rfl ?_
            refine q_dup dX13_readSelector_111 rfl ?_
            refine r_geti 6 dX13_readSelector_112 fl_RX13_202 (by decide) rfl ki_6 ?_
            refine q_iconst (v := 1) dX13_readSelector_115 (by decide) ?_
            refine q_iadd dX13_readSelector_116 ?_
            refine r_puti 6 .int dX13_readSelector_117 fl_RX13_202 (by decide) rfl ki_6 rfl kp_6 rfl rfl hm (fun S117 e117 => ?_)
            have hq := md_l_e e117 hq
            clear e117
            show mv_rq l G mX13_readSelector (d + 4) 120 [some (.ref m), some (.int x1), some (.int v5)] [] (md_H G B m S117) _
            refine q_aload_n dX13_readSelector_120 rfl ?_
            refine r_geta 49 dX13_readSelector_121 fl_RX13_103 (by decide) rfl kk_49 ?_
            refine q_aload_n dX13_readSelector_124 rfl ?_
            refine r_geti 29 dX13_readSelector_125 fl_RX13_349 (by decide) rfl ki_29 ?_
            refine q_iconst (v := (-1)) dX13_readSelector_128 (by decide) ?_
            obtain ⟨g129, hq⟩ := md_g hq
            refine r_iast hG hm 49 dX13_readSelector_129 kk_49 g129 (fun S129 e129 => ?_)
            have hq := md_l_e e129 hq
            clear e129
            show mv_rq l G mX13_readSelector (d + 4) 130 [some (.ref m), some (.int x1), some (.int v5)] [] (md_H G B m S129) _
            refine q_aload_n dX13_readSelector_130 rfl ?_
            refine q_iload_n dX13_readSelector_131 rfl ?_
            refine q_iconst (v := 4) dX13_readSelector_132 (by decide) ?_
            refine q_aload_n dX13_readSelector_133 rfl ?_
            refine r_geti 29 dX13_readSelector_134 fl_RX13_349 (by decide) rfl ki_29 ?_
            refine q_iconst (v := 0) dX13_readSelector_137 (by decide) ?_
            refine q_iconst (v := 0) dX13_readSelector_138 (by decide) ?_
            refine q_iconst (v := 0) dX13_readSelector_139 (by decide) ?_
            obtain ⟨v140, S140, e140, hq⟩ := md_b_e hq
            refine q_cV (Y := mX13_newSelector) (As := [.int x1, .int 4, .int (S129.1 29), .int 0, .int 0, .int 0]) (st := []) (b := m) (ci := 15) vc_X13_newSelector dX13_readSelector_140 ml_RX13_330 rfl md_obj rfl (Nat.le_of_ble_eq_true rfl) rfl (Nat.le_of_ble_eq_true rfl) (ro_newSelector (d := d + 3) hG hm e140) (fun v h1 hq1 => ?_) (fun E h1 hq1 => md_nQ hq1)
            obtain ⟨hv, rfl⟩ := hq1
            cases hv
            show mv_rq l G mX13_readSelector (d + 4) 143 [some (.ref m), some (.int x1), some (.int v5)] [.int v140] (md_H G B m S140) _
            refine q_pop dX13_readSelector_143 rfl ?_
            refine q_aload_n dX13_readSelector_144 rfl ?_
            refine q_bipush (v := 19) dX13_readSelector_145 (by decide) ?_
            refine q_iconst (v := 0) dX13_readSelector_147 (by decide) ?_
            refine q_iconst (v := 0) dX13_readSelector_148 (by decide) ?_
            obtain ⟨S149, e149, hq⟩ := md_c_e hq
            refine q_cV (Y := mX13_push) (As := [.int 19, .int 0, .int 0]) (st := []) (b := m) (ci := 15) vc_X13_push dX13_readSelector_149 ml_RX13_326 rfl md_obj rfl (Nat.le_of_ble_eq_true rfl) rfl (Nat.le_of_ble_eq_true rfl) (ro_push (d := d + 3) hG hm e149) (fun v h1 hq1 => ?_) (fun E h1 hq1 => md_nV hq1)
            obtain ⟨hv, rfl⟩ := hq1
            cases hv
            show mv_rq l G mX13_readSelector (d + 4) 152 [some (.ref m), some (.int x1), some (.int v5)] [] (md_H G B m S149) _
            refine q_aload_n dX13_readSelector_152 rfl ?_
            refine q_iconst (v := 3) dX13_readSelector_153 (by decide) ?_
            refine q_aload_n dX13_readSelector_154 rfl ?_
            refine r_geti 29 dX13_readSelector_155 fl_RX13_349 (by decide) rfl ki_29 ?_
            refine q_iconst (v := 0) dX13_readSelector_158 (by decide) ?_
            obtain ⟨S159, e159, hq⟩ := md_c_e hq
            refine q_cV (Y := mX13_push) (As := [.int 3, .int (S149.1 29), .int 0]) (st := []) (b := m) (ci := 15) vc_X13_push dX13_readSelector_159 ml_RX13_326 rfl md_obj rfl (Nat.le_of_ble_eq_true rfl) rfl (Nat.le_of_ble_eq_true rfl) (ro_push (d := d + 3) hG hm e159) (fun v h1 hq1 => ?_) (fun E h1 hq1 => md_nV hq1)
            obtain ⟨hv, rfl⟩ := hq1
            cases hv
            show mv_rq l G mX13_readSelector (d + 4) 162 [some (.ref m), some (.int x1), some (.int v5)] [] (md_H G B m S159) _
            refine q_aload_n dX13_readSelector_162 rfl ?_
            refine q_dup dX13_readSelector_163 rfl ?_
            refine r_geti 29 dX13_readSelector_164 fl_RX13_349 (by decide) rfl ki_29 ?_
            refine q_iconst (v := 1) dX13_readSelector_167 (by decide) ?_
            refine q_iadd dX13_readSelector_168 ?_
            refine r_puti 29 .int dX13_readSelector_169 fl_RX13_349 (by decide) rfl ki_29 rfl kp_29 rfl rfl hm (fun S169 e169 => ?_)
            have hq := md_l_e e169 hq
            clear e169
            show mv_rq l G mX13_readSelector (d + 4) 172 [some (.ref m), some (.int x1), some (.int v5)] [] (md_H G B m S169) _
            refine q_goto (tgt := 183) dX13_readSelector_172 (by decide) ?_
            obtain rfl := Option.some.inj hq
            exact q_vret dX13_readSelector_183 rfl ⟨rfl, rfl⟩
        ·
          have hq := md_neg c89 hq
          refine mv_weak (A := [some (.ref m), some (.int x1), none]) (by repeat' constructor) ?_
          exact ro_readSelector_j92 hG hm hq
    ·
      have hq := md_pos c52 hq
      refine q_aload_n dX13_readSelector_55 rfl ?_
      refine q_dup dX13_readSelector_56 rfl ?_
      refine r_geti 6 dX13_readSelector_57 fl_RX13_202 (by decide) rfl ki_6 ?_
      refine q_iconst (v := 1) dX13_readSelector_60 (by decide) ?_
      refine q_iadd dX13_readSelector_61 ?_
      refine r_puti 6 .int dX13_readSelector_62 fl_RX13_202 (by decide) rfl ki_6 rfl kp_6 rfl rfl hm (fun S62 e62 => ?_)
      have hq := md_l_e e62 hq
      clear e62
      show mv_rq l G mX13_readSelector (d + 4) 65 [some (.ref m), some (.int x1), some (.int v5)] [] (md_H G B m S62) _
      refine q_aload_n dX13_readSelector_65 rfl ?_
      refine q_iload_n dX13_readSelector_66 rfl ?_
      refine q_iconst (v := 1) dX13_readSelector_67 (by decide) ?_
      refine q_iconst (v := 0) dX13_readSelector_68 (by decide) ?_
      refine q_iconst (v := 0) dX13_readSelector_69 (by decide) ?_
      refine q_iconst (v := 0) dX13_readSelector_70 (by decide) ?_
      refine q_iconst (v := 0) dX13_readSelector_71 (by decide) ?_
      obtain ⟨v72, S72, e72, hq⟩ := md_b_e hq
      refine q_cV (Y := mX13_newSelector) (As := [.int x1, .int 1, .int 0, .int 0, .int 0, .int 0]) (st := []) (b := m) (ci := 15) vc_X13_newSelector dX13_readSelector_72 ml_RX13_330 rfl md_obj rfl (Nat.le_of_ble_eq_true rfl) rfl (Nat.le_of_ble_eq_true rfl) (ro_newSelector (d := d + 3) hG hm e72) (fun v h1 hq1 => ?_) (fun E h1 hq1 => md_nQ hq1)
      obtain ⟨hv, rfl⟩ := hq1
      cases hv
      show mv_rq l G mX13_readSelector (d + 4) 75 [some (.ref m), some (.int x1), some (.int v5)] [.int v72] (md_H G B m S72) _
      refine q_pop dX13_readSelector_75 rfl ?_
      refine q_goto (tgt := 183) dX13_readSelector_76 (by decide) ?_
      obtain rfl := Option.some.inj hq
      exact q_vret dX13_readSelector_183 rfl ⟨rfl, rfl⟩
  ·
    have hq := md_pos c19 hq
    refine q_aload_n dX13_readSelector_22 rfl ?_
    refine q_bipush (v := 39) dX13_readSelector_23 (by decide) ?_
    refine q_iconst (v := (-1)) dX13_readSelector_25 (by decide) ?_
    obtain ⟨S26, e26, hq⟩ := md_c_e hq
    refine q_cV (Y := mX13_readString) (As := [.int 39, .int (-1)]) (st := []) (b := m) (ci := 15) vc_X13_readString dX13_readSelector_26 ml_RX13_251 rfl md_obj rfl (Nat.le_of_ble_eq_true rfl) rfl (Nat.le_of_ble_eq_true rfl) (ro_readString (d := d + 1) hG hm e26) (fun v h1 hq1 => ?_) (fun E h1 hq1 => md_nV hq1)
    obtain ⟨hv, rfl⟩ := hq1
    cases hv
    show mv_rq l G mX13_readSelector (d + 4) 29 [some (.ref m), some (.int x1), some (.int v5)] [] (md_H G B m S26) _
    refine q_aload_n dX13_readSelector_29 rfl ?_
    refine q_iload_n dX13_readSelector_30 rfl ?_
    refine q_iconst (v := 0) dX13_readSelector_31 (by decide) ?_
    refine q_aload_n dX13_readSelector_32 rfl ?_
    refine r_geti 86 dX13_readSelector_33 fl_RX13_225 (by decide) rfl ki_86 ?_
    refine q_aload_n dX13_readSelector_36 rfl ?_
    refine r_geti 87 dX13_readSelector_37 fl_RX13_228 (by decide) rfl ki_87 ?_
    refine q_iconst (v := 0) dX13_readSelector_40 (by decide) ?_
    refine q_iconst (v := 0) dX13_readSelector_41 (by decide) ?_
    obtain ⟨v42, S42, e42, hq⟩ := md_b_e hq
    refine q_cV (Y := mX13_newSelector) (As := [.int x1, .int 0, .int (S26.1 86), .int (S26.1 87), .int 0, .int 0]) (st := []) (b := m) (ci := 15) vc_X13_newSelector dX13_readSelector_42 ml_RX13_330 rfl md_obj rfl (Nat.le_of_ble_eq_true rfl) rfl (Nat.le_of_ble_eq_true rfl) (ro_newSelector (d := d + 3) hG hm e42) (fun v h1 hq1 => ?_) (fun E h1 hq1 => md_nQ hq1)
    obtain ⟨hv, rfl⟩ := hq1
    cases hv
    show mv_rq l G mX13_readSelector (d + 4) 45 [some (.ref m), some (.int x1), some (.int v5)] [.int v42] (md_H G B m S42) _
    refine q_pop dX13_readSelector_45 rfl ?_
    refine q_goto (tgt := 183) dX13_readSelector_46 (by decide) ?_
    obtain rfl := Option.some.inj hq
    exact q_vret dX13_readSelector_183 rfl ⟨rfl, rfl⟩
def mo_readNext_j43 (x1 : Int32) (S : md_S) : Option md_S :=
  md_c (mo_need 93 S) fun S46 =>
  if md_in x1 170 then
  md_c (mo_push 0 (S46.2 41 x1.toNatClampNeg) 0 S46) fun S58 =>
  some S58
  else none
theorem ro_readNext_j43 {l : Launch} {G : mv_G} {B : mv_H} {m d : Nat} (hG : mv_ok G) (hm : G.2.2.1 ≤ m) {x1 : Int32} {S : md_S} {q : md_S} (hq : mo_readNext_j43 x1 S = some q) : mv_rq l G mX13_readNext (d + 3) 43 [some (.ref m), some (.int x1)] [] (md_H G B m S) (md_V G B m q) := by
  unfold mo_readNext_j43 at hq
  refine q_aload_n dX13_readNext_43 rfl ?_
  refine q_bipush (v := 93) dX13_readNext_44 (by decide) ?_
  obtain ⟨S46, e46, hq⟩ := md_c_e hq
  refine q_cV (Y := mX13_need) (As := [.int 93]) (st := []) (b := m) (ci := 15) vc_X13_need dX13_readNext_46 ml_RX13_222 rfl md_obj rfl (Nat.le_of_ble_eq_true rfl) rfl (Nat.le_of_ble_eq_true rfl) (ro_need (d := d) hG hm e46) (fun v h1 hq1 => ?_) (fun E h1 hq1 => md_nV hq1)
  obtain ⟨hv, rfl⟩ := hq1
  cases hv
  show mv_rq l G mX13_readNext (d + 3) 49 [some (.ref m), some (.int x1)] [] (md_H G B m S46) _
  refine q_aload_n dX13_readNext_49 rfl ?_
  refine q_iconst (v := 0) dX13_readNext_50 (by decide) ?_
  refine q_aload_n dX13_readNext_51 rfl ?_
  refine r_geta 41 dX13_readNext_52 fl_RX13_79 (by decide) rfl kk_41 ?_
  refine q_iload_n dX13_readNext_55 rfl ?_
  obtain ⟨g56, hq⟩ := md_g hq
  refine r_iald hG 41 dX13_readNext_56 kk_41 g56 ?_
  refine q_iconst (v := 0) dX13_readNext_57 (by decide) ?_
  obtain ⟨S58, e58, hq⟩ := md_c_e hq
  refine q_cV (Y := mX13_push) (As := [.int 0, .int (S46.2 41 x1.toNatClampNeg), .int 0]) (st := []) (b := m) (ci := 15) vc_X13_push dX13_readNext_58 ml_RX13_326 rfl md_obj rfl (Nat.le_of_ble_eq_true rfl) rfl (Nat.le_of_ble_eq_true rfl) (ro_push (d := d + 2) hG hm e58) (fun v h1 hq1 => ?_) (fun E h1 hq1 => md_nV hq1)
  obtain ⟨hv, rfl⟩ := hq1
  cases hv
  show mv_rq l G mX13_readNext (d + 3) 61 [some (.ref m), some (.int x1)] [] (md_H G B m S58) _
  obtain rfl := Option.some.inj hq
  exact q_vret dX13_readNext_61 rfl ⟨rfl, rfl⟩
def mo_readNext (x1 : Int32) (S : md_S) : Option md_S :=
  md_b (mo_at (S.1 6) S) fun v5 S5 =>
  if v5 = 44 then
    if md_in x1 170 then
    if 4 ≤ (S5.2 40 x1.toNatClampNeg) then
      mo_readNext_j43 x1 S5
    else
      md_l (md_p S5 6 ((S5.1 6) + 1)) fun S30 =>
      md_c (mo_push 1 x1 0 S30) fun S37 =>
      some S37
    else none
  else
    mo_readNext_j43 x1 S5
theorem ro_readNext {l : Launch} {G : mv_G} {B : mv_H} {m d : Nat} (hG : mv_ok G) (hm : G.2.2.1 ≤ m) {x1 : Int32} {S : md_S} {q : md_S} (hq : mo_readNext x1 S = some q) : mv_rq l G mX13_readNext (d + 3) 0 (mv_in [.ref m, .int x1] 2) [] (md_H G B m S) (md_V G B m q) := by
  unfold mo_readNext at hq
  show mv_rq l G mX13_readNext (d + 3) 0 [some (.ref m), some (.int x1)] [] (md_H G B m S) _
  refine q_aload_n dX13_readNext_0 rfl ?_
  refine q_aload_n dX13_readNext_1 rfl ?_
  refine r_geti 6 dX13_readNext_2 fl_RX13_202 (by decide) rfl ki_6 ?_
  obtain ⟨v5, S5, e5, hq⟩ := md_b_e hq
  refine q_cV (Y := mX13_at) (As := [.int (S.1 6)]) (st := []) (b := m) (ci := 15) vc_X13_at dX13_readNext_5 ml_RX13_212 rfl md_obj rfl (Nat.le_of_ble_eq_true rfl) rfl (Nat.le_of_ble_eq_true rfl) (ro_at (d := d + 2) hG hm e5) (fun v h1 hq1 => ?_) (fun E h1 hq1 => md_nQ hq1)
  obtain ⟨hv, rfl⟩ := hq1
  cases hv
  show mv_rq l G mX13_readNext (d + 3) 8 [some (.ref m), some (.int x1)] [.int v5] (md_H G B m S5) _
  refine q_bipush (v := 44) dX13_readNext_8 (by decide) ?_
  refine q_icmp_ne (tgt := 43) dX13_readNext_10 (by decide) (fun c10 => ?_) (fun c10 => ?_)
  ·
    have hq := md_neg c10 hq
    refine mv_weak (A := [some (.ref m), some (.int x1)]) (by repeat' constructor) ?_
    exact ro_readNext_j43 hG hm hq
  ·
    have hq := md_pos c10 hq
    refine q_aload_n dX13_readNext_13 rfl ?_
    refine r_geta 40 dX13_readNext_14 fl_RX13_76 (by decide) rfl kk_40 ?_
    refine q_iload_n dX13_readNext_17 rfl ?_
    obtain ⟨g18, hq⟩ := md_g hq
    refine r_iald hG 40 dX13_readNext_18 kk_40 g18 ?_
    refine q_iconst (v := 4) dX13_readNext_19 (by decide) ?_
    refine q_icmp_ge (tgt := 43) dX13_readNext_20 (by decide) (fun c20 => ?_) (fun c20 => ?_)
    ·
      have hq := md_pos c20 hq
      refine mv_weak (A := [some (.ref m), some (.int x1)]) (by repeat' constructor) ?_
      exact ro_readNext_j43 hG hm hq
    ·
      have hq := md_neg c20 hq
      refine q_aload_n dX13_readNext_23 rfl ?_
      refine q_dup dX13_readNext_24 rfl ?_
      refine r_geti 6 dX13_readNext_25 fl_RX13_202 (by decide) rfl ki_6 ?_
      refine q_iconst (v := 1) dX13_readNext_28 (by decide) ?_
      refine q_iadd dX13_readNext_29 ?_
      refine r_puti 6 .int dX13_readNext_30 fl_RX13_202 (by decide) rfl ki_6 rfl kp_6 rfl rfl hm (fun S30 e30 => ?_)
      have hq := md_l_e e30 hq
      clear e30
      show mv_rq l G mX13_readNext (d + 3) 33 [some (.ref m), some (.int x1)] [] (md_H G B m S30) _
      refine q_aload_n dX13_readNext_33 rfl ?_
      refine q_iconst (v := 1) dX13_readNext_34 (by decide) ?_
      refine q_iload_n dX13_readNext_35 rfl ?_
      refine q_iconst (v := 0) dX13_readNext_36 (by decide) ?_
      obtain ⟨S37, e37, hq⟩ := md_c_e hq
      refine q_cV (Y := mX13_push) (As := [.int 1, .int x1, .int 0]) (st := []) (b := m) (ci := 15) vc_X13_push dX13_readNext_37 ml_RX13_326 rfl md_obj rfl (Nat.le_of_ble_eq_true rfl) rfl (Nat.le_of_ble_eq_true rfl) (ro_push (d := d + 2) hG hm e37) (fun v h1 hq1 => ?_) (fun E h1 hq1 => md_nV hq1)
      obtain ⟨hv, rfl⟩ := hq1
      cases hv
      show mv_rq l G mX13_readNext (d + 3) 40 [some (.ref m), some (.int x1)] [] (md_H G B m S37) _
      refine q_goto (tgt := 61) dX13_readNext_40 (by decide) ?_
      obtain rfl := Option.some.inj hq
      exact q_vret dX13_readNext_61 rfl ⟨rfl, rfl⟩
def mo_isTwice (x1 : Int32) (S : md_S) : Option (Int32 × md_S) :=
  md_b (mo_at (S.1 6) S) fun v5 S5 =>
  if v5 = x1 then
    md_l (md_p S5 6 ((S5.1 6) + 1)) fun S21 =>
    md_c (mo_need x1 S21) fun S26 =>
    some (1, S26)
  else
    some (0, S5)
theorem ro_isTwice {l : Launch} {G : mv_G} {B : mv_H} {m d : Nat} (hG : mv_ok G) (hm : G.2.2.1 ≤ m) {x1 : Int32} {S : md_S} {q : (Int32 × md_S)} (hq : mo_isTwice x1 S = some q) : mv_rq l G mX13_isTwice (d + 3) 0 (mv_in [.ref m, .int x1] 2) [] (md_H G B m S) (md_Q G B m q) := by
  unfold mo_isTwice at hq
  show mv_rq l G mX13_isTwice (d + 3) 0 [some (.ref m), some (.int x1)] [] (md_H G B m S) _
  refine q_aload_n dX13_isTwice_0 rfl ?_
  refine q_aload_n dX13_isTwice_1 rfl ?_
  refine r_geti 6 dX13_isTwice_2 fl_RX13_202 (by decide) rfl ki_6 ?_
  obtain ⟨v5, S5, e5, hq⟩ := md_b_e hq
  refine q_cV (Y := mX13_at) (As := [.int (S.1 6)]) (st := []) (b := m) (ci := 15) vc_X13_at dX13_isTwice_5 ml_RX13_212 rfl md_obj rfl (Nat.le_of_ble_eq_true rfl) rfl (Nat.le_of_ble_eq_true rfl) (ro_at (d := d + 2) hG hm e5) (fun v h1 hq1 => ?_) (fun E h1 hq1 => md_nQ hq1)
  obtain ⟨hv, rfl⟩ := hq1
  cases hv
  show mv_rq l G mX13_isTwice (d + 3) 8 [some (.ref m), some (.int x1)] [.int v5] (md_H G B m S5) _
  refine q_iload_n dX13_isTwice_8 rfl ?_
  refine q_icmp_eq (tgt := 14) dX13_isTwice_9 (by decide) (fun c9 => ?_) (fun c9 => ?_)
  ·
    have hq := md_pos c9 hq
    refine q_aload_n dX13_isTwice_14 rfl ?_
    refine q_dup dX13_isTwice_15 rfl ?_
    refine r_geti 6 dX13_isTwice_16 fl_RX13_202 (by decide) rfl ki_6 ?_
    refine q_iconst (v := 1) dX13_isTwice_19 (by decide) ?_
    refine q_iadd dX13_isTwice_20 ?_
    refine r_puti 6 .int dX13_isTwice_21 fl_RX13_202 (by decide) rfl ki_6 rfl kp_6 rfl rfl hm (fun S21 e21 => ?_)
    have hq := md_l_e e21 hq
    clear e21
    show mv_rq l G mX13_isTwice (d + 3) 24 [some (.ref m), some (.int x1)] [] (md_H G B m S21) _
    refine q_aload_n dX13_isTwice_24 rfl ?_
    refine q_iload_n dX13_isTwice_25 rfl ?_
    obtain ⟨S26, e26, hq⟩ := md_c_e hq
    refine q_cV (Y := mX13_need) (As := [.int x1]) (st := []) (b := m) (ci := 15) vc_X13_need dX13_isTwice_26 ml_RX13_222 rfl md_obj rfl (Nat.le_of_ble_eq_true rfl) rfl (Nat.le_of_ble_eq_true rfl) (ro_need (d := d) hG hm e26) (fun v h1 hq1 => ?_) (fun E h1 hq1 => md_nV hq1)
    obtain ⟨hv, rfl⟩ := hq1
    cases hv
    show mv_rq l G mX13_isTwice (d + 3) 29 [some (.ref m), some (.int x1)] [] (md_H G B m S26) _
    refine q_iconst (v := 1) dX13_isTwice_29 (by decide) ?_
    obtain rfl := Option.some.inj hq
    exact q_iret (ty := .boolean) dX13_isTwice_30 rfl rfl ⟨rfl, rfl⟩
  ·
    have hq := md_neg c9 hq
    refine q_iconst (v := 0) dX13_isTwice_12 (by decide) ?_
    obtain rfl := Option.some.inj hq
    exact q_iret (ty := .boolean) dX13_isTwice_13 rfl rfl ⟨rfl, rfl⟩
def mo_readTest_j110 (x1 : Int32) (y0 : Int32) (S : md_S) : Option md_S :=
  md_b (mo_newPath y0 S) fun v110 S110 =>
  md_c (mo_push 12 x1 v110 S110) fun S119 =>
  md_c (mo_push 0 v110 0 S119) fun S126 =>
  some S126
theorem ro_readTest_j110 {l : Launch} {G : mv_G} {B : mv_H} {m d : Nat} (hG : mv_ok G) (hm : G.2.2.1 ≤ m) {x1 : Int32} {y0 : Int32} {S : md_S} {q : md_S} (hq : mo_readTest_j110 x1 y0 S = some q) : mv_rq l G mX13_readTest (d + 3) 110 [some (.ref m), some (.int x1), none, none] [.int y0, .ref m] (md_H G B m S) (md_V G B m q) := by
  unfold mo_readTest_j110 at hq
  obtain ⟨v110, S110, e110, hq⟩ := md_b_e hq
  refine q_cV (Y := mX13_newPath) (As := [.int y0]) (st := []) (b := m) (ci := 15) vc_X13_newPath dX13_readTest_110 ml_RX13_352 rfl md_obj rfl (Nat.le_of_ble_eq_true rfl) rfl (Nat.le_of_ble_eq_true rfl) (ro_newPath (d := d + 2) hG hm e110) (fun v h1 hq1 => ?_) (fun E h1 hq1 => md_nQ hq1)
  obtain ⟨hv, rfl⟩ := hq1
  cases hv
  show mv_rq l G mX13_readTest (d + 3) 113 [some (.ref m), some (.int x1), none, none] [.int v110] (md_H G B m S110) _
  refine q_istore_n dX13_readTest_113 (Nat.le_of_ble_eq_true rfl) rfl ?_
  show mv_rq l G mX13_readTest (d + 3) 114 [some (.ref m), some (.int x1), none, some (.int v110)] [] (md_H G B m S110) _
  refine q_aload_n dX13_readTest_114 rfl ?_
  refine q_bipush (v := 12) dX13_readTest_115 (by decide) ?_
  refine q_iload_n dX13_readTest_117 rfl ?_
  refine q_iload_n dX13_readTest_118 rfl ?_
  obtain ⟨S119, e119, hq⟩ := md_c_e hq
  refine q_cV (Y := mX13_push) (As := [.int 12, .int x1, .int v110]) (st := []) (b := m) (ci := 15) vc_X13_push dX13_readTest_119 ml_RX13_326 rfl md_obj rfl (Nat.le_of_ble_eq_true rfl) rfl (Nat.le_of_ble_eq_true rfl) (ro_push (d := d + 2) hG hm e119) (fun v h1 hq1 => ?_) (fun E h1 hq1 => md_nV hq1)
  obtain ⟨hv, rfl⟩ := hq1
  cases hv
  show mv_rq l G mX13_readTest (d + 3) 122 [some (.ref m), some (.int x1), none, some (.int v110)] [] (md_H G B m S119) _
  refine q_aload_n dX13_readTest_122 rfl ?_
  refine q_iconst (v := 0) dX13_readTest_123 (by decide) ?_
  refine q_iload_n dX13_readTest_124 rfl ?_
  refine q_iconst (v := 0) dX13_readTest_125 (by decide) ?_
  obtain ⟨S126, e126, hq⟩ := md_c_e hq
  refine q_cV (Y := mX13_push) (As := [.int 0, .int v110, .int 0]) (st := []) (b := m) (ci := 15) vc_X13_push dX13_readTest_126 ml_RX13_326 rfl md_obj rfl (Nat.le_of_ble_eq_true rfl) rfl (Nat.le_of_ble_eq_true rfl) (ro_push (d := d + 2) hG hm e126) (fun v h1 hq1 => ?_) (fun E h1 hq1 => md_nV hq1)
  obtain ⟨hv, rfl⟩ := hq1
  cases hv
  show mv_rq l G mX13_readTest (d + 3) 129 [some (.ref m), some (.int x1), none, some (.int v110)] [] (md_H G B m S126) _
  refine q_goto (tgt := 148) dX13_readTest_129 (by decide) ?_
  obtain rfl := Option.some.inj hq
  exact q_vret dX13_readTest_148 rfl ⟨rfl, rfl⟩
def mo_readTest_j98 (x1 : Int32) (x2 : Int32) (S : md_S) : Option md_S :=
  if x2 = 36 then
    mo_readTest_j110 x1 1 S
  else
    mo_readTest_j110 x1 0 S
theorem ro_readTest_j98 {l : Launch} {G : mv_G} {B : mv_H} {m d : Nat} (hG : mv_ok G) (hm : G.2.2.1 ≤ m) {x1 : Int32} {x2 : Int32} {S : md_S} {q : md_S} (hq : mo_readTest_j98 x1 x2 S = some q) : mv_rq l G mX13_readTest (d + 3) 98 [some (.ref m), some (.int x1), some (.int x2), none] [] (md_H G B m S) (md_V G B m q) := by
  unfold mo_readTest_j98 at hq
  refine q_aload_n dX13_readTest_98 rfl ?_
  refine q_iload_n dX13_readTest_99 rfl ?_
  refine q_bipush (v := 36) dX13_readTest_100 (by decide) ?_
  refine q_icmp_ne (tgt := 109) dX13_readTest_102 (by decide) (fun c102 => ?_) (fun c102 => ?_)
  ·
    have hq := md_neg c102 hq
    refine q_iconst (v := 0) dX13_readTest_109 (by decide) ?_
    refine mv_weak (A := [some (.ref m), some (.int x1), none, none]) (by repeat' constructor) ?_
    exact ro_readTest_j110 hG hm hq
  ·
    have hq := md_pos c102 hq
    refine q_iconst (v := 1) dX13_readTest_105 (by decide) ?_
    refine q_goto (tgt := 110) dX13_readTest_106 (by decide) ?_
    refine mv_weak (A := [some (.ref m), some (.int x1), none, none]) (by repeat' constructor) ?_
    exact ro_readTest_j110 hG hm hq
def mo_readTest (x1 : Int32) (S : md_S) : Option md_S :=
  md_b (mo_at (S.1 6) S) fun v5 S5 =>
  if v5 = 33 then
    md_c (mo_opens S5) fun S16 =>
    md_l (md_p S16 6 ((S16.1 6) + 1)) fun S26 =>
    md_c (mo_push 10 x1 0 S26) fun S34 =>
    md_c (mo_push 9 x1 0 S34) fun S42 =>
    some S42
  else
    if v5 = 40 then
      md_c (mo_opens S5) fun S55 =>
      md_l (md_p S55 6 ((S55.1 6) + 1)) fun S65 =>
      md_c (mo_push 11 0 0 S65) fun S73 =>
      md_c (mo_push 3 x1 0 S73) fun S80 =>
      some S80
    else
      if v5 = 64 then
        mo_readTest_j98 x1 v5 S5
      else
        if v5 = 36 then
          mo_readTest_j98 x1 v5 S5
        else
          md_c (mo_push 13 x1 0 S5) fun S137 =>
          md_c (mo_push 14 x1 0 S137) fun S145 =>
          some S145
theorem ro_readTest {l : Launch} {G : mv_G} {B : mv_H} {m d : Nat} (hG : mv_ok G) (hm : G.2.2.1 ≤ m) {x1 : Int32} {S : md_S} {q : md_S} (hq : mo_readTest x1 S = some q) : mv_rq l G mX13_readTest (d + 3) 0 (mv_in [.ref m, .int x1] 4) [] (md_H G B m S) (md_V G B m q) := by
  unfold mo_readTest at hq
  show mv_rq l G mX13_readTest (d + 3) 0 [some (.ref m), some (.int x1), none, none] [] (md_H G B m S) _
  refine q_aload_n dX13_readTest_0 rfl ?_
  refine q_aload_n dX13_readTest_1 rfl ?_
  refine r_geti 6 dX13_readTest_2 fl_RX13_202 (by decide) rfl ki_6 ?_
  obtain ⟨v5, S5, e5, hq⟩ := md_b_e hq
  refine q_cV (Y := mX13_at) (As := [.int (S.1 6)]) (st := []) (b := m) (ci := 15) vc_X13_at dX13_readTest_5 ml_RX13_212 rfl md_obj rfl (Nat.le_of_ble_eq_true rfl) rfl (Nat.le_of_ble_eq_true rfl) (ro_at (d := d + 2) hG hm e5) (fun v h1 hq1 => ?_) (fun E h1 hq1 => md_nQ hq1)
  obtain ⟨hv, rfl⟩ := hq1
  cases hv
  show mv_rq l G mX13_readTest (d + 3) 8 [some (.ref m), some (.int x1), none, none] [.int v5] (md_H G B m S5) _
  refine q_istore_n dX13_readTest_8 (Nat.le_of_ble_eq_true rfl) rfl ?_
  show mv_rq l G mX13_readTest (d + 3) 9 [some (.ref m), some (.int x1), some (.int v5), none] [] (md_H G B m S5) _
  refine q_iload_n dX13_readTest_9 rfl ?_
  refine q_bipush (v := 33) dX13_readTest_10 (by decide) ?_
  refine q_icmp_ne (tgt := 48) dX13_readTest_12 (by decide) (fun c12 => ?_) (fun c12 => ?_)
  ·
    have hq := md_neg c12 hq
    refine q_iload_n dX13_readTest_48 rfl ?_
    refine q_bipush (v := 40) dX13_readTest_49 (by decide) ?_
    refine q_icmp_ne (tgt := 86) dX13_readTest_51 (by decide) (fun c51 => ?_) (fun c51 => ?_)
    ·
      have hq := md_neg c51 hq
      refine q_iload_n dX13_readTest_86 rfl ?_
      refine q_bipush (v := 64) dX13_readTest_87 (by decide) ?_
      refine q_icmp_eq (tgt := 98) dX13_readTest_89 (by decide) (fun c89 => ?_) (fun c89 => ?_)
      ·
        have hq := md_pos c89 hq
        refine mv_weak (A := [some (.ref m), some (.int x1), some (.int v5), none]) (by repeat' constructor) ?_
        exact ro_readTest_j98 hG hm hq
      ·
        have hq := md_neg c89 hq
        refine q_iload_n dX13_readTest_92 rfl ?_
        refine q_bipush (v := 36) dX13_readTest_93 (by decide) ?_
        refine q_icmp_ne (tgt := 132) dX13_readTest_95 (by decide) (fun c95 => ?_) (fun c95 => ?_)
        ·
          have hq := md_neg c95 hq
          refine q_aload_n dX13_readTest_132 rfl ?_
          refine q_bipush (v := 13) dX13_readTest_133 (by decide) ?_
          refine q_iload_n dX13_readTest_135 rfl ?_
          refine q_iconst (v := 0) dX13_readTest_136 (by decide) ?_
          obtain ⟨S137, e137, hq⟩ := md_c_e hq
          refine q_cV (Y := mX13_push) (As := [.int 13, .int x1, .int 0]) (st := []) (b := m) (ci := 15) vc_X13_push dX13_readTest_137 ml_RX13_326 rfl md_obj rfl (Nat.le_of_ble_eq_true rfl) rfl (Nat.le_of_ble_eq_true rfl) (ro_push (d := d + 2) hG hm e137) (fun v h1 hq1 => ?_) (fun E h1 hq1 => md_nV hq1)
          obtain ⟨hv, rfl⟩ := hq1
          cases hv
          show mv_rq l G mX13_readTest (d + 3) 140 [some (.ref m), some (.int x1), some (.int v5), none] [] (md_H G B m S137) _
          refine q_aload_n dX13_readTest_140 rfl ?_
          refine q_bipush (v := 14) dX13_readTest_141 (by decide) ?_
          refine q_iload_n dX13_readTest_143 rfl ?_
          refine q_iconst (v := 0) dX13_readTest_144 (by decide) ?_
          obtain ⟨S145, e145, hq⟩ := md_c_e hq
          refine q_cV (Y := mX13_push) (As := [.int 14, .int x1, .int 0]) (st := []) (b := m) (ci := 15) vc_X13_push dX13_readTest_145 ml_RX13_326 rfl md_obj rfl (Nat.le_of_ble_eq_true rfl) rfl (Nat.le_of_ble_eq_true rfl) (ro_push (d := d + 2) hG hm e145) (fun v h1 hq1 => ?_) (fun E h1 hq1 => md_nV hq1)
          obtain ⟨hv, rfl⟩ := hq1
          cases hv
          show mv_rq l G mX13_readTest (d + 3) 148 [some (.ref m), some (.int x1), some (.int v5), none] [] (md_H G B m S145) _
          obtain rfl := Option.some.inj hq
          exact q_vret dX13_readTest_148 rfl ⟨rfl, rfl⟩
        ·
          have hq := md_pos c95 hq
          refine mv_weak (A := [some (.ref m), some (.int x1), some (.int v5), none]) (by repeat' constructor) ?_
          exact ro_readTest_j98 hG hm hq
    ·
      have hq := md_pos c51 hq
      refine q_aload_n dX13_readTest_54 rfl ?_
      obtain ⟨S55, e55, hq⟩ := md_c_e hq
      refine q_cV (Y := mX13_opens) (As := []) (st := []) (b := m) (ci := 15) vc_X13_opens dX13_readTest_55 ml_RX13_343 rfl md_obj rfl (Nat.le_of_ble_eq_true rfl) rfl (Nat.le_of_ble_eq_true rfl) (ro_opens (d := d) hG hm e55) (fun v h1 hq1 => ?_) (fun E h1 hq1 => md_nV hq1)
      obtain ⟨hv, rfl⟩ := hq1
      cases hv
      show mv_rq l G mX13_readTest (d + 3) 58 [some (.ref m), some (.int x1), some (.int v5), none] [] (md_H G B m S55) _
      refine q_aload_n dX13_readTest_58 rfl ?_
      refine q_dup dX13_readTest_59 rfl ?_
      refine r_geti 6 dX13_readTest_60 fl_RX13_202 (by decide) rfl ki_6 ?_
      refine q_iconst (v := 1) dX13_readTest_63 (by decide) ?_
      refine q_iadd dX13_readTest_64 ?_
      refine r_puti 6 .int dX13_readTest_65 fl_RX13_202 (by decide) rfl ki_6 rfl kp_6 rfl rfl hm (fun S65 e65 => ?_)
      have hq := md_l_e e65 hq
      clear e65
      show mv_rq l G mX13_readTest (d + 3) 68 [some (.ref m), some (.int x1), some (.int v5), none] [] (md_H G B m S65) _
      refine q_aload_n dX13_readTest_68 rfl ?_
      refine q_bipush (v := 11) dX13_readTest_69 (by decide) ?_
      refine q_iconst (v := 0) dX13_readTest_71 (by decide) ?_
      refine q_iconst (v := 0) dX13_readTest_72 (by decide) ?_
      obtain ⟨S73, e73, hq⟩ := md_c_e hq
      refine q_cV (Y := mX13_push) (As := [.int 11, .int 0, .int 0]) (st := []) (b := m) (ci := 15) vc_X13_push dX13_readTest_73 ml_RX13_326 rfl md_obj rfl (Nat.le_of_ble_eq_true rfl) rfl (Nat.le_of_ble_eq_true rfl) (ro_push (d := d + 2) hG hm e73) (fun v h1 hq1 => ?_) (fun E h1 hq1 => md_nV hq1)
      obtain ⟨hv, rfl⟩ := hq1
      cases hv
      show mv_rq l G mX13_readTest (d + 3) 76 [some (.ref m), some (.int x1), some (.int v5), none] [] (md_H G B m S73) _
      refine q_aload_n dX13_readTest_76 rfl ?_
      refine q_iconst (v := 3) dX13_readTest_77 (by decide) ?_
      refine q_iload_n dX13_readTest_78 rfl ?_
      refine q_iconst (v := 0) dX13_readTest_79 (by decide) ?_
      obtain ⟨S80, e80, hq⟩ := md_c_e hq
      refine q_cV (Y := mX13_push) (As := [.int 3, .int x1, .int 0]) (st := []) (b := m) (ci := 15) vc_X13_push dX13_readTest_80 ml_RX13_326 rfl md_obj rfl (Nat.le_of_ble_eq_true rfl) rfl (Nat.le_of_ble_eq_true rfl) (ro_push (d := d + 2) hG hm e80) (fun v h1 hq1 => ?_) (fun E h1 hq1 => md_nV hq1)
      obtain ⟨hv, rfl⟩ := hq1
      cases hv
      show mv_rq l G mX13_readTest (d + 3) 83 [some (.ref m), some (.int x1), some (.int v5), none] [] (md_H G B m S80) _
      refine q_goto (tgt := 148) dX13_readTest_83 (by decide) ?_
      obtain rfl := Option.some.inj hq
      exact q_vret dX13_readTest_148 rfl ⟨rfl, rfl⟩
  ·
    have hq := md_pos c12 hq
    refine q_aload_n dX13_readTest_15 rfl ?_
    obtain ⟨S16, e16, hq⟩ := md_c_e hq
    refine q_cV (Y := mX13_opens) (As := []) (st := []) (b := m) (ci := 15) vc_X13_opens dX13_readTest_16 ml_RX13_343 rfl md_obj rfl (Nat.le_of_ble_eq_true rfl) rfl (Nat.le_of_ble_eq_true rfl) (ro_opens (d := d) hG hm e16) (fun v h1 hq1 => ?_) (fun E h1 hq1 => md_nV hq1)
    obtain ⟨hv, rfl⟩ := hq1
    cases hv
    show mv_rq l G mX13_readTest (d + 3) 19 [some (.ref m), some (.int x1), some (.int v5), none] [] (md_H G B m S16) _
    refine q_aload_n dX13_readTest_19 rfl ?_
    refine q_dup dX13_readTest_20 rfl ?_
    refine r_geti 6 dX13_readTest_21 fl_RX13_202 (by decide) rfl ki_6 ?_
    refine q_iconst (v := 1) dX13_readTest_24 (by decide) ?_
    refine q_iadd dX13_readTest_25 ?_
    refine r_puti 6 .int dX13_readTest_26 fl_RX13_202 (by decide) rfl ki_6 rfl kp_6 rfl rfl hm (fun S26 e26 => ?_)
    have hq := md_l_e e26 hq
    clear e26
    show mv_rq l G mX13_readTest (d + 3) 29 [some (.ref m), some (.int x1), some (.int v5), none] [] (md_H G B m S26) _
    refine q_aload_n dX13_readTest_29 rfl ?_
    refine q_bipush (v := 10) dX13_readTest_30 (by decide) ?_
    refine q_iload_n dX13_readTest_32 rfl ?_
    refine q_iconst (v := 0) dX13_readTest_33 (by decide) ?_
    obtain ⟨S34, e34, hq⟩ := md_c_e hq
    refine q_cV (Y := mX13_push) (As := [.int 10, .int x1, .int 0]) (st := []) (b := m) (ci := 15) vc_X13_push dX13_readTest_34 ml_RX13_326 rfl md_obj rfl (Nat.le_of_ble_eq_true rfl) rfl (Nat.le_of_ble_eq_true rfl) (ro_push (d := d + 2) hG hm e34) (fun v h1 hq1 => ?_) (fun E h1 hq1 => md_nV hq1)
    obtain ⟨hv, rfl⟩ := hq1
    cases hv
    show mv_rq l G mX13_readTest (d + 3) 37 [some (.ref m), some (.int x1), some (.int v5), none] [] (md_H G B m S34) _
    refine q_aload_n dX13_readTest_37 rfl ?_
    refine q_bipush (v := 9) dX13_readTest_38 (by decide) ?_
    refine q_iload_n dX13_readTest_40 rfl ?_
    refine q_iconst (v := 0) dX13_readTest_41 (by decide) ?_
    obtain ⟨S42, e42, hq⟩ := md_c_e hq
    refine q_cV (Y := mX13_push) (As := [.int 9, .int x1, .int 0]) (st := []) (b := m) (ci := 15) vc_X13_push dX13_readTest_42 ml_RX13_326 rfl md_obj rfl (Nat.le_of_ble_eq_true rfl) rfl (Nat.le_of_ble_eq_true rfl) (ro_push (d := d + 2) hG hm e42) (fun v h1 hq1 => ?_) (fun E h1 hq1 => md_nV hq1)
    obtain ⟨hv, rfl⟩ := hq1
    cases hv
    show mv_rq l G mX13_readTest (d + 3) 45 [some (.ref m), some (.int x1), some (.int v5), none] [] (md_H G B m S42) _
    refine q_goto (tgt := 148) dX13_readTest_45 (by decide) ?_
    obtain rfl := Option.some.inj hq
    exact q_vret dX13_readTest_148 rfl ⟨rfl, rfl⟩
def mo_isSingle_l9 (N : Nat) : Nat → Int32 → Int32 → md_S → Option (Int32 × md_S)
  | 0, _, _, _ => none
  | n + 1, x2, x3, S =>
    if x3 = (-1) then
      if md_bo x2 then
      some (x2, S)
      else none
    else
      if x2 = 0 then
        if md_in x3 170 then
        mo_isSingle_l9 N n 0 (S.2 37 x3.toNatClampNeg) S
        else none
      else
        if md_in x3 170 then
        if (S.2 42 x3.toNatClampNeg) = 0 then
          if md_in x3 170 then
          if (S.2 40 x3.toNatClampNeg) = 1 then
            if md_in x3 170 then
            if md_in (S.2 38 x3.toNatClampNeg) 170 then
            if (S.2 43 (S.2 38 x3.toNatClampNeg).toNatClampNeg) = 0 then
              if md_in x3 170 then
              mo_isSingle_l9 N n 1 (S.2 37 x3.toNatClampNeg) S
              else none
            else
              if md_in x3 170 then
              if md_in (S.2 38 x3.toNatClampNeg) 170 then
              if (S.2 43 (S.2 38 x3.toNatClampNeg).toNatClampNeg) = 2 then
                if md_in x3 170 then
                mo_isSingle_l9 N n 1 (S.2 37 x3.toNatClampNeg) S
                else none
              else
                if md_in x3 170 then
                mo_isSingle_l9 N n 0 (S.2 37 x3.toNatClampNeg) S
                else none
              else none
              else none
            else none
            else none
          else
            if md_in x3 170 then
            mo_isSingle_l9 N n 0 (S.2 37 x3.toNatClampNeg) S
            else none
          else none
        else
          if md_in x3 170 then
          mo_isSingle_l9 N n 0 (S.2 37 x3.toNatClampNeg) S
          else none
        else none
theorem ro_isSingle_l9 {l : Launch} {G : mv_G} {B : mv_H} {m N d : Nat} (hG : mv_ok G) (hm : G.2.2.1 ≤ m) : ∀ n : Nat, ∀ {x2 : Int32} {x3 : Int32} {S : md_S} {q : (Int32 × md_S)}, mo_isSingle_l9 N n x2 x3 S = some q → mv_rq l G mX13_isSingle d 9 [some (.ref m), none, some (.int x2), some (.int x3)] [] (md_H G B m S) (md_Q G B m q)
  | 0, _, _, _, _, hq => nomatch hq
  | n + 1, x2, x3, S, q, hq => by
    rw [mo_isSingle_l9] at hq
    refine q_iload_n dX13_isSingle_9 rfl ?_
    refine q_iconst (v := (-1)) dX13_isSingle_10 (by decide) ?_
    refine q_icmp_eq (tgt := 82) dX13_isSingle_11 (by decide) (fun c11 => ?_) (fun c11 => ?_)
    ·
      have hq := md_pos c11 hq
      refine q_iload_n dX13_isSingle_82 rfl ?_
      obtain ⟨g83, hq⟩ := md_g hq
      obtain rfl := Option.some.inj hq
      exact q_iret (ty := .boolean) dX13_isSingle_83 rfl (md_bnar g83) ⟨rfl, rfl⟩
    ·
      have hq := md_neg c11 hq
      refine q_iload_n dX13_isSingle_14 rfl ?_
      refine q_if_eq (tgt := 70) dX13_isSingle_15 (by decide) (fun c15 => ?_) (fun c15 => ?_)
      ·
        have hq := md_pos c15 hq
        refine q_iconst (v := 0) dX13_isSingle_70 (by decide) ?_
        refine q_istore_n dX13_isSingle_71 (Nat.le_of_ble_eq_true rfl) rfl ?_
        show mv_rq l G mX13_isSingle d 72 [some (.ref m), none, some (.int 0), some (.int x3)] [] (md_H G B m S) _
        refine q_aload_n dX13_isSingle_72 rfl ?_
        refine r_geta 37 dX13_isSingle_73 fl_RX13_67 (by decide) rfl kk_37 ?_
        refine q_iload_n dX13_isSingle_76 rfl ?_
        obtain ⟨g77, hq⟩ := md_g hq
        refine r_iald hG 37 dX13_isSingle_77 kk_37 g77 ?_
        refine q_istore_n dX13_isSingle_78 (Nat.le_of_ble_eq_true rfl) rfl ?_
        show mv_rq l G mX13_isSingle d 79 [some (.ref m), none, some (.int 0), some (.int (S.2 37 x3.toNatClampNeg))] [] (md_H G B m S) _
        refine q_goto (tgt := 9) dX13_isSingle_79 (by decide) ?_
        refine mv_weak (A := [some (.ref m), none, some (.int 0), some (.int (S.2 37 x3.toNatClampNeg))]) (by repeat' constructor) ?_
        exact ro_isSingle_l9 hG hm n hq
      ·
        have hq := md_neg c15 hq
        refine q_aload_n dX13_isSingle_18 rfl ?_
        refine r_geta 42 dX13_isSingle_19 fl_RX13_82 (by decide) rfl kk_42 ?_
        refine q_iload_n dX13_isSingle_22 rfl ?_
        obtain ⟨g23, hq⟩ := md_g hq
        refine r_zald hG 42 dX13_isSingle_23 kk_42 g23 ?_
        refine q_if_ne (tgt := 70) dX13_isSingle_24 (by decide) (fun c24 => ?_) (fun c24 => ?_)
        ·
          have hq := md_neg c24 hq
          refine q_iconst (v := 0) dX13_isSingle_70 (by decide) ?_
          refine q_istore_n dX13_isSingle_71 (Nat.le_of_ble_eq_true rfl) rfl ?_
          show mv_rq l G mX13_isSingle d 72 [some (.ref m), none, some (.int 0), some (.int x3)] [] (md_H G B m S) _
          refine q_aload_n dX13_isSingle_72 rfl ?_
          refine r_geta 37 dX13_isSingle_73 fl_RX13_67 (by decide) rfl kk_37 ?_
          refine q_iload_n dX13_isSingle_76 rfl ?_
          obtain ⟨g77, hq⟩ := md_g hq
          refine r_iald hG 37 dX13_isSingle_77 kk_37 g77 ?_
          refine q_istore_n dX13_isSingle_78 (Nat.le_of_ble_eq_true rfl) rfl ?_
          show mv_rq l G mX13_isSingle d 79 [some (.ref m), none, some (.int 0), some (.int (S.2 37 x3.toNatClampNeg))] [] (md_H G B m S) _
          refine q_goto (tgt := 9) dX13_isSingle_79 (by decide) ?_
          refine mv_weak (A := [some (.ref m), none, some (.int 0), some (.int (S.2 37 x3.toNatClampNeg))]) (by repeat' constructor) ?_
          exact ro_isSingle_l9 hG hm n hq
        ·
          have hq := md_pos c24 hq
          refine q_aload_n dX13_isSingle_27 rfl ?_
          refine r_geta 40 dX13_isSingle_28 fl_RX13_76 (by decide) rfl kk_40 ?_
          refine q_iload_n dX13_isSingle_31 rfl ?_
          obtain ⟨g32, hq⟩ := md_g hq
          refine r_iald hG 40 dX13_isSingle_32 kk_40 g32 ?_
          refine q_iconst (v := 1) dX13_isSingle_33 (by decide) ?_
          refine q_icmp_ne (tgt := 70) dX13_isSingle_34 (by decide) (fun c34 => ?_) (fun c34 => ?_)
          ·
            have hq := md_neg c34 hq
            refine q_iconst (v := 0) dX13_isSingle_70 (by decide) ?_
            refine q_istore_n dX13_isSingle_71 (Nat.le_of_ble_eq_true rfl) rfl ?_
            show mv_rq l G mX13_isSingle d 72 [some (.ref m), none, some (.int 0), some (.int x3)] [] (md_H G B m S) _
            refine q_aload_n dX13_isSingle_72 rfl ?_
            refine r_geta 37 dX13_isSingle_73 fl_RX13_67 (by decide) rfl kk_37 ?_
            refine q_iload_n dX13_isSingle_76 rfl ?_
            obtain ⟨g77, hq⟩ := md_g hq
            refine r_iald hG 37 dX13_isSingle_77 kk_37 g77 ?_
            refine q_istore_n dX13_isSingle_78 (Nat.le_of_ble_eq_true rfl) rfl ?_
            show mv_rq l G mX13_isSingle d 79 [some (.ref m), none, some (.int 0), some (.int (S.2 37 x3.toNatClampNeg))] [] (md_H G B m S) _
            refine q_goto (tgt := 9) dX13_isSingle_79 (by decide) ?_
            refine mv_weak (A := [some (.ref m), none, some (.int 0), some (.int (S.2 37 x3.toNatClampNeg))]) (by repeat' constructor) ?_
            exact ro_isSingle_l9 hG hm n hq
          ·
            have hq := md_pos c34 hq
            refine q_aload_n dX13_isSingle_37 rfl ?_
            refine r_geta 43 dX13_isSingle_38 fl_RX13_85 (by decide) rfl kk_43 ?_
            refine q_aload_n dX13_isSingle_41 rfl ?_
            refine r_geta 38 dX13_isSingle_42 fl_RX13_70 (by decide) rfl kk_38 ?_
            refine q_iload_n dX13_isSingle_45 rfl ?_
            obtain ⟨g46, hq⟩ := md_g hq
            refine r_iald hG 38 dX13_isSingle_46 kk_38 g46 ?_
            obtain ⟨g47, hq⟩ := md_g hq
            refine r_iald hG 43 dX13_isSingle_47 kk_43 g47 ?_
            refine q_if_eq (tgt := 66) dX13_isSingle_48 (by decide) (fun c48 => ?_) (fun c48 => ?_)
            ·
              have hq := md_pos c48 hq
              refine q_iconst (v := 1) dX13_isSingle_66 (by decide) ?_
              refine q_goto (tgt := 71) dX13_isSingle_67 (by decide) ?_
              refine q_istore_n dX13_isSingle_71 (Nat.le_of_ble_eq_true rfl) rfl ?_
              show mv_rq l G mX13_isSingle d 72 [some (.ref m), none, some (.int 1), some (.int x3)] [] (md_H G B m S) _
              refine q_aload_n dX13_isSingle_72 rfl ?_
              refine r_geta 37 dX13_isSingle_73 fl_RX13_67 (by decide) rfl kk_37 ?_
              refine q_iload_n dX13_isSingle_76 rfl ?_
              obtain ⟨g77, hq⟩ := md_g hq
              refine r_iald hG 37 dX13_isSingle_77 kk_37 g77 ?_
              refine q_istore_n dX13_isSingle_78 (Nat.le_of_ble_eq_true rfl) rfl ?_
              show mv_rq l G mX13_isSingle d 79 [some (.ref m), none, some (.int 1), some (.int (S.2 37 x3.toNatClampNeg))] [] (md_H G B m S) _
              refine q_goto (tgt := 9) dX13_isSingle_79 (by decide) ?_
              refine mv_weak (A := [some (.ref m), none, some (.int 1), some (.int (S.2 37 x3.toNatClampNeg))]) (by repeat' constructor) ?_
              exact ro_isSingle_l9 hG hm n hq
            ·
              have hq := md_neg c48 hq
              refine q_aload_n dX13_isSingle_51 rfl ?_
              refine r_geta 43 dX13_isSingle_52 fl_RX13_85 (by decide) rfl kk_43 ?_
              refine q_aload_n dX13_isSingle_55 rfl ?_
              refine r_geta 38 dX13_isSingle_56 fl_RX13_70 (by decide) rfl kk_38 ?_
              refine q_iload_n dX13_isSingle_59 rfl ?_
              obtain ⟨g60, hq⟩ := md_g hq
              refine r_iald hG 38 dX13_isSingle_60 kk_38 g60 ?_
              obtain ⟨g61, hq⟩ := md_g hq
              refine r_iald hG 43 dX13_isSingle_61 kk_43 g61 ?_
              refine q_iconst (v := 2) dX13_isSingle_62 (by decide) ?_
              refine q_icmp_ne (tgt := 70) dX13_isSingle_63 (by decide) (fun c63 => ?_) (fun c63 => ?_)
              ·
                have hq := md_neg c63 hq
                refine q_iconst (v := 0) dX13_isSingle_70 (by decide) ?_
                refine q_istore_n dX13_isSingle_71 (Nat.le_of_ble_eq_true rfl) rfl ?_
                show mv_rq l G mX13_isSingle d 72 [some (.ref m), none, some (.int 0), some (.int x3)] [] (md_H G B m S) _
                refine q_aload_n dX13_isSingle_72 rfl ?_
                refine r_geta 37 dX13_isSingle_73 fl_RX13_67 (by decide) rfl kk_37 ?_
                refine q_iload_n dX13_isSingle_76 rfl ?_
                obtain ⟨g77, hq⟩ := md_g hq
                refine r_iald hG 37 dX13_isSingle_77 kk_37 g77 ?_
                refine q_istore_n dX13_isSingle_78 (Nat.le_of_ble_eq_true rfl) rfl ?_
                show mv_rq l G mX13_isSingle d 79 [some (.ref m), none, some (.int 0), some (.int (S.2 37 x3.toNatClampNeg))] [] (md_H G B m S) _
                refine q_goto (tgt := 9) dX13_isSingle_79 (by decide) ?_
                refine mv_weak (A := [some (.ref m), none, some (.int 0), some (.int (S.2 37 x3.toNatClampNeg))]) (by repeat' constructor) ?_
                exact ro_isSingle_l9 hG hm n hq
              ·
                have hq := md_pos c63 hq
                refine q_iconst (v := 1) dX13_isSingle_66 (by decide) ?_
                refine q_goto (tgt := 71) dX13_isSingle_67 (by decide) ?_
                refine q_istore_n dX13_isSingle_71 (Nat.le_of_ble_eq_true rfl) rfl ?_
                show mv_rq l G mX13_isSingle d 72 [some (.ref m), none, some (.int 1), some (.int x3)] [] (md_H G B m S) _
                refine q_aload_n dX13_isSingle_72 rfl ?_
                refine r_geta 37 dX13_isSingle_73 fl_RX13_67 (by decide) rfl kk_37 ?_
                refine q_iload_n dX13_isSingle_76 rfl ?_
                obtain ⟨g77, hq⟩ := md_g hq
                refine r_iald hG 37 dX13_isSingle_77 kk_37 g77 ?_
                refine q_istore_n dX13_isSingle_78 (Nat.le_of_ble_eq_true rfl) rfl ?_
                show mv_rq l G mX13_isSingle d 79 [some (.ref m), none, some (.int 1), some (.int (S.2 37 x3.toNatClampNeg))] [] (md_H G B m S) _
                refine q_goto (tgt := 9) dX13_isSingle_79 (by decide) ?_
                refine mv_weak (A := [some (.ref m), none, some (.int 1), some (.int (S.2 37 x3.toNatClampNeg))]) (by repeat' constructor) ?_
                exact ro_isSingle_l9 hG hm n hq
def mo_isSingle (N : Nat) (x1 : Int32) (S : md_S) : Option (Int32 × md_S) :=
  if md_in x1 100 then
  mo_isSingle_l9 N N 1 (S.2 34 x1.toNatClampNeg) S
  else none
theorem ro_isSingle {l : Launch} {G : mv_G} {B : mv_H} {m N d : Nat} (hG : mv_ok G) (hm : G.2.2.1 ≤ m) {x1 : Int32} {S : md_S} {q : (Int32 × md_S)} (hq : mo_isSingle N x1 S = some q) : mv_rq l G mX13_isSingle d 0 (mv_in [.ref m, .int x1] 4) [] (md_H G B m S) (md_Q G B m q) := by
  unfold mo_isSingle at hq
  show mv_rq l G mX13_isSingle d 0 [some (.ref m), some (.int x1), none, none] [] (md_H G B m S) _
  refine q_iconst (v := 1) dX13_isSingle_0 (by decide) ?_
  refine q_istore_n dX13_isSingle_1 (Nat.le_of_ble_eq_true rfl) rfl ?_
  show mv_rq l G mX13_isSingle d 2 [some (.ref m), some (.int x1), some (.int 1), none] [] (md_H G B m S) _
  refine q_aload_n dX13_isSingle_2 rfl ?_
  refine r_geta 34 dX13_isSingle_3 fl_RX13_57 (by decide) rfl kk_34 ?_
  refine q_iload_n dX13_isSingle_6 rfl ?_
  obtain ⟨g7, hq⟩ := md_g hq
  refine r_iald hG 34 dX13_isSingle_7 kk_34 g7 ?_
  refine q_istore_n dX13_isSingle_8 (Nat.le_of_ble_eq_true rfl) rfl ?_
  show mv_rq l G mX13_isSingle d 9 [some (.ref m), some (.int x1), some (.int 1), some (.int (S.2 34 x1.toNatClampNeg))] [] (md_H G B m S) _
  refine mv_weak (A := [some (.ref m), none, some (.int 1), some (.int (S.2 34 x1.toNatClampNeg))]) (by repeat' constructor) ?_
  exact ro_isSingle_l9 hG hm N hq
def mo_mustBeSingle (N : Nat) (x1 : Int32) (S : md_S) : Option md_S :=
  md_b (mo_isSingle N x1 S) fun v2 S2 =>
  if v2 = 0 then
    if md_in x1 100 then
    md_c (mo_fail (S2.2 33 x1.toNatClampNeg) S2) fun S15 =>
    some S15
    else none
  else
    some S2
theorem ro_mustBeSingle {l : Launch} {G : mv_G} {B : mv_H} {m N d : Nat} (hG : mv_ok G) (hm : G.2.2.1 ≤ m) {x1 : Int32} {S : md_S} {q : md_S} (hq : mo_mustBeSingle N x1 S = some q) : mv_rq l G mX13_mustBeSingle (d + 2) 0 (mv_in [.ref m, .int x1] 2) [] (md_H G B m S) (md_V G B m q) := by
  unfold mo_mustBeSingle at hq
  show mv_rq l G mX13_mustBeSingle (d + 2) 0 [some (.ref m), some (.int x1)] [] (md_H G B m S) _
  refine q_aload_n dX13_mustBeSingle_0 rfl ?_
  refine q_iload_n dX13_mustBeSingle_1 rfl ?_
  obtain ⟨v2, S2, e2, hq⟩ := md_b_e hq
  refine q_cV (Y := mX13_isSingle) (As := [.int x1]) (st := []) (b := m) (ci := 15) vc_X13_isSingle dX13_mustBeSingle_2 ml_RX13_356 rfl md_obj rfl (Nat.le_of_ble_eq_true rfl) rfl (Nat.le_of_ble_eq_true rfl) (ro_isSingle (d := d + 1) hG hm e2) (fun v h1 hq1 => ?_) (fun E h1 hq1 => md_nQ hq1)
  obtain ⟨hv, rfl⟩ := hq1
  cases hv
  show mv_rq l G mX13_mustBeSingle (d + 2) 5 [some (.ref m), some (.int x1)] [.int v2] (md_H G B m S2) _
  refine q_if_ne (tgt := 18) dX13_mustBeSingle_5 (by decide) (fun c5 => ?_) (fun c5 => ?_)
  ·
    have hq := md_neg c5 hq
    obtain rfl := Option.some.inj hq
    exact q_vret dX13_mustBeSingle_18 rfl ⟨rfl, rfl⟩
  ·
    have hq := md_pos c5 hq
    refine q_aload_n dX13_mustBeSingle_8 rfl ?_
    refine q_aload_n dX13_mustBeSingle_9 rfl ?_
    refine r_geta 33 dX13_mustBeSingle_10 fl_RX13_54 (by decide) rfl kk_33 ?_
    refine q_iload_n dX13_mustBeSingle_13 rfl ?_
    obtain ⟨g14, hq⟩ := md_g hq
    refine r_iald hG 33 dX13_mustBeSingle_14 kk_33 g14 ?_
    obtain ⟨S15, e15, hq⟩ := md_c_e hq
    refine q_cV (Y := mX13_fail) (As := [.int (S2.2 33 x1.toNatClampNeg)]) (st := []) (b := m) (ci := 15) vc_X13_fail dX13_mustBeSingle_15 ml_RX13_216 rfl md_obj rfl (Nat.le_of_ble_eq_true rfl) rfl (Nat.le_of_ble_eq_true rfl) (ro_fail (d := d) hG hm e15) (fun v h1 hq1 => ?_) (fun E h1 hq1 => md_nV hq1)
    obtain ⟨hv, rfl⟩ := hq1
    cases hv
    show mv_rq l G mX13_mustBeSingle (d + 2) 18 [some (.ref m), some (.int x1)] [] (md_H G B m S15) _
    obtain rfl := Option.some.inj hq
    exact q_vret dX13_mustBeSingle_18 rfl ⟨rfl, rfl⟩
def mo_readTestPath_j33 (N : Nat) (x1 : Int32) (x2 : Int32) (S : md_S) : Option md_S :=
  md_c (mo_mustBeSingle N x2 S) fun S35 =>
  md_c (mo_emit x1 1 x2 0 S35) fun S43 =>
  md_c (mo_push 13 x1 0 S43) fun S51 =>
  some S51
theorem ro_readTestPath_j33 {l : Launch} {G : mv_G} {B : mv_H} {m N d : Nat} (hG : mv_ok G) (hm : G.2.2.1 ≤ m) {x1 : Int32} {x2 : Int32} {S : md_S} {q : md_S} (hq : mo_readTestPath_j33 N x1 x2 S = some q) : mv_rq l G mX13_readTestPath (d + 3) 33 [some (.ref m), some (.int x1), some (.int x2), none] [] (md_H G B m S) (md_V G B m q) := by
  unfold mo_readTestPath_j33 at hq
  refine q_aload_n dX13_readTestPath_33 rfl ?_
  refine q_iload_n dX13_readTestPath_34 rfl ?_
  obtain ⟨S35, e35, hq⟩ := md_c_e hq
  refine q_cV (Y := mX13_mustBeSingle) (As := [.int x2]) (st := []) (b := m) (ci := 15) vc_X13_mustBeSingle dX13_readTestPath_35 ml_RX13_359 rfl md_obj rfl (Nat.le_of_ble_eq_true rfl) rfl (Nat.le_of_ble_eq_true rfl) (ro_mustBeSingle (d := d) hG hm e35) (fun v h1 hq1 => ?_) (fun E h1 hq1 => md_nV hq1)
  obtain ⟨hv, rfl⟩ := hq1
  cases hv
  show mv_rq l G mX13_readTestPath (d + 3) 38 [some (.ref m), some (.int x1), some (.int x2), none] [] (md_H G B m S35) _
  refine q_aload_n dX13_readTestPath_38 rfl ?_
  refine q_iload_n dX13_readTestPath_39 rfl ?_
  refine q_iconst (v := 1) dX13_readTestPath_40 (by decide) ?_
  refine q_iload_n dX13_readTestPath_41 rfl ?_
  refine q_iconst (v := 0) dX13_readTestPath_42 (by decide) ?_
  obtain ⟨S43, e43, hq⟩ := md_c_e hq
  refine q_cV (Y := mX13_emit) (As := [.int x1, .int 1, .int x2, .int 0]) (st := []) (b := m) (ci := 15) vc_X13_emit dX13_readTestPath_43 ml_RX13_362 rfl md_obj rfl (Nat.le_of_ble_eq_true rfl) rfl (Nat.le_of_ble_eq_true rfl) (ro_emit (d := d + 2) hG hm e43) (fun v h1 hq1 => ?_) (fun E h1 hq1 => md_nV hq1)
  obtain ⟨hv, rfl⟩ := hq1
  cases hv
  show mv_rq l G mX13_readTestPath (d + 3) 46 [some (.ref m), some (.int x1), some (.int x2), none] [] (md_H G B m S43) _
  refine q_aload_n dX13_readTestPath_46 rfl ?_
  refine q_bipush (v := 13) dX13_readTestPath_47 (by decide) ?_
  refine q_iload_n dX13_readTestPath_49 rfl ?_
  refine q_iconst (v := 0) dX13_readTestPath_50 (by decide) ?_
  obtain ⟨S51, e51, hq⟩ := md_c_e hq
  refine q_cV (Y := mX13_push) (As := [.int 13, .int x1, .int 0]) (st := []) (b := m) (ci := 15) vc_X13_push dX13_readTestPath_51 ml_RX13_326 rfl md_obj rfl (Nat.le_of_ble_eq_true rfl) rfl (Nat.le_of_ble_eq_true rfl) (ro_push (d := d + 2) hG hm e51) (fun v h1 hq1 => ?_) (fun E h1 hq1 => md_nV hq1)
  obtain ⟨hv, rfl⟩ := hq1
  cases hv
  show mv_rq l G mX13_readTestPath (d + 3) 54 [some (.ref m), some (.int x1), some (.int x2), none] [] (md_H G B m S51) _
  refine q_goto (tgt := 65) dX13_readTestPath_54 (by decide) ?_
  obtain rfl := Option.some.inj hq
  exact q_vret dX13_readTestPath_65 rfl ⟨rfl, rfl⟩
def mo_readTestPath (N : Nat) (x1 : Int32) (x2 : Int32) (S : md_S) : Option md_S :=
  md_b (mo_at (S.1 6) S) fun v5 S5 =>
  if v5 = 61 then
    mo_readTestPath_j33 N x1 x2 S5
  else
    if v5 = 33 then
      mo_readTestPath_j33 N x1 x2 S5
    else
      if v5 = 60 then
        mo_readTestPath_j33 N x1 x2 S5
      else
        if v5 = 62 then
          mo_readTestPath_j33 N x1 x2 S5
        else
          md_c (mo_emit x1 0 x2 0 S5) fun S62 =>
          some S62
theorem ro_readTestPath {l : Launch} {G : mv_G} {B : mv_H} {m N d : Nat} (hG : mv_ok G) (hm : G.2.2.1 ≤ m) {x1 : Int32} {x2 : Int32} {S : md_S} {q : md_S} (hq : mo_readTestPath N x1 x2 S = some q) : mv_rq l G mX13_readTestPath (d + 3) 0 (mv_in [.ref m, .int x1, .int x2] 4) [] (md_H G B m S) (md_V G B m q) := by
  unfold mo_readTestPath at hq
  show mv_rq l G mX13_readTestPath (d + 3) 0 [some (.ref m), some (.int x1), some (.int x2), none] [] (md_H G B m S) _
  refine q_aload_n dX13_readTestPath_0 rfl ?_
  refine q_aload_n dX13_readTestPath_1 rfl ?_
  refine r_geti 6 dX13_readTestPath_2 fl_RX13_202 (by decide) rfl ki_6 ?_
  obtain ⟨v5, S5, e5, hq⟩ := md_b_e hq
  refine q_cV (Y := mX13_at) (As := [.int (S.1 6)]) (st := []) (b := m) (ci := 15) vc_X13_at dX13_readTestPath_5 ml_RX13_212 rfl md_obj rfl (Nat.le_of_ble_eq_true rfl) rfl (Nat.le_of_ble_eq_true rfl) (ro_at (d := d + 2) hG hm e5) (fun v h1 hq1 => ?_) (fun E h1 hq1 => md_nQ hq1)
  obtain ⟨hv, rfl⟩ := hq1
  cases hv
  show mv_rq l G mX13_readTestPath (d + 3) 8 [some (.ref m), some (.int x1), some (.int x2), none] [.int v5] (md_H G B m S5) _
  refine q_istore_n dX13_readTestPath_8 (Nat.le_of_ble_eq_true rfl) rfl ?_
  show mv_rq l G mX13_readTestPath (d + 3) 9 [some (.ref m), some (.int x1), some (.int x2), some (.int v5)] [] (md_H G B m S5) _
  refine q_iload_n dX13_readTestPath_9 rfl ?_
  refine q_bipush (v := 61) dX13_readTestPath_10 (by decide) ?_
  refine q_icmp_eq (tgt := 33) dX13_readTestPath_12 (by decide) (fun c12 => ?_) (fun c12 => ?_)
  ·
    have hq := md_pos c12 hq
    refine mv_weak (A := [some (.ref m), some (.int x1), some (.int x2), none]) (by repeat' constructor) ?_
    exact ro_readTestPath_j33 hG hm hq
  ·
    have hq := md_neg c12 hq
    refine q_iload_n dX13_readTestPath_15 rfl ?_
    refine q_bipush (v := 33) dX13_readTestPath_16 (by decide) ?_
    refine q_icmp_eq (tgt := 33) dX13_readTestPath_18 (by decide) (fun c18 => ?_) (fun c18 => ?_)
    ·
      have hq := md_pos c18 hq
      refine mv_weak (A := [some (.ref m), some (.int x1), some (.int x2), none]) (by repeat' constructor) ?_
      exact ro_readTestPath_j33 hG hm hq
    ·
      have hq := md_neg c18 hq
      refine q_iload_n dX13_readTestPath_21 rfl ?_
      refine q_bipush (v := 60) dX13_readTestPath_22 (by decide) ?_
      refine q_icmp_eq (tgt := 33) dX13_readTestPath_24 (by decide) (fun c24 => ?_) (fun c24 => ?_)
      ·
        have hq := md_pos c24 hq
        refine mv_weak (A := [some (.ref m), some (.int x1), some (.int x2), none]) (by repeat' constructor) ?_
        exact ro_readTestPath_j33 hG hm hq
      ·
        have hq := md_neg c24 hq
        refine q_iload_n dX13_readTestPath_27 rfl ?_
        refine q_bipush (v := 62) dX13_readTestPath_28 (by decide) ?_
        refine q_icmp_ne (tgt := 57) dX13_readTestPath_30 (by decide) (fun c30 => ?_) (fun c30 => ?_)
        ·
          have hq := md_neg c30 hq
          refine q_aload_n dX13_readTestPath_57 rfl ?_
          refine q_iload_n dX13_readTestPath_58 rfl ?_
          refine q_iconst (v := 0) dX13_readTestPath_59 (by decide) ?_
          refine q_iload_n dX13_readTestPath_60 rfl ?_
          refine q_iconst (v := 0) dX13_readTestPath_61 (by decide) ?_
          obtain ⟨S62, e62, hq⟩ := md_c_e hq
          refine q_cV (Y := mX13_emit) (As := [.int x1, .int 0, .int x2, .int 0]) (st := []) (b := m) (ci := 15) vc_X13_emit dX13_readTestPath_62 ml_RX13_362 rfl md_obj rfl (Nat.le_of_ble_eq_true rfl) rfl (Nat.le_of_ble_eq_true rfl) (ro_emit (d := d + 2) hG hm e62) (fun v h1 hq1 => ?_) (fun E h1 hq1 => md_nV hq1)
          obtain ⟨hv, rfl⟩ := hq1
          cases hv
          show mv_rq l G mX13_readTestPath (d + 3) 65 [some (.ref m), some (.int x1), some (.int x2), some (.int v5)] [] (md_H G B m S62) _
          obtain rfl := Option.some.inj hq
          exact q_vret dX13_readTestPath_65 rfl ⟨rfl, rfl⟩
        ·
          have hq := md_pos c30 hq
          refine mv_weak (A := [some (.ref m), some (.int x1), some (.int x2), none]) (by repeat' constructor) ?_
          exact ro_readTestPath_j33 hG hm hq
def mo_readRelation_j149 (x1 : Int32) (x3 : Int32) (S : md_S) : Option md_S :=
  md_c (mo_push 15 x1 x3 S) fun S154 =>
  md_c (mo_push 14 x1 0 S154) fun S162 =>
  some S162
theorem ro_readRelation_j149 {l : Launch} {G : mv_G} {B : mv_H} {m d : Nat} (hG : mv_ok G) (hm : G.2.2.1 ≤ m) {x1 : Int32} {x3 : Int32} {S : md_S} {q : md_S} (hq : mo_readRelation_j149 x1 x3 S = some q) : mv_rq l G mX13_readRelation (d + 3) 149 [some (.ref m), some (.int x1), none, some (.int x3), none] [] (md_H G B m S) (md_V G B m q) := by
  unfold mo_readRelation_j149 at hq
  refine q_aload_n dX13_readRelation_149 rfl ?_
  refine q_bipush (v := 15) dX13_readRelation_150 (by decide) ?_
  refine q_iload_n dX13_readRelation_152 rfl ?_
  refine q_iload_n dX13_readRelation_153 rfl ?_
  obtain ⟨S154, e154, hq⟩ := md_c_e hq
  refine q_cV (Y := mX13_push) (As := [.int 15, .int x1, .int x3]) (st := []) (b := m) (ci := 15) vc_X13_push dX13_readRelation_154 ml_RX13_326 rfl md_obj rfl (Nat.le_of_ble_eq_true rfl) rfl (Nat.le_of_ble_eq_true rfl) (ro_push (d := d + 2) hG hm e154) (fun v h1 hq1 => ?_) (fun E h1 hq1 => md_nV hq1)
  obtain ⟨hv, rfl⟩ := hq1
  cases hv
  show mv_rq l G mX13_readRelation (d + 3) 157 [some (.ref m), some (.int x1), none, some (.int x3), none] [] (md_H G B m S154) _
  refine q_aload_n dX13_readRelation_157 rfl ?_
  refine q_bipush (v := 14) dX13_readRelation_158 (by decide) ?_
  refine q_iload_n dX13_readRelation_160 rfl ?_
  refine q_iconst (v := 0) dX13_readRelation_161 (by decide) ?_
  obtain ⟨S162, e162, hq⟩ := md_c_e hq
  refine q_cV (Y := mX13_push) (As := [.int 14, .int x1, .int 0]) (st := []) (b := m) (ci := 15) vc_X13_push dX13_readRelation_162 ml_RX13_326 rfl md_obj rfl (Nat.le_of_ble_eq_true rfl) rfl (Nat.le_of_ble_eq_true rfl) (ro_push (d := d + 2) hG hm e162) (fun v h1 hq1 => ?_) (fun E h1 hq1 => md_nV hq1)
  obtain ⟨hv, rfl⟩ := hq1
  cases hv
  show mv_rq l G mX13_readRelation (d + 3) 165 [some (.ref m), some (.int x1), none, some (.int x3), none] [] (md_H G B m S162) _
  obtain rfl := Option.some.inj hq
  exact q_vret dX13_readRelation_165 rfl ⟨rfl, rfl⟩
def mo_readRelation_j136 (x1 : Int32) (y0 : Int32) (y1 : Int32) (S : md_S) : Option md_S :=
  mo_readRelation_j149 x1 (y1 + y0) S
theorem ro_readRelation_j136 {l : Launch} {G : mv_G} {B : mv_H} {m d : Nat} (hG : mv_ok G) (hm : G.2.2.1 ≤ m) {x1 : Int32} {y0 : Int32} {y1 : Int32} {S : md_S} {q : md_S} (hq : mo_readRelation_j136 x1 y0 y1 S = some q) : mv_rq l G mX13_readRelation (d + 3) 136 [some (.ref m), some (.int x1), none, none, none] [.int y0, .int y1] (md_H G B m S) (md_V G B m q) := by
  unfold mo_readRelation_j136 at hq
  refine q_iadd dX13_readRelation_136 ?_
  refine q_istore_n dX13_readRelation_137 (Nat.le_of_ble_eq_true rfl) rfl ?_
  show mv_rq l G mX13_readRelation (d + 3) 138 [some (.ref m), some (.int x1), none, some (.int (y1 + y0)), none] [] (md_H G B m S) _
  refine q_goto (tgt := 149) dX13_readRelation_138 (by decide) ?_
  refine mv_weak (A := [some (.ref m), some (.int x1), none, some (.int (y1 + y0)), none]) (by repeat' constructor) ?_
  exact ro_readRelation_j149 hG hm hq
def mo_readRelation_j50 (x1 : Int32) (y0 : Int32) (S : md_S) : Option md_S :=
  mo_readRelation_j149 x1 y0 S
theorem ro_readRelation_j50 {l : Launch} {G : mv_G} {B : mv_H} {m d : Nat} (hG : mv_ok G) (hm : G.2.2.1 ≤ m) {x1 : Int32} {y0 : Int32} {S : md_S} {q : md_S} (hq : mo_readRelation_j50 x1 y0 S = some q) : mv_rq l G mX13_readRelation (d + 3) 50 [some (.ref m), some (.int x1), none, none, none] [.int y0] (md_H G B m S) (md_V G B m q) := by
  unfold mo_readRelation_j50 at hq
  refine q_istore_n dX13_readRelation_50 (Nat.le_of_ble_eq_true rfl) rfl ?_
  show mv_rq l G mX13_readRelation (d + 3) 51 [some (.ref m), some (.int x1), none, some (.int y0), none] [] (md_H G B m S) _
  refine q_goto (tgt := 149) dX13_readRelation_51 (by decide) ?_
  refine mv_weak (A := [some (.ref m), some (.int x1), none, some (.int y0), none]) (by repeat' constructor) ?_
  exact ro_readRelation_j149 hG hm hq
def mo_readRelation_j23 (x1 : Int32) (x2 : Int32) (S : md_S) : Option md_S :=
  md_l (md_p S 6 ((S.1 6) + 1)) fun S30 =>
  md_c (mo_need 61 S30) fun S36 =>
  if x2 = 61 then
    mo_readRelation_j50 x1 0 S36
  else
    mo_readRelation_j50 x1 1 S36
theorem ro_readRelation_j23 {l : Launch} {G : mv_G} {B : mv_H} {m d : Nat} (hG : mv_ok G) (hm : G.2.2.1 ≤ m) {x1 : Int32} {x2 : Int32} {S : md_S} {q : md_S} (hq : mo_readRelation_j23 x1 x2 S = some q) : mv_rq l G mX13_readRelation (d + 3) 23 [some (.ref m), some (.int x1), some (.int x2), none, none] [] (md_H G B m S) (md_V G B m q) := by
  unfold mo_readRelation_j23 at hq
  refine q_aload_n dX13_readRelation_23 rfl ?_
  refine q_dup dX13_readRelation_24 rfl ?_
  refine r_geti 6 dX13_readRelation_25 fl_RX13_202 (by decide) rfl ki_6 ?_
  refine q_iconst (v := 1) dX13_readRelation_28 (by decide) ?_
  refine q_iadd dX13_readRelation_29 ?_
  refine r_puti 6 .int dX13_readRelation_30 fl_RX13_202 (by decide) rfl ki_6 rfl kp_6 rfl rfl hm (fun S30 e30 => ?_)
  have hq := md_l_e e30 hq
  clear e30
  show mv_rq l G mX13_readRelation (d + 3) 33 [some (.ref m), some (.int x1), some (.int x2), none, none] [] (md_H G B m S30) _
  refine q_aload_n dX13_readRelation_33 rfl ?_
  refine q_bipush (v := 61) dX13_readRelation_34 (by decide) ?_
  obtain ⟨S36, e36, hq⟩ := md_c_e hq
  refine q_cV (Y := mX13_need) (As := [.int 61]) (st := []) (b := m) (ci := 15) vc_X13_need dX13_readRelation_36 ml_RX13_222 rfl md_obj rfl (Nat.le_of_ble_eq_true rfl) rfl (Nat.le_of_ble_eq_true rfl) (ro_need (d := d) hG hm e36) (fun v h1 hq1 => ?_) (fun E h1 hq1 => md_nV hq1)
  obtain ⟨hv, rfl⟩ := hq1
  cases hv
  show mv_rq l G mX13_readRelation (d + 3) 39 [some (.ref m), some (.int x1), some (.int x2), none, none] [] (md_H G B m S36) _
  refine q_iload_n dX13_readRelation_39 rfl ?_
  refine q_bipush (v := 61) dX13_readRelation_40 (by decide) ?_
  refine q_icmp_ne (tgt := 49) dX13_readRelation_42 (by decide) (fun c42 => ?_) (fun c42 => ?_)
  ·
    have hq := md_neg c42 hq
    refine q_iconst (v := 1) dX13_readRelation_49 (by decide) ?_
    refine mv_weak (A := [some (.ref m), some (.int x1), none, none, none]) (by repeat' constructor) ?_
    exact ro_readRelation_j50 hG hm hq
  ·
    have hq := md_pos c42 hq
    refine q_iconst (v := 0) dX13_readRelation_45 (by decide) ?_
    refine q_goto (tgt := 50) dX13_readRelation_46 (by decide) ?_
    refine mv_weak (A := [some (.ref m), some (.int x1), none, none, none]) (by repeat' constructor) ?_
    exact ro_readRelation_j50 hG hm hq
def mo_readRelation_j126 (x1 : Int32) (x4 : Int32) (y0 : Int32) (S : md_S) : Option md_S :=
  if x4 = 0 then
    mo_readRelation_j136 x1 0 y0 S
  else
    mo_readRelation_j136 x1 1 y0 S
theorem ro_readRelation_j126 {l : Launch} {G : mv_G} {B : mv_H} {m d : Nat} (hG : mv_ok G) (hm : G.2.2.1 ≤ m) {x1 : Int32} {x4 : Int32} {y0 : Int32} {S : md_S} {q : md_S} (hq : mo_readRelation_j126 x1 x4 y0 S = some q) : mv_rq l G mX13_readRelation (d + 3) 126 [some (.ref m), some (.int x1), none, none, some (.int x4)] [.int y0] (md_H G B m S) (md_V G B m q) := by
  unfold mo_readRelation_j126 at hq
  refine q_iload dX13_readRelation_126 rfl ?_
  refine q_if_eq (tgt := 135) dX13_readRelation_128 (by decide) (fun c128 => ?_) (fun c128 => ?_)
  ·
    have hq := md_pos c128 hq
    refine q_iconst (v := 0) dX13_readRelation_135 (by decide) ?_
    refine mv_weak (A := [some (.ref m), some (.int x1), none, none, none]) (by repeat' constructor) ?_
    exact ro_readRelation_j136 hG hm hq
  ·
    have hq := md_neg c128 hq
    refine q_iconst (v := 1) dX13_readRelation_131 (by decide) ?_
    refine q_goto (tgt := 136) dX13_readRelation_132 (by decide) ?_
    refine mv_weak (A := [some (.ref m), some (.int x1), none, none, none]) (by repeat' constructor) ?_
    exact ro_readRelation_j136 hG hm hq
def mo_readRelation_j111 (x1 : Int32) (x2 : Int32) (x4 : Int32) (y0 : Int32) (y1 : Int32) (S : md_S) : Option md_S :=
  md_l (md_p S 6 (y1 + y0)) fun S112 =>
  if x2 = 60 then
    mo_readRelation_j126 x1 x4 2 S112
  else
    mo_readRelation_j126 x1 x4 4 S112
theorem ro_readRelation_j111 {l : Launch} {G : mv_G} {B : mv_H} {m d : Nat} (hG : mv_ok G) (hm : G.2.2.1 ≤ m) {x1 : Int32} {x2 : Int32} {x4 : Int32} {y0 : Int32} {y1 : Int32} {S : md_S} {q : md_S} (hq : mo_readRelation_j111 x1 x2 x4 y0 y1 S = some q) : mv_rq l G mX13_readRelation (d + 3) 111 [some (.ref m), some (.int x1), some (.int x2), none, some (.int x4)] [.int y0, .int y1, .ref m] (md_H G B m S) (md_V G B m q) := by
  unfold mo_readRelation_j111 at hq
  refine q_iadd dX13_readRelation_111 ?_
  refine r_puti 6 .int dX13_readRelation_112 fl_RX13_202 (by decide) rfl ki_6 rfl kp_6 rfl rfl hm (fun S112 e112 => ?_)
  have hq := md_l_e e112 hq
  clear e112
  show mv_rq l G mX13_readRelation (d + 3) 115 [some (.ref m), some (.int x1), some (.int x2), none, some (.int x4)] [] (md_H G B m S112) _
  refine q_iload_n dX13_readRelation_115 rfl ?_
  refine q_bipush (v := 60) dX13_readRelation_116 (by decide) ?_
  refine q_icmp_ne (tgt := 125) dX13_readRelation_118 (by decide) (fun c118 => ?_) (fun c118 => ?_)
  ·
    have hq := md_neg c118 hq
    refine q_iconst (v := 4) dX13_readRelation_125 (by decide) ?_
    refine mv_weak (A := [some (.ref m), some (.int x1), none, none, some (.int x4)]) (by repeat' constructor) ?_
    exact ro_readRelation_j126 hG hm hq
  ·
    have hq := md_pos c118 hq
    refine q_iconst (v := 2) dX13_readRelation_121 (by decide) ?_
    refine q_goto (tgt := 126) dX13_readRelation_122 (by decide) ?_
    refine mv_weak (A := [some (.ref m), some (.int x1), none, none, some (.int x4)]) (by repeat' constructor) ?_
    exact ro_readRelation_j126 hG hm hq
def mo_readRelation_j94 (x1 : Int32) (x2 : Int32) (y0 : Int32) (S : md_S) : Option md_S :=
  if y0 = 0 then
    mo_readRelation_j111 x1 x2 y0 0 (S.1 6) S
  else
    mo_readRelation_j111 x1 x2 y0 1 (S.1 6) S
theorem ro_readRelation_j94 {l : Launch} {G : mv_G} {B : mv_H} {m d : Nat} (hG : mv_ok G) (hm : G.2.2.1 ≤ m) {x1 : Int32} {x2 : Int32} {y0 : Int32} {S : md_S} {q : md_S} (hq : mo_readRelation_j94 x1 x2 y0 S = some q) : mv_rq l G mX13_readRelation (d + 3) 94 [some (.ref m), some (.int x1), some (.int x2), none, none] [.int y0] (md_H G B m S) (md_V G B m q) := by
  unfold mo_readRelation_j94 at hq
  refine q_istore dX13_readRelation_94 (Nat.le_of_ble_eq_true rfl) rfl ?_
  show mv_rq l G mX13_readRelation (d + 3) 96 [some (.ref m), some (.int x1), some (.int x2), none, some (.int y0)] [] (md_H G B m S) _
  refine q_aload_n dX13_readRelation_96 rfl ?_
  refine q_dup dX13_readRelation_97 rfl ?_
  refine r_geti 6 dX13_readRelation_98 fl_RX13_202 (by decide) rfl ki_6 ?_
  refine q_iload dX13_readRelation_101 rfl ?_
  refine q_if_eq (tgt := 110) dX13_readRelation_103 (by decide) (fun c103 => ?_) (fun c103 => ?_)
  ·
    have hq := md_pos c103 hq
    refine q_iconst (v := 0) dX13_readRelation_110 (by decide) ?_
    refine mv_weak (A := [some (.ref m), some (.int x1), some (.int x2), none, some (.int y0)]) (by repeat' constructor) ?_
    exact ro_readRelation_j111 hG hm hq
  ·
    have hq := md_neg c103 hq
    refine q_iconst (v := 1) dX13_readRelation_106 (by decide) ?_
    refine q_goto (tgt := 111) dX13_readRelation_107 (by decide) ?_
    refine mv_weak (A := [some (.ref m), some (.int x1), some (.int x2), none, some (.int y0)]) (by repeat' constructor) ?_
    exact ro_readRelation_j111 hG hm hq
def mo_readRelation_j66 (x1 : Int32) (x2 : Int32) (S : md_S) : Option md_S :=
  md_l (md_p S 6 ((S.1 6) + 1)) fun S73 =>
  md_b (mo_at (S73.1 6) S73) fun v81 S81 =>
  if v81 = 61 then
    mo_readRelation_j94 x1 x2 1 S81
  else
    mo_readRelation_j94 x1 x2 0 S81
theorem ro_readRelation_j66 {l : Launch} {G : mv_G} {B : mv_H} {m d : Nat} (hG : mv_ok G) (hm : G.2.2.1 ≤ m) {x1 : Int32} {x2 : Int32} {S : md_S} {q : md_S} (hq : mo_readRelation_j66 x1 x2 S = some q) : mv_rq l G mX13_readRelation (d + 3) 66 [some (.ref m), some (.int x1), some (.int x2), none, none] [] (md_H G B m S) (md_V G B m q) := by
  unfold mo_readRelation_j66 at hq
  refine q_aload_n dX13_readRelation_66 rfl ?_
  refine q_dup dX13_readRelation_67 rfl ?_
  refine r_geti 6 dX13_readRelation_68 fl_RX13_202 (by decide) rfl ki_6 ?_
  refine q_iconst (v := 1) dX13_readRelation_71 (by decide) ?_
  refine q_iadd dX13_readRelation_72 ?_
  refine r_puti 6 .int dX13_readRelation_73 fl_RX13_202 (by decide) rfl ki_6 rfl kp_6 rfl rfl hm (fun S73 e73 => ?_)
  have hq := md_l_e e73 hq
  clear e73
  show mv_rq l G mX13_readRelation (d + 3) 76 [some (.ref m), some (.int x1), some (.int x2), none, none] [] (md_H G B m S73) _
  refine q_aload_n dX13_readRelation_76 rfl ?_
  refine q_aload_n dX13_readRelation_77 rfl ?_
  refine r_geti 6 dX13_readRelation_78 fl_RX13_202 (by decide) rfl ki_6 ?_
  obtain ⟨v81, S81, e81, hq⟩ := md_b_e hq
  refine q_cV (Y := mX13_at) (As := [.int (S73.1 6)]) (st := []) (b := m) (ci := 15) vc_X13_at dX13_readRelation_81 ml_RX13_212 rfl md_obj rfl (Nat.le_of_ble_eq_true rfl) rfl (Nat.le_of_ble_eq_true rfl) (ro_at (d := d + 2) hG hm e81) (fun v h1 hq1 => ?_) (fun E h1 hq1 => md_nQ hq1)
  obtain ⟨hv, rfl⟩ := hq1
  cases hv
  show mv_rq l G mX13_readRelation (d + 3) 84 [some (.ref m), some (.int x1), some (.int x2), none, none] [.int v81] (md_H G B m S81) _
  refine q_bipush (v := 61) dX13_readRelation_84 (by decide) ?_
  refine q_icmp_ne (tgt := 93) dX13_readRelation_86 (by decide) (fun c86 => ?_) (fun c86 => ?_)
  ·
    have hq := md_neg c86 hq
    refine q_iconst (v := 0) dX13_readRelation_93 (by decide) ?_
    refine mv_weak (A := [some (.ref m), some (.int x1), some (.int x2), none, none]) (by repeat' constructor) ?_
    exact ro_readRelation_j94 hG hm hq
  ·
    have hq := md_pos c86 hq
    refine q_iconst (v := 1) dX13_readRelation_89 (by decide) ?_
    refine q_goto (tgt := 94) dX13_readRelation_90 (by decide) ?_
    refine mv_weak (A := [some (.ref m), some (.int x1), some (.int x2), none, none]) (by repeat' constructor) ?_
    exact ro_readRelation_j94 hG hm hq
def mo_readRelation (x1 : Int32) (S : md_S) : Option md_S :=
  md_b (mo_at (S.1 6) S) fun v5 S5 =>
  if v5 = 61 then
    mo_readRelation_j23 x1 v5 S5
  else
    if v5 = 33 then
      mo_readRelation_j23 x1 v5 S5
    else
      if v5 = 60 then
        mo_readRelation_j66 x1 v5 S5
      else
        if v5 = 62 then
          mo_readRelation_j66 x1 v5 S5
        else
          md_c (mo_fail (S5.1 6) S5) fun S146 =>
          mo_readRelation_j149 x1 0 S146
theorem ro_readRelation {l : Launch} {G : mv_G} {B : mv_H} {m d : Nat} (hG : mv_ok G) (hm : G.2.2.1 ≤ m) {x1 : Int32} {S : md_S} {q : md_S} (hq : mo_readRelation x1 S = some q) : mv_rq l G mX13_readRelation (d + 3) 0 (mv_in [.ref m, .int x1] 5) [] (md_H G B m S) (md_V G B m q) := by
  unfold mo_readRelation at hq
  show mv_rq l G mX13_readRelation (d + 3) 0 [some (.ref m), some (.int x1), none, none, none] [] (md_H G B m S) _
  refine q_aload_n dX13_readRelation_0 rfl ?_
  refine q_aload_n dX13_readRelation_1 rfl ?_
  refine r_geti 6 dX13_readRelation_2 fl_RX13_202 (by decide) rfl ki_6 ?_
  obtain ⟨v5, S5, e5, hq⟩ := md_b_e hq
  refine q_cV (Y := mX13_at) (As := [.int (S.1 6)]) (st := []) (b := m) (ci := 15) vc_X13_at dX13_readRelation_5 ml_RX13_212 rfl md_obj rfl (Nat.le_of_ble_eq_true rfl) rfl (Nat.le_of_ble_eq_true rfl) (ro_at (d := d + 2) hG hm e5) (fun v h1 hq1 => ?_) (fun E h1 hq1 => md_nQ hq1)
  obtain ⟨hv, rfl⟩ := hq1
  cases hv
  show mv_rq l G mX13_readRelation (d + 3) 8 [some (.ref m), some (.int x1), none, none, none] [.int v5] (md_H G B m S5) _
  refine q_istore_n dX13_readRelation_8 (Nat.le_of_ble_eq_true rfl) rfl ?_
  show mv_rq l G mX13_readRelation (d + 3) 9 [some (.ref m), some (.int x1), some (.int v5), none, none] [] (md_H G B m S5) _
  refine q_iconst (v := 0) dX13_readRelation_9 (by decide) ?_
  refine q_istore_n dX13_readRelation_10 (Nat.le_of_ble_eq_true rfl) rfl ?_
  show mv_rq l G mX13_readRelation (d + 3) 11 [some (.ref m), some (.int x1), some (.int v5), some (.int 0), none] [] (md_H G B m S5) _
  refine q_iload_n dX13_readRelation_11 rfl ?_
  refine q_bipush (v := 61) dX13_readRelation_12 (by decide) ?_
  refine q_icmp_eq (tgt := 23) dX13_readRelation_14 (by decide) (fun c14 => ?_) (fun c14 => ?_)
  ·
    have hq := md_pos c14 hq
    refine mv_weak (A := [some (.ref m), some (.int x1), some (.int v5), none, none]) (by repeat' constructor) ?_
    exact ro_readRelation_j23 hG hm hq
  ·
    have hq := md_neg c14 hq
    refine q_iload_n dX13_readRelation_17 rfl ?_
    refine q_bipush (v := 33) dX13_readRelation_18 (by decide) ?_
    refine q_icmp_ne (tgt := 54) dX13_readRelation_20 (by decide) (fun c20 => ?_) (fun c20 => ?_)
    ·
      have hq := md_neg c20 hq
      refine q_iload_n dX13_readRelation_54 rfl ?_
      refine q_bipush (v := 60) dX13_readRelation_55 (by decide) ?_
      refine q_icmp_eq (tgt := 66) dX13_readRelation_57 (by decide) (fun c57 => ?_) (fun c57 => ?_)
      ·
        have hq := md_pos c57 hq
        refine mv_weak (A := [some (.ref m), some (.int x1), some (.int v5), none, none]) (by repeat' constructor) ?_
        exact ro_readRelation_j66 hG hm hq
      ·
        have hq := md_neg c57 hq
        refine q_iload_n dX13_readRelation_60 rfl ?_
        refine q_bipush (v := 62) dX13_readRelation_61 (by decide) ?_
        refine q_icmp_ne (tgt := 141) dX13_readRelation_63 (by decide) (fun c63 => ?_) (fun c63 => ?_)
        ·
          have hq := md_neg c63 hq
          refine q_aload_n dX13_readRelation_141 rfl ?_
          refine q_aload_n dX13_readRelation_142 rfl ?_
          refine r_geti 6 dX13_readRelation_143 fl_RX13_202 (by decide) rfl ki_6 ?_
          obtain ⟨S146, e146, hq⟩ := md_c_e hq
          refine q_cV (Y := mX13_fail) (As := [.int (S5.1 6)]) (st := []) (b := m) (ci := 15) vc_X13_fail dX13_readRelation_146 ml_RX13_216 rfl md_obj rfl (Nat.le_of_ble_eq_true rfl) rfl (Nat.le_of_ble_eq_true rfl) (ro_fail (d := d + 1) hG hm e146) (fun v h1 hq1 => ?_) (fun E h1 hq1 => md_nV hq1)
          obtain ⟨hv, rfl⟩ := hq1
          cases hv
          show mv_rq l G mX13_readRelation (d + 3) 149 [some (.ref m), some (.int x1), some (.int v5), some (.int 0), none] [] (md_H G B m S146) _
          refine mv_weak (A := [some (.ref m), some (.int x1), none, some (.int 0), none]) (by repeat' constructor) ?_
          exact ro_readRelation_j149 hG hm hq
        ·
          have hq := md_pos c63 hq
          refine mv_weak (A := [some (.ref m), some (.int x1), some (.int v5), none, none]) (by repeat' constructor) ?_
          exact ro_readRelation_j66 hG hm hq
    ·
      have hq := md_pos c20 hq
      refine mv_weak (A := [some (.ref m), some (.int x1), some (.int v5), none, none]) (by repeat' constructor) ?_
      exact ro_readRelation_j23 hG hm hq
