theorem dX13_readThing_0 : decode cX13_readThing 0 = .ok (.aload_n 0, 1) := by decide +kernel
theorem dX13_readThing_1 : decode cX13_readThing 1 = .ok (.aload_n 0, 1) := by decide +kernel
theorem dX13_readThing_2 : decode cX13_readThing 2 = .ok (.getfield 202, 3) := by decide +kernel
theorem dX13_readThing_5 : decode cX13_readThing 5 = .ok (.invokevirtual 212, 3) := by decide +kernel
theorem dX13_readThing_8 : decode cX13_readThing 8 = .ok (.istore_n 2, 1) := by decide +kernel
theorem dX13_readThing_9 : decode cX13_readThing 9 = .ok (.iload_n 2, 1) := by decide +kernel
theorem dX13_readThing_10 : decode cX13_readThing 10 = .ok (.bipush 39, 2) := by decide +kernel
theorem dX13_readThing_12 : decode cX13_readThing 12 = .ok (.if_icmp .ne 27, 3) := by decide +kernel
theorem dX13_readThing_15 : decode cX13_readThing 15 = .ok (.aload_n 0, 1) := by decide +kernel
theorem dX13_readThing_16 : decode cX13_readThing 16 = .ok (.bipush 39, 2) := by decide +kernel
theorem dX13_readThing_18 : decode cX13_readThing 18 = .ok (.iconst (-1), 1) := by decide +kernel
theorem dX13_readThing_19 : decode cX13_readThing 19 = .ok (.invokevirtual 251, 3) := by decide +kernel
theorem dX13_readThing_22 : decode cX13_readThing 22 = .ok (.aload_n 0, 1) := by decide +kernel
theorem dX13_readThing_23 : decode cX13_readThing 23 = .ok (.iload_n 1, 1) := by decide +kernel
theorem dX13_readThing_24 : decode cX13_readThing 24 = .ok (.iconst 5, 1) := by decide +kernel
theorem dX13_readThing_25 : decode cX13_readThing 25 = .ok (.aload_n 0, 1) := by decide +kernel
theorem dX13_readThing_26 : decode cX13_readThing 26 = .ok (.getfield 225, 3) := by decide +kernel
theorem dX13_readThing_29 : decode cX13_readThing 29 = .ok (.aload_n 0, 1) := by decide +kernel
theorem dX13_readThing_30 : decode cX13_readThing 30 = .ok (.getfield 228, 3) := by decide +kernel
theorem dX13_readThing_33 : decode cX13_readThing 33 = .ok (.invokevirtual 362, 3) := by decide +kernel
theorem dX13_readThing_36 : decode cX13_readThing 36 = .ok (.goto 177, 3) := by decide +kernel
theorem dX13_readThing_39 : decode cX13_readThing 39 = .ok (.aload_n 0, 1) := by decide +kernel
theorem dX13_readThing_40 : decode cX13_readThing 40 = .ok (.invokevirtual 337, 3) := by decide +kernel
theorem dX13_readThing_43 : decode cX13_readThing 43 = .ok (.ifCond .eq 19, 3) := by decide +kernel
theorem dX13_readThing_46 : decode cX13_readThing 46 = .ok (.aload_n 0, 1) := by decide +kernel
theorem dX13_readThing_47 : decode cX13_readThing 47 = .ok (.iload_n 1, 1) := by decide +kernel
theorem dX13_readThing_48 : decode cX13_readThing 48 = .ok (.iconst 4, 1) := by decide +kernel
theorem dX13_readThing_49 : decode cX13_readThing 49 = .ok (.aload_n 0, 1) := by decide +kernel
theorem dX13_readThing_50 : decode cX13_readThing 50 = .ok (.bipush 6, 2) := by decide +kernel
theorem dX13_readThing_52 : decode cX13_readThing 52 = .ok (.invokevirtual 255, 3) := by decide +kernel
theorem dX13_readThing_55 : decode cX13_readThing 55 = .ok (.iconst 0, 1) := by decide +kernel
theorem dX13_readThing_56 : decode cX13_readThing 56 = .ok (.invokevirtual 362, 3) := by decide +kernel
theorem dX13_readThing_59 : decode cX13_readThing 59 = .ok (.goto 154, 3) := by decide +kernel
theorem dX13_readThing_62 : decode cX13_readThing 62 = .ok (.iload_n 2, 1) := by decide +kernel
theorem dX13_readThing_63 : decode cX13_readThing 63 = .ok (.bipush 116, 2) := by decide +kernel
theorem dX13_readThing_65 : decode cX13_readThing 65 = .ok (.if_icmp .ne 23, 3) := by decide +kernel
theorem dX13_readThing_68 : decode cX13_readThing 68 = .ok (.aload_n 0, 1) := by decide +kernel
theorem dX13_readThing_69 : decode cX13_readThing 69 = .ok (.ldc2_w 258, 3) := by decide +kernel
theorem dX13_readThing_72 : decode cX13_readThing 72 = .ok (.iconst 4, 1) := by decide +kernel
theorem dX13_readThing_73 : decode cX13_readThing 73 = .ok (.invokevirtual 260, 3) := by decide +kernel
theorem dX13_readThing_76 : decode cX13_readThing 76 = .ok (.aload_n 0, 1) := by decide +kernel
theorem dX13_readThing_77 : decode cX13_readThing 77 = .ok (.iload_n 1, 1) := by decide +kernel
theorem dX13_readThing_78 : decode cX13_readThing 78 = .ok (.bipush 6, 2) := by decide +kernel
theorem dX13_readThing_80 : decode cX13_readThing 80 = .ok (.iconst 2, 1) := by decide +kernel
theorem dX13_readThing_81 : decode cX13_readThing 81 = .ok (.iconst 0, 1) := by decide +kernel
theorem dX13_readThing_82 : decode cX13_readThing 82 = .ok (.invokevirtual 362, 3) := by decide +kernel
theorem dX13_readThing_85 : decode cX13_readThing 85 = .ok (.goto 128, 3) := by decide +kernel
theorem dX13_readThing_88 : decode cX13_readThing 88 = .ok (.iload_n 2, 1) := by decide +kernel
theorem dX13_readThing_89 : decode cX13_readThing 89 = .ok (.bipush 102, 2) := by decide +kernel
theorem dX13_readThing_91 : decode cX13_readThing 91 = .ok (.if_icmp .ne 23, 3) := by decide +kernel
theorem dX13_readThing_94 : decode cX13_readThing 94 = .ok (.aload_n 0, 1) := by decide +kernel
theorem dX13_readThing_95 : decode cX13_readThing 95 = .ok (.ldc2_w 264, 3) := by decide +kernel
theorem dX13_readThing_98 : decode cX13_readThing 98 = .ok (.iconst 5, 1) := by decide +kernel
theorem dX13_readThing_99 : decode cX13_readThing 99 = .ok (.invokevirtual 260, 3) := by decide +kernel
theorem dX13_readThing_102 : decode cX13_readThing 102 = .ok (.aload_n 0, 1) := by decide +kernel
theorem dX13_readThing_103 : decode cX13_readThing 103 = .ok (.iload_n 1, 1) := by decide +kernel
theorem dX13_readThing_104 : decode cX13_readThing 104 = .ok (.bipush 6, 2) := by decide +kernel
theorem dX13_readThing_106 : decode cX13_readThing 106 = .ok (.iconst 1, 1) := by decide +kernel
theorem dX13_readThing_107 : decode cX13_readThing 107 = .ok (.iconst 0, 1) := by decide +kernel
theorem dX13_readThing_108 : decode cX13_readThing 108 = .ok (.invokevirtual 362, 3) := by decide +kernel
theorem dX13_readThing_111 : decode cX13_readThing 111 = .ok (.goto 102, 3) := by decide +kernel
theorem dX13_readThing_114 : decode cX13_readThing 114 = .ok (.iload_n 2, 1) := by decide +kernel
theorem dX13_readThing_115 : decode cX13_readThing 115 = .ok (.bipush 110, 2) := by decide +kernel
theorem dX13_readThing_117 : decode cX13_readThing 117 = .ok (.if_icmp .ne 23, 3) := by decide +kernel
theorem dX13_readThing_120 : decode cX13_readThing 120 = .ok (.aload_n 0, 1) := by decide +kernel
theorem dX13_readThing_121 : decode cX13_readThing 121 = .ok (.ldc2_w 266, 3) := by decide +kernel
theorem dX13_readThing_124 : decode cX13_readThing 124 = .ok (.iconst 4, 1) := by decide +kernel
theorem dX13_readThing_125 : decode cX13_readThing 125 = .ok (.invokevirtual 260, 3) := by decide +kernel
theorem dX13_readThing_128 : decode cX13_readThing 128 = .ok (.aload_n 0, 1) := by decide +kernel
theorem dX13_readThing_129 : decode cX13_readThing 129 = .ok (.iload_n 1, 1) := by decide +kernel
theorem dX13_readThing_130 : decode cX13_readThing 130 = .ok (.bipush 6, 2) := by decide +kernel
theorem dX13_readThing_132 : decode cX13_readThing 132 = .ok (.iconst 0, 1) := by decide +kernel
theorem dX13_readThing_133 : decode cX13_readThing 133 = .ok (.iconst 0, 1) := by decide +kernel
theorem dX13_readThing_134 : decode cX13_readThing 134 = .ok (.invokevirtual 362, 3) := by decide +kernel
theorem dX13_readThing_137 : decode cX13_readThing 137 = .ok (.goto 76, 3) := by decide +kernel
theorem dX13_readThing_140 : decode cX13_readThing 140 = .ok (.iload_n 2, 1) := by decide +kernel
theorem dX13_readThing_141 : decode cX13_readThing 141 = .ok (.bipush 108, 2) := by decide +kernel
theorem dX13_readThing_143 : decode cX13_readThing 143 = .ok (.if_icmp .ne 35, 3) := by decide +kernel
theorem dX13_readThing_146 : decode cX13_readThing 146 = .ok (.aload_n 0, 1) := by decide +kernel
theorem dX13_readThing_147 : decode cX13_readThing 147 = .ok (.ldc2_w 366, 3) := by decide +kernel
theorem dX13_readThing_150 : decode cX13_readThing 150 = .ok (.bipush 6, 2) := by decide +kernel
theorem dX13_readThing_152 : decode cX13_readThing 152 = .ok (.invokevirtual 260, 3) := by decide +kernel
theorem dX13_readThing_155 : decode cX13_readThing 155 = .ok (.aload_n 0, 1) := by decide +kernel
theorem dX13_readThing_156 : decode cX13_readThing 156 = .ok (.invokevirtual 368, 3) := by decide +kernel
theorem dX13_readThing_159 : decode cX13_readThing 159 = .ok (.aload_n 0, 1) := by decide +kernel
theorem dX13_readThing_160 : decode cX13_readThing 160 = .ok (.bipush 16, 2) := by decide +kernel
theorem dX13_readThing_162 : decode cX13_readThing 162 = .ok (.iload_n 1, 1) := by decide +kernel
theorem dX13_readThing_163 : decode cX13_readThing 163 = .ok (.iconst 0, 1) := by decide +kernel
theorem dX13_readThing_164 : decode cX13_readThing 164 = .ok (.invokevirtual 326, 3) := by decide +kernel
theorem dX13_readThing_167 : decode cX13_readThing 167 = .ok (.aload_n 0, 1) := by decide +kernel
theorem dX13_readThing_168 : decode cX13_readThing 168 = .ok (.bipush 14, 2) := by decide +kernel
theorem dX13_readThing_170 : decode cX13_readThing 170 = .ok (.iload_n 1, 1) := by decide +kernel
theorem dX13_readThing_171 : decode cX13_readThing 171 = .ok (.iconst 0, 1) := by decide +kernel
theorem dX13_readThing_172 : decode cX13_readThing 172 = .ok (.invokevirtual 326, 3) := by decide +kernel
theorem dX13_readThing_175 : decode cX13_readThing 175 = .ok (.goto 38, 3) := by decide +kernel
theorem dX13_readThing_178 : decode cX13_readThing 178 = .ok (.iload_n 2, 1) := by decide +kernel
theorem dX13_readThing_179 : decode cX13_readThing 179 = .ok (.bipush 99, 2) := by decide +kernel
theorem dX13_readThing_181 : decode cX13_readThing 181 = .ok (.if_icmp .ne 25, 3) := by decide +kernel
theorem dX13_readThing_184 : decode cX13_readThing 184 = .ok (.aload_n 0, 1) := by decide +kernel
theorem dX13_readThing_185 : decode cX13_readThing 185 = .ok (.ldc2_w 371, 3) := by decide +kernel
theorem dX13_readThing_188 : decode cX13_readThing 188 = .ok (.iconst 5, 1) := by decide +kernel
theorem dX13_readThing_189 : decode cX13_readThing 189 = .ok (.invokevirtual 260, 3) := by decide +kernel
theorem dX13_readThing_192 : decode cX13_readThing 192 = .ok (.aload_n 0, 1) := by decide +kernel
theorem dX13_readThing_193 : decode cX13_readThing 193 = .ok (.invokevirtual 368, 3) := by decide +kernel
theorem dX13_readThing_196 : decode cX13_readThing 196 = .ok (.aload_n 0, 1) := by decide +kernel
theorem dX13_readThing_197 : decode cX13_readThing 197 = .ok (.iload_n 1, 1) := by decide +kernel
theorem dX13_readThing_198 : decode cX13_readThing 198 = .ok (.bipush 17, 2) := by decide +kernel
theorem dX13_readThing_200 : decode cX13_readThing 200 = .ok (.invokevirtual 373, 3) := by decide +kernel
theorem dX13_readThing_203 : decode cX13_readThing 203 = .ok (.goto 10, 3) := by decide +kernel
theorem dX13_readThing_206 : decode cX13_readThing 206 = .ok (.aload_n 0, 1) := by decide +kernel
theorem dX13_readThing_207 : decode cX13_readThing 207 = .ok (.iload_n 1, 1) := by decide +kernel
theorem dX13_readThing_208 : decode cX13_readThing 208 = .ok (.bipush 18, 2) := by decide +kernel
theorem dX13_readThing_210 : decode cX13_readThing 210 = .ok (.invokevirtual 373, 3) := by decide +kernel
theorem dX13_readThing_213 : decode cX13_readThing 213 = .ok (.return_, 1) := by decide +kernel
theorem dX13_readPart_0 : decode cX13_readPart 0 = .ok (.iload_n 1, 1) := by decide +kernel
theorem dX13_readPart_1 : decode cX13_readPart 1 = .ok (.tableswitch 224 0 14 #[75, 83, 91, 99, 117, 224, 144, 163, 224, 191, 224, 224, 199, 208, 216], 75) := by decide +kernel
theorem dX13_readPart_76 : decode cX13_readPart 76 = .ok (.aload_n 0, 1) := by decide +kernel
theorem dX13_readPart_77 : decode cX13_readPart 77 = .ok (.iload_n 2, 1) := by decide +kernel
theorem dX13_readPart_78 : decode cX13_readPart 78 = .ok (.invokevirtual 376, 3) := by decide +kernel
theorem dX13_readPart_81 : decode cX13_readPart 81 = .ok (.goto 151, 3) := by decide +kernel
theorem dX13_readPart_84 : decode cX13_readPart 84 = .ok (.aload_n 0, 1) := by decide +kernel
theorem dX13_readPart_85 : decode cX13_readPart 85 = .ok (.iload_n 2, 1) := by decide +kernel
theorem dX13_readPart_86 : decode cX13_readPart 86 = .ok (.invokevirtual 379, 3) := by decide +kernel
theorem dX13_readPart_89 : decode cX13_readPart 89 = .ok (.goto 143, 3) := by decide +kernel
theorem dX13_readPart_92 : decode cX13_readPart 92 = .ok (.aload_n 0, 1) := by decide +kernel
theorem dX13_readPart_93 : decode cX13_readPart 93 = .ok (.iload_n 2, 1) := by decide +kernel
theorem dX13_readPart_94 : decode cX13_readPart 94 = .ok (.invokevirtual 382, 3) := by decide +kernel
theorem dX13_readPart_97 : decode cX13_readPart 97 = .ok (.goto 135, 3) := by decide +kernel
theorem dX13_readPart_100 : decode cX13_readPart 100 = .ok (.aload_n 0, 1) := by decide +kernel
theorem dX13_readPart_101 : decode cX13_readPart 101 = .ok (.iconst 4, 1) := by decide +kernel
theorem dX13_readPart_102 : decode cX13_readPart 102 = .ok (.iload_n 2, 1) := by decide +kernel
theorem dX13_readPart_103 : decode cX13_readPart 103 = .ok (.iconst 0, 1) := by decide +kernel
theorem dX13_readPart_104 : decode cX13_readPart 104 = .ok (.invokevirtual 326, 3) := by decide +kernel
theorem dX13_readPart_107 : decode cX13_readPart 107 = .ok (.aload_n 0, 1) := by decide +kernel
theorem dX13_readPart_108 : decode cX13_readPart 108 = .ok (.bipush 6, 2) := by decide +kernel
theorem dX13_readPart_110 : decode cX13_readPart 110 = .ok (.iload_n 2, 1) := by decide +kernel
theorem dX13_readPart_111 : decode cX13_readPart 111 = .ok (.iconst 0, 1) := by decide +kernel
theorem dX13_readPart_112 : decode cX13_readPart 112 = .ok (.invokevirtual 326, 3) := by decide +kernel
theorem dX13_readPart_115 : decode cX13_readPart 115 = .ok (.goto 117, 3) := by decide +kernel
theorem dX13_readPart_118 : decode cX13_readPart 118 = .ok (.aload_n 0, 1) := by decide +kernel
theorem dX13_readPart_119 : decode cX13_readPart 119 = .ok (.bipush 124, 2) := by decide +kernel
theorem dX13_readPart_121 : decode cX13_readPart 121 = .ok (.invokevirtual 385, 3) := by decide +kernel
theorem dX13_readPart_124 : decode cX13_readPart 124 = .ok (.ifCond .eq 108, 3) := by decide +kernel
theorem dX13_readPart_127 : decode cX13_readPart 127 = .ok (.aload_n 0, 1) := by decide +kernel
theorem dX13_readPart_128 : decode cX13_readPart 128 = .ok (.iconst 5, 1) := by decide +kernel
theorem dX13_readPart_129 : decode cX13_readPart 129 = .ok (.iload_n 2, 1) := by decide +kernel
theorem dX13_readPart_130 : decode cX13_readPart 130 = .ok (.iconst 0, 1) := by decide +kernel
theorem dX13_readPart_131 : decode cX13_readPart 131 = .ok (.invokevirtual 326, 3) := by decide +kernel
theorem dX13_readPart_134 : decode cX13_readPart 134 = .ok (.aload_n 0, 1) := by decide +kernel
theorem dX13_readPart_135 : decode cX13_readPart 135 = .ok (.bipush 6, 2) := by decide +kernel
theorem dX13_readPart_137 : decode cX13_readPart 137 = .ok (.iload_n 2, 1) := by decide +kernel
theorem dX13_readPart_138 : decode cX13_readPart 138 = .ok (.iconst 0, 1) := by decide +kernel
theorem dX13_readPart_139 : decode cX13_readPart 139 = .ok (.invokevirtual 326, 3) := by decide +kernel
theorem dX13_readPart_142 : decode cX13_readPart 142 = .ok (.goto 90, 3) := by decide +kernel
theorem dX13_readPart_145 : decode cX13_readPart 145 = .ok (.aload_n 0, 1) := by decide +kernel
theorem dX13_readPart_146 : decode cX13_readPart 146 = .ok (.bipush 7, 2) := by decide +kernel
theorem dX13_readPart_148 : decode cX13_readPart 148 = .ok (.iload_n 2, 1) := by decide +kernel
theorem dX13_readPart_149 : decode cX13_readPart 149 = .ok (.iconst 0, 1) := by decide +kernel
theorem dX13_readPart_150 : decode cX13_readPart 150 = .ok (.invokevirtual 326, 3) := by decide +kernel
theorem dX13_readPart_153 : decode cX13_readPart 153 = .ok (.aload_n 0, 1) := by decide +kernel
theorem dX13_readPart_154 : decode cX13_readPart 154 = .ok (.bipush 9, 2) := by decide +kernel
theorem dX13_readPart_156 : decode cX13_readPart 156 = .ok (.iload_n 2, 1) := by decide +kernel
theorem dX13_readPart_157 : decode cX13_readPart 157 = .ok (.iconst 0, 1) := by decide +kernel
theorem dX13_readPart_158 : decode cX13_readPart 158 = .ok (.invokevirtual 326, 3) := by decide +kernel
theorem dX13_readPart_161 : decode cX13_readPart 161 = .ok (.goto 71, 3) := by decide +kernel
theorem dX13_readPart_164 : decode cX13_readPart 164 = .ok (.aload_n 0, 1) := by decide +kernel
theorem dX13_readPart_165 : decode cX13_readPart 165 = .ok (.bipush 38, 2) := by decide +kernel
theorem dX13_readPart_167 : decode cX13_readPart 167 = .ok (.invokevirtual 385, 3) := by decide +kernel
theorem dX13_readPart_170 : decode cX13_readPart 170 = .ok (.ifCond .eq 62, 3) := by decide +kernel
theorem dX13_readPart_173 : decode cX13_readPart 173 = .ok (.aload_n 0, 1) := by decide +kernel
theorem dX13_readPart_174 : decode cX13_readPart 174 = .ok (.bipush 8, 2) := by decide +kernel
theorem dX13_readPart_176 : decode cX13_readPart 176 = .ok (.iload_n 2, 1) := by decide +kernel
theorem dX13_readPart_177 : decode cX13_readPart 177 = .ok (.iconst 0, 1) := by decide +kernel
theorem dX13_readPart_178 : decode cX13_readPart 178 = .ok (.invokevirtual 326, 3) := by decide +kernel
theorem dX13_readPart_181 : decode cX13_readPart 181 = .ok (.aload_n 0, 1) := by decide +kernel
theorem dX13_readPart_182 : decode cX13_readPart 182 = .ok (.bipush 9, 2) := by decide +kernel
theorem dX13_readPart_184 : decode cX13_readPart 184 = .ok (.iload_n 2, 1) := by decide +kernel
theorem dX13_readPart_185 : decode cX13_readPart 185 = .ok (.iconst 0, 1) := by decide +kernel
theorem dX13_readPart_186 : decode cX13_readPart 186 = .ok (.invokevirtual 326, 3) := by decide +kernel
theorem dX13_readPart_189 : decode cX13_readPart 189 = .ok (.goto 43, 3) := by decide +kernel
theorem dX13_readPart_192 : decode cX13_readPart 192 = .ok (.aload_n 0, 1) := by decide +kernel
theorem dX13_readPart_193 : decode cX13_readPart 193 = .ok (.iload_n 2, 1) := by decide +kernel
theorem dX13_readPart_194 : decode cX13_readPart 194 = .ok (.invokevirtual 388, 3) := by decide +kernel
theorem dX13_readPart_197 : decode cX13_readPart 197 = .ok (.goto 35, 3) := by decide +kernel
theorem dX13_readPart_200 : decode cX13_readPart 200 = .ok (.aload_n 0, 1) := by decide +kernel
theorem dX13_readPart_201 : decode cX13_readPart 201 = .ok (.iload_n 2, 1) := by decide +kernel
theorem dX13_readPart_202 : decode cX13_readPart 202 = .ok (.iload_n 3, 1) := by decide +kernel
theorem dX13_readPart_203 : decode cX13_readPart 203 = .ok (.invokevirtual 391, 3) := by decide +kernel
theorem dX13_readPart_206 : decode cX13_readPart 206 = .ok (.goto 26, 3) := by decide +kernel
theorem dX13_readPart_209 : decode cX13_readPart 209 = .ok (.aload_n 0, 1) := by decide +kernel
theorem dX13_readPart_210 : decode cX13_readPart 210 = .ok (.iload_n 2, 1) := by decide +kernel
theorem dX13_readPart_211 : decode cX13_readPart 211 = .ok (.invokevirtual 394, 3) := by decide +kernel
theorem dX13_readPart_214 : decode cX13_readPart 214 = .ok (.goto 18, 3) := by decide +kernel
theorem dX13_readPart_217 : decode cX13_readPart 217 = .ok (.aload_n 0, 1) := by decide +kernel
theorem dX13_readPart_218 : decode cX13_readPart 218 = .ok (.iload_n 2, 1) := by decide +kernel
theorem dX13_readPart_219 : decode cX13_readPart 219 = .ok (.invokevirtual 397, 3) := by decide +kernel
theorem dX13_readPart_222 : decode cX13_readPart 222 = .ok (.goto 10, 3) := by decide +kernel
theorem dX13_readPart_225 : decode cX13_readPart 225 = .ok (.aload_n 0, 1) := by decide +kernel
theorem dX13_readPart_226 : decode cX13_readPart 226 = .ok (.iload_n 1, 1) := by decide +kernel
theorem dX13_readPart_227 : decode cX13_readPart 227 = .ok (.iload_n 2, 1) := by decide +kernel
theorem dX13_readPart_228 : decode cX13_readPart 228 = .ok (.iload_n 3, 1) := by decide +kernel
theorem dX13_readPart_229 : decode cX13_readPart 229 = .ok (.invokevirtual 400, 3) := by decide +kernel
theorem dX13_readPart_232 : decode cX13_readPart 232 = .ok (.return_, 1) := by decide +kernel
theorem dX13_readQuery_0 : decode cX13_readQuery 0 = .ok (.aload_n 0, 1) := by decide +kernel
theorem dX13_readQuery_1 : decode cX13_readQuery 1 = .ok (.iconst 0, 1) := by decide +kernel
theorem dX13_readQuery_2 : decode cX13_readQuery 2 = .ok (.putfield 310, 3) := by decide +kernel
theorem dX13_readQuery_5 : decode cX13_readQuery 5 = .ok (.aload_n 0, 1) := by decide +kernel
theorem dX13_readQuery_6 : decode cX13_readQuery 6 = .ok (.iconst 0, 1) := by decide +kernel
theorem dX13_readQuery_7 : decode cX13_readQuery 7 = .ok (.putfield 313, 3) := by decide +kernel
theorem dX13_readQuery_10 : decode cX13_readQuery 10 = .ok (.aload_n 0, 1) := by decide +kernel
theorem dX13_readQuery_11 : decode cX13_readQuery 11 = .ok (.iconst 0, 1) := by decide +kernel
theorem dX13_readQuery_12 : decode cX13_readQuery 12 = .ok (.putfield 316, 3) := by decide +kernel
theorem dX13_readQuery_15 : decode cX13_readQuery 15 = .ok (.aload_n 0, 1) := by decide +kernel
theorem dX13_readQuery_16 : decode cX13_readQuery 16 = .ok (.iconst 0, 1) := by decide +kernel
theorem dX13_readQuery_17 : decode cX13_readQuery 17 = .ok (.putfield 349, 3) := by decide +kernel
theorem dX13_readQuery_20 : decode cX13_readQuery 20 = .ok (.aload_n 0, 1) := by decide +kernel
theorem dX13_readQuery_21 : decode cX13_readQuery 21 = .ok (.iconst 0, 1) := by decide +kernel
theorem dX13_readQuery_22 : decode cX13_readQuery 22 = .ok (.putfield 319, 3) := by decide +kernel
theorem dX13_readQuery_25 : decode cX13_readQuery 25 = .ok (.aload_n 0, 1) := by decide +kernel
theorem dX13_readQuery_26 : decode cX13_readQuery 26 = .ok (.iconst 0, 1) := by decide +kernel
theorem dX13_readQuery_27 : decode cX13_readQuery 27 = .ok (.putfield 340, 3) := by decide +kernel
theorem dX13_readQuery_30 : decode cX13_readQuery 30 = .ok (.aload_n 0, 1) := by decide +kernel
theorem dX13_readQuery_31 : decode cX13_readQuery 31 = .ok (.iconst 0, 1) := by decide +kernel
theorem dX13_readQuery_32 : decode cX13_readQuery 32 = .ok (.putfield 307, 3) := by decide +kernel
theorem dX13_readQuery_35 : decode cX13_readQuery 35 = .ok (.aload_n 0, 1) := by decide +kernel
theorem dX13_readQuery_36 : decode cX13_readQuery 36 = .ok (.iconst 0, 1) := by decide +kernel
theorem dX13_readQuery_37 : decode cX13_readQuery 37 = .ok (.invokevirtual 212, 3) := by decide +kernel
theorem dX13_readQuery_40 : decode cX13_readQuery 40 = .ok (.bipush 36, 2) := by decide +kernel
theorem dX13_readQuery_42 : decode cX13_readQuery 42 = .ok (.if_icmp .eq 10, 3) := by decide +kernel
theorem dX13_readQuery_45 : decode cX13_readQuery 45 = .ok (.aload_n 0, 1) := by decide +kernel
theorem dX13_readQuery_46 : decode cX13_readQuery 46 = .ok (.iconst 0, 1) := by decide +kernel
theorem dX13_readQuery_47 : decode cX13_readQuery 47 = .ok (.invokevirtual 216, 3) := by decide +kernel
theorem dX13_readQuery_50 : decode cX13_readQuery 50 = .ok (.iconst 0, 1) := by decide +kernel
theorem dX13_readQuery_51 : decode cX13_readQuery 51 = .ok (.ireturn, 1) := by decide +kernel
theorem dX13_readQuery_52 : decode cX13_readQuery 52 = .ok (.aload_n 0, 1) := by decide +kernel
theorem dX13_readQuery_53 : decode cX13_readQuery 53 = .ok (.iconst 0, 1) := by decide +kernel
theorem dX13_readQuery_54 : decode cX13_readQuery 54 = .ok (.aload_n 0, 1) := by decide +kernel
theorem dX13_readQuery_55 : decode cX13_readQuery 55 = .ok (.iconst 1, 1) := by decide +kernel
theorem dX13_readQuery_56 : decode cX13_readQuery 56 = .ok (.invokevirtual 352, 3) := by decide +kernel
theorem dX13_readQuery_59 : decode cX13_readQuery 59 = .ok (.iconst 0, 1) := by decide +kernel
theorem dX13_readQuery_60 : decode cX13_readQuery 60 = .ok (.invokevirtual 326, 3) := by decide +kernel
theorem dX13_readQuery_63 : decode cX13_readQuery 63 = .ok (.aload_n 0, 1) := by decide +kernel
theorem dX13_readQuery_64 : decode cX13_readQuery 64 = .ok (.getfield 307, 3) := by decide +kernel
theorem dX13_readQuery_67 : decode cX13_readQuery 67 = .ok (.ifCond .le 54, 3) := by decide +kernel
theorem dX13_readQuery_70 : decode cX13_readQuery 70 = .ok (.aload_n 0, 1) := by decide +kernel
theorem dX13_readQuery_71 : decode cX13_readQuery 71 = .ok (.invokevirtual 208, 3) := by decide +kernel
theorem dX13_readQuery_74 : decode cX13_readQuery 74 = .ok (.ifCond .eq 47, 3) := by decide +kernel
theorem dX13_readQuery_77 : decode cX13_readQuery 77 = .ok (.aload_n 0, 1) := by decide +kernel
theorem dX13_readQuery_78 : decode cX13_readQuery 78 = .ok (.dup, 1) := by decide +kernel
theorem dX13_readQuery_79 : decode cX13_readQuery 79 = .ok (.getfield 307, 3) := by decide +kernel
theorem dX13_readQuery_82 : decode cX13_readQuery 82 = .ok (.iconst 1, 1) := by decide +kernel
theorem dX13_readQuery_83 : decode cX13_readQuery 83 = .ok (.isub, 1) := by decide +kernel
theorem dX13_readQuery_84 : decode cX13_readQuery 84 = .ok (.putfield 307, 3) := by decide +kernel
theorem dX13_readQuery_87 : decode cX13_readQuery 87 = .ok (.aload_n 0, 1) := by decide +kernel
theorem dX13_readQuery_88 : decode cX13_readQuery 88 = .ok (.aload_n 0, 1) := by decide +kernel
theorem dX13_readQuery_89 : decode cX13_readQuery 89 = .ok (.getfield 121, 3) := by decide +kernel
theorem dX13_readQuery_92 : decode cX13_readQuery 92 = .ok (.aload_n 0, 1) := by decide +kernel
theorem dX13_readQuery_93 : decode cX13_readQuery 93 = .ok (.getfield 307, 3) := by decide +kernel
theorem dX13_readQuery_96 : decode cX13_readQuery 96 = .ok (.iaload, 1) := by decide +kernel
theorem dX13_readQuery_97 : decode cX13_readQuery 97 = .ok (.aload_n 0, 1) := by decide +kernel
theorem dX13_readQuery_98 : decode cX13_readQuery 98 = .ok (.getfield 124, 3) := by decide +kernel
theorem dX13_readQuery_101 : decode cX13_readQuery 101 = .ok (.aload_n 0, 1) := by decide +kernel
theorem dX13_readQuery_102 : decode cX13_readQuery 102 = .ok (.getfield 307, 3) := by decide +kernel
theorem dX13_readQuery_105 : decode cX13_readQuery 105 = .ok (.iaload, 1) := by decide +kernel
theorem dX13_readQuery_106 : decode cX13_readQuery 106 = .ok (.aload_n 0, 1) := by decide +kernel
theorem dX13_readQuery_107 : decode cX13_readQuery 107 = .ok (.getfield 127, 3) := by decide +kernel
theorem dX13_readQuery_110 : decode cX13_readQuery 110 = .ok (.aload_n 0, 1) := by decide +kernel
theorem dX13_readQuery_111 : decode cX13_readQuery 111 = .ok (.getfield 307, 3) := by decide +kernel
theorem dX13_readQuery_114 : decode cX13_readQuery 114 = .ok (.iaload, 1) := by decide +kernel
theorem dX13_readQuery_115 : decode cX13_readQuery 115 = .ok (.invokevirtual 403, 3) := by decide +kernel
theorem dX13_readQuery_118 : decode cX13_readQuery 118 = .ok (.goto (-55), 3) := by decide +kernel
theorem dX13_readQuery_121 : decode cX13_readQuery 121 = .ok (.aload_n 0, 1) := by decide +kernel
theorem dX13_readQuery_122 : decode cX13_readQuery 122 = .ok (.invokevirtual 208, 3) := by decide +kernel
theorem dX13_readQuery_125 : decode cX13_readQuery 125 = .ok (.ifCond .eq 22, 3) := by decide +kernel
theorem dX13_readQuery_128 : decode cX13_readQuery 128 = .ok (.aload_n 0, 1) := by decide +kernel
theorem dX13_readQuery_129 : decode cX13_readQuery 129 = .ok (.getfield 202, 3) := by decide +kernel
theorem dX13_readQuery_132 : decode cX13_readQuery 132 = .ok (.aload_n 0, 1) := by decide +kernel
theorem dX13_readQuery_133 : decode cX13_readQuery 133 = .ok (.getfield 199, 3) := by decide +kernel
theorem dX13_readQuery_136 : decode cX13_readQuery 136 = .ok (.if_icmp .ge 11, 3) := by decide +kernel
theorem dX13_readQuery_139 : decode cX13_readQuery 139 = .ok (.aload_n 0, 1) := by decide +kernel
theorem dX13_readQuery_140 : decode cX13_readQuery 140 = .ok (.aload_n 0, 1) := by decide +kernel
theorem dX13_readQuery_141 : decode cX13_readQuery 141 = .ok (.getfield 202, 3) := by decide +kernel
theorem dX13_readQuery_144 : decode cX13_readQuery 144 = .ok (.invokevirtual 216, 3) := by decide +kernel
theorem dX13_readQuery_147 : decode cX13_readQuery 147 = .ok (.iconst 0, 1) := by decide +kernel
theorem dX13_readQuery_148 : decode cX13_readQuery 148 = .ok (.istore_n 1, 1) := by decide +kernel
theorem dX13_readQuery_149 : decode cX13_readQuery 149 = .ok (.aload_n 0, 1) := by decide +kernel
theorem dX13_readQuery_150 : decode cX13_readQuery 150 = .ok (.getfield 57, 3) := by decide +kernel
theorem dX13_readQuery_153 : decode cX13_readQuery 153 = .ok (.iconst 0, 1) := by decide +kernel
theorem dX13_readQuery_154 : decode cX13_readQuery 154 = .ok (.iaload, 1) := by decide +kernel
theorem dX13_readQuery_155 : decode cX13_readQuery 155 = .ok (.istore_n 2, 1) := by decide +kernel
theorem dX13_readQuery_156 : decode cX13_readQuery 156 = .ok (.iload_n 2, 1) := by decide +kernel
theorem dX13_readQuery_157 : decode cX13_readQuery 157 = .ok (.iconst (-1), 1) := by decide +kernel
theorem dX13_readQuery_158 : decode cX13_readQuery 158 = .ok (.if_icmp .eq 23, 3) := by decide +kernel
theorem dX13_readQuery_161 : decode cX13_readQuery 161 = .ok (.aload_n 0, 1) := by decide +kernel
theorem dX13_readQuery_162 : decode cX13_readQuery 162 = .ok (.invokevirtual 208, 3) := by decide +kernel
theorem dX13_readQuery_165 : decode cX13_readQuery 165 = .ok (.ifCond .eq 16, 3) := by decide +kernel
theorem dX13_readQuery_168 : decode cX13_readQuery 168 = .ok (.iinc 1 1, 3) := by decide +kernel
theorem dX13_readQuery_171 : decode cX13_readQuery 171 = .ok (.aload_n 0, 1) := by decide +kernel
theorem dX13_readQuery_172 : decode cX13_readQuery 172 = .ok (.getfield 67, 3) := by decide +kernel
theorem dX13_readQuery_175 : decode cX13_readQuery 175 = .ok (.iload_n 2, 1) := by decide +kernel
theorem dX13_readQuery_176 : decode cX13_readQuery 176 = .ok (.iaload, 1) := by decide +kernel
theorem dX13_readQuery_177 : decode cX13_readQuery 177 = .ok (.istore_n 2, 1) := by decide +kernel
theorem dX13_readQuery_178 : decode cX13_readQuery 178 = .ok (.goto (-22), 3) := by decide +kernel
theorem dX13_readQuery_181 : decode cX13_readQuery 181 = .ok (.iload_n 1, 1) := by decide +kernel
theorem dX13_readQuery_182 : decode cX13_readQuery 182 = .ok (.ireturn, 1) := by decide +kernel
theorem dX13_query_0 : decode cX13_query 0 = .ok (.aload_n 0, 1) := by decide +kernel
theorem dX13_query_1 : decode cX13_query 1 = .ok (.aload_n 0, 1) := by decide +kernel
theorem dX13_query_2 : decode cX13_query 2 = .ok (.getfield 7, 3) := by decide +kernel
theorem dX13_query_5 : decode cX13_query 5 = .ok (.aload_n 0, 1) := by decide +kernel
theorem dX13_query_6 : decode cX13_query 6 = .ok (.getfield 196, 3) := by decide +kernel
theorem dX13_query_9 : decode cX13_query 9 = .ok (.invokevirtual 290, 3) := by decide +kernel
theorem dX13_query_12 : decode cX13_query 12 = .ok (.aload_n 0, 1) := by decide +kernel
theorem dX13_query_13 : decode cX13_query 13 = .ok (.getfield 196, 3) := by decide +kernel
theorem dX13_query_16 : decode cX13_query 16 = .ok (.istore_n 1, 1) := by decide +kernel
theorem dX13_query_17 : decode cX13_query 17 = .ok (.aload_n 0, 1) := by decide +kernel
theorem dX13_query_18 : decode cX13_query 18 = .ok (.iconst 0, 1) := by decide +kernel
theorem dX13_query_19 : decode cX13_query 19 = .ok (.putfield 196, 3) := by decide +kernel
theorem dX13_query_22 : decode cX13_query 22 = .ok (.aload_n 0, 1) := by decide +kernel
theorem dX13_query_23 : decode cX13_query 23 = .ok (.invokevirtual 406, 3) := by decide +kernel
theorem dX13_query_26 : decode cX13_query 26 = .ok (.istore_n 2, 1) := by decide +kernel
theorem dX13_query_27 : decode cX13_query 27 = .ok (.aload_n 0, 1) := by decide +kernel
theorem dX13_query_28 : decode cX13_query 28 = .ok (.aload_n 0, 1) := by decide +kernel
theorem dX13_query_29 : decode cX13_query 29 = .ok (.getfield 205, 3) := by decide +kernel
theorem dX13_query_32 : decode cX13_query 32 = .ok (.putfield 13, 3) := by decide +kernel
theorem dX13_query_35 : decode cX13_query 35 = .ok (.aload_n 0, 1) := by decide +kernel
theorem dX13_query_36 : decode cX13_query 36 = .ok (.aload_n 0, 1) := by decide +kernel
theorem dX13_query_37 : decode cX13_query 37 = .ok (.invokevirtual 208, 3) := by decide +kernel
theorem dX13_query_40 : decode cX13_query 40 = .ok (.ifCond .eq 7, 3) := by decide +kernel
theorem dX13_query_43 : decode cX13_query 43 = .ok (.iconst 0, 1) := by decide +kernel
theorem dX13_query_44 : decode cX13_query 44 = .ok (.goto 4, 3) := by decide +kernel
theorem dX13_query_47 : decode cX13_query 47 = .ok (.iconst 1, 1) := by decide +kernel
theorem dX13_query_48 : decode cX13_query 48 = .ok (.putfield 193, 3) := by decide +kernel
theorem dX13_query_51 : decode cX13_query 51 = .ok (.aload_n 0, 1) := by decide +kernel
theorem dX13_query_52 : decode cX13_query 52 = .ok (.invokevirtual 208, 3) := by decide +kernel
theorem dX13_query_55 : decode cX13_query 55 = .ok (.ifCond .ne 5, 3) := by decide +kernel
theorem dX13_query_58 : decode cX13_query 58 = .ok (.iconst 0, 1) := by decide +kernel
theorem dX13_query_59 : decode cX13_query 59 = .ok (.ireturn, 1) := by decide +kernel
theorem dX13_query_60 : decode cX13_query 60 = .ok (.iconst 0, 1) := by decide +kernel
theorem dX13_query_61 : decode cX13_query 61 = .ok (.istore_n 3, 1) := by decide +kernel
theorem dX13_query_62 : decode cX13_query 62 = .ok (.iload_n 3, 1) := by decide +kernel
theorem dX13_query_63 : decode cX13_query 63 = .ok (.iload_n 1, 1) := by decide +kernel
theorem dX13_query_64 : decode cX13_query 64 = .ok (.if_icmp .ge 21, 3) := by decide +kernel
theorem dX13_query_67 : decode cX13_query 67 = .ok (.aload_n 0, 1) := by decide +kernel
theorem dX13_query_68 : decode cX13_query 68 = .ok (.getfield 51, 3) := by decide +kernel
theorem dX13_query_71 : decode cX13_query 71 = .ok (.iload_n 3, 1) := by decide +kernel
theorem dX13_query_72 : decode cX13_query 72 = .ok (.aload_n 0, 1) := by decide +kernel
theorem dX13_query_73 : decode cX13_query 73 = .ok (.getfield 17, 3) := by decide +kernel
theorem dX13_query_76 : decode cX13_query 76 = .ok (.iload_n 3, 1) := by decide +kernel
theorem dX13_query_77 : decode cX13_query 77 = .ok (.baload, 1) := by decide +kernel
theorem dX13_query_78 : decode cX13_query 78 = .ok (.bastore, 1) := by decide +kernel
theorem dX13_query_79 : decode cX13_query 79 = .ok (.iinc 3 1, 3) := by decide +kernel
theorem dX13_query_82 : decode cX13_query 82 = .ok (.goto (-20), 3) := by decide +kernel
theorem dX13_query_85 : decode cX13_query 85 = .ok (.aload_n 0, 1) := by decide +kernel
theorem dX13_query_86 : decode cX13_query 86 = .ok (.iload_n 1, 1) := by decide +kernel
theorem dX13_query_87 : decode cX13_query 87 = .ok (.putfield 409, 3) := by decide +kernel
theorem dX13_query_90 : decode cX13_query 90 = .ok (.aload_n 0, 1) := by decide +kernel
theorem dX13_query_91 : decode cX13_query 91 = .ok (.iconst 1, 1) := by decide +kernel
theorem dX13_query_92 : decode cX13_query 92 = .ok (.putfield 412, 3) := by decide +kernel
theorem dX13_query_95 : decode cX13_query 95 = .ok (.iload_n 2, 1) := by decide +kernel
theorem dX13_query_96 : decode cX13_query 96 = .ok (.ireturn, 1) := by decide +kernel
theorem dX13_stepOp_0 : decode cX13_stepOp 0 = .ok (.aload_n 0, 1) := by decide +kernel
theorem dX13_stepOp_1 : decode cX13_stepOp 1 = .ok (.getfield 157, 3) := by decide +kernel
theorem dX13_stepOp_4 : decode cX13_stepOp 4 = .ok (.iload_n 1, 1) := by decide +kernel
theorem dX13_stepOp_5 : decode cX13_stepOp 5 = .ok (.iaload, 1) := by decide +kernel
theorem dX13_stepOp_6 : decode cX13_stepOp 6 = .ok (.istore_n 2, 1) := by decide +kernel
theorem dX13_stepOp_7 : decode cX13_stepOp 7 = .ok (.iload_n 2, 1) := by decide +kernel
theorem dX13_stepOp_8 : decode cX13_stepOp 8 = .ok (.iconst (-1), 1) := by decide +kernel
theorem dX13_stepOp_9 : decode cX13_stepOp 9 = .ok (.if_icmp .ne 29, 3) := by decide +kernel
theorem dX13_stepOp_12 : decode cX13_stepOp 12 = .ok (.aload_n 0, 1) := by decide +kernel
theorem dX13_stepOp_13 : decode cX13_stepOp 13 = .ok (.invokevirtual 456, 3) := by decide +kernel
theorem dX13_stepOp_16 : decode cX13_stepOp 16 = .ok (.ifCond .eq 14, 3) := by decide +kernel
theorem dX13_stepOp_19 : decode cX13_stepOp 19 = .ok (.aload_n 0, 1) := by decide +kernel
theorem dX13_stepOp_20 : decode cX13_stepOp 20 = .ok (.iload_n 1, 1) := by decide +kernel
theorem dX13_stepOp_21 : decode cX13_stepOp 21 = .ok (.aload_n 0, 1) := by decide +kernel
theorem dX13_stepOp_22 : decode cX13_stepOp 22 = .ok (.getfield 154, 3) := by decide +kernel
theorem dX13_stepOp_25 : decode cX13_stepOp 25 = .ok (.iload_n 1, 1) := by decide +kernel
theorem dX13_stepOp_26 : decode cX13_stepOp 26 = .ok (.iaload, 1) := by decide +kernel
theorem dX13_stepOp_27 : decode cX13_stepOp 27 = .ok (.invokevirtual 425, 3) := by decide +kernel
theorem dX13_stepOp_30 : decode cX13_stepOp 30 = .ok (.aload_n 0, 1) := by decide +kernel
theorem dX13_stepOp_31 : decode cX13_stepOp 31 = .ok (.getfield 130, 3) := by decide +kernel
theorem dX13_stepOp_34 : decode cX13_stepOp 34 = .ok (.iload_n 1, 1) := by decide +kernel
theorem dX13_stepOp_35 : decode cX13_stepOp 35 = .ok (.iconst 3, 1) := by decide +kernel
theorem dX13_stepOp_36 : decode cX13_stepOp 36 = .ok (.iastore, 1) := by decide +kernel
theorem dX13_stepOp_37 : decode cX13_stepOp 37 = .ok (.return_, 1) := by decide +kernel
theorem dX13_stepOp_38 : decode cX13_stepOp 38 = .ok (.aload_n 0, 1) := by decide +kernel
theorem dX13_stepOp_39 : decode cX13_stepOp 39 = .ok (.getfield 157, 3) := by decide +kernel
theorem dX13_stepOp_42 : decode cX13_stepOp 42 = .ok (.iload_n 1, 1) := by decide +kernel
theorem dX13_stepOp_43 : decode cX13_stepOp 43 = .ok (.aload_n 0, 1) := by decide +kernel
theorem dX13_stepOp_44 : decode cX13_stepOp 44 = .ok (.getfield 118, 3) := by decide +kernel
theorem dX13_stepOp_47 : decode cX13_stepOp 47 = .ok (.iload_n 2, 1) := by decide +kernel
theorem dX13_stepOp_48 : decode cX13_stepOp 48 = .ok (.iaload, 1) := by decide +kernel
theorem dX13_stepOp_49 : decode cX13_stepOp 49 = .ok (.iastore, 1) := by decide +kernel
theorem dX13_stepOp_50 : decode cX13_stepOp 50 = .ok (.aload_n 0, 1) := by decide +kernel
theorem dX13_stepOp_51 : decode cX13_stepOp 51 = .ok (.getfield 112, 3) := by decide +kernel
theorem dX13_stepOp_54 : decode cX13_stepOp 54 = .ok (.iload_n 2, 1) := by decide +kernel
theorem dX13_stepOp_55 : decode cX13_stepOp 55 = .ok (.iaload, 1) := by decide +kernel
theorem dX13_stepOp_56 : decode cX13_stepOp 56 = .ok (.istore_n 3, 1) := by decide +kernel
theorem dX13_stepOp_57 : decode cX13_stepOp 57 = .ok (.aload_n 0, 1) := by decide +kernel
theorem dX13_stepOp_58 : decode cX13_stepOp 58 = .ok (.getfield 109, 3) := by decide +kernel
theorem dX13_stepOp_61 : decode cX13_stepOp 61 = .ok (.iload_n 2, 1) := by decide +kernel
theorem dX13_stepOp_62 : decode cX13_stepOp 62 = .ok (.iaload, 1) := by decide +kernel
theorem dX13_stepOp_63 : decode cX13_stepOp 63 = .ok (.tableswitch 183 0 7 #[45, 73, 101, 129, 136, 146, 165, 175], 45) := by decide +kernel
theorem dX13_stepOp_108 : decode cX13_stepOp 108 = .ok (.aload_n 0, 1) := by decide +kernel
theorem dX13_stepOp_109 : decode cX13_stepOp 109 = .ok (.iload_n 3, 1) := by decide +kernel
theorem dX13_stepOp_110 : decode cX13_stepOp 110 = .ok (.aload_n 0, 1) := by decide +kernel
theorem dX13_stepOp_111 : decode cX13_stepOp 111 = .ok (.getfield 63, 3) := by decide +kernel
theorem dX13_stepOp_114 : decode cX13_stepOp 114 = .ok (.iload_n 3, 1) := by decide +kernel
theorem dX13_stepOp_115 : decode cX13_stepOp 115 = .ok (.baload, 1) := by decide +kernel
theorem dX13_stepOp_116 : decode cX13_stepOp 116 = .ok (.ifCond .eq 7, 3) := by decide +kernel
theorem dX13_stepOp_119 : decode cX13_stepOp 119 = .ok (.iconst 0, 1) := by decide +kernel
theorem dX13_stepOp_120 : decode cX13_stepOp 120 = .ok (.goto 9, 3) := by decide +kernel
theorem dX13_stepOp_123 : decode cX13_stepOp 123 = .ok (.aload_n 0, 1) := by decide +kernel
theorem dX13_stepOp_124 : decode cX13_stepOp 124 = .ok (.getfield 154, 3) := by decide +kernel
theorem dX13_stepOp_127 : decode cX13_stepOp 127 = .ok (.iload_n 1, 1) := by decide +kernel
theorem dX13_stepOp_128 : decode cX13_stepOp 128 = .ok (.iaload, 1) := by decide +kernel
theorem dX13_stepOp_129 : decode cX13_stepOp 129 = .ok (.iconst 1, 1) := by decide +kernel
theorem dX13_stepOp_130 : decode cX13_stepOp 130 = .ok (.invokevirtual 459, 3) := by decide +kernel
theorem dX13_stepOp_133 : decode cX13_stepOp 133 = .ok (.goto 123, 3) := by decide +kernel
theorem dX13_stepOp_136 : decode cX13_stepOp 136 = .ok (.aload_n 0, 1) := by decide +kernel
theorem dX13_stepOp_137 : decode cX13_stepOp 137 = .ok (.iload_n 3, 1) := by decide +kernel
theorem dX13_stepOp_138 : decode cX13_stepOp 138 = .ok (.aload_n 0, 1) := by decide +kernel
theorem dX13_stepOp_139 : decode cX13_stepOp 139 = .ok (.getfield 63, 3) := by decide +kernel
theorem dX13_stepOp_142 : decode cX13_stepOp 142 = .ok (.iload_n 3, 1) := by decide +kernel
theorem dX13_stepOp_143 : decode cX13_stepOp 143 = .ok (.baload, 1) := by decide +kernel
theorem dX13_stepOp_144 : decode cX13_stepOp 144 = .ok (.ifCond .eq 7, 3) := by decide +kernel
theorem dX13_stepOp_147 : decode cX13_stepOp 147 = .ok (.iconst 0, 1) := by decide +kernel
theorem dX13_stepOp_148 : decode cX13_stepOp 148 = .ok (.goto 9, 3) := by decide +kernel
theorem dX13_stepOp_151 : decode cX13_stepOp 151 = .ok (.aload_n 0, 1) := by decide +kernel
theorem dX13_stepOp_152 : decode cX13_stepOp 152 = .ok (.getfield 154, 3) := by decide +kernel
theorem dX13_stepOp_155 : decode cX13_stepOp 155 = .ok (.iload_n 1, 1) := by decide +kernel
theorem dX13_stepOp_156 : decode cX13_stepOp 156 = .ok (.iaload, 1) := by decide +kernel
theorem dX13_stepOp_157 : decode cX13_stepOp 157 = .ok (.iconst 2, 1) := by decide +kernel
theorem dX13_stepOp_158 : decode cX13_stepOp 158 = .ok (.invokevirtual 459, 3) := by decide +kernel
theorem dX13_stepOp_161 : decode cX13_stepOp 161 = .ok (.goto 95, 3) := by decide +kernel
theorem dX13_stepOp_164 : decode cX13_stepOp 164 = .ok (.aload_n 0, 1) := by decide +kernel
theorem dX13_stepOp_165 : decode cX13_stepOp 165 = .ok (.iload_n 3, 1) := by decide +kernel
theorem dX13_stepOp_166 : decode cX13_stepOp 166 = .ok (.aload_n 0, 1) := by decide +kernel
theorem dX13_stepOp_167 : decode cX13_stepOp 167 = .ok (.getfield 63, 3) := by decide +kernel
theorem dX13_stepOp_170 : decode cX13_stepOp 170 = .ok (.iload_n 3, 1) := by decide +kernel
theorem dX13_stepOp_171 : decode cX13_stepOp 171 = .ok (.baload, 1) := by decide +kernel
theorem dX13_stepOp_172 : decode cX13_stepOp 172 = .ok (.ifCond .eq 7, 3) := by decide +kernel
theorem dX13_stepOp_175 : decode cX13_stepOp 175 = .ok (.iconst 0, 1) := by decide +kernel
theorem dX13_stepOp_176 : decode cX13_stepOp 176 = .ok (.goto 9, 3) := by decide +kernel
theorem dX13_stepOp_179 : decode cX13_stepOp 179 = .ok (.aload_n 0, 1) := by decide +kernel
theorem dX13_stepOp_180 : decode cX13_stepOp 180 = .ok (.getfield 154, 3) := by decide +kernel
theorem dX13_stepOp_183 : decode cX13_stepOp 183 = .ok (.iload_n 1, 1) := by decide +kernel
theorem dX13_stepOp_184 : decode cX13_stepOp 184 = .ok (.iaload, 1) := by decide +kernel
theorem dX13_stepOp_185 : decode cX13_stepOp 185 = .ok (.iconst 3, 1) := by decide +kernel
theorem dX13_stepOp_186 : decode cX13_stepOp 186 = .ok (.invokevirtual 459, 3) := by decide +kernel
theorem dX13_stepOp_189 : decode cX13_stepOp 189 = .ok (.goto 67, 3) := by decide +kernel
theorem dX13_stepOp_192 : decode cX13_stepOp 192 = .ok (.aload_n 0, 1) := by decide +kernel
theorem dX13_stepOp_193 : decode cX13_stepOp 193 = .ok (.invokevirtual 462, 3) := by decide +kernel
theorem dX13_stepOp_196 : decode cX13_stepOp 196 = .ok (.goto 60, 3) := by decide +kernel
theorem dX13_stepOp_199 : decode cX13_stepOp 199 = .ok (.aload_n 0, 1) := by decide +kernel
theorem dX13_stepOp_200 : decode cX13_stepOp 200 = .ok (.iconst 3, 1) := by decide +kernel
theorem dX13_stepOp_201 : decode cX13_stepOp 201 = .ok (.iload_n 3, 1) := by decide +kernel
theorem dX13_stepOp_202 : decode cX13_stepOp 202 = .ok (.iconst 0, 1) := by decide +kernel
theorem dX13_stepOp_203 : decode cX13_stepOp 203 = .ok (.invokevirtual 443, 3) := by decide +kernel
theorem dX13_stepOp_206 : decode cX13_stepOp 206 = .ok (.goto 50, 3) := by decide +kernel
theorem dX13_stepOp_209 : decode cX13_stepOp 209 = .ok (.aload_n 0, 1) := by decide +kernel
theorem dX13_stepOp_210 : decode cX13_stepOp 210 = .ok (.iconst 4, 1) := by decide +kernel
theorem dX13_stepOp_211 : decode cX13_stepOp 211 = .ok (.sipush 1000, 3) := by decide +kernel
theorem dX13_stepOp_214 : decode cX13_stepOp 214 = .ok (.iload_n 3, 1) := by decide +kernel
theorem dX13_stepOp_215 : decode cX13_stepOp 215 = .ok (.iadd, 1) := by decide +kernel
theorem dX13_stepOp_216 : decode cX13_stepOp 216 = .ok (.aload_n 0, 1) := by decide +kernel
theorem dX13_stepOp_217 : decode cX13_stepOp 217 = .ok (.getfield 115, 3) := by decide +kernel
theorem dX13_stepOp_220 : decode cX13_stepOp 220 = .ok (.iload_n 2, 1) := by decide +kernel
theorem dX13_stepOp_221 : decode cX13_stepOp 221 = .ok (.iaload, 1) := by decide +kernel
theorem dX13_stepOp_222 : decode cX13_stepOp 222 = .ok (.invokevirtual 443, 3) := by decide +kernel
theorem dX13_stepOp_225 : decode cX13_stepOp 225 = .ok (.goto 31, 3) := by decide +kernel
theorem dX13_stepOp_228 : decode cX13_stepOp 228 = .ok (.aload_n 0, 1) := by decide +kernel
theorem dX13_stepOp_229 : decode cX13_stepOp 229 = .ok (.iload_n 3, 1) := by decide +kernel
theorem dX13_stepOp_230 : decode cX13_stepOp 230 = .ok (.iconst (-1), 1) := by decide +kernel
theorem dX13_stepOp_231 : decode cX13_stepOp 231 = .ok (.iconst 0, 1) := by decide +kernel
theorem dX13_stepOp_232 : decode cX13_stepOp 232 = .ok (.invokevirtual 443, 3) := by decide +kernel
theorem dX13_stepOp_235 : decode cX13_stepOp 235 = .ok (.goto 21, 3) := by decide +kernel
theorem dX13_stepOp_238 : decode cX13_stepOp 238 = .ok (.aload_n 0, 1) := by decide +kernel
theorem dX13_stepOp_239 : decode cX13_stepOp 239 = .ok (.iload_n 3, 1) := by decide +kernel
theorem dX13_stepOp_240 : decode cX13_stepOp 240 = .ok (.invokevirtual 465, 3) := by decide +kernel
theorem dX13_stepOp_243 : decode cX13_stepOp 243 = .ok (.goto 13, 3) := by decide +kernel
theorem dX13_stepOp_246 : decode cX13_stepOp 246 = .ok (.aload_n 0, 1) := by decide +kernel
theorem dX13_stepOp_247 : decode cX13_stepOp 247 = .ok (.aload_n 0, 1) := by decide +kernel
theorem dX13_stepOp_248 : decode cX13_stepOp 248 = .ok (.getfield 109, 3) := by decide +kernel
theorem dX13_stepOp_251 : decode cX13_stepOp 251 = .ok (.iload_n 2, 1) := by decide +kernel
theorem dX13_stepOp_252 : decode cX13_stepOp 252 = .ok (.iaload, 1) := by decide +kernel
theorem dX13_stepOp_253 : decode cX13_stepOp 253 = .ok (.invokevirtual 468, 3) := by decide +kernel
theorem dX13_stepOp_256 : decode cX13_stepOp 256 = .ok (.return_, 1) := by decide +kernel
def mo_readThing (N : Nat) (x1 : Int32) (S : md_S) : Option md_S :=
  md_b (mo_at (S.1 6) S) fun v5 S5 =>
  if v5 = 39 then
    md_c (mo_readString N 39 (-1) S5) fun S19 =>
    md_c (mo_emit x1 5 (S19.1 86) (S19.1 87) S19) fun S33 =>
    some S33
  else
    md_b (mo_isNumberNext S5) fun v40 S40 =>
    if v40 = 0 then
      if v5 = 116 then
        md_c (mo_word N 1953658213 4 S40) fun S73 =>
        md_c (mo_emit x1 6 2 0 S73) fun S82 =>
        some S82
      else
        if v5 = 102 then
          md_c (mo_word N 439721161573 5 S40) fun S99 =>
          md_c (mo_emit x1 6 1 0 S99) fun S108 =>
          some S108
        else
          if v5 = 110 then
            md_c (mo_word N 1853189228 4 S40) fun S125 =>
            md_c (mo_emit x1 6 0 0 S125) fun S134 =>
            some S134
          else
            if v5 = 108 then
              md_c (mo_word N 119182899770472 6 S40) fun S152 =>
              md_c (mo_bracket S152) fun S156 =>
              md_c (mo_push 16 x1 0 S156) fun S164 =>
              md_c (mo_push 14 x1 0 S164) fun S172 =>
              some S172
            else
              if v5 = 99 then
                md_c (mo_word N 427071729268 5 S40) fun S189 =>
                md_c (mo_bracket S189) fun S193 =>
                md_c (mo_readPathThing x1 17 S193) fun S200 =>
                some S200
              else
                md_c (mo_readPathThing x1 18 S40) fun S210 =>
                some S210
    else
      md_b (mo_readNumber N 6 S40) fun v52 S52 =>
      md_c (mo_emit x1 4 v52 0 S52) fun S56 =>
      some S56
theorem ro_readThing {l : Launch} {G : mv_G} {B : mv_H} {m N d : Nat} (hG : mv_ok G) (hm : G.2.2.1 ≤ m) {x1 : Int32} {S : md_S} {q : md_S} (hq : mo_readThing N x1 S = some q) : mv_rq l G mX13_readThing (d + 4) 0 (mv_in [.ref m, .int x1] 3) [] (md_H G B m S) (md_V G B m q) := by
  unfold mo_readThing at hq
  show mv_rq l G mX13_readThing (d + 4) 0 [some (.ref m), some (.int x1), none] [] (md_H G B m S) _
  refine q_aload_n dX13_readThing_0 rfl ?_
  refine q_aload_n dX13_readThing_1 rfl ?_
  refine r_geti 6 dX13_readThing_2 fl_RX13_202 (by decide) rfl ki_6 ?_
  obtain ⟨v5, S5, e5, hq⟩ := md_b_e hq
  refine q_cV (Y := mX13_at) (As := [.int (S.1 6)]) (st := []) (b := m) (ci := 15) vc_X13_at dX13_readThing_5 ml_RX13_212 rfl md_obj rfl (Nat.le_of_ble_eq_true rfl) rfl (Nat.le_of_ble_eq_true rfl) (ro_at (d := d + 3) hG hm e5) (fun v h1 hq1 => ?_) (fun E h1 hq1 => md_nQ hq1)
  obtain ⟨hv, rfl⟩ := hq1
  cases hv
  show mv_rq l G mX13_readThing (d + 4) 8 [some (.ref m), some (.int x1), none] [.int v5] (md_H G B m S5) _
  refine q_istore_n dX13_readThing_8 (Nat.le_of_ble_eq_true rfl) rfl ?_
  show mv_rq l G mX13_readThing (d + 4) 9 [some (.ref m), some (.int x1), some (.int v5)] [] (md_H G B m S5) _
  refine q_iload_n dX13_readThing_9 rfl ?_
  refine q_bipush (v := 39) dX13_readThing_10 (by decide) ?_
  refine q_icmp_ne (tgt := 39) dX13_readThing_12 (by decide) (fun c12 => ?_) (fun c12 => ?_)
  ·
    have hq := md_neg c12 hq
    refine q_aload_n dX13_readThing_39 rfl ?_
    obtain ⟨v40, S40, e40, hq⟩ := md_b_e hq
    refine q_cV (Y := mX13_isNumberNext) (As := []) (st := []) (b := m) (ci := 15) vc_X13_isNumberNext dX13_readThing_40 ml_RX13_337 rfl md_obj rfl (Nat.le_of_ble_eq_true rfl) rfl (Nat.le_of_ble_eq_true rfl) (ro_isNumberNext (d := d + 2) hG hm e40) (fun v h1 hq1 => ?_) (fun E h1 hq1 => md_nQ hq1)
    obtain ⟨hv, rfl⟩ := hq1
    cases hv
    show mv_rq l G mX13_readThing (d + 4) 43 [some (.ref m), some (.int x1), some (.int v5)] [.int v40] (md_H G B m S40) _
    refine q_if_eq (tgt := 62) dX13_readThing_43 (by decide) (fun c43 => ?_) (fun c43 => ?_)
    ·
      have hq := md_pos c43 hq
      refine q_iload_n dX13_readThing_62 rfl ?_
      refine q_bipush (v := 116) dX13_readThing_63 (by decide) ?_
      refine q_icmp_ne (tgt := 88) dX13_readThing_65 (by decide) (fun c65 => ?_) (fun c65 => ?_)
      ·
        have hq := md_neg c65 hq
        refine q_iload_n dX13_readThing_88 rfl ?_
        refine q_bipush (v := 102) dX13_readThing_89 (by decide) ?_
        refine q_icmp_ne (tgt := 114) dX13_readThing_91 (by decide) (fun c91 => ?_) (fun c91 => ?_)
        ·
          have hq := md_neg c91 hq
          refine q_iload_n dX13_readThing_114 rfl ?_
          refine q_bipush (v := 110) dX13_readThing_115 (by decide) ?_
          refine q_icmp_ne (tgt := 140) dX13_readThing_117 (by decide) (fun c117 => ?_) (fun c117 => ?_)
          ·
            have hq := md_neg c117 hq
            refine q_iload_n dX13_readThing_140 rfl ?_
            refine q_bipush (v := 108) dX13_readThing_141 (by decide) ?_
            refine q_icmp_ne (tgt := 178) dX13_readThing_143 (by decide) (fun c143 => ?_) (fun c143 => ?_)
            ·
              have hq := md_neg c143 hq
              refine q_iload_n dX13_readThing_178 rfl ?_
              refine q_bipush (v := 99) dX13_readThing_179 (by decide) ?_
              refine q_icmp_ne (tgt := 206) dX13_readThing_181 (by decide) (fun c181 => ?_) (fun c181 => ?_)
              ·
                have hq := md_neg c181 hq
                refine q_aload_n dX13_readThing_206 rfl ?_
                refine q_iload_n dX13_readThing_207 rfl ?_
                refine q_bipush (v := 18) dX13_readThing_208 (by decide) ?_
                obtain ⟨S210, e210, hq⟩ := md_c_e hq
                refine q_cV (Y := mX13_readPathThing) (As := [.int x1, .int 18]) (st := []) (b := m) (ci := 15) vc_X13_readPathThing dX13_readThing_210 ml_RX13_373 rfl md_obj rfl (Nat.le_of_ble_eq_true rfl) rfl (Nat.le_of_ble_eq_true rfl) (ro_readPathThing (d := d + 1) hG hm e210) (fun v h1 hq1 => ?_) (fun E h1 hq1 => md_nV hq1)
                obtain ⟨hv, rfl⟩ := hq1
                cases hv
                show mv_rq l G mX13_readThing (d + 4) 213 [some (.ref m), some (.int x1), some (.int v5)] [] (md_H G B m S210) _
                obtain rfl := Option.some.inj hq
                exact q_vret dX13_readThing_213 rfl ⟨rfl, rfl⟩
              ·
                have hq := md_pos c181 hq
                refine q_aload_n dX13_readThing_184 rfl ?_
                refine q_ldc2 dX13_readThing_185 cu_RX13_371 ?_
                refine q_iconst (v := 5) dX13_readThing_188 (by decide) ?_
                obtain ⟨S189, e189, hq⟩ := md_c_e hq
                refine q_cV (Y := mX13_word) (As := [.long 427071729268, .int 5]) (st := []) (b := m) (ci := 15) vc_X13_word dX13_readThing_189 ml_RX13_260 rfl md_obj rfl (Nat.le_of_ble_eq_true rfl) rfl (Nat.le_of_ble_eq_true rfl) (ro_word (d := d) hG hm e189) (fun v h1 hq1 => ?_) (fun E h1 hq1 => md_nV hq1)
                obtain ⟨hv, rfl⟩ := hq1
                cases hv
                show mv_rq l G mX13_readThing (d + 4) 192 [some (.ref m), some (.int x1), some (.int v5)] [] (md_H G B m S189) _
                refine q_aload_n dX13_readThing_192 rfl ?_
                obtain ⟨S193, e193, hq⟩ := md_c_e hq
                refine q_cV (Y := mX13_bracket) (As := []) (st := []) (b := m) (ci := 15) vc_X13_bracket dX13_readThing_193 ml_RX13_368 rfl md_obj rfl (Nat.le_of_ble_eq_true rfl) rfl (Nat.le_of_ble_eq_true rfl) (ro_bracket (d := d) hG hm e193) (fun v h1 hq1 => ?_) (fun E h1 hq1 => md_nV hq1)
                obtain ⟨hv, rfl⟩ := hq1
                cases hv
                show mv_rq l G mX13_readThing (d + 4) 196 [some (.ref m), some (.int x1), some (.int v5)] [] (md_H G B m S193) _
                refine q_aload_n dX13_readThing_196 rfl ?_
                refine q_iload_n dX13_readThing_197 rfl ?_
                refine q_bipush (v := 17) dX13_readThing_198 (by decide) ?_
                obtain ⟨S200, e200, hq⟩ := md_c_e hq
                refine q_cV (Y := mX13_readPathThing) (As := [.int x1, .int 17]) (st := []) (b := m) (ci := 15) vc_X13_readPathThing dX13_readThing_200 ml_RX13_373 rfl md_obj rfl (Nat.le_of_ble_eq_true rfl) rfl (Nat.le_of_ble_eq_true rfl) (ro_readPathThing (d := d + 1) hG hm e200) (fun v h1 hq1 => ?_) (fun E h1 hq1 => md_nV hq1)
                obtain ⟨hv, rfl⟩ := hq1
                cases hv
                show mv_rq l G mX13_readThing (d + 4) 203 [some (.ref m), some (.int x1), some (.int v5)] [] (md_H G B m S200) _
                refine q_goto (tgt := 213) dX13_readThing_203 (by decide) ?_
                obtain rfl := Option.some.inj hq
                exact q_vret dX13_readThing_213 rfl ⟨rfl, rfl⟩
            ·
              have hq := md_pos c143 hq
              refine q_aload_n dX13_readThing_146 rfl ?_
              refine q_ldc2 dX13_readThing_147 cu_RX13_366 ?_
              refine q_bipush (v := 6) dX13_readThing_150 (by decide) ?_
              obtain ⟨S152, e152, hq⟩ := md_c_e hq
              refine q_cV (Y := mX13_word) (As := [.long 119182899770472, .int 6]) (st := []) (b := m) (ci := 15) vc_X13_word dX13_readThing_152 ml_RX13_260 rfl md_obj rfl (Nat.le_of_ble_eq_true rfl) rfl (Nat.le_of_ble_eq_true rfl) (ro_word (d := d) hG hm e152) (fun v h1 hq1 => ?_) (fun E h1 hq1 => md_nV hq1)
              obtain ⟨hv, rfl⟩ := hq1
              cases hv
              show mv_rq l G mX13_readThing (d + 4) 155 [some (.ref m), some (.int x1), some (.int v5)] [] (md_H G B m S152) _
              refine q_aload_n dX13_readThing_155 rfl ?_
              obtain ⟨S156, e156, hq⟩ := md_c_e hq
              refine q_cV (Y := mX13_bracket) (As := []) (st := []) (b := m) (ci := 15) vc_X13_bracket dX13_readThing_156 ml_RX13_368 rfl md_obj rfl (Nat.le_of_ble_eq_true rfl) rfl (Nat.le_of_ble_eq_true rfl) (ro_bracket (d := d) hG hm e156) (fun v h1 hq1 => ?_) (fun E h1 hq1 => md_nV hq1)
              obtain ⟨hv, rfl⟩ := hq1
              cases hv
              show mv_rq l G mX13_readThing (d + 4) 159 [some (.ref m), some (.int x1), some (.int v5)] [] (md_H G B m S156) _
              refine q_aload_n dX13_readThing_159 rfl ?_
              refine q_bipush (v := 16) dX13_readThing_160 (by decide) ?_
              refine q_iload_n dX13_readThing_162 rfl ?_
              refine q_iconst (v := 0) dX13_readThing_163 (by decide) ?_
              obtain ⟨S164, e164, hq⟩ := md_c_e hq
              refine q_cV (Y := mX13_push) (As := [.int 16, .int x1, .int 0]) (st := []) (b := m) (ci := 15) vc_X13_push dX13_readThing_164 ml_RX13_326 rfl md_obj rfl (Nat.le_of_ble_eq_true rfl) rfl (Nat.le_of_ble_eq_true rfl) (ro_push (d := d + 3) hG hm e164) (fun v h1 hq1 => ?_) (fun E h1 hq1 => md_nV hq1)
              obtain ⟨hv, rfl⟩ := hq1
              cases hv
              show mv_rq l G mX13_readThing (d + 4) 167 [some (.ref m), some (.int x1), some (.int v5)] [] (md_H G B m S164) _
              refine q_aload_n dX13_readThing_167 rfl ?_
              refine q_bipush (v := 14) dX13_readThing_168 (by decide) ?_
              refine q_iload_n dX13_readThing_170 rfl ?_
              refine q_iconst (v := 0) dX13_readThing_171 (by decide) ?_
              obtain ⟨S172, e172, hq⟩ := md_c_e hq
              refine q_cV (Y := mX13_push) (As := [.int 14, .int x1, .int 0]) (st := []) (b := m) (ci := 15) vc_X13_push dX13_readThing_172 ml_RX13_326 rfl md_obj rfl (Nat.le_of_ble_eq_true rfl) rfl (Nat.le_of_ble_eq_true rfl) (ro_push (d := d + 3) hG hm e172) (fun v h1 hq1 => ?_) (fun E h1 hq1 => md_nV hq1)
              obtain ⟨hv, rfl⟩ := hq1
              cases hv
              show mv_rq l G mX13_readThing (d + 4) 175 [some (.ref m), some (.int x1), some (.int v5)] [] (md_H G B m S172) _
              refine q_goto (tgt := 213) dX13_readThing_175 (by decide) ?_
              obtain rfl := Option.some.inj hq
              exact q_vret dX13_readThing_213 rfl ⟨rfl, rfl⟩
          ·
            have hq := md_pos c117 hq
            refine q_aload_n dX13_readThing_120 rfl ?_
            refine q_ldc2 dX13_readThing_121 cu_RX13_266 ?_
            refine q_iconst (v := 4) dX13_readThing_124 (by decide) ?_
            obtain ⟨S125, e125, hq⟩ := md_c_e hq
            refine q_cV (Y := mX13_word) (As := [.long 1853189228, .int 4]) (st := []) (b := m) (ci := 15) vc_X13_word dX13_readThing_125 ml_RX13_260 rfl md_obj rfl (Nat.le_of_ble_eq_true rfl) rfl (Nat.le_of_ble_eq_true rfl) (ro_word (d := d) hG hm e125) (fun v h1 hq1 => ?_) (fun E h1 hq1 => md_nV hq1)
            obtain ⟨hv, rfl⟩ := hq1
            cases hv
            show mv_rq l G mX13_readThing (d + 4) 128 [some (.ref m), some (.int x1), some (.int v5)] [] (md_H G B m S125) _
            refine q_aload_n dX13_readThing_128 rfl ?_
            refine q_iload_n dX13_readThing_129 rfl ?_
            refine q_bipush (v := 6) dX13_readThing_130 (by decide) ?_
            refine q_iconst (v := 0) dX13_readThing_132 (by decide) ?_
            refine q_iconst (v := 0) dX13_readThing_133 (by decide) ?_
            obtain ⟨S134, e134, hq⟩ := md_c_e hq
            refine q_cV (Y := mX13_emit) (As := [.int x1, .int 6, .int 0, .int 0]) (st := []) (b := m) (ci := 15) vc_X13_emit dX13_readThing_134 ml_RX13_362 rfl md_obj rfl (Nat.le_of_ble_eq_true rfl) rfl (Nat.le_of_ble_eq_true rfl) (ro_emit (d := d + 3) hG hm e134) (fun v h1 hq1 => ?_) (fun E h1 hq1 => md_nV hq1)
            obtain ⟨hv, rfl⟩ := hq1
            cases hv
            show mv_rq l G mX13_readThing (d + 4) 137 [some (.ref m), some (.int x1), some (.int v5)] [] (md_H G B m S134) _
            refine q_goto (tgt := 213) dX13_readThing_137 (by decide) ?_
            obtain rfl := Option.some.inj hq
            exact q_vret dX13_readThing_213 rfl ⟨rfl, rfl⟩
        ·
          have hq := md_pos c91 hq
          refine q_aload_n dX13_readThing_94 rfl ?_
          refine q_ldc2 dX13_readThing_95 cu_RX13_264 ?_
          refine q_iconst (v := 5) dX13_readThing_98 (by decide) ?_
          obtain ⟨S99, e99, hq⟩ := md_c_e hq
          refine q_cV (Y := mX13_word) (As := [.long 439721161573, .int 5]) (st := []) (b := m) (ci := 15) vc_X13_word dX13_readThing_99 ml_RX13_260 rfl md_obj rfl (Nat.le_of_ble_eq_true rfl) rfl (Nat.le_of_ble_eq_true rfl) (ro_word (d := d) hG hm e99) (fun v h1 hq1 => ?_) (fun E h1 hq1 => md_nV hq1)
          obtain ⟨hv, rfl⟩ := hq1
          cases hv
          show mv_rq l G mX13_readThing (d + 4) 102 [some (.ref m), some (.int x1), some (.int v5)] [] (md_H G B m S99) _
          refine q_aload_n dX13_readThing_102 rfl ?_
          refine q_iload_n dX13_readThing_103 rfl ?_
          refine q_bipush (v := 6) dX13_readThing_104 (by decide) ?_
          refine q_iconst (v := 1) dX13_readThing_106 (by decide) ?_
          refine q_iconst (v := 0) dX13_readThing_107 (by decide) ?_
          obtain ⟨S108, e108, hq⟩ := md_c_e hq
          refine q_cV (Y := mX13_emit) (As := [.int x1, .int 6, .int 1, .int 0]) (st := []) (b := m) (ci := 15) vc_X13_emit dX13_readThing_108 ml_RX13_362 rfl md_obj rfl (Nat.le_of_ble_eq_true rfl) rfl (Nat.le_of_ble_eq_true rfl) (ro_emit (d := d + 3) hG hm e108) (fun v h1 hq1 => ?_) (fun E h1 hq1 => md_nV hq1)
          obtain ⟨hv, rfl⟩ := hq1
          cases hv
          show mv_rq l G mX13_readThing (d + 4) 111 [some (.ref m), some (.int x1), some (.int v5)] [] (md_H G B m S108) _
          refine q_goto (tgt := 213) dX13_readThing_111 (by decide) ?_
          obtain rfl := Option.some.inj hq
          exact q_vret dX13_readThing_213 rfl ⟨rfl, rfl⟩
      ·
        have hq := md_pos c65 hq
        refine q_aload_n dX13_readThing_68 rfl ?_
        refine q_ldc2 dX13_readThing_69 cu_RX13_258 ?_
        refine q_iconst (v := 4) dX13_readThing_72 (by decide) ?_
        obtain ⟨S73, e73, hq⟩ := md_c_e hq
        refine q_cV (Y := mX13_word) (As := [.long 1953658213, .int 4]) (st := []) (b := m) (ci := 15) vc_X13_word dX13_readThing_73 ml_RX13_260 rfl md_obj rfl (Nat.le_of_ble_eq_true rfl) rfl (Nat.le_of_ble_eq_true rfl) (ro_word (d := d) hG hm e73) (fun v h1 hq1 => ?_) (fun E h1 hq1 => md_nV hq1)
        obtain ⟨hv, rfl⟩ := hq1
        cases hv
        show mv_rq l G mX13_readThing (d + 4) 76 [some (.ref m), some (.int x1), some (.int v5)] [] (md_H G B m S73) _
        refine q_aload_n dX13_readThing_76 rfl ?_
        refine q_iload_n dX13_readThing_77 rfl ?_
        refine q_bipush (v := 6) dX13_readThing_78 (by decide) ?_
        refine q_iconst (v := 2) dX13_readThing_80 (by decide) ?_
        refine q_iconst (v := 0) dX13_readThing_81 (by decide) ?_
        obtain ⟨S82, e82, hq⟩ := md_c_e hq
        refine q_cV (Y := mX13_emit) (As := [.int x1, .int 6, .int 2, .int 0]) (st := []) (b := m) (ci := 15) vc_X13_emit dX13_readThing_82 ml_RX13_362 rfl md_obj rfl (Nat.le_of_ble_eq_true rfl) rfl (Nat.le_of_ble_eq_true rfl) (ro_emit (d := d + 3) hG hm e82) (fun v h1 hq1 => ?_) (fun E h1 hq1 => md_nV hq1)
        obtain ⟨hv, rfl⟩ := hq1
        cases hv
        show mv_rq l G mX13_readThing (d + 4) 85 [some (.ref m), some (.int x1), some (.int v5)] [] (md_H G B m S82) _
        refine q_goto (tgt := 213) dX13_readThing_85 (by decide) ?_
        obtain rfl := Option.some.inj hq
        exact q_vret dX13_readThing_213 rfl ⟨rfl, rfl⟩
    ·
      have hq := md_neg c43 hq
      refine q_aload_n dX13_readThing_46 rfl ?_
      refine q_iload_n dX13_readThing_47 rfl ?_
      refine q_iconst (v := 4) dX13_readThing_48 (by decide) ?_
      refine q_aload_n dX13_readThing_49 rfl ?_
      refine q_bipush (v := 6) dX13_readThing_50 (by decide) ?_
      obtain ⟨v52, S52, e52, hq⟩ := md_b_e hq
      refine q_cV (Y := mX13_readNumber) (As := [.int 6]) (st := [.int 4, .int x1, .ref m]) (b := m) (ci := 15) vc_X13_readNumber dX13_readThing_52 ml_RX13_255 rfl md_obj rfl (Nat.le_of_ble_eq_true rfl) rfl (Nat.le_of_ble_eq_true rfl) (ro_readNumber (d := d + 1) hG hm e52) (fun v h1 hq1 => ?_) (fun E h1 hq1 => md_nQ hq1)
      obtain ⟨hv, rfl⟩ := hq1
      cases hv
      show mv_rq l G mX13_readThing (d + 4) 55 [some (.ref m), some (.int x1), some (.int v5)] [.int v52, .int 4, .int x1, .ref m] (md_H G B m S52) _
      refine q_iconst (v := 0) dX13_readThing_55 (by decide) ?_
      obtain ⟨S56, e56, hq⟩ := md_c_e hq
      refine q_cV (Y := mX13_emit) (As := [.int x1, .int 4, .int v52, .int 0]) (st := []) (b := m) (ci := 15) vc_X13_emit dX13_readThing_56 ml_RX13_362 rfl md_obj rfl (Nat.le_of_ble_eq_true rfl) rfl (Nat.le_of_ble_eq_true rfl) (ro_emit (d := d + 3) hG hm e56) (fun v h1 hq1 => ?_) (fun E h1 hq1 => md_nV hq1)
      obtain ⟨hv, rfl⟩ := hq1
      cases hv
      show mv_rq l G mX13_readThing (d + 4) 59 [some (.ref m), some (.int x1), some (.int v5)] [] (md_H G B m S56) _
      refine q_goto (tgt := 213) dX13_readThing_59 (by decide) ?_
      obtain rfl := Option.some.inj hq
      exact q_vret dX13_readThing_213 rfl ⟨rfl, rfl⟩
  ·
    have hq := md_pos c12 hq
    refine q_aload_n dX13_readThing_15 rfl ?_
    refine q_bipush (v := 39) dX13_readThing_16 (by decide) ?_
    refine q_iconst (v := (-1)) dX13_readThing_18 (by decide) ?_
    obtain ⟨S19, e19, hq⟩ := md_c_e hq
    refine q_cV (Y := mX13_readString) (As := [.int 39, .int (-1)]) (st := []) (b := m) (ci := 15) vc_X13_readString dX13_readThing_19 ml_RX13_251 rfl md_obj rfl (Nat.le_of_ble_eq_true rfl) rfl (Nat.le_of_ble_eq_true rfl) (ro_readString (d := d + 1) hG hm e19) (fun v h1 hq1 => ?_) (fun E h1 hq1 => md_nV hq1)
    obtain ⟨hv, rfl⟩ := hq1
    cases hv
    show mv_rq l G mX13_readThing (d + 4) 22 [some (.ref m), some (.int x1), some (.int v5)] [] (md_H G B m S19) _
    refine q_aload_n dX13_readThing_22 rfl ?_
    refine q_iload_n dX13_readThing_23 rfl ?_
    refine q_iconst (v := 5) dX13_readThing_24 (by decide) ?_
    refine q_aload_n dX13_readThing_25 rfl ?_
    refine r_geti 86 dX13_readThing_26 fl_RX13_225 (by decide) rfl ki_86 ?_
    refine q_aload_n dX13_readThing_29 rfl ?_
    refine r_geti 87 dX13_readThing_30 fl_RX13_228 (by decide) rfl ki_87 ?_
    obtain ⟨S33, e33, hq⟩ := md_c_e hq
    refine q_cV (Y := mX13_emit) (As := [.int x1, .int 5, .int (S19.1 86), .int (S19.1 87)]) (st := []) (b := m) (ci := 15) vc_X13_emit dX13_readThing_33 ml_RX13_362 rfl md_obj rfl (Nat.le_of_ble_eq_true rfl) rfl (Nat.le_of_ble_eq_true rfl) (ro_emit (d := d + 3) hG hm e33) (fun v h1 hq1 => ?_) (fun E h1 hq1 => md_nV hq1)
    obtain ⟨hv, rfl⟩ := hq1
    cases hv
    show mv_rq l G mX13_readThing (d + 4) 36 [some (.ref m), some (.int x1), some (.int v5)] [] (md_H G B m S33) _
    refine q_goto (tgt := 213) dX13_readThing_36 (by decide) ?_
    obtain rfl := Option.some.inj hq
    exact q_vret dX13_readThing_213 rfl ⟨rfl, rfl⟩
def mo_readPart (N : Nat) (x1 : Int32) (x2 : Int32) (x3 : Int32) (S : md_S) : Option md_S :=
  if x1 = 0 then
    md_c (mo_readMore N x2 S) fun S78 =>
    some S78
  else
  if x1 = 1 then
    md_c (mo_readSelector N x2 S) fun S86 =>
    some S86
  else
  if x1 = 2 then
    md_c (mo_readNext x2 S) fun S94 =>
    some S94
  else
  if x1 = 3 then
    md_c (mo_push 4 x2 0 S) fun S104 =>
    md_c (mo_push 6 x2 0 S104) fun S112 =>
    some S112
  else
  if x1 = 4 then
    md_b (mo_isTwice 124 S) fun v121 S121 =>
    if v121 = 0 then
      some S121
    else
      md_c (mo_push 5 x2 0 S121) fun S131 =>
      md_c (mo_push 6 x2 0 S131) fun S139 =>
      some S139
  else
  if x1 = 5 then
    md_c (mo_readEnd N x1 x2 x3 S) fun S229 =>
    some S229
  else
  if x1 = 6 then
    md_c (mo_push 7 x2 0 S) fun S150 =>
    md_c (mo_push 9 x2 0 S150) fun S158 =>
    some S158
  else
  if x1 = 7 then
    md_b (mo_isTwice 38 S) fun v167 S167 =>
    if v167 = 0 then
      some S167
    else
      md_c (mo_push 8 x2 0 S167) fun S178 =>
      md_c (mo_push 9 x2 0 S178) fun S186 =>
      some S186
  else
  if x1 = 8 then
    md_c (mo_readEnd N x1 x2 x3 S) fun S229 =>
    some S229
  else
  if x1 = 9 then
    md_c (mo_readTest x2 S) fun S194 =>
    some S194
  else
  if x1 = 10 then
    md_c (mo_readEnd N x1 x2 x3 S) fun S229 =>
    some S229
  else
  if x1 = 11 then
    md_c (mo_readEnd N x1 x2 x3 S) fun S229 =>
    some S229
  else
  if x1 = 12 then
    md_c (mo_readTestPath N x2 x3 S) fun S203 =>
    some S203
  else
  if x1 = 13 then
    md_c (mo_readRelation x2 S) fun S211 =>
    some S211
  else
  if x1 = 14 then
    md_c (mo_readThing N x2 S) fun S219 =>
    some S219
  else
    md_c (mo_readEnd N x1 x2 x3 S) fun S229 =>
    some S229
theorem ro_readPart {l : Launch} {G : mv_G} {B : mv_H} {m N d : Nat} (hG : mv_ok G) (hm : G.2.2.1 ≤ m) {x1 : Int32} {x2 : Int32} {x3 : Int32} {S : md_S} {q : md_S} (hq : mo_readPart N x1 x2 x3 S = some q) : mv_rq l G mX13_readPart (d + 5) 0 (mv_in [.ref m, .int x1, .int x2, .int x3] 4) [] (md_H G B m S) (md_V G B m q) := by
  unfold mo_readPart at hq
  show mv_rq l G mX13_readPart (d + 5) 0 [some (.ref m), some (.int x1), some (.int x2), some (.int x3)] [] (md_H G B m S) _
  refine q_iload_n dX13_readPart_0 rfl ?_
  by_cases c1_0 : x1 = 0
  ·
    have hq := md_pos c1_0 hq
    have t1 := md_ti (i := 0) (by decide) c1_0
    refine q_tableIn (off := 75) (tgt := 76) dX13_readPart_1 (by rw [t1]; decide) (by rw [t1]; decide) (by rw [t1]; rfl) (by decide) ?_
    refine q_aload_n dX13_readPart_76 rfl ?_
    refine q_iload_n dX13_readPart_77 rfl ?_
    obtain ⟨S78, e78, hq⟩ := md_c_e hq
    refine q_cV (Y := mX13_readMore) (As := [.int x2]) (st := []) (b := m) (ci := 15) vc_X13_readMore dX13_readPart_78 ml_RX13_376 rfl md_obj rfl (Nat.le_of_ble_eq_true rfl) rfl (Nat.le_of_ble_eq_true rfl) (ro_readMore (d := d + 2) hG hm e78) (fun v h1 hq1 => ?_) (fun E h1 hq1 => md_nV hq1)
    obtain ⟨hv, rfl⟩ := hq1
    cases hv
    show mv_rq l G mX13_readPart (d + 5) 81 [some (.ref m), some (.int x1), some (.int x2), some (.int x3)] [] (md_H G B m S78) _
    refine q_goto (tgt := 232) dX13_readPart_81 (by decide) ?_
    obtain rfl := Option.some.inj hq
    exact q_vret dX13_readPart_232 rfl ⟨rfl, rfl⟩
  ·
    have hq := md_neg c1_0 hq
    by_cases c1_1 : x1 = 1
    ·
      have hq := md_pos c1_1 hq
      have t1 := md_ti (i := 1) (by decide) c1_1
      refine q_tableIn (off := 83) (tgt := 84) dX13_readPart_1 (by rw [t1]; decide) (by rw [t1]; decide) (by rw [t1]; rfl) (by decide) ?_
      refine q_aload_n dX13_readPart_84 rfl ?_
      refine q_iload_n dX13_readPart_85 rfl ?_
      obtain ⟨S86, e86, hq⟩ := md_c_e hq
      refine q_cV (Y := mX13_readSelector) (As := [.int x2]) (st := []) (b := m) (ci := 15) vc_X13_readSelector dX13_readPart_86 ml_RX13_379 rfl md_obj rfl (Nat.le_of_ble_eq_true rfl) rfl (Nat.le_of_ble_eq_true rfl) (ro_readSelector (d := d) hG hm e86) (fun v h1 hq1 => ?_) (fun E h1 hq1 => md_nV hq1)
      obtain ⟨hv, rfl⟩ := hq1
      cases hv
      show mv_rq l G mX13_readPart (d + 5) 89 [some (.ref m), some (.int x1), some (.int x2), some (.int x3)] [] (md_H G B m S86) _
      refine q_goto (tgt := 232) dX13_readPart_89 (by decide) ?_
      obtain rfl := Option.some.inj hq
      exact q_vret dX13_readPart_232 rfl ⟨rfl, rfl⟩
    ·
      have hq := md_neg c1_1 hq
      by_cases c1_2 : x1 = 2
      ·
        have hq := md_pos c1_2 hq
        have t1 := md_ti (i := 2) (by decide) c1_2
        refine q_tableIn (off := 91) (tgt := 92) dX13_readPart_1 (by rw [t1]; decide) (by rw [t1]; decide) (by rw [t1]; rfl) (by decide) ?_
        refine q_aload_n dX13_readPart_92 rfl ?_
        refine q_iload_n dX13_readPart_93 rfl ?_
        obtain ⟨S94, e94, hq⟩ := md_c_e hq
        refine q_cV (Y := mX13_readNext) (As := [.int x2]) (st := []) (b := m) (ci := 15) vc_X13_readNext dX13_readPart_94 ml_RX13_382 rfl md_obj rfl (Nat.le_of_ble_eq_true rfl) rfl (Nat.le_of_ble_eq_true rfl) (ro_readNext (d := d + 1) hG hm e94) (fun v h1 hq1 => ?_) (fun E h1 hq1 => md_nV hq1)
        obtain ⟨hv, rfl⟩ := hq1
        cases hv
        show mv_rq l G mX13_readPart (d + 5) 97 [some (.ref m), some (.int x1), some (.int x2), some (.int x3)] [] (md_H G B m S94) _
        refine q_goto (tgt := 232) dX13_readPart_97 (by decide) ?_
        obtain rfl := Option.some.inj hq
        exact q_vret dX13_readPart_232 rfl ⟨rfl, rfl⟩
      ·
        have hq := md_neg c1_2 hq
        by_cases c1_3 : x1 = 3
        ·
          have hq := md_pos c1_3 hq
          have t1 := md_ti (i := 3) (by decide) c1_3
          refine q_tableIn (off := 99) (tgt := 100) dX13_readPart_1 (by rw [t1]; decide) (by rw [t1]; decide) (by rw [t1]; rfl) (by decide) ?_
          refine q_aload_n dX13_readPart_100 rfl ?_
          refine q_iconst (v := 4) dX13_readPart_101 (by decide) ?_
          refine q_iload_n dX13_readPart_102 rfl ?_
          refine q_iconst (v := 0) dX13_readPart_103 (by decide) ?_
          obtain ⟨S104, e104, hq⟩ := md_c_e hq
          refine q_cV (Y := mX13_push) (As := [.int 4, .int x2, .int 0]) (st := []) (b := m) (ci := 15) vc_X13_push dX13_readPart_104 ml_RX13_326 rfl md_obj rfl (Nat.le_of_ble_eq_true rfl) rfl (Nat.le_of_ble_eq_true rfl) (ro_push (d := d + 4) hG hm e104) (fun v h1 hq1 => ?_) (fun E h1 hq1 => md_nV hq1)
          obtain ⟨hv, rfl⟩ := hq1
          cases hv
          show mv_rq l G mX13_readPart (d + 5) 107 [some (.ref m), some (.int x1), some (.int x2), some (.int x3)] [] (md_H G B m S104) _
          refine q_aload_n dX13_readPart_107 rfl ?_
          refine q_bipush (v := 6) dX13_readPart_108 (by decide) ?_
          refine q_iload_n dX13_readPart_110 rfl ?_
          refine q_iconst (v := 0) dX13_readPart_111 (by decide) ?_
          obtain ⟨S112, e112, hq⟩ := md_c_e hq
          refine q_cV (Y := mX13_push) (As := [.int 6, .int x2, .int 0]) (st := []) (b := m) (ci := 15) vc_X13_push dX13_readPart_112 ml_RX13_326 rfl md_obj rfl (Nat.le_of_ble_eq_true rfl) rfl (Nat.le_of_ble_eq_true rfl) (ro_push (d := d + 4) hG hm e112) (fun v h1 hq1 => ?_) (fun E h1 hq1 => md_nV hq1)
          obtain ⟨hv, rfl⟩ := hq1
          cases hv
          show mv_rq l G mX13_readPart (d + 5) 115 [some (.ref m), some (.int x1), some (.int x2), some (.int x3)] [] (md_H G B m S112) _
          refine q_goto (tgt := 232) dX13_readPart_115 (by decide) ?_
          obtain rfl := Option.some.inj hq
          exact q_vret dX13_readPart_232 rfl ⟨rfl, rfl⟩
        ·
          have hq := md_neg c1_3 hq
          by_cases c1_4 : x1 = 4
          ·
            have hq := md_pos c1_4 hq
            have t1 := md_ti (i := 4) (by decide) c1_4
            refine q_tableIn (off := 117) (tgt := 118) dX13_readPart_1 (by rw [t1]; decide) (by rw [t1]; decide) (by rw [t1]; rfl) (by decide) ?_
            refine q_aload_n dX13_readPart_118 rfl ?_
            refine q_bipush (v := 124) dX13_readPart_119 (by decide) ?_
            obtain ⟨v121, S121, e121, hq⟩ := md_b_e hq
            refine q_cV (Y := mX13_isTwice) (As := [.int 124]) (st := []) (b := m) (ci := 15) vc_X13_isTwice dX13_readPart_121 ml_RX13_385 rfl md_obj rfl (Nat.le_of_ble_eq_true rfl) rfl (Nat.le_of_ble_eq_true rfl) (ro_isTwice (d := d + 1) hG hm e121) (fun v h1 hq1 => ?_) (fun E h1 hq1 => md_nQ hq1)
            obtain ⟨hv, rfl⟩ := hq1
            cases hv
            show mv_rq l G mX13_readPart (d + 5) 124 [some (.ref m), some (.int x1), some (.int x2), some (.int x3)] [.int v121] (md_H G B m S121) _
            refine q_if_eq (tgt := 232) dX13_readPart_124 (by decide) (fun c124 => ?_) (fun c124 => ?_)
            ·
              have hq := md_pos c124 hq
              obtain rfl := Option.some.inj hq
              exact q_vret dX13_readPart_232 rfl ⟨rfl, rfl⟩
            ·
              have hq := md_neg c124 hq
              refine q_aload_n dX13_readPart_127 rfl ?_
              refine q_iconst (v := 5) dX13_readPart_128 (by decide) ?_
              refine q_iload_n dX13_readPart_129 rfl ?_
              refine q_iconst (v := 0) dX13_readPart_130 (by decide) ?_
              obtain ⟨S131, e131, hq⟩ := md_c_e hq
              refine q_cV (Y := mX13_push) (As := [.int 5, .int x2, .int 0]) (st := []) (b := m) (ci := 15) vc_X13_push dX13_readPart_131 ml_RX13_326 rfl md_obj rfl (Nat.le_of_ble_eq_true rfl) rfl (Nat.le_of_ble_eq_true rfl) (ro_push (d := d + 4) hG hm e131) (fun v h1 hq1 => ?_) (fun E h1 hq1 => md_nV hq1)
              obtain ⟨hv, rfl⟩ := hq1
              cases hv
              show mv_rq l G mX13_readPart (d + 5) 134 [some (.ref m), some (.int x1), some (.int x2), some (.int x3)] [] (md_H G B m S131) _
              refine q_aload_n dX13_readPart_134 rfl ?_
              refine q_bipush (v := 6) dX13_readPart_135 (by decide) ?_
              refine q_iload_n dX13_readPart_137 rfl ?_
              refine q_iconst (v := 0) dX13_readPart_138 (by decide) ?_
              obtain ⟨S139, e139, hq⟩ := md_c_e hq
              refine q_cV (Y := mX13_push) (As := [.int 6, .int x2, .int 0]) (st := []) (b := m) (ci := 15) vc_X13_push dX13_readPart_139 ml_RX13_326 rfl md_obj rfl (Nat.le_of_ble_eq_true rfl) rfl (Nat.le_of_ble_eq_true rfl) (ro_push (d := d + 4) hG hm e139) (fun v h1 hq1 => ?_) (fun E h1 hq1 => md_nV hq1)
              obtain ⟨hv, rfl⟩ := hq1
              cases hv
              show mv_rq l G mX13_readPart (d + 5) 142 [some (.ref m), some (.int x1), some (.int x2), some (.int x3)] [] (md_H G B m S139) _
              refine q_goto (tgt := 232) dX13_readPart_142 (by decide) ?_
              obtain rfl := Option.some.inj hq
              exact q_vret dX13_readPart_232 rfl ⟨rfl, rfl⟩
          ·
            have hq := md_neg c1_4 hq
            by_cases c1_5 : x1 = 5
            ·
              have hq := md_pos c1_5 hq
              have t1 := md_ti (i := 5) (by decide) c1_5
              refine q_tableIn (off := 224) (tgt := 225) dX13_readPart_1 (by rw [t1]; decide) (by rw [t1]; decide) (by rw [t1]; rfl) (by decide) ?_
              refine q_aload_n dX13_readPart_225 rfl ?_
              refine q_iload_n dX13_readPart_226 rfl ?_
              refine q_iload_n dX13_readPart_227 rfl ?_
              refine q_iload_n dX13_readPart_228 rfl ?_
              obtain ⟨S229, e229, hq⟩ := md_c_e hq
              refine q_cV (Y := mX13_readEnd) (As := [.int x1, .int x2, .int x3]) (st := []) (b := m) (ci := 15) vc_X13_readEnd dX13_readPart_229 ml_RX13_400 rfl md_obj rfl (Nat.le_of_ble_eq_true rfl) rfl (Nat.le_of_ble_eq_true rfl) (ro_readEnd (d := d + 1) hG hm e229) (fun v h1 hq1 => ?_) (fun E h1 hq1 => md_nV hq1)
              obtain ⟨hv, rfl⟩ := hq1
              cases hv
              show mv_rq l G mX13_readPart (d + 5) 232 [some (.ref m), some (.int x1), some (.int x2), some (.int x3)] [] (md_H G B m S229) _
              obtain rfl := Option.some.inj hq
              exact q_vret dX13_readPart_232 rfl ⟨rfl, rfl⟩
            ·
              have hq := md_neg c1_5 hq
              by_cases c1_6 : x1 = 6
              ·
                have hq := md_pos c1_6 hq
                have t1 := md_ti (i := 6) (by decide) c1_6
                refine q_tableIn (off := 144) (tgt := 145) dX13_readPart_1 (by rw [t1]; decide) (by rw [t1]; decide) (by rw [t1]; rfl) (by decide) ?_
                refine q_aload_n dX13_readPart_145 rfl ?_
                refine q_bipush (v := 7) dX13_readPart_146 (by decide) ?_
                refine q_iload_n dX13_readPart_148 rfl ?_
                refine q_iconst (v := 0) dX13_readPart_149 (by decide) ?_
                obtain ⟨S150, e150, hq⟩ := md_c_e hq
                refine q_cV (Y := mX13_push) (As := [.int 7, .int x2, .int 0]) (st := []) (b := m) (ci := 15) vc_X13_push dX13_readPart_150 ml_RX13_326 rfl md_obj rfl (Nat.le_of_ble_eq_true rfl) rfl (Nat.le_of_ble_eq_true rfl) (ro_push (d := d + 4) hG hm e150) (fun v h1 hq1 => ?_) (fun E h1 hq1 => md_nV hq1)
                obtain ⟨hv, rfl⟩ := hq1
                cases hv
                show mv_rq l G mX13_readPart (d + 5) 153 [some (.ref m), some (.int x1), some (.int x2), some (.int x3)] [] (md_H G B m S150) _
                refine q_aload_n dX13_readPart_153 rfl ?_
                refine q_bipush (v := 9) dX13_readPart_154 (by decide) ?_
                refine q_iload_n dX13_readPart_156 rfl ?_
                refine q_iconst (v := 0) dX13_readPart_157 (by decide) ?_
                obtain ⟨S158, e158, hq⟩ := md_c_e hq
                refine q_cV (Y := mX13_push) (As := [.int 9, .int x2, .int 0]) (st := []) (b := m) (ci := 15) vc_X13_push dX13_readPart_158 ml_RX13_326 rfl md_obj rfl (Nat.le_of_ble_eq_true rfl) rfl (Nat.le_of_ble_eq_true rfl) (ro_push (d := d + 4) hG hm e158) (fun v h1 hq1 => ?_) (fun E h1 hq1 => md_nV hq1)
                obtain ⟨hv, rfl⟩ := hq1
                cases hv
                show mv_rq l G mX13_readPart (d + 5) 161 [some (.ref m), some (.int x1), some (.int x2), some (.int x3)] [] (md_H G B m S158) _
                refine q_goto (tgt := 232) dX13_readPart_161 (by decide) ?_
                obtain rfl := Option.some.inj hq
                exact q_vret dX13_readPart_232 rfl ⟨rfl, rfl⟩
              ·
                have hq := md_neg c1_6 hq
                by_cases c1_7 : x1 = 7
                ·
                  have hq := md_pos c1_7 hq
                  have t1 := md_ti (i := 7) (by decide) c1_7
                  refine q_tableIn (off := 163) (tgt := 164) dX13_readPart_1 (by rw [t1]; decide) (by rw [t1]; decide) (by rw [t1]; rfl) (by decide) ?_
                  refine q_aload_n dX13_readPart_164 rfl ?_
                  refine q_bipush (v := 38) dX13_readPart_165 (by decide) ?_
                  obtain ⟨v167, S167, e167, hq⟩ := md_b_e hq
                  refine q_cV (Y := mX13_isTwice) (As := [.int 38]) (st := []) (b := m) (ci := 15) vc_X13_isTwice dX13_readPart_167 ml_RX13_385 rfl md_obj rfl (Nat.le_of_ble_eq_true rfl) rfl (Nat.le_of_ble_eq_true rfl) (ro_isTwice (d := d + 1) hG hm e167) (fun v h1 hq1 => ?_) (fun E h1 hq1 => md_nQ hq1)
                  obtain ⟨hv, rfl⟩ := hq1
                  cases hv
                  show mv_rq l G mX13_readPart (d + 5) 170 [some (.ref m), some (.int x1), some (.int x2), some (.int x3)] [.int v167] (md_H G B m S167) _
                  refine q_if_eq (tgt := 232) dX13_readPart_170 (by decide) (fun c170 => ?_) (fun c170 => ?_)
                  ·
                    have hq := md_pos c170 hq
                    obtain rfl := Option.some.inj hq
                    exact q_vret dX13_readPart_232 rfl ⟨rfl, rfl⟩
                  ·
                    have hq := md_neg c170 hq
                    refine q_aload_n dX13_readPart_173 rfl ?_
                    refine q_bipush (v := 8) dX13_readPart_174 (by decide) ?_
                    refine q_iload_n dX13_readPart_176 rfl ?_
                    refine q_iconst (v := 0) dX13_readPart_177 (by decide) ?_
                    obtain ⟨S178, e178, hq⟩ := md_c_e hq
                    refine q_cV (Y := mX13_push) (As := [.int 8, .int x2, .int 0]) (st := []) (b := m) (ci := 15) vc_X13_push dX13_readPart_178 ml_RX13_326 rfl md_obj rfl (Nat.le_of_ble_eq_true rfl) rfl (Nat.le_of_ble_eq_true rfl) (ro_push (d := d + 4) hG hm e178) (fun v h1 hq1 => ?_) (fun E h1 hq1 => md_nV hq1)
                    obtain ⟨hv, rfl⟩ := hq1
                    cases hv
                    show mv_rq l G mX13_readPart (d + 5) 181 [some (.ref m), some (.int x1), some (.int x2), some (.int x3)] [] (md_H G B m S178) _
                    refine q_aload_n dX13_readPart_181 rfl ?_
                    refine q_bipush (v := 9) dX13_readPart_182 (by decide) ?_
                    refine q_iload_n dX13_readPart_184 rfl ?_
                    refine q_iconst (v := 0) dX13_readPart_185 (by decide) ?_
                    obtain ⟨S186, e186, hq⟩ := md_c_e hq
                    refine q_cV (Y := mX13_push) (As := [.int 9, .int x2, .int 0]) (st := []) (b := m) (ci := 15) vc_X13_push dX13_readPart_186 ml_RX13_326 rfl md_obj rfl (Nat.le_of_ble_eq_true rfl) rfl (Nat.le_of_ble_eq_true rfl) (ro_push (d := d + 4) hG hm e186) (fun v h1 hq1 => ?_) (fun E h1 hq1 => md_nV hq1)
                    obtain ⟨hv, rfl⟩ := hq1
                    cases hv
                    show mv_rq l G mX13_readPart (d + 5) 189 [some (.ref m), some (.int x1), some (.int x2), some (.int x3)] [] (md_H G B m S186) _
                    refine q_goto (tgt := 232) dX13_readPart_189 (by decide) ?_
                    obtain rfl := Option.some.inj hq
                    exact q_vret dX13_readPart_232 rfl ⟨rfl, rfl⟩
                ·
                  have hq := md_neg c1_7 hq
                  by_cases c1_8 : x1 = 8
                  ·
                    have hq := md_pos c1_8 hq
                    have t1 := md_ti (i := 8) (by decide) c1_8
                    refine q_tableIn (off := 224) (tgt := 225) dX13_readPart_1 (by rw [t1]; decide) (by rw [t1]; decide) (by rw [t1]; rfl) (by decide) ?_
                    refine q_aload_n dX13_readPart_225 rfl ?_
                    refine q_iload_n dX13_readPart_226 rfl ?_
                    refine q_iload_n dX13_readPart_227 rfl ?_
                    refine q_iload_n dX13_readPart_228 rfl ?_
                    obtain ⟨S229, e229, hq⟩ := md_c_e hq
                    refine q_cV (Y := mX13_readEnd) (As := [.int x1, .int x2, .int x3]) (st := []) (b := m) (ci := 15) vc_X13_readEnd dX13_readPart_229 ml_RX13_400 rfl md_obj rfl (Nat.le_of_ble_eq_true rfl) rfl (Nat.le_of_ble_eq_true rfl) (ro_readEnd (d := d + 1) hG hm e229) (fun v h1 hq1 => ?_) (fun E h1 hq1 => md_nV hq1)
                    obtain ⟨hv, rfl⟩ := hq1
                    cases hv
                    show mv_rq l G mX13_readPart (d + 5) 232 [some (.ref m), some (.int x1), some (.int x2), some (.int x3)] [] (md_H G B m S229) _
                    obtain rfl := Option.some.inj hq
                    exact q_vret dX13_readPart_232 rfl ⟨rfl, rfl⟩
                  ·
                    have hq := md_neg c1_8 hq
                    by_cases c1_9 : x1 = 9
                    ·
                      have hq := md_pos c1_9 hq
                      have t1 := md_ti (i := 9) (by decide) c1_9
                      refine q_tableIn (off := 191) (tgt := 192) dX13_readPart_1 (by rw [t1]; decide) (by rw [t1]; decide) (by rw [t1]; rfl) (by decide) ?_
                      refine q_aload_n dX13_readPart_192 rfl ?_
                      refine q_iload_n dX13_readPart_193 rfl ?_
                      obtain ⟨S194, e194, hq⟩ := md_c_e hq
                      refine q_cV (Y := mX13_readTest) (As := [.int x2]) (st := []) (b := m) (ci := 15) vc_X13_readTest dX13_readPart_194 ml_RX13_388 rfl md_obj rfl (Nat.le_of_ble_eq_true rfl) rfl (Nat.le_of_ble_eq_true rfl) (ro_readTest (d := d + 1) hG hm e194) (fun v h1 hq1 => ?_) (fun E h1 hq1 => md_nV hq1)
                      obtain ⟨hv, rfl⟩ := hq1
                      cases hv
                      show mv_rq l G mX13_readPart (d + 5) 197 [some (.ref m), some (.int x1), some (.int x2), some (.int x3)] [] (md_H G B m S194) _
                      refine q_goto (tgt := 232) dX13_readPart_197 (by decide) ?_
                      obtain rfl := Option.some.inj hq
                      exact q_vret dX13_readPart_232 rfl ⟨rfl, rfl⟩
                    ·
                      have hq := md_neg c1_9 hq
                      by_cases c1_10 : x1 = 10
                      ·
                        have hq := md_pos c1_10 hq
                        have t1 := md_ti (i := 10) (by decide) c1_10
                        refine q_tableIn (off := 224) (tgt := 225) dX13_readPart_1 (by rw [t1]; decide) (by rw [t1]; decide) (by rw [t1]; rfl) (by decide) ?_
                        refine q_aload_n dX13_readPart_225 rfl ?_
                        refine q_iload_n dX13_readPart_226 rfl ?_
                        refine q_iload_n dX13_readPart_227 rfl ?_
                        refine q_iload_n dX13_readPart_228 rfl ?_
                        obtain ⟨S229, e229, hq⟩ := md_c_e hq
                        refine q_cV (Y := mX13_readEnd) (As := [.int x1, .int x2, .int x3]) (st := []) (b := m) (ci := 15) vc_X13_readEnd dX13_readPart_229 ml_RX13_400 rfl md_obj rfl (Nat.le_of_ble_eq_true rfl) rfl (Nat.le_of_ble_eq_true rfl) (ro_readEnd (d := d + 1) hG hm e229) (fun v h1 hq1 => ?_) (fun E h1 hq1 => md_nV hq1)
                        obtain ⟨hv, rfl⟩ := hq1
                        cases hv
                        show mv_rq l G mX13_readPart (d + 5) 232 [some (.ref m), some (.int x1), some (.int x2), some (.int x3)] [] (md_H G B m S229) _
                        obtain rfl := Option.some.inj hq
                        exact q_vret dX13_readPart_232 rfl ⟨rfl, rfl⟩
                      ·
                        have hq := md_neg c1_10 hq
                        by_cases c1_11 : x1 = 11
                        ·
                          have hq := md_pos c1_11 hq
                          have t1 := md_ti (i := 11) (by decide) c1_11
                          refine q_tableIn (off := 224) (tgt := 225) dX13_readPart_1 (by rw [t1]; decide) (by rw [t1]; decide) (by rw [t1]; rfl) (by decide) ?_
                          refine q_aload_n dX13_readPart_225 rfl ?_
                          refine q_iload_n dX13_readPart_226 rfl ?_
                          refine q_iload_n dX13_readPart_227 rfl ?_
                          refine q_iload_n dX13_readPart_228 rfl ?_
                          obtain ⟨S229, e229, hq⟩ := md_c_e hq
                          refine q_cV (Y := mX13_readEnd) (As := [.int x1, .int x2, .int x3]) (st := []) (b := m) (ci := 15) vc_X13_readEnd dX13_readPart_229 ml_RX13_400 rfl md_obj rfl (Nat.le_of_ble_eq_true rfl) rfl (Nat.le_of_ble_eq_true rfl) (ro_readEnd (d := d + 1) hG hm e229) (fun v h1 hq1 => ?_) (fun E h1 hq1 => md_nV hq1)
                          obtain ⟨hv, rfl⟩ := hq1
                          cases hv
                          show mv_rq l G mX13_readPart (d + 5) 232 [some (.ref m), some (.int x1), some (.int x2), some (.int x3)] [] (md_H G B m S229) _
                          obtain rfl := Option.some.inj hq
                          exact q_vret dX13_readPart_232 rfl ⟨rfl, rfl⟩
                        ·
                          have hq := md_neg c1_11 hq
                          by_cases c1_12 : x1 = 12
                          ·
                            have hq := md_pos c1_12 hq
                            have t1 := md_ti (i := 12) (by decide) c1_12
                            refine q_tableIn (off := 199) (tgt := 200) dX13_readPart_1 (by rw [t1]; decide) (by rw [t1]; decide) (by rw [t1]; rfl) (by decide) ?_
                            refine q_aload_n dX13_readPart_200 rfl ?_
                            refine q_iload_n dX13_readPart_201 rfl ?_
                            refine q_iload_n dX13_readPart_202 rfl ?_
                            obtain ⟨S203, e203, hq⟩ := md_c_e hq
                            refine q_cV (Y := mX13_readTestPath) (As := [.int x2, .int x3]) (st := []) (b := m) (ci := 15) vc_X13_readTestPath dX13_readPart_203 ml_RX13_391 rfl md_obj rfl (Nat.le_of_ble_eq_true rfl) rfl (Nat.le_of_ble_eq_true rfl) (ro_readTestPath (d := d + 1) hG hm e203) (fun v h1 hq1 => ?_) (fun E h1 hq1 => md_nV hq1)
                            obtain ⟨hv, rfl⟩ := hq1
                            cases hv
                            show mv_rq l G mX13_readPart (d + 5) 206 [some (.ref m), some (.int x1), some (.int x2), some (.int x3)] [] (md_H G B m S203) _
                            refine q_goto (tgt := 232) dX13_readPart_206 (by decide) ?_
                            obtain rfl := Option.some.inj hq
                            exact q_vret dX13_readPart_232 rfl ⟨rfl, rfl⟩
                          ·
                            have hq := md_neg c1_12 hq
                            by_cases c1_13 : x1 = 13
                            ·
                              have hq := md_pos c1_13 hq
                              have t1 := md_ti (i := 13) (by decide) c1_13
                              refine q_tableIn (off := 208) (tgt := 209) dX13_readPart_1 (by rw [t1]; decide) (by rw [t1]; decide) (by rw [t1]; rfl) (by decide) ?_
                              refine q_aload_n dX13_readPart_209 rfl ?_
                              refine q_iload_n dX13_readPart_210 rfl ?_
                              obtain ⟨S211, e211, hq⟩ := md_c_e hq
                              refine q_cV (Y := mX13_readRelation) (As := [.int x2]) (st := []) (b := m) (ci := 15) vc_X13_readRelation dX13_readPart_211 ml_RX13_394 rfl md_obj rfl (Nat.le_of_ble_eq_true rfl) rfl (Nat.le_of_ble_eq_true rfl) (ro_readRelation (d := d + 1) hG hm e211) (fun v h1 hq1 => ?_) (fun E h1 hq1 => md_nV hq1)
                              obtain ⟨hv, rfl⟩ := hq1
                              cases hv
                              show mv_rq l G mX13_readPart (d + 5) 214 [some (.ref m), some (.int x1), some (.int x2), some (.int x3)] [] (md_H G B m S211) _
                              refine q_goto (tgt := 232) dX13_readPart_214 (by decide) ?_
                              obtain rfl := Option.some.inj hq
                              exact q_vret dX13_readPart_232 rfl ⟨rfl, rfl⟩
                            ·
                              have hq := md_neg c1_13 hq
                              by_cases c1_14 : x1 = 14
                              ·
                                have hq := md_pos c1_14 hq
                                have t1 := md_ti (i := 14) (by decide) c1_14
                                refine q_tableIn (off := 216) (tgt := 217) dX13_readPart_1 (by rw [t1]; decide) (by rw [t1]; decide) (by rw [t1]; rfl) (by decide) ?_
                                refine q_aload_n dX13_readPart_217 rfl ?_
                                refine q_iload_n dX13_readPart_218 rfl ?_
                                obtain ⟨S219, e219, hq⟩ := md_c_e hq
                                refine q_cV (Y := mX13_readThing) (As := [.int x2]) (st := []) (b := m) (ci := 15) vc_X13_readThing dX13_readPart_219 ml_RX13_397 rfl md_obj rfl (Nat.le_of_ble_eq_true rfl) rfl (Nat.le_of_ble_eq_true rfl) (ro_readThing (d := d) hG hm e219) (fun v h1 hq1 => ?_) (fun E h1 hq1 => md_nV hq1)
                                obtain ⟨hv, rfl⟩ := hq1
                                cases hv
                                show mv_rq l G mX13_readPart (d + 5) 222 [some (.ref m), some (.int x1), some (.int x2), some (.int x3)] [] (md_H G B m S219) _
                                refine q_goto (tgt := 232) dX13_readPart_222 (by decide) ?_
                                obtain rfl := Option.some.inj hq
                                exact q_vret dX13_readPart_232 rfl ⟨rfl, rfl⟩
                              ·
                                have hq := md_neg c1_14 hq
                                refine q_tableOut (tgt := 225) dX13_readPart_1 (by have e0 := md_tn (i := 0) (by decide) c1_0; have e1 := md_tn (i := 1) (by decide) c1_1; have e2 := md_tn (i := 2) (by decide) c1_2; have e3 := md_tn (i := 3) (by decide) c1_3; have e4 := md_tn (i := 4) (by decide) c1_4; have e5 := md_tn (i := 5) (by decide) c1_5; have e6 := md_tn (i := 6) (by decide) c1_6; have e7 := md_tn (i := 7) (by decide) c1_7; have e8 := md_tn (i := 8) (by decide) c1_8; have e9 := md_tn (i := 9) (by decide) c1_9; have e10 := md_tn (i := 10) (by decide) c1_10; have e11 := md_tn (i := 11) (by decide) c1_11; have e12 := md_tn (i := 12) (by decide) c1_12; have e13 := md_tn (i := 13) (by decide) c1_13; have e14 := md_tn (i := 14) (by decide) c1_14; omega) (by decide) ?_
                                refine q_aload_n dX13_readPart_225 rfl ?_
                                refine q_iload_n dX13_readPart_226 rfl ?_
                                refine q_iload_n dX13_readPart_227 rfl ?_
                                refine q_iload_n dX13_readPart_228 rfl ?_
                                obtain ⟨S229, e229, hq⟩ := md_c_e hq
                                refine q_cV (Y := mX13_readEnd) (As := [.int x1, .int x2, .int x3]) (st := []) (b := m) (ci := 15) vc_X13_readEnd dX13_readPart_229 ml_RX13_400 rfl md_obj rfl (Nat.le_of_ble_eq_true rfl) rfl (Nat.le_of_ble_eq_true rfl) (ro_readEnd (d := d + 1) hG hm e229) (fun v h1 hq1 => ?_) (fun E h1 hq1 => md_nV hq1)
                                obtain ⟨hv, rfl⟩ := hq1
                                cases hv
                                show mv_rq l G mX13_readPart (d + 5) 232 [some (.ref m), some (.int x1), some (.int x2), some (.int x3)] [] (md_H G B m S229) _
                                obtain rfl := Option.some.inj hq
                                exact q_vret dX13_readPart_232 rfl ⟨rfl, rfl⟩
def mo_readQuery_j181 (N : Nat) (x1 : Int32) (S : md_S) : Option (Int32 × md_S) :=
  some (x1, S)
theorem ro_readQuery_j181 {l : Launch} {G : mv_G} {B : mv_H} {m N d : Nat} (hG : mv_ok G) (hm : G.2.2.1 ≤ m) {x1 : Int32} {S : md_S} {q : (Int32 × md_S)} (hq : mo_readQuery_j181 N x1 S = some q) : mv_rq l G mX13_readQuery (d + 6) 181 [none, some (.int x1), none] [] (md_H G B m S) (md_Q G B m q) := by
  unfold mo_readQuery_j181 at hq
  refine q_iload_n dX13_readQuery_181 rfl ?_
  obtain rfl := Option.some.inj hq
  exact q_iret (ty := .int) dX13_readQuery_182 rfl rfl ⟨rfl, rfl⟩
def mo_readQuery_l156 (N : Nat) : Nat → Int32 → Int32 → md_S → Option (Int32 × md_S)
  | 0, _, _, _ => none
  | n + 1, x1, x2, S =>
    if x2 = (-1) then
      mo_readQuery_j181 N x1 S
    else
      md_b (mo_good S) fun v162 S162 =>
      if v162 = 0 then
        mo_readQuery_j181 N x1 S162
      else
        if md_in x2 170 then
        mo_readQuery_l156 N n (x1 + 1) (S162.2 37 x2.toNatClampNeg) S162
        else none
theorem ro_readQuery_l156 {l : Launch} {G : mv_G} {B : mv_H} {m N d : Nat} (hG : mv_ok G) (hm : G.2.2.1 ≤ m) : ∀ n : Nat, ∀ {x1 : Int32} {x2 : Int32} {S : md_S} {q : (Int32 × md_S)}, mo_readQuery_l156 N n x1 x2 S = some q → mv_rq l G mX13_readQuery (d + 6) 156 [some (.ref m), some (.int x1), some (.int x2)] [] (md_H G B m S) (md_Q G B m q)
  | 0, _, _, _, _, hq => nomatch hq
  | n + 1, x1, x2, S, q, hq => by
    rw [mo_readQuery_l156] at hq
    refine q_iload_n dX13_readQuery_156 rfl ?_
    refine q_iconst (v := (-1)) dX13_readQuery_157 (by decide) ?_
    refine q_icmp_eq (tgt := 181) dX13_readQuery_158 (by decide) (fun c158 => ?_) (fun c158 => ?_)
    ·
      have hq := md_pos c158 hq
      refine mv_weak (A := [none, some (.int x1), none]) (by repeat' constructor) ?_
      exact ro_readQuery_j181 hG hm hq
    ·
      have hq := md_neg c158 hq
      refine q_aload_n dX13_readQuery_161 rfl ?_
      obtain ⟨v162, S162, e162, hq⟩ := md_b_e hq
      refine q_cV (Y := mX13_good) (As := []) (st := []) (b := m) (ci := 15) vc_X13_good dX13_readQuery_162 ml_RX13_208 rfl md_obj rfl (Nat.le_of_ble_eq_true rfl) rfl (Nat.le_of_ble_eq_true rfl) (ro_good (d := d + 5) hG hm e162) (fun v h1 hq1 => ?_) (fun E h1 hq1 => md_nQ hq1)
      obtain ⟨hv, rfl⟩ := hq1
      cases hv
      show mv_rq l G mX13_readQuery (d + 6) 165 [some (.ref m), some (.int x1), some (.int x2)] [.int v162] (md_H G B m S162) _
      refine q_if_eq (tgt := 181) dX13_readQuery_165 (by decide) (fun c165 => ?_) (fun c165 => ?_)
      ·
        have hq := md_pos c165 hq
        refine mv_weak (A := [none, some (.int x1), none]) (by repeat' constructor) ?_
        exact ro_readQuery_j181 hG hm hq
      ·
        have hq := md_neg c165 hq
        refine q_iinc dX13_readQuery_168 rfl rfl ?_
        show mv_rq l G mX13_readQuery (d + 6) 171 [some (.ref m), some (.int (x1 + 1)), some (.int x2)] [] (md_H G B m S162) _
        refine q_aload_n dX13_readQuery_171 rfl ?_
        refine r_geta 37 dX13_readQuery_172 fl_RX13_67 (by decide) rfl kk_37 ?_
        refine q_iload_n dX13_readQuery_175 rfl ?_
        obtain ⟨g176, hq⟩ := md_g hq
        refine r_iald hG 37 dX13_readQuery_176 kk_37 g176 ?_
        refine q_istore_n dX13_readQuery_177 (Nat.le_of_ble_eq_true rfl) rfl ?_
        show mv_rq l G mX13_readQuery (d + 6) 178 [some (.ref m), some (.int (x1 + 1)), some (.int (S162.2 37 x2.toNatClampNeg))] [] (md_H G B m S162) _
        refine q_goto (tgt := 156) dX13_readQuery_178 (by decide) ?_
        refine mv_weak (A := [some (.ref m), some (.int (x1 + 1)), some (.int (S162.2 37 x2.toNatClampNeg))]) (by repeat' constructor) ?_
        exact ro_readQuery_l156 hG hm n hq
def mo_readQuery_j147 (N : Nat) (S : md_S) : Option (Int32 × md_S) :=
  if md_in 0 100 then
  mo_readQuery_l156 N N 0 (S.2 34 (0 : Int32).toNatClampNeg) S
  else none
theorem ro_readQuery_j147 {l : Launch} {G : mv_G} {B : mv_H} {m N d : Nat} (hG : mv_ok G) (hm : G.2.2.1 ≤ m) {S : md_S} {q : (Int32 × md_S)} (hq : mo_readQuery_j147 N  S = some q) : mv_rq l G mX13_readQuery (d + 6) 147 [some (.ref m), none, none] [] (md_H G B m S) (md_Q G B m q) := by
  unfold mo_readQuery_j147 at hq
  refine q_iconst (v := 0) dX13_readQuery_147 (by decide) ?_
  refine q_istore_n dX13_readQuery_148 (Nat.le_of_ble_eq_true rfl) rfl ?_
  show mv_rq l G mX13_readQuery (d + 6) 149 [some (.ref m), some (.int 0), none] [] (md_H G B m S) _
  refine q_aload_n dX13_readQuery_149 rfl ?_
  refine r_geta 34 dX13_readQuery_150 fl_RX13_57 (by decide) rfl kk_34 ?_
  refine q_iconst (v := 0) dX13_readQuery_153 (by decide) ?_
  obtain ⟨g154, hq⟩ := md_g hq
  refine r_iald hG 34 dX13_readQuery_154 kk_34 g154 ?_
  refine q_istore_n dX13_readQuery_155 (Nat.le_of_ble_eq_true rfl) rfl ?_
  show mv_rq l G mX13_readQuery (d + 6) 156 [some (.ref m), some (.int 0), some (.int (S.2 34 (0 : Int32).toNatClampNeg))] [] (md_H G B m S) _
  refine mv_weak (A := [some (.ref m), some (.int 0), some (.int (S.2 34 (0 : Int32).toNatClampNeg))]) (by repeat' constructor) ?_
  exact ro_readQuery_l156 hG hm N hq
def mo_readQuery_j121 (N : Nat) (S : md_S) : Option (Int32 × md_S) :=
  md_b (mo_good S) fun v122 S122 =>
  if v122 = 0 then
    mo_readQuery_j147 N  S122
  else
    if (S122.1 5) ≤ (S122.1 6) then
      mo_readQuery_j147 N  S122
    else
      md_c (mo_fail (S122.1 6) S122) fun S144 =>
      mo_readQuery_j147 N  S144
theorem ro_readQuery_j121 {l : Launch} {G : mv_G} {B : mv_H} {m N d : Nat} (hG : mv_ok G) (hm : G.2.2.1 ≤ m) {S : md_S} {q : (Int32 × md_S)} (hq : mo_readQuery_j121 N  S = some q) : mv_rq l G mX13_readQuery (d + 6) 121 [some (.ref m), none, none] [] (md_H G B m S) (md_Q G B m q) := by
  unfold mo_readQuery_j121 at hq
  refine q_aload_n dX13_readQuery_121 rfl ?_
  obtain ⟨v122, S122, e122, hq⟩ := md_b_e hq
  refine q_cV (Y := mX13_good) (As := []) (st := []) (b := m) (ci := 15) vc_X13_good dX13_readQuery_122 ml_RX13_208 rfl md_obj rfl (Nat.le_of_ble_eq_true rfl) rfl (Nat.le_of_ble_eq_true rfl) (ro_good (d := d + 5) hG hm e122) (fun v h1 hq1 => ?_) (fun E h1 hq1 => md_nQ hq1)
  obtain ⟨hv, rfl⟩ := hq1
  cases hv
  show mv_rq l G mX13_readQuery (d + 6) 125 [some (.ref m), none, none] [.int v122] (md_H G B m S122) _
  refine q_if_eq (tgt := 147) dX13_readQuery_125 (by decide) (fun c125 => ?_) (fun c125 => ?_)
  ·
    have hq := md_pos c125 hq
    refine mv_weak (A := [some (.ref m), none, none]) (by repeat' constructor) ?_
    exact ro_readQuery_j147 hG hm hq
  ·
    have hq := md_neg c125 hq
    refine q_aload_n dX13_readQuery_128 rfl ?_
    refine r_geti 6 dX13_readQuery_129 fl_RX13_202 (by decide) rfl ki_6 ?_
    refine q_aload_n dX13_readQuery_132 rfl ?_
    refine r_geti 5 dX13_readQuery_133 fl_RX13_199 (by decide) rfl ki_5 ?_
    refine q_icmp_ge (tgt := 147) dX13_readQuery_136 (by decide) (fun c136 => ?_) (fun c136 => ?_)
    ·
      have hq := md_pos c136 hq
      refine mv_weak (A := [some (.ref m), none, none]) (by repeat' constructor) ?_
      exact ro_readQuery_j147 hG hm hq
    ·
      have hq := md_neg c136 hq
      refine q_aload_n dX13_readQuery_139 rfl ?_
      refine q_aload_n dX13_readQuery_140 rfl ?_
      refine r_geti 6 dX13_readQuery_141 fl_RX13_202 (by decide) rfl ki_6 ?_
      obtain ⟨S144, e144, hq⟩ := md_c_e hq
      refine q_cV (Y := mX13_fail) (As := [.int (S122.1 6)]) (st := []) (b := m) (ci := 15) vc_X13_fail dX13_readQuery_144 ml_RX13_216 rfl md_obj rfl (Nat.le_of_ble_eq_true rfl) rfl (Nat.le_of_ble_eq_true rfl) (ro_fail (d := d + 4) hG hm e144) (fun v h1 hq1 => ?_) (fun E h1 hq1 => md_nV hq1)
      obtain ⟨hv, rfl⟩ := hq1
      cases hv
      show mv_rq l G mX13_readQuery (d + 6) 147 [some (.ref m), none, none] [] (md_H G B m S144) _
      refine mv_weak (A := [some (.ref m), none, none]) (by repeat' constructor) ?_
      exact ro_readQuery_j147 hG hm hq
def mo_readQuery_l63 (N : Nat) : Nat → md_S → Option (Int32 × md_S)
  | 0, _ => none
  | n + 1, S =>
    if (S.1 55) ≤ 0 then
      mo_readQuery_j121 N  S
    else
      md_b (mo_good S) fun v71 S71 =>
      if v71 = 0 then
        mo_readQuery_j121 N  S71
      else
        md_l (md_p S71 55 ((S71.1 55) - 1)) fun S84 =>
        if md_in (S84.1 55) 400 then
        if md_in (S84.1 55) 400 then
        if md_in (S84.1 55) 400 then
        md_c (mo_readPart N (S84.2 56 (S84.1 55).toNatClampNeg) (S84.2 57 (S84.1 55).toNatClampNeg) (S84.2 58 (S84.1 55).toNatClampNeg) S84) fun S115 =>
        mo_readQuery_l63 N n  S115
        else none
        else none
        else none
theorem ro_readQuery_l63 {l : Launch} {G : mv_G} {B : mv_H} {m N d : Nat} (hG : mv_ok G) (hm : G.2.2.1 ≤ m) : ∀ n : Nat, ∀ {S : md_S} {q : (Int32 × md_S)}, mo_readQuery_l63 N n  S = some q → mv_rq l G mX13_readQuery (d + 6) 63 [some (.ref m), none, none] [] (md_H G B m S) (md_Q G B m q)
  | 0, _, _, hq => nomatch hq
  | n + 1, S, q, hq => by
    rw [mo_readQuery_l63] at hq
    refine q_aload_n dX13_readQuery_63 rfl ?_
    refine r_geti 55 dX13_readQuery_64 fl_RX13_307 (by decide) rfl ki_55 ?_
    refine q_if_le (tgt := 121) dX13_readQuery_67 (by decide) (fun c67 => ?_) (fun c67 => ?_)
    ·
      have hq := md_pos c67 hq
      refine mv_weak (A := [some (.ref m), none, none]) (by repeat' constructor) ?_
      exact ro_readQuery_j121 hG hm hq
    ·
      have hq := md_neg c67 hq
      refine q_aload_n dX13_readQuery_70 rfl ?_
      obtain ⟨v71, S71, e71, hq⟩ := md_b_e hq
      refine q_cV (Y := mX13_good) (As := []) (st := []) (b := m) (ci := 15) vc_X13_good dX13_readQuery_71 ml_RX13_208 rfl md_obj rfl (Nat.le_of_ble_eq_true rfl) rfl (Nat.le_of_ble_eq_true rfl) (ro_good (d := d + 5) hG hm e71) (fun v h1 hq1 => ?_) (fun E h1 hq1 => md_nQ hq1)
      obtain ⟨hv, rfl⟩ := hq1
      cases hv
      show mv_rq l G mX13_readQuery (d + 6) 74 [some (.ref m), none, none] [.int v71] (md_H G B m S71) _
      refine q_if_eq (tgt := 121) dX13_readQuery_74 (by decide) (fun c74 => ?_) (fun c74 => ?_)
      ·
        have hq := md_pos c74 hq
        refine mv_weak (A := [some (.ref m), none, none]) (by repeat' constructor) ?_
        exact ro_readQuery_j121 hG hm hq
      ·
        have hq := md_neg c74 hq
        refine q_aload_n dX13_readQuery_77 rfl ?_
        refine q_dup dX13_readQuery_78 rfl ?_
        refine r_geti 55 dX13_readQuery_79 fl_RX13_307 (by decide) rfl ki_55 ?_
        refine q_iconst (v := 1) dX13_readQuery_82 (by decide) ?_
        refine q_isub dX13_readQuery_83 ?_
        refine r_puti 55 .int dX13_readQuery_84 fl_RX13_307 (by decide) rfl ki_55 rfl kp_55 rfl rfl hm (fun S84 e84 => ?_)
        have hq := md_l_e e84 hq
        clear e84
        show mv_rq l G mX13_readQuery (d + 6) 87 [some (.ref m), none, none] [] (md_H G B m S84) _
        refine q_aload_n dX13_readQuery_87 rfl ?_
        refine q_aload_n dX13_readQuery_88 rfl ?_
        refine r_geta 56 dX13_readQuery_89 fl_RX13_121 (by decide) rfl kk_56 ?_
        refine q_aload_n dX13_readQuery_92 rfl ?_
        refine r_geti 55 dX13_readQuery_93 fl_RX13_307 (by decide) rfl ki_55 ?_
        obtain ⟨g96, hq⟩ := md_g hq
        refine r_iald hG 56 dX13_readQuery_96 kk_56 g96 ?_
        refine q_aload_n dX13_readQuery_97 rfl ?_
        refine r_geta 57 dX13_readQuery_98 fl_RX13_124 (by decide) rfl kk_57 ?_
        refine q_aload_n dX13_readQuery_101 rfl ?_
        refine r_geti 55 dX13_readQuery_102 fl_RX13_307 (by decide) rfl ki_55 ?_
        obtain ⟨g105, hq⟩ := md_g hq
        refine r_iald hG 57 dX13_readQuery_105 kk_57 g105 ?_
        refine q_aload_n dX13_readQuery_106 rfl ?_
        refine r_geta 58 dX13_readQuery_107 fl_RX13_127 (by decide) rfl kk_58 ?_
        refine q_aload_n dX13_readQuery_110 rfl ?_
        refine r_geti 55 dX13_readQuery_111 fl_RX13_307 (by decide) rfl ki_55 ?_
        obtain ⟨g114, hq⟩ := md_g hq
        refine r_iald hG 58 dX13_readQuery_114 kk_58 g114 ?_
        obtain ⟨S115, e115, hq⟩ := md_c_e hq
        refine q_cV (Y := mX13_readPart) (As := [.int (S84.2 56 (S84.1 55).toNatClampNeg), .int (S84.2 57 (S84.1 55).toNatClampNeg), .int (S84.2 58 (S84.1 55).toNatClampNeg)]) (st := []) (b := m) (ci := 15) vc_X13_readPart dX13_readQuery_115 ml_RX13_403 rfl md_obj rfl (Nat.le_of_ble_eq_true rfl) rfl (Nat.le_of_ble_eq_true rfl) (ro_readPart (d := d) hG hm e115) (fun v h1 hq1 => ?_) (fun E h1 hq1 => md_nV hq1)
        obtain ⟨hv, rfl⟩ := hq1
        cases hv
        show mv_rq l G mX13_readQuery (d + 6) 118 [some (.ref m), none, none] [] (md_H G B m S115) _
        refine q_goto (tgt := 63) dX13_readQuery_118 (by decide) ?_
        refine mv_weak (A := [some (.ref m), none, none]) (by repeat' constructor) ?_
        exact ro_readQuery_l63 hG hm n hq
def mo_readQuery (N : Nat) (S : md_S) : Option (Int32 × md_S) :=
  md_l (md_p S 26 0) fun S2 =>
  md_l (md_p S2 27 0) fun S7 =>
  md_l (md_p S7 28 0) fun S12 =>
  md_l (md_p S12 29 0) fun S17 =>
  md_l (md_p S17 30 0) fun S22 =>
  md_l (md_p S22 31 0) fun S27 =>
  md_l (md_p S27 55 0) fun S32 =>
  md_b (mo_at 0 S32) fun v37 S37 =>
  if v37 = 36 then
    md_b (mo_newPath 1 S37) fun v56 S56 =>
    md_c (mo_push 0 v56 0 S56) fun S60 =>
    mo_readQuery_l63 N N  S60
  else
    md_c (mo_fail 0 S37) fun S47 =>
    some (0, S47)
theorem ro_readQuery {l : Launch} {G : mv_G} {B : mv_H} {m N d : Nat} (hG : mv_ok G) (hm : G.2.2.1 ≤ m) {S : md_S} {q : (Int32 × md_S)} (hq : mo_readQuery N S = some q) : mv_rq l G mX13_readQuery (d + 6) 0 (mv_in [.ref m] 3) [] (md_H G B m S) (md_Q G B m q) := by
  unfold mo_readQuery at hq
  show mv_rq l G mX13_readQuery (d + 6) 0 [some (.ref m), none, none] [] (md_H G B m S) _
  refine q_aload_n dX13_readQuery_0 rfl ?_
  refine q_iconst (v := 0) dX13_readQuery_1 (by decide) ?_
  refine r_puti 26 .int dX13_readQuery_2 fl_RX13_310 (by decide) rfl ki_26 rfl kp_26 rfl rfl hm (fun S2 e2 => ?_)
  have hq := md_l_e e2 hq
  clear e2
  show mv_rq l G mX13_readQuery (d + 6) 5 [some (.ref m), none, none] [] (md_H G B m S2) _
  refine q_aload_n dX13_readQuery_5 rfl ?_
  refine q_iconst (v := 0) dX13_readQuery_6 (by decide) ?_
  refine r_puti 27 .int dX13_readQuery_7 fl_RX13_313 (by decide) rfl ki_27 rfl kp_27 rfl rfl hm (fun S7 e7 => ?_)
  have hq := md_l_e e7 hq
  clear e7
  show mv_rq l G mX13_readQuery (d + 6) 10 [some (.ref m), none, none] [] (md_H G B m S7) _
  refine q_aload_n dX13_readQuery_10 rfl ?_
  refine q_iconst (v := 0) dX13_readQuery_11 (by decide) ?_
  refine r_puti 28 .int dX13_readQuery_12 fl_RX13_316 (by decide) rfl ki_28 rfl kp_28 rfl rfl hm (fun S12 e12 => ?_)
  have hq := md_l_e e12 hq
  clear e12
  show mv_rq l G mX13_readQuery (d + 6) 15 [some (.ref m), none, none] [] (md_H G B m S12) _
  refine q_aload_n dX13_readQuery_15 rfl ?_
  refine q_iconst (v := 0) dX13_readQuery_16 (by decide) ?_
  refine r_puti 29 .int dX13_readQuery_17 fl_RX13_349 (by decide) rfl ki_29 rfl kp_29 rfl rfl hm (fun S17 e17 => ?_)
  have hq := md_l_e e17 hq
  clear e17
  show mv_rq l G mX13_readQuery (d + 6) 20 [some (.ref m), none, none] [] (md_H G B m S17) _
  refine q_aload_n dX13_readQuery_20 rfl ?_
  refine q_iconst (v := 0) dX13_readQuery_21 (by decide) ?_
  refine r_puti 30 .int dX13_readQuery_22 fl_RX13_319 (by decide) rfl ki_30 rfl kp_30 rfl rfl hm (fun S22 e22 => ?_)
  have hq := md_l_e e22 hq
  clear e22
  show mv_rq l G mX13_readQuery (d + 6) 25 [some (.ref m), none, none] [] (md_H G B m S22) _
  refine q_aload_n dX13_readQuery_25 rfl ?_
  refine q_iconst (v := 0) dX13_readQuery_26 (by decide) ?_
  refine r_puti 31 .int dX13_readQuery_27 fl_RX13_340 (by decide) rfl ki_31 rfl kp_31 rfl rfl hm (fun S27 e27 => ?_)
  have hq := md_l_e e27 hq
  clear e27
  show mv_rq l G mX13_readQuery (d + 6) 30 [some (.ref m), none, none] [] (md_H G B m S27) _
  refine q_aload_n dX13_readQuery_30 rfl ?_
  refine q_iconst (v := 0) dX13_readQuery_31 (by decide) ?_
  refine r_puti 55 .int dX13_readQuery_32 fl_RX13_307 (by decide) rfl ki_55 rfl kp_55 rfl rfl hm (fun S32 e32 => ?_)
  have hq := md_l_e e32 hq
  clear e32
  show mv_rq l G mX13_readQuery (d + 6) 35 [some (.ref m), none, none] [] (md_H G B m S32) _
  refine q_aload_n dX13_readQuery_35 rfl ?_
  refine q_iconst (v := 0) dX13_readQuery_36 (by decide) ?_
  obtain ⟨v37, S37, e37, hq⟩ := md_b_e hq
  refine q_cV (Y := mX13_at) (As := [.int 0]) (st := []) (b := m) (ci := 15) vc_X13_at dX13_readQuery_37 ml_RX13_212 rfl md_obj rfl (Nat.le_of_ble_eq_true rfl) rfl (Nat.le_of_ble_eq_true rfl) (ro_at (d := d + 5) hG hm e37) (fun v h1 hq1 => ?_) (fun E h1 hq1 => md_nQ hq1)
  obtain ⟨hv, rfl⟩ := hq1
  cases hv
  show mv_rq l G mX13_readQuery (d + 6) 40 [some (.ref m), none, none] [.int v37] (md_H G B m S37) _
  refine q_bipush (v := 36) dX13_readQuery_40 (by decide) ?_
  refine q_icmp_eq (tgt := 52) dX13_readQuery_42 (by decide) (fun c42 => ?_) (fun c42 => ?_)
  ·
    have hq := md_pos c42 hq
    refine q_aload_n dX13_readQuery_52 rfl ?_
    refine q_iconst (v := 0) dX13_readQuery_53 (by decide) ?_
    refine q_aload_n dX13_readQuery_54 rfl ?_
    refine q_iconst (v := 1) dX13_readQuery_55 (by decide) ?_
    obtain ⟨v56, S56, e56, hq⟩ := md_b_e hq
    refine q_cV (Y := mX13_newPath) (As := [.int 1]) (st := [.int 0, .ref m]) (b := m) (ci := 15) vc_X13_newPath dX13_readQuery_56 ml_RX13_352 rfl md_obj rfl (Nat.le_of_ble_eq_true rfl) rfl (Nat.le_of_ble_eq_true rfl) (ro_newPath (d := d + 5) hG hm e56) (fun v h1 hq1 => ?_) (fun E h1 hq1 => md_nQ hq1)
    obtain ⟨hv, rfl⟩ := hq1
    cases hv
    show mv_rq l G mX13_readQuery (d + 6) 59 [some (.ref m), none, none] [.int v56, .int 0, .ref m] (md_H G B m S56) _
    refine q_iconst (v := 0) dX13_readQuery_59 (by decide) ?_
    obtain ⟨S60, e60, hq⟩ := md_c_e hq
    refine q_cV (Y := mX13_push) (As := [.int 0, .int v56, .int 0]) (st := []) (b := m) (ci := 15) vc_X13_push dX13_readQuery_60 ml_RX13_326 rfl md_obj rfl (Nat.le_of_ble_eq_true rfl) rfl (Nat.le_of_ble_eq_true rfl) (ro_push (d := d + 5) hG hm e60) (fun v h1 hq1 => ?_) (fun E h1 hq1 => md_nV hq1)
    obtain ⟨hv, rfl⟩ := hq1
    cases hv
    show mv_rq l G mX13_readQuery (d + 6) 63 [some (.ref m), none, none] [] (md_H G B m S60) _
    refine mv_weak (A := [some (.ref m), none, none]) (by repeat' constructor) ?_
    exact ro_readQuery_l63 hG hm N hq
  ·
    have hq := md_neg c42 hq
    refine q_aload_n dX13_readQuery_45 rfl ?_
    refine q_iconst (v := 0) dX13_readQuery_46 (by decide) ?_
    obtain ⟨S47, e47, hq⟩ := md_c_e hq
    refine q_cV (Y := mX13_fail) (As := [.int 0]) (st := []) (b := m) (ci := 15) vc_X13_fail dX13_readQuery_47 ml_RX13_216 rfl md_obj rfl (Nat.le_of_ble_eq_true rfl) rfl (Nat.le_of_ble_eq_true rfl) (ro_fail (d := d + 4) hG hm e47) (fun v h1 hq1 => ?_) (fun E h1 hq1 => md_nV hq1)
    obtain ⟨hv, rfl⟩ := hq1
    cases hv
    show mv_rq l G mX13_readQuery (d + 6) 50 [some (.ref m), none, none] [] (md_H G B m S47) _
    refine q_iconst (v := 0) dX13_readQuery_50 (by decide) ?_
    obtain rfl := Option.some.inj hq
    exact q_iret (ty := .int) dX13_readQuery_51 rfl rfl ⟨rfl, rfl⟩
def mo_query_l62 (N : Nat) : Nat → Int32 → Int32 → Int32 → md_S → Option (Int32 × md_S)
  | 0, _, _, _, _ => none
  | n + 1, x1, x2, x3, S =>
    if x1 ≤ x3 then
      md_l (md_p S 25 x1) fun S87 =>
      md_l (md_p S87 24 1) fun S92 =>
      some (x2, S92)
    else
      if md_in x3 160 then
      if md_in x3 160 then
      md_l (md_w S 32 x3.toNatClampNeg (vp_nar .byte (S.2 4 x3.toNatClampNeg))) fun S78 =>
      mo_query_l62 N n x1 x2 (x3 + 1) S78
      else none
      else none
theorem ro_query_l62 {l : Launch} {G : mv_G} {B : mv_H} {m N d : Nat} (hG : mv_ok G) (hm : G.2.2.1 ≤ m) : ∀ n : Nat, ∀ {x1 : Int32} {x2 : Int32} {x3 : Int32} {S : md_S} {q : (Int32 × md_S)}, mo_query_l62 N n x1 x2 x3 S = some q → mv_rq l G mX13_query (d + 7) 62 [some (.ref m), some (.int x1), some (.int x2), some (.int x3)] [] (md_H G B m S) (md_Q G B m q)
  | 0, _, _, _, _, _, hq => nomatch hq
  | n + 1, x1, x2, x3, S, q, hq => by
    rw [mo_query_l62] at hq
    refine q_iload_n dX13_query_62 rfl ?_
    refine q_iload_n dX13_query_63 rfl ?_
    refine q_icmp_ge (tgt := 85) dX13_query_64 (by decide) (fun c64 => ?_) (fun c64 => ?_)
    ·
      have hq := md_pos c64 hq
      refine q_aload_n dX13_query_85 rfl ?_
      refine q_iload_n dX13_query_86 rfl ?_
      refine r_puti 25 .int dX13_query_87 fl_RX13_409 (by decide) rfl ki_25 rfl kp_25 rfl rfl hm (fun S87 e87 => ?_)
      have hq := md_l_e e87 hq
      clear e87
      show mv_rq l G mX13_query (d + 7) 90 [some (.ref m), some (.int x1), some (.int x2), some (.int x3)] [] (md_H G B m S87) _
      refine q_aload_n dX13_query_90 rfl ?_
      refine q_iconst (v := 1) dX13_query_91 (by decide) ?_
      refine r_puti 24 .boolean dX13_query_92 fl_RX13_412 (by decide) rfl ki_24 rfl kp_24 rfl rfl hm (fun S92 e92 => ?_)
      have hq := md_l_e e92 hq
      clear e92
      show mv_rq l G mX13_query (d + 7) 95 [some (.ref m), some (.int x1), some (.int x2), some (.int x3)] [] (md_H G B m S92) _
      refine q_iload_n dX13_query_95 rfl ?_
      obtain rfl := Option.some.inj hq
      exact q_iret (ty := .int) dX13_query_96 rfl rfl ⟨rfl, rfl⟩
    ·
      have hq := md_neg c64 hq
      refine q_aload_n dX13_query_67 rfl ?_
      refine r_geta 32 dX13_query_68 fl_RX13_51 (by decide) rfl kk_32 ?_
      refine q_iload_n dX13_query_71 rfl ?_
      refine q_aload_n dX13_query_72 rfl ?_
      refine r_geta 4 dX13_query_73 fl_RX13_17 (by decide) rfl kk_4 ?_
      refine q_iload_n dX13_query_76 rfl ?_
      obtain ⟨g77, hq⟩ := md_g hq
      refine r_bald hG 4 dX13_query_77 kk_4 g77 ?_
      obtain ⟨g78, hq⟩ := md_g hq
      refine r_bast hG hm 32 dX13_query_78 kk_32 g78 (fun S78 e78 => ?_)
      have hq := md_l_e e78 hq
      clear e78
      show mv_rq l G mX13_query (d + 7) 79 [some (.ref m), some (.int x1), some (.int x2), some (.int x3)] [] (md_H G B m S78) _
      refine q_iinc dX13_query_79 rfl rfl ?_
      show mv_rq l G mX13_query (d + 7) 82 [some (.ref m), some (.int x1), some (.int x2), some (.int (x3 + 1))] [] (md_H G B m S78) _
      refine q_goto (tgt := 62) dX13_query_82 (by decide) ?_
      refine mv_weak (A := [some (.ref m), some (.int x1), some (.int x2), some (.int (x3 + 1))]) (by repeat' constructor) ?_
      exact ro_query_l62 hG hm n hq
def mo_query_j48 (N : Nat) (x1 : Int32) (x2 : Int32) (y0 : Int32) (S : md_S) : Option (Int32 × md_S) :=
  md_l (md_p S 0 y0) fun S48 =>
  md_b (mo_good S48) fun v52 S52 =>
  if v52 = 0 then
    some (0, S52)
  else
    mo_query_l62 N N x1 x2 0 S52
theorem ro_query_j48 {l : Launch} {G : mv_G} {B : mv_H} {m N d : Nat} (hG : mv_ok G) (hm : G.2.2.1 ≤ m) {x1 : Int32} {x2 : Int32} {y0 : Int32} {S : md_S} {q : (Int32 × md_S)} (hq : mo_query_j48 N x1 x2 y0 S = some q) : mv_rq l G mX13_query (d + 7) 48 [some (.ref m), some (.int x1), some (.int x2), none] [.int y0, .ref m] (md_H G B m S) (md_Q G B m q) := by
  unfold mo_query_j48 at hq
  refine r_puti 0 .int dX13_query_48 fl_RX13_193 (by decide) rfl ki_0 rfl kp_0 rfl rfl hm (fun S48 e48 => ?_)
  have hq := md_l_e e48 hq
  clear e48
  show mv_rq l G mX13_query (d + 7) 51 [some (.ref m), some (.int x1), some (.int x2), none] [] (md_H G B m S48) _
  refine q_aload_n dX13_query_51 rfl ?_
  obtain ⟨v52, S52, e52, hq⟩ := md_b_e hq
  refine q_cV (Y := mX13_good) (As := []) (st := []) (b := m) (ci := 15) vc_X13_good dX13_query_52 ml_RX13_208 rfl md_obj rfl (Nat.le_of_ble_eq_true rfl) rfl (Nat.le_of_ble_eq_true rfl) (ro_good (d := d + 6) hG hm e52) (fun v h1 hq1 => ?_) (fun E h1 hq1 => md_nQ hq1)
  obtain ⟨hv, rfl⟩ := hq1
  cases hv
  show mv_rq l G mX13_query (d + 7) 55 [some (.ref m), some (.int x1), some (.int x2), none] [.int v52] (md_H G B m S52) _
  refine q_if_ne (tgt := 60) dX13_query_55 (by decide) (fun c55 => ?_) (fun c55 => ?_)
  ·
    have hq := md_neg c55 hq
    refine q_iconst (v := 0) dX13_query_60 (by decide) ?_
    refine q_istore_n dX13_query_61 (Nat.le_of_ble_eq_true rfl) rfl ?_
    show mv_rq l G mX13_query (d + 7) 62 [some (.ref m), some (.int x1), some (.int x2), some (.int 0)] [] (md_H G B m S52) _
    refine mv_weak (A := [some (.ref m), some (.int x1), some (.int x2), some (.int 0)]) (by repeat' constructor) ?_
    exact ro_query_l62 hG hm N hq
  ·
    have hq := md_pos c55 hq
    refine q_iconst (v := 0) dX13_query_58 (by decide) ?_
    obtain rfl := Option.some.inj hq
    exact q_iret (ty := .int) dX13_query_59 rfl rfl ⟨rfl, rfl⟩
def mo_query (N : Nat) (S : md_S) : Option (Int32 × md_S) :=
  md_c (mo_take N 1 (S.1 2) S) fun S9 =>
  md_l (md_p S9 2 0) fun S19 =>
  md_b (mo_readQuery N S19) fun v23 S23 =>
  md_l (md_p S23 3 (S23.1 7)) fun S32 =>
  md_b (mo_good S32) fun v37 S37 =>
  if v37 = 0 then
    mo_query_j48 N (S9.1 2) v23 1 S37
  else
    mo_query_j48 N (S9.1 2) v23 0 S37
theorem ro_query {l : Launch} {G : mv_G} {B : mv_H} {m N d : Nat} (hG : mv_ok G) (hm : G.2.2.1 ≤ m) {S : md_S} {q : (Int32 × md_S)} (hq : mo_query N S = some q) : mv_rq l G mX13_query (d + 7) 0 (mv_in [.ref m] 4) [] (md_H G B m S) (md_Q G B m q) := by
  unfold mo_query at hq
  show mv_rq l G mX13_query (d + 7) 0 [some (.ref m), none, none, none] [] (md_H G B m S) _
  refine q_aload_n dX13_query_0 rfl ?_
  refine q_aload_n dX13_query_1 rfl ?_
  refine r_geta 1 dX13_query_2 fl_RX13_7 (by decide) rfl kk_1 ?_
  refine q_aload_n dX13_query_5 rfl ?_
  refine r_geti 2 dX13_query_6 fl_RX13_196 (by decide) rfl ki_2 ?_
  obtain ⟨S9, e9, hq⟩ := md_c_e hq
  refine q_cV (Y := mX13_take) (As := [.ref (m + md_ad 1), .int (S.1 2)]) (st := []) (b := m) (ci := 15) vc_X13_take dX13_query_9 ml_RX13_290 rfl md_obj rfl (Nat.le_of_ble_eq_true rfl) rfl (Nat.le_of_ble_eq_true rfl) (ro_take (d := d + 6) hG hm e9) (fun v h1 hq1 => ?_) (fun E h1 hq1 => md_nV hq1)
  obtain ⟨hv, rfl⟩ := hq1
  cases hv
  show mv_rq l G mX13_query (d + 7) 12 [some (.ref m), none, none, none] [] (md_H G B m S9) _
  refine q_aload_n dX13_query_12 rfl ?_
  refine r_geti 2 dX13_query_13 fl_RX13_196 (by decide) rfl ki_2 ?_
  refine q_istore_n dX13_query_16 (Nat.le_of_ble_eq_true rfl) rfl ?_
  show mv_rq l G mX13_query (d + 7) 17 [some (.ref m), some (.int (S9.1 2)), none, none] [] (md_H G B m S9) _
  refine q_aload_n dX13_query_17 rfl ?_
  refine q_iconst (v := 0) dX13_query_18 (by decide) ?_
  refine r_puti 2 .int dX13_query_19 fl_RX13_196 (by decide) rfl ki_2 rfl kp_2 rfl rfl hm (fun S19 e19 => ?_)
  have hq := md_l_e e19 hq
  clear e19
  show mv_rq l G mX13_query (d + 7) 22 [some (.ref m), some (.int (S9.1 2)), none, none] [] (md_H G B m S19) _
  refine q_aload_n dX13_query_22 rfl ?_
  obtain ⟨v23, S23, e23, hq⟩ := md_b_e hq
  refine q_cV (Y := mX13_readQuery) (As := []) (st := []) (b := m) (ci := 15) vc_X13_readQuery dX13_query_23 ml_RX13_406 rfl md_obj rfl (Nat.le_of_ble_eq_true rfl) rfl (Nat.le_of_ble_eq_true rfl) (ro_readQuery (d := d) hG hm e23) (fun v h1 hq1 => ?_) (fun E h1 hq1 => md_nQ hq1)
  obtain ⟨hv, rfl⟩ := hq1
  cases hv
  show mv_rq l G mX13_query (d + 7) 26 [some (.ref m), some (.int (S9.1 2)), none, none] [.int v23] (md_H G B m S23) _
  refine q_istore_n dX13_query_26 (Nat.le_of_ble_eq_true rfl) rfl ?_
  show mv_rq l G mX13_query (d + 7) 27 [some (.ref m), some (.int (S9.1 2)), some (.int v23), none] [] (md_H G B m S23) _
  refine q_aload_n dX13_query_27 rfl ?_
  refine q_aload_n dX13_query_28 rfl ?_
  refine r_geti 7 dX13_query_29 fl_RX13_205 (by decide) rfl ki_7 ?_
  refine r_puti 3 .int dX13_query_32 fl_RX13_13 (by decide) rfl ki_3 rfl kp_3 rfl rfl hm (fun S32 e32 => ?_)
  have hq := md_l_e e32 hq
  clear e32
  show mv_rq l G mX13_query (d + 7) 35 [some (.ref m), some (.int (S9.1 2)), some (.int v23), none] [] (md_H G B m S32) _
  refine q_aload_n dX13_query_35 rfl ?_
  refine q_aload_n dX13_query_36 rfl ?_
  obtain ⟨v37, S37, e37, hq⟩ := md_b_e hq
  refine q_cV (Y := mX13_good) (As := []) (st := [.ref m]) (b := m) (ci := 15) vc_X13_good dX13_query_37 ml_RX13_208 rfl md_obj rfl (Nat.le_of_ble_eq_true rfl) rfl (Nat.le_of_ble_eq_true rfl) (ro_good (d := d + 6) hG hm e37) (fun v h1 hq1 => ?_) (fun E h1 hq1 => md_nQ hq1)
  obtain ⟨hv, rfl⟩ := hq1
  cases hv
  show mv_rq l G mX13_query (d + 7) 40 [some (.ref m), some (.int (S9.1 2)), some (.int v23), none] [.int v37, .ref m] (md_H G B m S37) _
  refine q_if_eq (tgt := 47) dX13_query_40 (by decide) (fun c40 => ?_) (fun c40 => ?_)
  ·
    have hq := md_pos c40 hq
    refine q_iconst (v := 1) dX13_query_47 (by decide) ?_
    refine mv_weak (A := [some (.ref m), some (.int (S9.1 2)), some (.int v23), none]) (by repeat' constructor) ?_
    exact ro_query_j48 hG hm hq
  ·
    have hq := md_neg c40 hq
    refine q_iconst (v := 0) dX13_query_43 (by decide) ?_
    refine q_goto (tgt := 48) dX13_query_44 (by decide) ?_
    refine mv_weak (A := [some (.ref m), some (.int (S9.1 2)), some (.int v23), none]) (by repeat' constructor) ?_
    exact ro_query_j48 hG hm hq
def mo_stepOp_j129 (N : Nat) (y0 : Int32) (y1 : Int32) (S : md_S) : Option md_S :=
  md_c (mo_enter y1 y0 1 S) fun S130 =>
  some S130
theorem ro_stepOp_j129 {l : Launch} {G : mv_G} {B : mv_H} {m N d : Nat} (hG : mv_ok G) (hm : G.2.2.1 ≤ m) {y0 : Int32} {y1 : Int32} {S : md_S} {q : md_S} (hq : mo_stepOp_j129 N y0 y1 S = some q) : mv_rq l G mX13_stepOp (d + 6) 129 [none, none, none, none] [.int y0, .int y1, .ref m] (md_H G B m S) (md_V G B m q) := by
  unfold mo_stepOp_j129 at hq
  refine q_iconst (v := 1) dX13_stepOp_129 (by decide) ?_
  obtain ⟨S130, e130, hq⟩ := md_c_e hq
  refine q_cV (Y := mX13_enter) (As := [.int y1, .int y0, .int 1]) (st := []) (b := m) (ci := 15) vc_X13_enter dX13_stepOp_130 ml_RX13_459 rfl md_obj rfl (Nat.le_of_ble_eq_true rfl) rfl (Nat.le_of_ble_eq_true rfl) (ro_enter (d := d + 5) hG hm e130) (fun v h1 hq1 => ?_) (fun E h1 hq1 => md_nV hq1)
  obtain ⟨hv, rfl⟩ := hq1
  cases hv
  show mv_rq l G mX13_stepOp (d + 6) 133 [none, none, none, none] [] (md_H G B m S130) _
  refine q_goto (tgt := 256) dX13_stepOp_133 (by decide) ?_
  obtain rfl := Option.some.inj hq
  exact q_vret dX13_stepOp_256 rfl ⟨rfl, rfl⟩
def mo_stepOp_j185 (N : Nat) (y0 : Int32) (y1 : Int32) (S : md_S) : Option md_S :=
  md_c (mo_enter y1 y0 3 S) fun S186 =>
  some S186
theorem ro_stepOp_j185 {l : Launch} {G : mv_G} {B : mv_H} {m N d : Nat} (hG : mv_ok G) (hm : G.2.2.1 ≤ m) {y0 : Int32} {y1 : Int32} {S : md_S} {q : md_S} (hq : mo_stepOp_j185 N y0 y1 S = some q) : mv_rq l G mX13_stepOp (d + 6) 185 [none, none, none, none] [.int y0, .int y1, .ref m] (md_H G B m S) (md_V G B m q) := by
  unfold mo_stepOp_j185 at hq
  refine q_iconst (v := 3) dX13_stepOp_185 (by decide) ?_
  obtain ⟨S186, e186, hq⟩ := md_c_e hq
  refine q_cV (Y := mX13_enter) (As := [.int y1, .int y0, .int 3]) (st := []) (b := m) (ci := 15) vc_X13_enter dX13_stepOp_186 ml_RX13_459 rfl md_obj rfl (Nat.le_of_ble_eq_true rfl) rfl (Nat.le_of_ble_eq_true rfl) (ro_enter (d := d + 5) hG hm e186) (fun v h1 hq1 => ?_) (fun E h1 hq1 => md_nV hq1)
  obtain ⟨hv, rfl⟩ := hq1
  cases hv
  show mv_rq l G mX13_stepOp (d + 6) 189 [none, none, none, none] [] (md_H G B m S186) _
  refine q_goto (tgt := 256) dX13_stepOp_189 (by decide) ?_
  obtain rfl := Option.some.inj hq
  exact q_vret dX13_stepOp_256 rfl ⟨rfl, rfl⟩
def mo_stepOp_j157 (N : Nat) (y0 : Int32) (y1 : Int32) (S : md_S) : Option md_S :=
  md_c (mo_enter y1 y0 2 S) fun S158 =>
  some S158
theorem ro_stepOp_j157 {l : Launch} {G : mv_G} {B : mv_H} {m N d : Nat} (hG : mv_ok G) (hm : G.2.2.1 ≤ m) {y0 : Int32} {y1 : Int32} {S : md_S} {q : md_S} (hq : mo_stepOp_j157 N y0 y1 S = some q) : mv_rq l G mX13_stepOp (d + 6) 157 [none, none, none, none] [.int y0, .int y1, .ref m] (md_H G B m S) (md_V G B m q) := by
  unfold mo_stepOp_j157 at hq
  refine q_iconst (v := 2) dX13_stepOp_157 (by decide) ?_
  obtain ⟨S158, e158, hq⟩ := md_c_e hq
  refine q_cV (Y := mX13_enter) (As := [.int y1, .int y0, .int 2]) (st := []) (b := m) (ci := 15) vc_X13_enter dX13_stepOp_158 ml_RX13_459 rfl md_obj rfl (Nat.le_of_ble_eq_true rfl) rfl (Nat.le_of_ble_eq_true rfl) (ro_enter (d := d + 5) hG hm e158) (fun v h1 hq1 => ?_) (fun E h1 hq1 => md_nV hq1)
  obtain ⟨hv, rfl⟩ := hq1
  cases hv
  show mv_rq l G mX13_stepOp (d + 6) 161 [none, none, none, none] [] (md_H G B m S158) _
  refine q_goto (tgt := 256) dX13_stepOp_161 (by decide) ?_
  obtain rfl := Option.some.inj hq
  exact q_vret dX13_stepOp_256 rfl ⟨rfl, rfl⟩
def mo_stepOp_j30 (N : Nat) (x1 : Int32) (S : md_S) : Option md_S :=
  if md_in x1 8 then
  md_l (md_w S 62 x1.toNatClampNeg 3) fun S36 =>
  some S36
  else none
theorem ro_stepOp_j30 {l : Launch} {G : mv_G} {B : mv_H} {m N d : Nat} (hG : mv_ok G) (hm : G.2.2.1 ≤ m) {x1 : Int32} {S : md_S} {q : md_S} (hq : mo_stepOp_j30 N x1 S = some q) : mv_rq l G mX13_stepOp (d + 6) 30 [some (.ref m), some (.int x1), none, none] [] (md_H G B m S) (md_V G B m q) := by
  unfold mo_stepOp_j30 at hq
  refine q_aload_n dX13_stepOp_30 rfl ?_
  refine r_geta 62 dX13_stepOp_31 fl_RX13_130 (by decide) rfl kk_62 ?_
  refine q_iload_n dX13_stepOp_34 rfl ?_
  refine q_iconst (v := 3) dX13_stepOp_35 (by decide) ?_
  obtain ⟨g36, hq⟩ := md_g hq
  refine r_iast hG hm 62 dX13_stepOp_36 kk_62 g36 (fun S36 e36 => ?_)
  have hq := md_l_e e36 hq
  clear e36
  show mv_rq l G mX13_stepOp (d + 6) 37 [some (.ref m), some (.int x1), none, none] [] (md_H G B m S36) _
  obtain rfl := Option.some.inj hq
  exact q_vret dX13_stepOp_37 rfl ⟨rfl, rfl⟩
def mo_stepOp (N : Nat) (x1 : Int32) (S : md_S) : Option md_S :=
  if md_in x1 8 then
  if (S.2 71 x1.toNatClampNeg) = (-1) then
    md_b (mo_takeTruth S) fun v13 S13 =>
    if v13 = 0 then
      mo_stepOp_j30 N x1 S13
    else
      if md_in x1 8 then
      md_c (mo_add x1 (S13.2 70 x1.toNatClampNeg) S13) fun S27 =>
      mo_stepOp_j30 N x1 S27
      else none
  else
    if md_in (S.2 71 x1.toNatClampNeg) 170 then
    if md_in x1 8 then
    md_l (md_w S 71 x1.toNatClampNeg (S.2 54 (S.2 71 x1.toNatClampNeg).toNatClampNeg)) fun S49 =>
    if md_in (S.2 71 x1.toNatClampNeg) 170 then
    if md_in (S.2 71 x1.toNatClampNeg) 170 then
    if (S49.2 51 (S.2 71 x1.toNatClampNeg).toNatClampNeg) = 0 then
      if md_in (S49.2 52 (S.2 71 x1.toNatClampNeg).toNatClampNeg) 100 then
      if (S49.2 36 (S49.2 52 (S.2 71 x1.toNatClampNeg).toNatClampNeg).toNatClampNeg) = 0 then
        if md_in x1 8 then
        mo_stepOp_j129 N (S49.2 70 x1.toNatClampNeg) (S49.2 52 (S.2 71 x1.toNatClampNeg).toNatClampNeg) S49
        else none
      else
        mo_stepOp_j129 N 0 (S49.2 52 (S.2 71 x1.toNatClampNeg).toNatClampNeg) S49
      else none
    else
    if (S49.2 51 (S.2 71 x1.toNatClampNeg).toNatClampNeg) = 1 then
      if md_in (S49.2 52 (S.2 71 x1.toNatClampNeg).toNatClampNeg) 100 then
      if (S49.2 36 (S49.2 52 (S.2 71 x1.toNatClampNeg).toNatClampNeg).toNatClampNeg) = 0 then
        if md_in x1 8 then
        mo_stepOp_j157 N (S49.2 70 x1.toNatClampNeg) (S49.2 52 (S.2 71 x1.toNatClampNeg).toNatClampNeg) S49
        else none
      else
        mo_stepOp_j157 N 0 (S49.2 52 (S.2 71 x1.toNatClampNeg).toNatClampNeg) S49
      else none
    else
    if (S49.2 51 (S.2 71 x1.toNatClampNeg).toNatClampNeg) = 2 then
      if md_in (S49.2 52 (S.2 71 x1.toNatClampNeg).toNatClampNeg) 100 then
      if (S49.2 36 (S49.2 52 (S.2 71 x1.toNatClampNeg).toNatClampNeg).toNatClampNeg) = 0 then
        if md_in x1 8 then
        mo_stepOp_j185 N (S49.2 70 x1.toNatClampNeg) (S49.2 52 (S.2 71 x1.toNatClampNeg).toNatClampNeg) S49
        else none
      else
        mo_stepOp_j185 N 0 (S49.2 52 (S.2 71 x1.toNatClampNeg).toNatClampNeg) S49
      else none
    else
    if (S49.2 51 (S.2 71 x1.toNatClampNeg).toNatClampNeg) = 3 then
      md_c (mo_lengthOf N S49) fun S193 =>
      some S193
    else
    if (S49.2 51 (S.2 71 x1.toNatClampNeg).toNatClampNeg) = 4 then
      md_c (mo_value 3 (S49.2 52 (S.2 71 x1.toNatClampNeg).toNatClampNeg) 0 S49) fun S203 =>
      some S203
    else
    if (S49.2 51 (S.2 71 x1.toNatClampNeg).toNatClampNeg) = 5 then
      if md_in (S.2 71 x1.toNatClampNeg) 170 then
      md_c (mo_value 4 (1000 + (S49.2 52 (S.2 71 x1.toNatClampNeg).toNatClampNeg)) (S49.2 53 (S.2 71 x1.toNatClampNeg).toNatClampNeg) S49) fun S222 =>
      some S222
      else none
    else
    if (S49.2 51 (S.2 71 x1.toNatClampNeg).toNatClampNeg) = 6 then
      md_c (mo_value (S49.2 52 (S.2 71 x1.toNatClampNeg).toNatClampNeg) (-1) 0 S49) fun S232 =>
      some S232
    else
    if (S49.2 51 (S.2 71 x1.toNatClampNeg).toNatClampNeg) = 7 then
      md_c (mo_compare N (S49.2 52 (S.2 71 x1.toNatClampNeg).toNatClampNeg) S49) fun S240 =>
      some S240
    else
      if md_in (S.2 71 x1.toNatClampNeg) 170 then
      md_c (mo_logic (S49.2 51 (S.2 71 x1.toNatClampNeg).toNatClampNeg) S49) fun S253 =>
      some S253
      else none
    else none
    else none
    else none
    else none
  else none
theorem ro_stepOp {l : Launch} {G : mv_G} {B : mv_H} {m N d : Nat} (hG : mv_ok G) (hm : G.2.2.1 ≤ m) {x1 : Int32} {S : md_S} {q : md_S} (hq : mo_stepOp N x1 S = some q) : mv_rq l G mX13_stepOp (d + 6) 0 (mv_in [.ref m, .int x1] 4) [] (md_H G B m S) (md_V G B m q) := by
  unfold mo_stepOp at hq
  show mv_rq l G mX13_stepOp (d + 6) 0 [some (.ref m), some (.int x1), none, none] [] (md_H G B m S) _
  refine q_aload_n dX13_stepOp_0 rfl ?_
  refine r_geta 71 dX13_stepOp_1 fl_RX13_157 (by decide) rfl kk_71 ?_
  refine q_iload_n dX13_stepOp_4 rfl ?_
  obtain ⟨g5, hq⟩ := md_g hq
  refine r_iald hG 71 dX13_stepOp_5 kk_71 g5 ?_
  refine q_istore_n dX13_stepOp_6 (Nat.le_of_ble_eq_true rfl) rfl ?_
  show mv_rq l G mX13_stepOp (d + 6) 7 [some (.ref m), some (.int x1), some (.int (S.2 71 x1.toNatClampNeg)), none] [] (md_H G B m S) _
  refine q_iload_n dX13_stepOp_7 rfl ?_
  refine q_iconst (v := (-1)) dX13_stepOp_8 (by decide) ?_
  refine q_icmp_ne (tgt := 38) dX13_stepOp_9 (by decide) (fun c9 => ?_) (fun c9 => ?_)
  ·
    have hq := md_neg c9 hq
    refine q_aload_n dX13_stepOp_38 rfl ?_
    refine r_geta 71 dX13_stepOp_39 fl_RX13_157 (by decide) rfl kk_71 ?_
    refine q_iload_n dX13_stepOp_42 rfl ?_
    refine q_aload_n dX13_stepOp_43 rfl ?_
    refine r_geta 54 dX13_stepOp_44 fl_RX13_118 (by decide) rfl kk_54 ?_
    refine q_iload_n dX13_stepOp_47 rfl ?_
    obtain ⟨g48, hq⟩ := md_g hq
    refine r_iald hG 54 dX13_stepOp_48 kk_54 g48 ?_
    obtain ⟨g49, hq⟩ := md_g hq
    refine r_iast hG hm 71 dX13_stepOp_49 kk_71 g49 (fun S49 e49 => ?_)
    have hq := md_l_e e49 hq
    clear e49
    show mv_rq l G mX13_stepOp (d + 6) 50 [some (.ref m), some (.int x1), some (.int (S.2 71 x1.toNatClampNeg)), none] [] (md_H G B m S49) _
    refine q_aload_n dX13_stepOp_50 rfl ?_
    refine r_geta 52 dX13_stepOp_51 fl_RX13_112 (by decide) rfl kk_52 ?_
    refine q_iload_n dX13_stepOp_54 rfl ?_
    obtain ⟨g55, hq⟩ := md_g hq
    refine r_iald hG 52 dX13_stepOp_55 kk_52 g55 ?_
    refine q_istore_n dX13_stepOp_56 (Nat.le_of_ble_eq_true rfl) rfl ?_
    show mv_rq l G mX13_stepOp (d + 6) 57 [some (.ref m), some (.int x1), some (.int (S.2 71 x1.toNatClampNeg)), some (.int (S49.2 52 (S.2 71 x1.toNatClampNeg).toNatClampNeg))] [] (md_H G B m S49) _
    refine q_aload_n dX13_stepOp_57 rfl ?_
    refine r_geta 51 dX13_stepOp_58 fl_RX13_109 (by decide) rfl kk_51 ?_
    refine q_iload_n dX13_stepOp_61 rfl ?_
    obtain ⟨g62, hq⟩ := md_g hq
    refine r_iald hG 51 dX13_stepOp_62 kk_51 g62 ?_
    by_cases c63_0 : (S49.2 51 (S.2 71 x1.toNatClampNeg).toNatClampNeg) = 0
    ·
      have hq := md_pos c63_0 hq
      have t63 := md_ti (i := 0) (by decide) c63_0
      refine q_tableIn (off := 45) (tgt := 108) dX13_stepOp_63 (by rw [t63]; decide) (by rw [t63]; decide) (by rw [t63]; rfl) (by decide) ?_
      refine q_aload_n dX13_stepOp_108 rfl ?_
      refine q_iload_n dX13_stepOp_109 rfl ?_
      refine q_aload_n dX13_stepOp_110 rfl ?_
      refine r_geta 36 dX13_stepOp_111 fl_RX13_63 (by decide) rfl kk_36 ?_
      refine q_iload_n dX13_stepOp_114 rfl ?_
      obtain ⟨g115, hq⟩ := md_g hq
      refine r_zald hG 36 dX13_stepOp_115 kk_36 g115 ?_
      refine q_if_eq (tgt := 123) dX13_stepOp_116 (by decide) (fun c116 => ?_) (fun c116 => ?_)
      ·
        have hq := md_pos c116 hq
        refine q_aload_n dX13_stepOp_123 rfl ?_
        refine r_geta 70 dX13_stepOp_124 fl_RX13_154 (by decide) rfl kk_70 ?_
        refine q_iload_n dX13_stepOp_127 rfl ?_
        obtain ⟨g128, hq⟩ := md_g hq
        refine r_iald hG 70 dX13_stepOp_128 kk_70 g128 ?_
        refine mv_weak (A := [none, none, none, none]) (by repeat' constructor) ?_
        exact ro_stepOp_j129 hG hm hq
      ·
        have hq := md_neg c116 hq
        refine q_iconst (v := 0) dX13_stepOp_119 (by decide) ?_
        refine q_goto (tgt := 129) dX13_stepOp_120 (by decide) ?_
        refine mv_weak (A := [none, none, none, none]) (by repeat' constructor) ?_
        exact ro_stepOp_j129 hG hm hq
    ·
      have hq := md_neg c63_0 hq
      by_cases c63_1 : (S49.2 51 (S.2 71 x1.toNatClampNeg).toNatClampNeg) = 1
      ·
        have hq := md_pos c63_1 hq
        have t63 := md_ti (i := 1) (by decide) c63_1
        refine q_tableIn (off := 73) (tgt := 136) dX13_stepOp_63 (by rw [t63]; decide) (by rw [t63]; decide) (by rw [t63]; rfl) (by decide) ?_
        refine q_aload_n dX13_stepOp_136 rfl ?_
        refine q_iload_n dX13_stepOp_137 rfl ?_
        refine q_aload_n dX13_stepOp_138 rfl ?_
        refine r_geta 36 dX13_stepOp_139 fl_RX13_63 (by decide) rfl kk_36 ?_
        refine q_iload_n dX13_stepOp_142 rfl ?_
        obtain ⟨g143, hq⟩ := md_g hq
        refine r_zald hG 36 dX13_stepOp_143 kk_36 g143 ?_
        refine q_if_eq (tgt := 151) dX13_stepOp_144 (by decide) (fun c144 => ?_) (fun c144 => ?_)
        ·
          have hq := md_pos c144 hq
          refine q_aload_n dX13_stepOp_151 rfl ?_
          refine r_geta 70 dX13_stepOp_152 fl_RX13_154 (by decide) rfl kk_70 ?_
          refine q_iload_n dX13_stepOp_155 rfl ?_
          obtain ⟨g156, hq⟩ := md_g hq
          refine r_iald hG 70 dX13_stepOp_156 kk_70 g156 ?_
          refine mv_weak (A := [none, none, none, none]) (by repeat' constructor) ?_
          exact ro_stepOp_j157 hG hm hq
        ·
          have hq := md_neg c144 hq
          refine q_iconst (v := 0) dX13_stepOp_147 (by decide) ?_
          refine q_goto (tgt := 157) dX13_stepOp_148 (by decide) ?_
          refine mv_weak (A := [none, none, none, none]) (by repeat' constructor) ?_
          exact ro_stepOp_j157 hG hm hq
      ·
        have hq := md_neg c63_1 hq
        by_cases c63_2 : (S49.2 51 (S.2 71 x1.toNatClampNeg).toNatClampNeg) = 2
        ·
          have hq := md_pos c63_2 hq
          have t63 := md_ti (i := 2) (by decide) c63_2
          refine q_tableIn (off := 101) (tgt := 164) dX13_stepOp_63 (by rw [t63]; decide) (by rw [t63]; decide) (by rw [t63]; rfl) (by decide) ?_
          refine q_aload_n dX13_stepOp_164 rfl ?_
          refine q_iload_n dX13_stepOp_165 rfl ?_
          refine q_aload_n dX13_stepOp_166 rfl ?_
          refine r_geta 36 dX13_stepOp_167 fl_RX13_63 (by decide) rfl kk_36 ?_
          refine q_iload_n dX13_stepOp_170 rfl ?_
          obtain ⟨g171, hq⟩ := md_g hq
          refine r_zald hG 36 dX13_stepOp_171 kk_36 g171 ?_
          refine q_if_eq (tgt := 179) dX13_stepOp_172 (by decide) (fun c172 => ?_) (fun c172 => ?_)
          ·
            have hq := md_pos c172 hq
            refine q_aload_n dX13_stepOp_179 rfl ?_
            refine r_geta 70 dX13_stepOp_180 fl_RX13_154 (by decide) rfl kk_70 ?_
            refine q_iload_n dX13_stepOp_183 rfl ?_
            obtain ⟨g184, hq⟩ := md_g hq
            refine r_iald hG 70 dX13_stepOp_184 kk_70 g184 ?_
            refine mv_weak (A := [none, none, none, none]) (by repeat' constructor) ?_
            exact ro_stepOp_j185 hG hm hq
          ·
            have hq := md_neg c172 hq
            refine q_iconst (v := 0) dX13_stepOp_175 (by decide) ?_
            refine q_goto (tgt := 185) dX13_stepOp_176 (by decide) ?_
            refine mv_weak (A := [none, none, none, none]) (by repeat' constructor) ?_
            exact ro_stepOp_j185 hG hm hq
        ·
          have hq := md_neg c63_2 hq
          by_cases c63_3 : (S49.2 51 (S.2 71 x1.toNatClampNeg).toNatClampNeg) = 3
          ·
            have hq := md_pos c63_3 hq
            have t63 := md_ti (i := 3) (by decide) c63_3
            refine q_tableIn (off := 129) (tgt := 192) dX13_stepOp_63 (by rw [t63]; decide) (by rw [t63]; decide) (by rw [t63]; rfl) (by decide) ?_
            refine q_aload_n dX13_stepOp_192 rfl ?_
            obtain ⟨S193, e193, hq⟩ := md_c_e hq
            refine q_cV (Y := mX13_lengthOf) (As := []) (st := []) (b := m) (ci := 15) vc_X13_lengthOf dX13_stepOp_193 ml_RX13_462 rfl md_obj rfl (Nat.le_of_ble_eq_true rfl) rfl (Nat.le_of_ble_eq_true rfl) (ro_lengthOf (d := d + 4) hG hm e193) (fun v h1 hq1 => ?_) (fun E h1 hq1 => md_nV hq1)
            obtain ⟨hv, rfl⟩ := hq1
            cases hv
            show mv_rq l G mX13_stepOp (d + 6) 196 [some (.ref m), some (.int x1), some (.int (S.2 71 x1.toNatClampNeg)), some (.int (S49.2 52 (S.2 71 x1.toNatClampNeg).toNatClampNeg))] [] (md_H G B m S193) _
            refine q_goto (tgt := 256) dX13_stepOp_196 (by decide) ?_
            obtain rfl := Option.some.inj hq
            exact q_vret dX13_stepOp_256 rfl ⟨rfl, rfl⟩
          ·
            have hq := md_neg c63_3 hq
            by_cases c63_4 : (S49.2 51 (S.2 71 x1.toNatClampNeg).toNatClampNeg) = 4
            ·
              have hq := md_pos c63_4 hq
              have t63 := md_ti (i := 4) (by decide) c63_4
              refine q_tableIn (off := 136) (tgt := 199) dX13_stepOp_63 (by rw [t63]; decide) (by rw [t63]; decide) (by rw [t63]; rfl) (by decide) ?_
              refine q_aload_n dX13_stepOp_199 rfl ?_
              refine q_iconst (v := 3) dX13_stepOp_200 (by decide) ?_
              refine q_iload_n dX13_stepOp_201 rfl ?_
              refine q_iconst (v := 0) dX13_stepOp_202 (by decide) ?_
              obtain ⟨S203, e203, hq⟩ := md_c_e hq
              refine q_cV (Y := mX13_value) (As := [.int 3, .int (S49.2 52 (S.2 71 x1.toNatClampNeg).toNatClampNeg), .int 0]) (st := []) (b := m) (ci := 15) vc_X13_value dX13_stepOp_203 ml_RX13_443 rfl md_obj rfl (Nat.le_of_ble_eq_true rfl) rfl (Nat.le_of_ble_eq_true rfl) (ro_value (d := d + 5) hG hm e203) (fun v h1 hq1 => ?_) (fun E h1 hq1 => md_nV hq1)
              obtain ⟨hv, rfl⟩ := hq1
              cases hv
              show mv_rq l G mX13_stepOp (d + 6) 206 [some (.ref m), some (.int x1), some (.int (S.2 71 x1.toNatClampNeg)), some (.int (S49.2 52 (S.2 71 x1.toNatClampNeg).toNatClampNeg))] [] (md_H G B m S203) _
              refine q_goto (tgt := 256) dX13_stepOp_206 (by decide) ?_
              obtain rfl := Option.some.inj hq
              exact q_vret dX13_stepOp_256 rfl ⟨rfl, rfl⟩
            ·
              have hq := md_neg c63_4 hq
              by_cases c63_5 : (S49.2 51 (S.2 71 x1.toNatClampNeg).toNatClampNeg) = 5
              ·
                have hq := md_pos c63_5 hq
                have t63 := md_ti (i := 5) (by decide) c63_5
                refine q_tableIn (off := 146) (tgt := 209) dX13_stepOp_63 (by rw [t63]; decide) (by rw [t63]; decide) (by rw [t63]; rfl) (by decide) ?_
                refine q_aload_n dX13_stepOp_209 rfl ?_
                refine q_iconst (v := 4) dX13_stepOp_210 (by decide) ?_
                refine q_sipush (v := 1000) dX13_stepOp_211 (by decide) ?_
                refine q_iload_n dX13_stepOp_214 rfl ?_
                refine q_iadd dX13_stepOp_215 ?_
                refine q_aload_n dX13_stepOp_216 rfl ?_
                refine r_geta 53 dX13_stepOp_217 fl_RX13_115 (by decide) rfl kk_53 ?_
                refine q_iload_n dX13_stepOp_220 rfl ?_
                obtain ⟨g221, hq⟩ := md_g hq
                refine r_iald hG 53 dX13_stepOp_221 kk_53 g221 ?_
                obtain ⟨S222, e222, hq⟩ := md_c_e hq
                refine q_cV (Y := mX13_value) (As := [.int 4, .int (1000 + (S49.2 52 (S.2 71 x1.toNatClampNeg).toNatClampNeg)), .int (S49.2 53 (S.2 71 x1.toNatClampNeg).toNatClampNeg)]) (st := []) (b := m) (ci := 15) vc_X13_value dX13_stepOp_222 ml_RX13_443 rfl md_obj rfl (Nat.le_of_ble_eq_true rfl) rfl (Nat.le_of_ble_eq_true rfl) (ro_value (d := d + 5) hG hm e222) (fun v h1 hq1 => ?_) (fun E h1 hq1 => md_nV hq1)
                obtain ⟨hv, rfl⟩ := hq1
                cases hv
                show mv_rq l G mX13_stepOp (d + 6) 225 [some (.ref m), some (.int x1), some (.int (S.2 71 x1.toNatClampNeg)), some (.int (S49.2 52 (S.2 71 x1.toNatClampNeg).toNatClampNeg))] [] (md_H G B m S222) _
                refine q_goto (tgt := 256) dX13_stepOp_225 (by decide) ?_
                obtain rfl := Option.some.inj hq
                exact q_vret dX13_stepOp_256 rfl ⟨rfl, rfl⟩
              ·
                have hq := md_neg c63_5 hq
                by_cases c63_6 : (S49.2 51 (S.2 71 x1.toNatClampNeg).toNatClampNeg) = 6
                ·
                  have hq := md_pos c63_6 hq
                  have t63 := md_ti (i := 6) (by decide) c63_6
                  refine q_tableIn (off := 165) (tgt := 228) dX13_stepOp_63 (by rw [t63]; decide) (by rw [t63]; decide) (by rw [t63]; rfl) (by decide) ?_
                  refine q_aload_n dX13_stepOp_228 rfl ?_
                  refine q_iload_n dX13_stepOp_229 rfl ?_
                  refine q_iconst (v := (-1)) dX13_stepOp_230 (by decide) ?_
                  refine q_iconst (v := 0) dX13_stepOp_231 (by decide) ?_
                  obtain ⟨S232, e232, hq⟩ := md_c_e hq
                  refine q_cV (Y := mX13_value) (As := [.int (S49.2 52 (S.2 71 x1.toNatClampNeg).toNatClampNeg), .int (-1), .int 0]) (st := []) (b := m) (ci := 15) vc_X13_value dX13_stepOp_232 ml_RX13_443 rfl md_obj rfl (Nat.le_of_ble_eq_true rfl) rfl (Nat.le_of_ble_eq_true rfl) (ro_value (d := d + 5) hG hm e232) (fun v h1 hq1 => ?_) (fun E h1 hq1 => md_nV hq1)
                  obtain ⟨hv, rfl⟩ := hq1
                  cases hv
                  show mv_rq l G mX13_stepOp (d + 6) 235 [some (.ref m), some (.int x1), some (.int (S.2 71 x1.toNatClampNeg)), some (.int (S49.2 52 (S.2 71 x1.toNatClampNeg).toNatClampNeg))] [] (md_H G B m S232) _
                  refine q_goto (tgt := 256) dX13_stepOp_235 (by decide) ?_
                  obtain rfl := Option.some.inj hq
                  exact q_vret dX13_stepOp_256 rfl ⟨rfl, rfl⟩
                ·
                  have hq := md_neg c63_6 hq
                  by_cases c63_7 : (S49.2 51 (S.2 71 x1.toNatClampNeg).toNatClampNeg) = 7
                  ·
                    have hq := md_pos c63_7 hq
                    have t63 := md_ti (i := 7) (by decide) c63_7
                    refine q_tableIn (off := 175) (tgt := 238) dX13_stepOp_63 (by rw [t63]; decide) (by rw [t63]; decide) (by rw [t63]; rfl) (by decide) ?_
                    refine q_aload_n dX13_stepOp_238 rfl ?_
                    refine q_iload_n dX13_stepOp_239 rfl ?_
                    obtain ⟨S240, e240, hq⟩ := md_c_e hq
                    refine q_cV (Y := mX13_compare) (As := [.int (S49.2 52 (S.2 71 x1.toNatClampNeg).toNatClampNeg)]) (st := []) (b := m) (ci := 15) vc_X13_compare dX13_stepOp_240 ml_RX13_465 rfl md_obj rfl (Nat.le_of_ble_eq_true rfl) rfl (Nat.le_of_ble_eq_true rfl) (ro_compare (d := d) hG hm e240) (fun v h1 hq1 => ?_) (fun E h1 hq1 => md_nV hq1)
                    obtain ⟨hv, rfl⟩ := hq1
                    cases hv
                    show mv_rq l G mX13_stepOp (d + 6) 243 [some (.ref m), some (.int x1), some (.int (S.2 71 x1.toNatClampNeg)), some (.int (S49.2 52 (S.2 71 x1.toNatClampNeg).toNatClampNeg))] [] (md_H G B m S240) _
                    refine q_goto (tgt := 256) dX13_stepOp_243 (by decide) ?_
                    obtain rfl := Option.some.inj hq
                    exact q_vret dX13_stepOp_256 rfl ⟨rfl, rfl⟩
                  ·
                    have hq := md_neg c63_7 hq
                    refine q_tableOut (tgt := 246) dX13_stepOp_63 (by have e0 := md_tn (i := 0) (by decide) c63_0; have e1 := md_tn (i := 1) (by decide) c63_1; have e2 := md_tn (i := 2) (by decide) c63_2; have e3 := md_tn (i := 3) (by decide) c63_3; have e4 := md_tn (i := 4) (by decide) c63_4; have e5 := md_tn (i := 5) (by decide) c63_5; have e6 := md_tn (i := 6) (by decide) c63_6; have e7 := md_tn (i := 7) (by decide) c63_7; omega) (by decide) ?_
                    refine q_aload_n dX13_stepOp_246 rfl ?_
                    refine q_aload_n dX13_stepOp_247 rfl ?_
                    refine r_geta 51 dX13_stepOp_248 fl_RX13_109 (by decide) rfl kk_51 ?_
                    refine q_iload_n dX13_stepOp_251 rfl ?_
                    obtain ⟨g252, hq⟩ := md_g hq
                    refine r_iald hG 51 dX13_stepOp_252 kk_51 g252 ?_
                    obtain ⟨S253, e253, hq⟩ := md_c_e hq
                    refine q_cV (Y := mX13_logic) (As := [.int (S49.2 51 (S.2 71 x1.toNatClampNeg).toNatClampNeg)]) (st := []) (b := m) (ci := 15) vc_X13_logic dX13_stepOp_253 ml_RX13_468 rfl md_obj rfl (Nat.le_of_ble_eq_true rfl) rfl (Nat.le_of_ble_eq_true rfl) (ro_logic (d := d + 4) hG hm e253) (fun v h1 hq1 => ?_) (fun E h1 hq1 => md_nV hq1)
                    obtain ⟨hv, rfl⟩ := hq1
                    cases hv
                    show mv_rq l G mX13_stepOp (d + 6) 256 [some (.ref m), some (.int x1), some (.int (S.2 71 x1.toNatClampNeg)), some (.int (S49.2 52 (S.2 71 x1.toNatClampNeg).toNatClampNeg))] [] (md_H G B m S253) _
                    obtain rfl := Option.some.inj hq
                    exact q_vret dX13_stepOp_256 rfl ⟨rfl, rfl⟩
  ·
    have hq := md_pos c9 hq
    refine q_aload_n dX13_stepOp_12 rfl ?_
    obtain ⟨v13, S13, e13, hq⟩ := md_b_e hq
    refine q_cV (Y := mX13_takeTruth) (As := []) (st := []) (b := m) (ci := 15) vc_X13_takeTruth dX13_stepOp_13 ml_RX13_456 rfl md_obj rfl (Nat.le_of_ble_eq_true rfl) rfl (Nat.le_of_ble_eq_true rfl) (ro_takeTruth (d := d + 5) hG hm e13) (fun v h1 hq1 => ?_) (fun E h1 hq1 => md_nQ hq1)
    obtain ⟨hv, rfl⟩ := hq1
    cases hv
    show mv_rq l G mX13_stepOp (d + 6) 16 [some (.ref m), some (.int x1), some (.int (S.2 71 x1.toNatClampNeg)), none] [.int v13] (md_H G B m S13) _
    refine q_if_eq (tgt := 30) dX13_stepOp_16 (by decide) (fun c16 => ?_) (fun c16 => ?_)
    ·
      have hq := md_pos c16 hq
      refine mv_weak (A := [some (.ref m), some (.int x1), none, none]) (by repeat' constructor) ?_
      exact ro_stepOp_j30 hG hm hq
    ·
      have hq := md_neg c16 hq
      refine q_aload_n dX13_stepOp_19 rfl ?_
      refine q_iload_n dX13_stepOp_20 rfl ?_
      refine q_aload_n dX13_stepOp_21 rfl ?_
      refine r_geta 70 dX13_stepOp_22 fl_RX13_154 (by decide) rfl kk_70 ?_
      refine q_iload_n dX13_stepOp_25 rfl ?_
      obtain ⟨g26, hq⟩ := md_g hq
      refine r_iald hG 70 dX13_stepOp_26 kk_70 g26 ?_
      obtain ⟨S27, e27, hq⟩ := md_c_e hq
      refine q_cV (Y := mX13_add) (As := [.int x1, .int (S13.2 70 x1.toNatClampNeg)]) (st := []) (b := m) (ci := 15) vc_X13_add dX13_stepOp_27 ml_RX13_425 rfl md_obj rfl (Nat.le_of_ble_eq_true rfl) rfl (Nat.le_of_ble_eq_true rfl) (ro_add (d := d + 5) hG hm e27) (fun v h1 hq1 => ?_) (fun E h1 hq1 => md_nV hq1)
      obtain ⟨hv, rfl⟩ := hq1
      cases hv
      show mv_rq l G mX13_stepOp (d + 6) 30 [some (.ref m), some (.int x1), some (.int (S.2 71 x1.toNatClampNeg)), none] [] (md_H G B m S27) _
      refine mv_weak (A := [some (.ref m), some (.int x1), none, none]) (by repeat' constructor) ?_
      exact ro_stepOp_j30 hG hm hq
