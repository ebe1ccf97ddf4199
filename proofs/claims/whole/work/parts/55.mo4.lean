theorem dX13_readPathThing_0 : decode cX13_readPathThing 0 = .ok (.aload_n 0, 1) := by decide +kernel
theorem dX13_readPathThing_1 : decode cX13_readPathThing 1 = .ok (.aload_n 0, 1) := by decide +kernel
theorem dX13_readPathThing_2 : decode cX13_readPathThing 2 = .ok (.getfield 202, 3) := by decide +kernel
theorem dX13_readPathThing_5 : decode cX13_readPathThing 5 = .ok (.invokevirtual 212, 3) := by decide +kernel
theorem dX13_readPathThing_8 : decode cX13_readPathThing 8 = .ok (.istore_n 3, 1) := by decide +kernel
theorem dX13_readPathThing_9 : decode cX13_readPathThing 9 = .ok (.aload_n 0, 1) := by decide +kernel
theorem dX13_readPathThing_10 : decode cX13_readPathThing 10 = .ok (.invokevirtual 208, 3) := by decide +kernel
theorem dX13_readPathThing_13 : decode cX13_readPathThing 13 = .ok (.ifCond .eq 15, 3) := by decide +kernel
theorem dX13_readPathThing_16 : decode cX13_readPathThing 16 = .ok (.iload_n 3, 1) := by decide +kernel
theorem dX13_readPathThing_17 : decode cX13_readPathThing 17 = .ok (.bipush 64, 2) := by decide +kernel
theorem dX13_readPathThing_19 : decode cX13_readPathThing 19 = .ok (.if_icmp .eq 18, 3) := by decide +kernel
theorem dX13_readPathThing_22 : decode cX13_readPathThing 22 = .ok (.iload_n 3, 1) := by decide +kernel
theorem dX13_readPathThing_23 : decode cX13_readPathThing 23 = .ok (.bipush 36, 2) := by decide +kernel
theorem dX13_readPathThing_25 : decode cX13_readPathThing 25 = .ok (.if_icmp .eq 12, 3) := by decide +kernel
theorem dX13_readPathThing_28 : decode cX13_readPathThing 28 = .ok (.aload_n 0, 1) := by decide +kernel
theorem dX13_readPathThing_29 : decode cX13_readPathThing 29 = .ok (.aload_n 0, 1) := by decide +kernel
theorem dX13_readPathThing_30 : decode cX13_readPathThing 30 = .ok (.getfield 202, 3) := by decide +kernel
theorem dX13_readPathThing_33 : decode cX13_readPathThing 33 = .ok (.invokevirtual 216, 3) := by decide +kernel
theorem dX13_readPathThing_36 : decode cX13_readPathThing 36 = .ok (.return_, 1) := by decide +kernel
theorem dX13_readPathThing_37 : decode cX13_readPathThing 37 = .ok (.aload_n 0, 1) := by decide +kernel
theorem dX13_readPathThing_38 : decode cX13_readPathThing 38 = .ok (.iload_n 3, 1) := by decide +kernel
theorem dX13_readPathThing_39 : decode cX13_readPathThing 39 = .ok (.bipush 36, 2) := by decide +kernel
theorem dX13_readPathThing_41 : decode cX13_readPathThing 41 = .ok (.if_icmp .ne 7, 3) := by decide +kernel
theorem dX13_readPathThing_44 : decode cX13_readPathThing 44 = .ok (.iconst 1, 1) := by decide +kernel
theorem dX13_readPathThing_45 : decode cX13_readPathThing 45 = .ok (.goto 4, 3) := by decide +kernel
theorem dX13_readPathThing_48 : decode cX13_readPathThing 48 = .ok (.iconst 0, 1) := by decide +kernel
theorem dX13_readPathThing_49 : decode cX13_readPathThing 49 = .ok (.invokevirtual 352, 3) := by decide +kernel
theorem dX13_readPathThing_52 : decode cX13_readPathThing 52 = .ok (.istore 4, 2) := by decide +kernel
theorem dX13_readPathThing_54 : decode cX13_readPathThing 54 = .ok (.aload_n 0, 1) := by decide +kernel
theorem dX13_readPathThing_55 : decode cX13_readPathThing 55 = .ok (.iload_n 2, 1) := by decide +kernel
theorem dX13_readPathThing_56 : decode cX13_readPathThing 56 = .ok (.iload_n 1, 1) := by decide +kernel
theorem dX13_readPathThing_57 : decode cX13_readPathThing 57 = .ok (.iload 4, 2) := by decide +kernel
theorem dX13_readPathThing_59 : decode cX13_readPathThing 59 = .ok (.invokevirtual 326, 3) := by decide +kernel
theorem dX13_readPathThing_62 : decode cX13_readPathThing 62 = .ok (.aload_n 0, 1) := by decide +kernel
theorem dX13_readPathThing_63 : decode cX13_readPathThing 63 = .ok (.iconst 0, 1) := by decide +kernel
theorem dX13_readPathThing_64 : decode cX13_readPathThing 64 = .ok (.iload 4, 2) := by decide +kernel
theorem dX13_readPathThing_66 : decode cX13_readPathThing 66 = .ok (.iconst 0, 1) := by decide +kernel
theorem dX13_readPathThing_67 : decode cX13_readPathThing 67 = .ok (.invokevirtual 326, 3) := by decide +kernel
theorem dX13_readPathThing_70 : decode cX13_readPathThing 70 = .ok (.return_, 1) := by decide +kernel
theorem dX13_readEnd_0 : decode cX13_readEnd 0 = .ok (.iload_n 1, 1) := by decide +kernel
theorem dX13_readEnd_1 : decode cX13_readEnd 1 = .ok (.tableswitch 233 5 18 #[71, 233, 233, 90, 233, 110, 132, 233, 233, 233, 151, 163, 190, 217], 71) := by decide +kernel
theorem dX13_readEnd_72 : decode cX13_readEnd 72 = .ok (.aload_n 0, 1) := by decide +kernel
theorem dX13_readEnd_73 : decode cX13_readEnd 73 = .ok (.iload_n 2, 1) := by decide +kernel
theorem dX13_readEnd_74 : decode cX13_readEnd 74 = .ok (.bipush 10, 2) := by decide +kernel
theorem dX13_readEnd_76 : decode cX13_readEnd 76 = .ok (.iconst 0, 1) := by decide +kernel
theorem dX13_readEnd_77 : decode cX13_readEnd 77 = .ok (.iconst 0, 1) := by decide +kernel
theorem dX13_readEnd_78 : decode cX13_readEnd 78 = .ok (.invokevirtual 362, 3) := by decide +kernel
theorem dX13_readEnd_81 : decode cX13_readEnd 81 = .ok (.aload_n 0, 1) := by decide +kernel
theorem dX13_readEnd_82 : decode cX13_readEnd 82 = .ok (.iconst 4, 1) := by decide +kernel
theorem dX13_readEnd_83 : decode cX13_readEnd 83 = .ok (.iload_n 2, 1) := by decide +kernel
theorem dX13_readEnd_84 : decode cX13_readEnd 84 = .ok (.iconst 0, 1) := by decide +kernel
theorem dX13_readEnd_85 : decode cX13_readEnd 85 = .ok (.invokevirtual 326, 3) := by decide +kernel
theorem dX13_readEnd_88 : decode cX13_readEnd 88 = .ok (.goto 156, 3) := by decide +kernel
theorem dX13_readEnd_91 : decode cX13_readEnd 91 = .ok (.aload_n 0, 1) := by decide +kernel
theorem dX13_readEnd_92 : decode cX13_readEnd 92 = .ok (.iload_n 2, 1) := by decide +kernel
theorem dX13_readEnd_93 : decode cX13_readEnd 93 = .ok (.bipush 9, 2) := by decide +kernel
theorem dX13_readEnd_95 : decode cX13_readEnd 95 = .ok (.iconst 0, 1) := by decide +kernel
theorem dX13_readEnd_96 : decode cX13_readEnd 96 = .ok (.iconst 0, 1) := by decide +kernel
theorem dX13_readEnd_97 : decode cX13_readEnd 97 = .ok (.invokevirtual 362, 3) := by decide +kernel
theorem dX13_readEnd_100 : decode cX13_readEnd 100 = .ok (.aload_n 0, 1) := by decide +kernel
theorem dX13_readEnd_101 : decode cX13_readEnd 101 = .ok (.bipush 7, 2) := by decide +kernel
theorem dX13_readEnd_103 : decode cX13_readEnd 103 = .ok (.iload_n 2, 1) := by decide +kernel
theorem dX13_readEnd_104 : decode cX13_readEnd 104 = .ok (.iconst 0, 1) := by decide +kernel
theorem dX13_readEnd_105 : decode cX13_readEnd 105 = .ok (.invokevirtual 326, 3) := by decide +kernel
theorem dX13_readEnd_108 : decode cX13_readEnd 108 = .ok (.goto 136, 3) := by decide +kernel
theorem dX13_readEnd_111 : decode cX13_readEnd 111 = .ok (.aload_n 0, 1) := by decide +kernel
theorem dX13_readEnd_112 : decode cX13_readEnd 112 = .ok (.dup, 1) := by decide +kernel
theorem dX13_readEnd_113 : decode cX13_readEnd 113 = .ok (.getfield 340, 3) := by decide +kernel
theorem dX13_readEnd_116 : decode cX13_readEnd 116 = .ok (.iconst 1, 1) := by decide +kernel
theorem dX13_readEnd_117 : decode cX13_readEnd 117 = .ok (.isub, 1) := by decide +kernel
theorem dX13_readEnd_118 : decode cX13_readEnd 118 = .ok (.putfield 340, 3) := by decide +kernel
theorem dX13_readEnd_121 : decode cX13_readEnd 121 = .ok (.aload_n 0, 1) := by decide +kernel
theorem dX13_readEnd_122 : decode cX13_readEnd 122 = .ok (.iload_n 2, 1) := by decide +kernel
theorem dX13_readEnd_123 : decode cX13_readEnd 123 = .ok (.bipush 8, 2) := by decide +kernel
theorem dX13_readEnd_125 : decode cX13_readEnd 125 = .ok (.iconst 0, 1) := by decide +kernel
theorem dX13_readEnd_126 : decode cX13_readEnd 126 = .ok (.iconst 0, 1) := by decide +kernel
theorem dX13_readEnd_127 : decode cX13_readEnd 127 = .ok (.invokevirtual 362, 3) := by decide +kernel
theorem dX13_readEnd_130 : decode cX13_readEnd 130 = .ok (.goto 114, 3) := by decide +kernel
theorem dX13_readEnd_133 : decode cX13_readEnd 133 = .ok (.aload_n 0, 1) := by decide +kernel
theorem dX13_readEnd_134 : decode cX13_readEnd 134 = .ok (.dup, 1) := by decide +kernel
theorem dX13_readEnd_135 : decode cX13_readEnd 135 = .ok (.getfield 340, 3) := by decide +kernel
theorem dX13_readEnd_138 : decode cX13_readEnd 138 = .ok (.iconst 1, 1) := by decide +kernel
theorem dX13_readEnd_139 : decode cX13_readEnd 139 = .ok (.isub, 1) := by decide +kernel
theorem dX13_readEnd_140 : decode cX13_readEnd 140 = .ok (.putfield 340, 3) := by decide +kernel
theorem dX13_readEnd_143 : decode cX13_readEnd 143 = .ok (.aload_n 0, 1) := by decide +kernel
theorem dX13_readEnd_144 : decode cX13_readEnd 144 = .ok (.bipush 41, 2) := by decide +kernel
theorem dX13_readEnd_146 : decode cX13_readEnd 146 = .ok (.invokevirtual 222, 3) := by decide +kernel
theorem dX13_readEnd_149 : decode cX13_readEnd 149 = .ok (.goto 95, 3) := by decide +kernel
theorem dX13_readEnd_152 : decode cX13_readEnd 152 = .ok (.aload_n 0, 1) := by decide +kernel
theorem dX13_readEnd_153 : decode cX13_readEnd 153 = .ok (.iload_n 2, 1) := by decide +kernel
theorem dX13_readEnd_154 : decode cX13_readEnd 154 = .ok (.bipush 7, 2) := by decide +kernel
theorem dX13_readEnd_156 : decode cX13_readEnd 156 = .ok (.iload_n 3, 1) := by decide +kernel
theorem dX13_readEnd_157 : decode cX13_readEnd 157 = .ok (.iconst 0, 1) := by decide +kernel
theorem dX13_readEnd_158 : decode cX13_readEnd 158 = .ok (.invokevirtual 362, 3) := by decide +kernel
theorem dX13_readEnd_161 : decode cX13_readEnd 161 = .ok (.goto 83, 3) := by decide +kernel
theorem dX13_readEnd_164 : decode cX13_readEnd 164 = .ok (.aload_n 0, 1) := by decide +kernel
theorem dX13_readEnd_165 : decode cX13_readEnd 165 = .ok (.dup, 1) := by decide +kernel
theorem dX13_readEnd_166 : decode cX13_readEnd 166 = .ok (.getfield 340, 3) := by decide +kernel
theorem dX13_readEnd_169 : decode cX13_readEnd 169 = .ok (.iconst 1, 1) := by decide +kernel
theorem dX13_readEnd_170 : decode cX13_readEnd 170 = .ok (.isub, 1) := by decide +kernel
theorem dX13_readEnd_171 : decode cX13_readEnd 171 = .ok (.putfield 340, 3) := by decide +kernel
theorem dX13_readEnd_174 : decode cX13_readEnd 174 = .ok (.aload_n 0, 1) := by decide +kernel
theorem dX13_readEnd_175 : decode cX13_readEnd 175 = .ok (.bipush 41, 2) := by decide +kernel
theorem dX13_readEnd_177 : decode cX13_readEnd 177 = .ok (.invokevirtual 222, 3) := by decide +kernel
theorem dX13_readEnd_180 : decode cX13_readEnd 180 = .ok (.aload_n 0, 1) := by decide +kernel
theorem dX13_readEnd_181 : decode cX13_readEnd 181 = .ok (.iload_n 2, 1) := by decide +kernel
theorem dX13_readEnd_182 : decode cX13_readEnd 182 = .ok (.iconst 3, 1) := by decide +kernel
theorem dX13_readEnd_183 : decode cX13_readEnd 183 = .ok (.iconst 0, 1) := by decide +kernel
theorem dX13_readEnd_184 : decode cX13_readEnd 184 = .ok (.iconst 0, 1) := by decide +kernel
theorem dX13_readEnd_185 : decode cX13_readEnd 185 = .ok (.invokevirtual 362, 3) := by decide +kernel
theorem dX13_readEnd_188 : decode cX13_readEnd 188 = .ok (.goto 56, 3) := by decide +kernel
theorem dX13_readEnd_191 : decode cX13_readEnd 191 = .ok (.aload_n 0, 1) := by decide +kernel
theorem dX13_readEnd_192 : decode cX13_readEnd 192 = .ok (.dup, 1) := by decide +kernel
theorem dX13_readEnd_193 : decode cX13_readEnd 193 = .ok (.getfield 340, 3) := by decide +kernel
theorem dX13_readEnd_196 : decode cX13_readEnd 196 = .ok (.iconst 1, 1) := by decide +kernel
theorem dX13_readEnd_197 : decode cX13_readEnd 197 = .ok (.isub, 1) := by decide +kernel
theorem dX13_readEnd_198 : decode cX13_readEnd 198 = .ok (.putfield 340, 3) := by decide +kernel
theorem dX13_readEnd_201 : decode cX13_readEnd 201 = .ok (.aload_n 0, 1) := by decide +kernel
theorem dX13_readEnd_202 : decode cX13_readEnd 202 = .ok (.bipush 41, 2) := by decide +kernel
theorem dX13_readEnd_204 : decode cX13_readEnd 204 = .ok (.invokevirtual 222, 3) := by decide +kernel
theorem dX13_readEnd_207 : decode cX13_readEnd 207 = .ok (.aload_n 0, 1) := by decide +kernel
theorem dX13_readEnd_208 : decode cX13_readEnd 208 = .ok (.iload_n 2, 1) := by decide +kernel
theorem dX13_readEnd_209 : decode cX13_readEnd 209 = .ok (.iconst 2, 1) := by decide +kernel
theorem dX13_readEnd_210 : decode cX13_readEnd 210 = .ok (.iload_n 3, 1) := by decide +kernel
theorem dX13_readEnd_211 : decode cX13_readEnd 211 = .ok (.iconst 0, 1) := by decide +kernel
theorem dX13_readEnd_212 : decode cX13_readEnd 212 = .ok (.invokevirtual 362, 3) := by decide +kernel
theorem dX13_readEnd_215 : decode cX13_readEnd 215 = .ok (.goto 29, 3) := by decide +kernel
theorem dX13_readEnd_218 : decode cX13_readEnd 218 = .ok (.aload_n 0, 1) := by decide +kernel
theorem dX13_readEnd_219 : decode cX13_readEnd 219 = .ok (.iload_n 3, 1) := by decide +kernel
theorem dX13_readEnd_220 : decode cX13_readEnd 220 = .ok (.invokevirtual 359, 3) := by decide +kernel
theorem dX13_readEnd_223 : decode cX13_readEnd 223 = .ok (.aload_n 0, 1) := by decide +kernel
theorem dX13_readEnd_224 : decode cX13_readEnd 224 = .ok (.iload_n 2, 1) := by decide +kernel
theorem dX13_readEnd_225 : decode cX13_readEnd 225 = .ok (.iconst 1, 1) := by decide +kernel
theorem dX13_readEnd_226 : decode cX13_readEnd 226 = .ok (.iload_n 3, 1) := by decide +kernel
theorem dX13_readEnd_227 : decode cX13_readEnd 227 = .ok (.iconst 0, 1) := by decide +kernel
theorem dX13_readEnd_228 : decode cX13_readEnd 228 = .ok (.invokevirtual 362, 3) := by decide +kernel
theorem dX13_readEnd_231 : decode cX13_readEnd 231 = .ok (.goto 13, 3) := by decide +kernel
theorem dX13_readEnd_234 : decode cX13_readEnd 234 = .ok (.aload_n 0, 1) := by decide +kernel
theorem dX13_readEnd_235 : decode cX13_readEnd 235 = .ok (.dup, 1) := by decide +kernel
theorem dX13_readEnd_236 : decode cX13_readEnd 236 = .ok (.getfield 340, 3) := by decide +kernel
theorem dX13_readEnd_239 : decode cX13_readEnd 239 = .ok (.iconst 1, 1) := by decide +kernel
theorem dX13_readEnd_240 : decode cX13_readEnd 240 = .ok (.isub, 1) := by decide +kernel
theorem dX13_readEnd_241 : decode cX13_readEnd 241 = .ok (.putfield 340, 3) := by decide +kernel
theorem dX13_readEnd_244 : decode cX13_readEnd 244 = .ok (.return_, 1) := by decide +kernel
theorem dX13_place_0 : decode cX13_place 0 = .ok (.aload_n 0, 1) := by decide +kernel
theorem dX13_place_1 : decode cX13_place 1 = .ok (.iconst 0, 1) := by decide +kernel
theorem dX13_place_2 : decode cX13_place 2 = .ok (.putfield 193, 3) := by decide +kernel
theorem dX13_place_5 : decode cX13_place 5 = .ok (.aload_n 0, 1) := by decide +kernel
theorem dX13_place_6 : decode cX13_place 6 = .ok (.getfield 13, 3) := by decide +kernel
theorem dX13_place_9 : decode cX13_place 9 = .ok (.ireturn, 1) := by decide +kernel
theorem dX13_follower_0 : decode cX13_follower 0 = .ok (.iload_n 2, 1) := by decide +kernel
theorem dX13_follower_1 : decode cX13_follower 1 = .ok (.iconst 1, 1) := by decide +kernel
theorem dX13_follower_2 : decode cX13_follower 2 = .ok (.iadd, 1) := by decide +kernel
theorem dX13_follower_3 : decode cX13_follower 3 = .ok (.istore_n 3, 1) := by decide +kernel
theorem dX13_follower_4 : decode cX13_follower 4 = .ok (.iload_n 3, 1) := by decide +kernel
theorem dX13_follower_5 : decode cX13_follower 5 = .ok (.aload_n 0, 1) := by decide +kernel
theorem dX13_follower_6 : decode cX13_follower 6 = .ok (.getfield 30, 3) := by decide +kernel
theorem dX13_follower_9 : decode cX13_follower 9 = .ok (.iload_n 1, 1) := by decide +kernel
theorem dX13_follower_10 : decode cX13_follower 10 = .ok (.iaload, 1) := by decide +kernel
theorem dX13_follower_11 : decode cX13_follower 11 = .ok (.if_icmp .gt 19, 3) := by decide +kernel
theorem dX13_follower_14 : decode cX13_follower 14 = .ok (.aload_n 0, 1) := by decide +kernel
theorem dX13_follower_15 : decode cX13_follower 15 = .ok (.getfield 27, 3) := by decide +kernel
theorem dX13_follower_18 : decode cX13_follower 18 = .ok (.iload_n 3, 1) := by decide +kernel
theorem dX13_follower_19 : decode cX13_follower 19 = .ok (.iaload, 1) := by decide +kernel
theorem dX13_follower_20 : decode cX13_follower 20 = .ok (.iload_n 1, 1) := by decide +kernel
theorem dX13_follower_21 : decode cX13_follower 21 = .ok (.if_icmp .eq 9, 3) := by decide +kernel
theorem dX13_follower_24 : decode cX13_follower 24 = .ok (.iinc 3 1, 3) := by decide +kernel
theorem dX13_follower_27 : decode cX13_follower 27 = .ok (.goto (-23), 3) := by decide +kernel
theorem dX13_follower_30 : decode cX13_follower 30 = .ok (.iload_n 3, 1) := by decide +kernel
theorem dX13_follower_31 : decode cX13_follower 31 = .ok (.aload_n 0, 1) := by decide +kernel
theorem dX13_follower_32 : decode cX13_follower 32 = .ok (.getfield 30, 3) := by decide +kernel
theorem dX13_follower_35 : decode cX13_follower 35 = .ok (.iload_n 1, 1) := by decide +kernel
theorem dX13_follower_36 : decode cX13_follower 36 = .ok (.iaload, 1) := by decide +kernel
theorem dX13_follower_37 : decode cX13_follower 37 = .ok (.if_icmp .gt 7, 3) := by decide +kernel
theorem dX13_follower_40 : decode cX13_follower 40 = .ok (.iload_n 3, 1) := by decide +kernel
theorem dX13_follower_41 : decode cX13_follower 41 = .ok (.goto 4, 3) := by decide +kernel
theorem dX13_follower_44 : decode cX13_follower 44 = .ok (.iconst (-1), 1) := by decide +kernel
theorem dX13_follower_45 : decode cX13_follower 45 = .ok (.ireturn, 1) := by decide +kernel
theorem dX13_children_0 : decode cX13_children 0 = .ok (.iconst 0, 1) := by decide +kernel
theorem dX13_children_1 : decode cX13_children 1 = .ok (.istore_n 2, 1) := by decide +kernel
theorem dX13_children_2 : decode cX13_children 2 = .ok (.iload_n 1, 1) := by decide +kernel
theorem dX13_children_3 : decode cX13_children 3 = .ok (.iconst 1, 1) := by decide +kernel
theorem dX13_children_4 : decode cX13_children 4 = .ok (.iadd, 1) := by decide +kernel
theorem dX13_children_5 : decode cX13_children 5 = .ok (.istore_n 3, 1) := by decide +kernel
theorem dX13_children_6 : decode cX13_children 6 = .ok (.iload_n 3, 1) := by decide +kernel
theorem dX13_children_7 : decode cX13_children 7 = .ok (.aload_n 0, 1) := by decide +kernel
theorem dX13_children_8 : decode cX13_children 8 = .ok (.getfield 30, 3) := by decide +kernel
theorem dX13_children_11 : decode cX13_children 11 = .ok (.iload_n 1, 1) := by decide +kernel
theorem dX13_children_12 : decode cX13_children 12 = .ok (.iaload, 1) := by decide +kernel
theorem dX13_children_13 : decode cX13_children 13 = .ok (.if_icmp .gt 27, 3) := by decide +kernel
theorem dX13_children_16 : decode cX13_children 16 = .ok (.iload_n 2, 1) := by decide +kernel
theorem dX13_children_17 : decode cX13_children 17 = .ok (.aload_n 0, 1) := by decide +kernel
theorem dX13_children_18 : decode cX13_children 18 = .ok (.getfield 27, 3) := by decide +kernel
theorem dX13_children_21 : decode cX13_children 21 = .ok (.iload_n 3, 1) := by decide +kernel
theorem dX13_children_22 : decode cX13_children 22 = .ok (.iaload, 1) := by decide +kernel
theorem dX13_children_23 : decode cX13_children 23 = .ok (.iload_n 1, 1) := by decide +kernel
theorem dX13_children_24 : decode cX13_children 24 = .ok (.if_icmp .ne 7, 3) := by decide +kernel
theorem dX13_children_27 : decode cX13_children 27 = .ok (.iconst 1, 1) := by decide +kernel
theorem dX13_children_28 : decode cX13_children 28 = .ok (.goto 4, 3) := by decide +kernel
theorem dX13_children_31 : decode cX13_children 31 = .ok (.iconst 0, 1) := by decide +kernel
theorem dX13_children_32 : decode cX13_children 32 = .ok (.iadd, 1) := by decide +kernel
theorem dX13_children_33 : decode cX13_children 33 = .ok (.istore_n 2, 1) := by decide +kernel
theorem dX13_children_34 : decode cX13_children 34 = .ok (.iinc 3 1, 3) := by decide +kernel
theorem dX13_children_37 : decode cX13_children 37 = .ok (.goto (-31), 3) := by decide +kernel
theorem dX13_children_40 : decode cX13_children 40 = .ok (.iload_n 2, 1) := by decide +kernel
theorem dX13_children_41 : decode cX13_children 41 = .ok (.ireturn, 1) := by decide +kernel
theorem dX13_childAt_0 : decode cX13_childAt 0 = .ok (.iload_n 2, 1) := by decide +kernel
theorem dX13_childAt_1 : decode cX13_childAt 1 = .ok (.ifCond .ge 7, 3) := by decide +kernel
theorem dX13_childAt_4 : decode cX13_childAt 4 = .ok (.iconst (-1), 1) := by decide +kernel
theorem dX13_childAt_5 : decode cX13_childAt 5 = .ok (.goto 9, 3) := by decide +kernel
theorem dX13_childAt_8 : decode cX13_childAt 8 = .ok (.aload_n 0, 1) := by decide +kernel
theorem dX13_childAt_9 : decode cX13_childAt 9 = .ok (.iload_n 1, 1) := by decide +kernel
theorem dX13_childAt_10 : decode cX13_childAt 10 = .ok (.iload_n 1, 1) := by decide +kernel
theorem dX13_childAt_11 : decode cX13_childAt 11 = .ok (.invokevirtual 415, 3) := by decide +kernel
theorem dX13_childAt_14 : decode cX13_childAt 14 = .ok (.istore_n 3, 1) := by decide +kernel
theorem dX13_childAt_15 : decode cX13_childAt 15 = .ok (.iconst 0, 1) := by decide +kernel
theorem dX13_childAt_16 : decode cX13_childAt 16 = .ok (.istore 4, 2) := by decide +kernel
theorem dX13_childAt_18 : decode cX13_childAt 18 = .ok (.iload 4, 2) := by decide +kernel
theorem dX13_childAt_20 : decode cX13_childAt 20 = .ok (.iload_n 2, 1) := by decide +kernel
theorem dX13_childAt_21 : decode cX13_childAt 21 = .ok (.if_icmp .ge 21, 3) := by decide +kernel
theorem dX13_childAt_24 : decode cX13_childAt 24 = .ok (.iload_n 3, 1) := by decide +kernel
theorem dX13_childAt_25 : decode cX13_childAt 25 = .ok (.iconst (-1), 1) := by decide +kernel
theorem dX13_childAt_26 : decode cX13_childAt 26 = .ok (.if_icmp .eq 16, 3) := by decide +kernel
theorem dX13_childAt_29 : decode cX13_childAt 29 = .ok (.aload_n 0, 1) := by decide +kernel
theorem dX13_childAt_30 : decode cX13_childAt 30 = .ok (.iload_n 1, 1) := by decide +kernel
theorem dX13_childAt_31 : decode cX13_childAt 31 = .ok (.iload_n 3, 1) := by decide +kernel
theorem dX13_childAt_32 : decode cX13_childAt 32 = .ok (.invokevirtual 415, 3) := by decide +kernel
theorem dX13_childAt_35 : decode cX13_childAt 35 = .ok (.istore_n 3, 1) := by decide +kernel
theorem dX13_childAt_36 : decode cX13_childAt 36 = .ok (.iinc 4 1, 3) := by decide +kernel
theorem dX13_childAt_39 : decode cX13_childAt 39 = .ok (.goto (-21), 3) := by decide +kernel
theorem dX13_childAt_42 : decode cX13_childAt 42 = .ok (.iload_n 3, 1) := by decide +kernel
theorem dX13_childAt_43 : decode cX13_childAt 43 = .ok (.ireturn, 1) := by decide +kernel
theorem dX13_add_0 : decode cX13_add 0 = .ok (.aload_n 0, 1) := by decide +kernel
theorem dX13_add_1 : decode cX13_add 1 = .ok (.getfield 163, 3) := by decide +kernel
theorem dX13_add_4 : decode cX13_add 4 = .ok (.iload_n 1, 1) := by decide +kernel
theorem dX13_add_5 : decode cX13_add 5 = .ok (.iaload, 1) := by decide +kernel
theorem dX13_add_6 : decode cX13_add 6 = .ok (.sipush 300, 3) := by decide +kernel
theorem dX13_add_9 : decode cX13_add 9 = .ok (.if_icmp .ne 11, 3) := by decide +kernel
theorem dX13_add_12 : decode cX13_add 12 = .ok (.aload_n 0, 1) := by decide +kernel
theorem dX13_add_13 : decode cX13_add 13 = .ok (.iconst 1, 1) := by decide +kernel
theorem dX13_add_14 : decode cX13_add 14 = .ok (.putfield 419, 3) := by decide +kernel
theorem dX13_add_17 : decode cX13_add 17 = .ok (.goto 31, 3) := by decide +kernel
theorem dX13_add_20 : decode cX13_add 20 = .ok (.aload_n 0, 1) := by decide +kernel
theorem dX13_add_21 : decode cX13_add 21 = .ok (.getfield 169, 3) := by decide +kernel
theorem dX13_add_24 : decode cX13_add 24 = .ok (.sipush 300, 3) := by decide +kernel
theorem dX13_add_27 : decode cX13_add 27 = .ok (.iload_n 1, 1) := by decide +kernel
theorem dX13_add_28 : decode cX13_add 28 = .ok (.imul, 1) := by decide +kernel
theorem dX13_add_29 : decode cX13_add 29 = .ok (.aload_n 0, 1) := by decide +kernel
theorem dX13_add_30 : decode cX13_add 30 = .ok (.getfield 163, 3) := by decide +kernel
theorem dX13_add_33 : decode cX13_add 33 = .ok (.iload_n 1, 1) := by decide +kernel
theorem dX13_add_34 : decode cX13_add 34 = .ok (.iaload, 1) := by decide +kernel
theorem dX13_add_35 : decode cX13_add 35 = .ok (.iadd, 1) := by decide +kernel
theorem dX13_add_36 : decode cX13_add 36 = .ok (.iload_n 2, 1) := by decide +kernel
theorem dX13_add_37 : decode cX13_add 37 = .ok (.iastore, 1) := by decide +kernel
theorem dX13_add_38 : decode cX13_add 38 = .ok (.aload_n 0, 1) := by decide +kernel
theorem dX13_add_39 : decode cX13_add 39 = .ok (.getfield 163, 3) := by decide +kernel
theorem dX13_add_42 : decode cX13_add 42 = .ok (.iload_n 1, 1) := by decide +kernel
theorem dX13_add_43 : decode cX13_add 43 = .ok (.dup2, 1) := by decide +kernel
theorem dX13_add_44 : decode cX13_add 44 = .ok (.iaload, 1) := by decide +kernel
theorem dX13_add_45 : decode cX13_add 45 = .ok (.iconst 1, 1) := by decide +kernel
theorem dX13_add_46 : decode cX13_add 46 = .ok (.iadd, 1) := by decide +kernel
theorem dX13_add_47 : decode cX13_add 47 = .ok (.iastore, 1) := by decide +kernel
theorem dX13_add_48 : decode cX13_add 48 = .ok (.return_, 1) := by decide +kernel
theorem dX13_addPlace_0 : decode cX13_addPlace 0 = .ok (.aload_n 0, 1) := by decide +kernel
theorem dX13_addPlace_1 : decode cX13_addPlace 1 = .ok (.aload_n 0, 1) := by decide +kernel
theorem dX13_addPlace_2 : decode cX13_addPlace 2 = .ok (.getfield 145, 3) := by decide +kernel
theorem dX13_addPlace_5 : decode cX13_addPlace 5 = .ok (.iload_n 1, 1) := by decide +kernel
theorem dX13_addPlace_6 : decode cX13_addPlace 6 = .ok (.iaload, 1) := by decide +kernel
theorem dX13_addPlace_7 : decode cX13_addPlace 7 = .ok (.iload_n 2, 1) := by decide +kernel
theorem dX13_addPlace_8 : decode cX13_addPlace 8 = .ok (.invokevirtual 422, 3) := by decide +kernel
theorem dX13_addPlace_11 : decode cX13_addPlace 11 = .ok (.istore_n 3, 1) := by decide +kernel
theorem dX13_addPlace_12 : decode cX13_addPlace 12 = .ok (.iload_n 3, 1) := by decide +kernel
theorem dX13_addPlace_13 : decode cX13_addPlace 13 = .ok (.iconst (-1), 1) := by decide +kernel
theorem dX13_addPlace_14 : decode cX13_addPlace 14 = .ok (.if_icmp .eq 9, 3) := by decide +kernel
theorem dX13_addPlace_17 : decode cX13_addPlace 17 = .ok (.aload_n 0, 1) := by decide +kernel
theorem dX13_addPlace_18 : decode cX13_addPlace 18 = .ok (.iload_n 1, 1) := by decide +kernel
theorem dX13_addPlace_19 : decode cX13_addPlace 19 = .ok (.iload_n 3, 1) := by decide +kernel
theorem dX13_addPlace_20 : decode cX13_addPlace 20 = .ok (.invokevirtual 425, 3) := by decide +kernel
theorem dX13_addPlace_23 : decode cX13_addPlace 23 = .ok (.return_, 1) := by decide +kernel
theorem dX13_slice_0 : decode cX13_slice 0 = .ok (.aload_n 0, 1) := by decide +kernel
theorem dX13_slice_1 : decode cX13_slice 1 = .ok (.aload_n 0, 1) := by decide +kernel
theorem dX13_slice_2 : decode cX13_slice 2 = .ok (.getfield 145, 3) := by decide +kernel
theorem dX13_slice_5 : decode cX13_slice 5 = .ok (.iload_n 1, 1) := by decide +kernel
theorem dX13_slice_6 : decode cX13_slice 6 = .ok (.iaload, 1) := by decide +kernel
theorem dX13_slice_7 : decode cX13_slice 7 = .ok (.invokevirtual 428, 3) := by decide +kernel
theorem dX13_slice_10 : decode cX13_slice 10 = .ok (.istore_n 3, 1) := by decide +kernel
theorem dX13_slice_11 : decode cX13_slice 11 = .ok (.aload_n 0, 1) := by decide +kernel
theorem dX13_slice_12 : decode cX13_slice 12 = .ok (.getfield 97, 3) := by decide +kernel
theorem dX13_slice_15 : decode cX13_slice 15 = .ok (.iload_n 2, 1) := by decide +kernel
theorem dX13_slice_16 : decode cX13_slice 16 = .ok (.iaload, 1) := by decide +kernel
theorem dX13_slice_17 : decode cX13_slice 17 = .ok (.istore 4, 2) := by decide +kernel
theorem dX13_slice_19 : decode cX13_slice 19 = .ok (.aload_n 0, 1) := by decide +kernel
theorem dX13_slice_20 : decode cX13_slice 20 = .ok (.getfield 100, 3) := by decide +kernel
theorem dX13_slice_23 : decode cX13_slice 23 = .ok (.iload_n 2, 1) := by decide +kernel
theorem dX13_slice_24 : decode cX13_slice 24 = .ok (.iaload, 1) := by decide +kernel
theorem dX13_slice_25 : decode cX13_slice 25 = .ok (.iconst 1, 1) := by decide +kernel
theorem dX13_slice_26 : decode cX13_slice 26 = .ok (.iand, 1) := by decide +kernel
theorem dX13_slice_27 : decode cX13_slice 27 = .ok (.ifCond .le 7, 3) := by decide +kernel
theorem dX13_slice_30 : decode cX13_slice 30 = .ok (.iconst 1, 1) := by decide +kernel
theorem dX13_slice_31 : decode cX13_slice 31 = .ok (.goto 4, 3) := by decide +kernel
theorem dX13_slice_34 : decode cX13_slice 34 = .ok (.iconst 0, 1) := by decide +kernel
theorem dX13_slice_35 : decode cX13_slice 35 = .ok (.istore 5, 2) := by decide +kernel
theorem dX13_slice_37 : decode cX13_slice 37 = .ok (.aload_n 0, 1) := by decide +kernel
theorem dX13_slice_38 : decode cX13_slice 38 = .ok (.getfield 100, 3) := by decide +kernel
theorem dX13_slice_41 : decode cX13_slice 41 = .ok (.iload_n 2, 1) := by decide +kernel
theorem dX13_slice_42 : decode cX13_slice 42 = .ok (.iaload, 1) := by decide +kernel
theorem dX13_slice_43 : decode cX13_slice 43 = .ok (.iconst 2, 1) := by decide +kernel
theorem dX13_slice_44 : decode cX13_slice 44 = .ok (.iand, 1) := by decide +kernel
theorem dX13_slice_45 : decode cX13_slice 45 = .ok (.ifCond .le 7, 3) := by decide +kernel
theorem dX13_slice_48 : decode cX13_slice 48 = .ok (.iconst 1, 1) := by decide +kernel
theorem dX13_slice_49 : decode cX13_slice 49 = .ok (.goto 4, 3) := by decide +kernel
theorem dX13_slice_52 : decode cX13_slice 52 = .ok (.iconst 0, 1) := by decide +kernel
theorem dX13_slice_53 : decode cX13_slice 53 = .ok (.istore 6, 2) := by decide +kernel
theorem dX13_slice_55 : decode cX13_slice 55 = .ok (.iload 5, 2) := by decide +kernel
theorem dX13_slice_57 : decode cX13_slice 57 = .ok (.ifCond .eq 32, 3) := by decide +kernel
theorem dX13_slice_60 : decode cX13_slice 60 = .ok (.aload_n 0, 1) := by decide +kernel
theorem dX13_slice_61 : decode cX13_slice 61 = .ok (.getfield 91, 3) := by decide +kernel
theorem dX13_slice_64 : decode cX13_slice 64 = .ok (.iload_n 2, 1) := by decide +kernel
theorem dX13_slice_65 : decode cX13_slice 65 = .ok (.iaload, 1) := by decide +kernel
theorem dX13_slice_66 : decode cX13_slice 66 = .ok (.ifCond .ge 14, 3) := by decide +kernel
theorem dX13_slice_69 : decode cX13_slice 69 = .ok (.aload_n 0, 1) := by decide +kernel
theorem dX13_slice_70 : decode cX13_slice 70 = .ok (.getfield 91, 3) := by decide +kernel
theorem dX13_slice_73 : decode cX13_slice 73 = .ok (.iload_n 2, 1) := by decide +kernel
theorem dX13_slice_74 : decode cX13_slice 74 = .ok (.iaload, 1) := by decide +kernel
theorem dX13_slice_75 : decode cX13_slice 75 = .ok (.iload_n 3, 1) := by decide +kernel
theorem dX13_slice_76 : decode cX13_slice 76 = .ok (.iadd, 1) := by decide +kernel
theorem dX13_slice_77 : decode cX13_slice 77 = .ok (.goto 24, 3) := by decide +kernel
theorem dX13_slice_80 : decode cX13_slice 80 = .ok (.aload_n 0, 1) := by decide +kernel
theorem dX13_slice_81 : decode cX13_slice 81 = .ok (.getfield 91, 3) := by decide +kernel
theorem dX13_slice_84 : decode cX13_slice 84 = .ok (.iload_n 2, 1) := by decide +kernel
theorem dX13_slice_85 : decode cX13_slice 85 = .ok (.iaload, 1) := by decide +kernel
theorem dX13_slice_86 : decode cX13_slice 86 = .ok (.goto 15, 3) := by decide +kernel
theorem dX13_slice_89 : decode cX13_slice 89 = .ok (.iload 4, 2) := by decide +kernel
theorem dX13_slice_91 : decode cX13_slice 91 = .ok (.ifCond .le 7, 3) := by decide +kernel
theorem dX13_slice_94 : decode cX13_slice 94 = .ok (.iconst 0, 1) := by decide +kernel
theorem dX13_slice_95 : decode cX13_slice 95 = .ok (.goto 6, 3) := by decide +kernel
theorem dX13_slice_98 : decode cX13_slice 98 = .ok (.iload_n 3, 1) := by decide +kernel
theorem dX13_slice_99 : decode cX13_slice 99 = .ok (.iconst 1, 1) := by decide +kernel
theorem dX13_slice_100 : decode cX13_slice 100 = .ok (.isub, 1) := by decide +kernel
theorem dX13_slice_101 : decode cX13_slice 101 = .ok (.istore 7, 2) := by decide +kernel
theorem dX13_slice_103 : decode cX13_slice 103 = .ok (.iload 6, 2) := by decide +kernel
theorem dX13_slice_105 : decode cX13_slice 105 = .ok (.ifCond .eq 32, 3) := by decide +kernel
theorem dX13_slice_108 : decode cX13_slice 108 = .ok (.aload_n 0, 1) := by decide +kernel
theorem dX13_slice_109 : decode cX13_slice 109 = .ok (.getfield 94, 3) := by decide +kernel
theorem dX13_slice_112 : decode cX13_slice 112 = .ok (.iload_n 2, 1) := by decide +kernel
theorem dX13_slice_113 : decode cX13_slice 113 = .ok (.iaload, 1) := by decide +kernel
theorem dX13_slice_114 : decode cX13_slice 114 = .ok (.ifCond .ge 14, 3) := by decide +kernel
theorem dX13_slice_117 : decode cX13_slice 117 = .ok (.aload_n 0, 1) := by decide +kernel
theorem dX13_slice_118 : decode cX13_slice 118 = .ok (.getfield 94, 3) := by decide +kernel
theorem dX13_slice_121 : decode cX13_slice 121 = .ok (.iload_n 2, 1) := by decide +kernel
theorem dX13_slice_122 : decode cX13_slice 122 = .ok (.iaload, 1) := by decide +kernel
theorem dX13_slice_123 : decode cX13_slice 123 = .ok (.iload_n 3, 1) := by decide +kernel
theorem dX13_slice_124 : decode cX13_slice 124 = .ok (.iadd, 1) := by decide +kernel
theorem dX13_slice_125 : decode cX13_slice 125 = .ok (.goto 22, 3) := by decide +kernel
theorem dX13_slice_128 : decode cX13_slice 128 = .ok (.aload_n 0, 1) := by decide +kernel
theorem dX13_slice_129 : decode cX13_slice 129 = .ok (.getfield 94, 3) := by decide +kernel
theorem dX13_slice_132 : decode cX13_slice 132 = .ok (.iload_n 2, 1) := by decide +kernel
theorem dX13_slice_133 : decode cX13_slice 133 = .ok (.iaload, 1) := by decide +kernel
theorem dX13_slice_134 : decode cX13_slice 134 = .ok (.goto 13, 3) := by decide +kernel
theorem dX13_slice_137 : decode cX13_slice 137 = .ok (.iload 4, 2) := by decide +kernel
theorem dX13_slice_139 : decode cX13_slice 139 = .ok (.ifCond .le 7, 3) := by decide +kernel
theorem dX13_slice_142 : decode cX13_slice 142 = .ok (.iload_n 3, 1) := by decide +kernel
theorem dX13_slice_143 : decode cX13_slice 143 = .ok (.goto 4, 3) := by decide +kernel
theorem dX13_slice_146 : decode cX13_slice 146 = .ok (.iconst (-1), 1) := by decide +kernel
theorem dX13_slice_147 : decode cX13_slice 147 = .ok (.istore 8, 2) := by decide +kernel
theorem dX13_slice_149 : decode cX13_slice 149 = .ok (.iload 4, 2) := by decide +kernel
theorem dX13_slice_151 : decode cX13_slice 151 = .ok (.ifCond .le 46, 3) := by decide +kernel
theorem dX13_slice_154 : decode cX13_slice 154 = .ok (.iload 7, 2) := by decide +kernel
theorem dX13_slice_156 : decode cX13_slice 156 = .ok (.ifCond .ge 7, 3) := by decide +kernel
theorem dX13_slice_159 : decode cX13_slice 159 = .ok (.iconst 0, 1) := by decide +kernel
theorem dX13_slice_160 : decode cX13_slice 160 = .ok (.goto 5, 3) := by decide +kernel
theorem dX13_slice_163 : decode cX13_slice 163 = .ok (.iload 7, 2) := by decide +kernel
theorem dX13_slice_165 : decode cX13_slice 165 = .ok (.istore 9, 2) := by decide +kernel
theorem dX13_slice_167 : decode cX13_slice 167 = .ok (.iload 9, 2) := by decide +kernel
theorem dX13_slice_169 : decode cX13_slice 169 = .ok (.iload 8, 2) := by decide +kernel
theorem dX13_slice_171 : decode cX13_slice 171 = .ok (.if_icmp .ge 26, 3) := by decide +kernel
theorem dX13_slice_174 : decode cX13_slice 174 = .ok (.iload 9, 2) := by decide +kernel
theorem dX13_slice_176 : decode cX13_slice 176 = .ok (.iload_n 3, 1) := by decide +kernel
theorem dX13_slice_177 : decode cX13_slice 177 = .ok (.if_icmp .ge 20, 3) := by decide +kernel
theorem dX13_slice_180 : decode cX13_slice 180 = .ok (.aload_n 0, 1) := by decide +kernel
theorem dX13_slice_181 : decode cX13_slice 181 = .ok (.iload_n 1, 1) := by decide +kernel
theorem dX13_slice_182 : decode cX13_slice 182 = .ok (.iload 9, 2) := by decide +kernel
theorem dX13_slice_184 : decode cX13_slice 184 = .ok (.invokevirtual 431, 3) := by decide +kernel
theorem dX13_slice_187 : decode cX13_slice 187 = .ok (.iload 9, 2) := by decide +kernel
theorem dX13_slice_189 : decode cX13_slice 189 = .ok (.iload 4, 2) := by decide +kernel
theorem dX13_slice_191 : decode cX13_slice 191 = .ok (.iadd, 1) := by decide +kernel
theorem dX13_slice_192 : decode cX13_slice 192 = .ok (.istore 9, 2) := by decide +kernel
theorem dX13_slice_194 : decode cX13_slice 194 = .ok (.goto (-27), 3) := by decide +kernel
theorem dX13_slice_197 : decode cX13_slice 197 = .ok (.iload 4, 2) := by decide +kernel
theorem dX13_slice_199 : decode cX13_slice 199 = .ok (.ifCond .ge 36, 3) := by decide +kernel
theorem dX13_slice_202 : decode cX13_slice 202 = .ok (.iload 7, 2) := by decide +kernel
theorem dX13_slice_204 : decode cX13_slice 204 = .ok (.istore 9, 2) := by decide +kernel
theorem dX13_slice_206 : decode cX13_slice 206 = .ok (.iload 9, 2) := by decide +kernel
theorem dX13_slice_208 : decode cX13_slice 208 = .ok (.iload 8, 2) := by decide +kernel
theorem dX13_slice_210 : decode cX13_slice 210 = .ok (.if_icmp .le 25, 3) := by decide +kernel
theorem dX13_slice_213 : decode cX13_slice 213 = .ok (.iload 9, 2) := by decide +kernel
theorem dX13_slice_215 : decode cX13_slice 215 = .ok (.ifCond .lt 20, 3) := by decide +kernel
theorem dX13_slice_218 : decode cX13_slice 218 = .ok (.aload_n 0, 1) := by decide +kernel
theorem dX13_slice_219 : decode cX13_slice 219 = .ok (.iload_n 1, 1) := by decide +kernel
theorem dX13_slice_220 : decode cX13_slice 220 = .ok (.iload 9, 2) := by decide +kernel
theorem dX13_slice_222 : decode cX13_slice 222 = .ok (.invokevirtual 431, 3) := by decide +kernel
theorem dX13_slice_225 : decode cX13_slice 225 = .ok (.iload 9, 2) := by decide +kernel
theorem dX13_slice_227 : decode cX13_slice 227 = .ok (.iload 4, 2) := by decide +kernel
theorem dX13_slice_229 : decode cX13_slice 229 = .ok (.iadd, 1) := by decide +kernel
theorem dX13_slice_230 : decode cX13_slice 230 = .ok (.istore 9, 2) := by decide +kernel
theorem dX13_slice_232 : decode cX13_slice 232 = .ok (.goto (-26), 3) := by decide +kernel
theorem dX13_slice_235 : decode cX13_slice 235 = .ok (.return_, 1) := by decide +kernel
theorem dX13_select_0 : decode cX13_select 0 = .ok (.aload_n 0, 1) := by decide +kernel
theorem dX13_select_1 : decode cX13_select 1 = .ok (.getfield 145, 3) := by decide +kernel
theorem dX13_select_4 : decode cX13_select 4 = .ok (.iload_n 1, 1) := by decide +kernel
theorem dX13_select_5 : decode cX13_select 5 = .ok (.iaload, 1) := by decide +kernel
theorem dX13_select_6 : decode cX13_select 6 = .ok (.istore_n 3, 1) := by decide +kernel
theorem dX13_select_7 : decode cX13_select 7 = .ok (.aload_n 0, 1) := by decide +kernel
theorem dX13_select_8 : decode cX13_select 8 = .ok (.getfield 85, 3) := by decide +kernel
theorem dX13_select_11 : decode cX13_select 11 = .ok (.iload_n 2, 1) := by decide +kernel
theorem dX13_select_12 : decode cX13_select 12 = .ok (.iaload, 1) := by decide +kernel
theorem dX13_select_13 : decode cX13_select 13 = .ok (.istore 4, 2) := by decide +kernel
theorem dX13_select_15 : decode cX13_select 15 = .ok (.iload 4, 2) := by decide +kernel
theorem dX13_select_17 : decode cX13_select 17 = .ok (.ifCond .ne 91, 3) := by decide +kernel
theorem dX13_select_20 : decode cX13_select 20 = .ok (.aload_n 0, 1) := by decide +kernel
theorem dX13_select_21 : decode cX13_select 21 = .ok (.getfield 23, 3) := by decide +kernel
theorem dX13_select_24 : decode cX13_select 24 = .ok (.iload_n 3, 1) := by decide +kernel
theorem dX13_select_25 : decode cX13_select 25 = .ok (.iaload, 1) := by decide +kernel
theorem dX13_select_26 : decode cX13_select 26 = .ok (.bipush 6, 2) := by decide +kernel
theorem dX13_select_28 : decode cX13_select 28 = .ok (.if_icmp .ne 80, 3) := by decide +kernel
theorem dX13_select_31 : decode cX13_select 31 = .ok (.aload_n 0, 1) := by decide +kernel
theorem dX13_select_32 : decode cX13_select 32 = .ok (.iload_n 3, 1) := by decide +kernel
theorem dX13_select_33 : decode cX13_select 33 = .ok (.iload_n 3, 1) := by decide +kernel
theorem dX13_select_34 : decode cX13_select 34 = .ok (.invokevirtual 415, 3) := by decide +kernel
theorem dX13_select_37 : decode cX13_select 37 = .ok (.istore 5, 2) := by decide +kernel
theorem dX13_select_39 : decode cX13_select 39 = .ok (.iload 5, 2) := by decide +kernel
theorem dX13_select_41 : decode cX13_select 41 = .ok (.iconst (-1), 1) := by decide +kernel
theorem dX13_select_42 : decode cX13_select 42 = .ok (.if_icmp .eq 63, 3) := by decide +kernel
theorem dX13_select_45 : decode cX13_select 45 = .ok (.aload_n 0, 1) := by decide +kernel
theorem dX13_select_46 : decode cX13_select 46 = .ok (.aload_n 0, 1) := by decide +kernel
theorem dX13_select_47 : decode cX13_select 47 = .ok (.getfield 51, 3) := by decide +kernel
theorem dX13_select_50 : decode cX13_select 50 = .ok (.aload_n 0, 1) := by decide +kernel
theorem dX13_select_51 : decode cX13_select 51 = .ok (.getfield 91, 3) := by decide +kernel
theorem dX13_select_54 : decode cX13_select 54 = .ok (.iload_n 2, 1) := by decide +kernel
theorem dX13_select_55 : decode cX13_select 55 = .ok (.iaload, 1) := by decide +kernel
theorem dX13_select_56 : decode cX13_select 56 = .ok (.aload_n 0, 1) := by decide +kernel
theorem dX13_select_57 : decode cX13_select 57 = .ok (.getfield 94, 3) := by decide +kernel
theorem dX13_select_60 : decode cX13_select 60 = .ok (.iload_n 2, 1) := by decide +kernel
theorem dX13_select_61 : decode cX13_select 61 = .ok (.iaload, 1) := by decide +kernel
theorem dX13_select_62 : decode cX13_select 62 = .ok (.aload_n 0, 1) := by decide +kernel
theorem dX13_select_63 : decode cX13_select 63 = .ok (.getfield 20, 3) := by decide +kernel
theorem dX13_select_66 : decode cX13_select 66 = .ok (.aload_n 0, 1) := by decide +kernel
theorem dX13_select_67 : decode cX13_select 67 = .ok (.getfield 42, 3) := by decide +kernel
theorem dX13_select_70 : decode cX13_select 70 = .ok (.iload 5, 2) := by decide +kernel
theorem dX13_select_72 : decode cX13_select 72 = .ok (.iaload, 1) := by decide +kernel
theorem dX13_select_73 : decode cX13_select 73 = .ok (.aload_n 0, 1) := by decide +kernel
theorem dX13_select_74 : decode cX13_select 74 = .ok (.getfield 45, 3) := by decide +kernel
theorem dX13_select_77 : decode cX13_select 77 = .ok (.iload 5, 2) := by decide +kernel
theorem dX13_select_79 : decode cX13_select 79 = .ok (.iaload, 1) := by decide +kernel
theorem dX13_select_80 : decode cX13_select 80 = .ok (.invokevirtual 271, 3) := by decide +kernel
theorem dX13_select_83 : decode cX13_select 83 = .ok (.ifCond .eq 10, 3) := by decide +kernel
theorem dX13_select_86 : decode cX13_select 86 = .ok (.aload_n 0, 1) := by decide +kernel
theorem dX13_select_87 : decode cX13_select 87 = .ok (.iload_n 1, 1) := by decide +kernel
theorem dX13_select_88 : decode cX13_select 88 = .ok (.iload 5, 2) := by decide +kernel
theorem dX13_select_90 : decode cX13_select 90 = .ok (.invokevirtual 425, 3) := by decide +kernel
theorem dX13_select_93 : decode cX13_select 93 = .ok (.aload_n 0, 1) := by decide +kernel
theorem dX13_select_94 : decode cX13_select 94 = .ok (.iload_n 3, 1) := by decide +kernel
theorem dX13_select_95 : decode cX13_select 95 = .ok (.iload 5, 2) := by decide +kernel
theorem dX13_select_97 : decode cX13_select 97 = .ok (.invokevirtual 415, 3) := by decide +kernel
theorem dX13_select_100 : decode cX13_select 100 = .ok (.istore 5, 2) := by decide +kernel
theorem dX13_select_102 : decode cX13_select 102 = .ok (.goto (-63), 3) := by decide +kernel
theorem dX13_select_105 : decode cX13_select 105 = .ok (.goto 121, 3) := by decide +kernel
theorem dX13_select_108 : decode cX13_select 108 = .ok (.iload 4, 2) := by decide +kernel
theorem dX13_select_110 : decode cX13_select 110 = .ok (.iconst 1, 1) := by decide +kernel
theorem dX13_select_111 : decode cX13_select 111 = .ok (.if_icmp .ne 39, 3) := by decide +kernel
theorem dX13_select_114 : decode cX13_select 114 = .ok (.aload_n 0, 1) := by decide +kernel
theorem dX13_select_115 : decode cX13_select 115 = .ok (.iload_n 3, 1) := by decide +kernel
theorem dX13_select_116 : decode cX13_select 116 = .ok (.iload_n 3, 1) := by decide +kernel
theorem dX13_select_117 : decode cX13_select 117 = .ok (.invokevirtual 415, 3) := by decide +kernel
theorem dX13_select_120 : decode cX13_select 120 = .ok (.istore 5, 2) := by decide +kernel
theorem dX13_select_122 : decode cX13_select 122 = .ok (.iload 5, 2) := by decide +kernel
theorem dX13_select_124 : decode cX13_select 124 = .ok (.iconst (-1), 1) := by decide +kernel
theorem dX13_select_125 : decode cX13_select 125 = .ok (.if_icmp .eq 22, 3) := by decide +kernel
theorem dX13_select_128 : decode cX13_select 128 = .ok (.aload_n 0, 1) := by decide +kernel
theorem dX13_select_129 : decode cX13_select 129 = .ok (.iload_n 1, 1) := by decide +kernel
theorem dX13_select_130 : decode cX13_select 130 = .ok (.iload 5, 2) := by decide +kernel
theorem dX13_select_132 : decode cX13_select 132 = .ok (.invokevirtual 425, 3) := by decide +kernel
theorem dX13_select_135 : decode cX13_select 135 = .ok (.aload_n 0, 1) := by decide +kernel
theorem dX13_select_136 : decode cX13_select 136 = .ok (.iload_n 3, 1) := by decide +kernel
theorem dX13_select_137 : decode cX13_select 137 = .ok (.iload 5, 2) := by decide +kernel
theorem dX13_select_139 : decode cX13_select 139 = .ok (.invokevirtual 415, 3) := by decide +kernel
theorem dX13_select_142 : decode cX13_select 142 = .ok (.istore 5, 2) := by decide +kernel
theorem dX13_select_144 : decode cX13_select 144 = .ok (.goto (-22), 3) := by decide +kernel
theorem dX13_select_147 : decode cX13_select 147 = .ok (.goto 79, 3) := by decide +kernel
theorem dX13_select_150 : decode cX13_select 150 = .ok (.iload 4, 2) := by decide +kernel
theorem dX13_select_152 : decode cX13_select 152 = .ok (.iconst 2, 1) := by decide +kernel
theorem dX13_select_153 : decode cX13_select 153 = .ok (.if_icmp .ne 51, 3) := by decide +kernel
theorem dX13_select_156 : decode cX13_select 156 = .ok (.aload_n 0, 1) := by decide +kernel
theorem dX13_select_157 : decode cX13_select 157 = .ok (.getfield 23, 3) := by decide +kernel
theorem dX13_select_160 : decode cX13_select 160 = .ok (.iload_n 3, 1) := by decide +kernel
theorem dX13_select_161 : decode cX13_select 161 = .ok (.iaload, 1) := by decide +kernel
theorem dX13_select_162 : decode cX13_select 162 = .ok (.iconst 5, 1) := by decide +kernel
theorem dX13_select_163 : decode cX13_select 163 = .ok (.if_icmp .ne 41, 3) := by decide +kernel
theorem dX13_select_166 : decode cX13_select 166 = .ok (.aload_n 0, 1) := by decide +kernel
theorem dX13_select_167 : decode cX13_select 167 = .ok (.iload_n 1, 1) := by decide +kernel
theorem dX13_select_168 : decode cX13_select 168 = .ok (.aload_n 0, 1) := by decide +kernel
theorem dX13_select_169 : decode cX13_select 169 = .ok (.getfield 91, 3) := by decide +kernel
theorem dX13_select_172 : decode cX13_select 172 = .ok (.iload_n 2, 1) := by decide +kernel
theorem dX13_select_173 : decode cX13_select 173 = .ok (.iaload, 1) := by decide +kernel
theorem dX13_select_174 : decode cX13_select 174 = .ok (.ifCond .ge 18, 3) := by decide +kernel
theorem dX13_select_177 : decode cX13_select 177 = .ok (.aload_n 0, 1) := by decide +kernel
theorem dX13_select_178 : decode cX13_select 178 = .ok (.getfield 91, 3) := by decide +kernel
theorem dX13_select_181 : decode cX13_select 181 = .ok (.iload_n 2, 1) := by decide +kernel
theorem dX13_select_182 : decode cX13_select 182 = .ok (.iaload, 1) := by decide +kernel
theorem dX13_select_183 : decode cX13_select 183 = .ok (.aload_n 0, 1) := by decide +kernel
theorem dX13_select_184 : decode cX13_select 184 = .ok (.iload_n 3, 1) := by decide +kernel
theorem dX13_select_185 : decode cX13_select 185 = .ok (.invokevirtual 428, 3) := by decide +kernel
theorem dX13_select_188 : decode cX13_select 188 = .ok (.iadd, 1) := by decide +kernel
theorem dX13_select_189 : decode cX13_select 189 = .ok (.goto 9, 3) := by decide +kernel
theorem dX13_select_192 : decode cX13_select 192 = .ok (.aload_n 0, 1) := by decide +kernel
theorem dX13_select_193 : decode cX13_select 193 = .ok (.getfield 91, 3) := by decide +kernel
theorem dX13_select_196 : decode cX13_select 196 = .ok (.iload_n 2, 1) := by decide +kernel
theorem dX13_select_197 : decode cX13_select 197 = .ok (.iaload, 1) := by decide +kernel
theorem dX13_select_198 : decode cX13_select 198 = .ok (.invokevirtual 431, 3) := by decide +kernel
theorem dX13_select_201 : decode cX13_select 201 = .ok (.goto 25, 3) := by decide +kernel
theorem dX13_select_204 : decode cX13_select 204 = .ok (.iload 4, 2) := by decide +kernel
theorem dX13_select_206 : decode cX13_select 206 = .ok (.iconst 3, 1) := by decide +kernel
theorem dX13_select_207 : decode cX13_select 207 = .ok (.if_icmp .ne 19, 3) := by decide +kernel
theorem dX13_select_210 : decode cX13_select 210 = .ok (.aload_n 0, 1) := by decide +kernel
theorem dX13_select_211 : decode cX13_select 211 = .ok (.getfield 23, 3) := by decide +kernel
theorem dX13_select_214 : decode cX13_select 214 = .ok (.iload_n 3, 1) := by decide +kernel
theorem dX13_select_215 : decode cX13_select 215 = .ok (.iaload, 1) := by decide +kernel
theorem dX13_select_216 : decode cX13_select 216 = .ok (.iconst 5, 1) := by decide +kernel
theorem dX13_select_217 : decode cX13_select 217 = .ok (.if_icmp .ne 9, 3) := by decide +kernel
theorem dX13_select_220 : decode cX13_select 220 = .ok (.aload_n 0, 1) := by decide +kernel
theorem dX13_select_221 : decode cX13_select 221 = .ok (.iload_n 1, 1) := by decide +kernel
theorem dX13_select_222 : decode cX13_select 222 = .ok (.iload_n 2, 1) := by decide +kernel
theorem dX13_select_223 : decode cX13_select 223 = .ok (.invokevirtual 434, 3) := by decide +kernel
theorem dX13_select_226 : decode cX13_select 226 = .ok (.return_, 1) := by decide +kernel
def mo_readPathThing_j49 (x1 : Int32) (x2 : Int32) (y0 : Int32) (S : md_S) : Option md_S :=
  md_b (mo_newPath y0 S) fun v49 S49 =>
  md_c (mo_push x2 x1 v49 S49) fun S59 =>
  md_c (mo_push 0 v49 0 S59) fun S67 =>
  some S67
theorem ro_readPathThing_j49 {l : Launch} {G : mv_G} {B : mv_H} {m d : Nat} (hG : mv_ok G) (hm : G.2.2.1 ≤ m) {x1 : Int32} {x2 : Int32} {y0 : Int32} {S : md_S} {q : md_S} (hq : mo_readPathThing_j49 x1 x2 y0 S = some q) : mv_rq l G mX13_readPathThing (d + 2) 49 [some (.ref m), some (.int x1), some (.int x2), none, none] [.int y0, .ref m] (md_H G B m S) (md_V G B m q) := by
  unfold mo_readPathThing_j49 at hq
  obtain ⟨v49, S49, e49, hq⟩ := md_b_e hq
  refine q_cV (Y := mX13_newPath) (As := [.int y0]) (st := []) (b := m) (ci := 15) vc_X13_newPath dX13_readPathThing_49 ml_RX13_352 rfl md_obj rfl (Nat.le_of_ble_eq_true rfl) rfl (Nat.le_of_ble_eq_true rfl) (ro_newPath (d := d + 1) hG hm e49) (fun v h1 hq1 => ?_) (fun E h1 hq1 => md_nQ hq1)
  obtain ⟨hv, rfl⟩ := hq1
  cases hv
  show mv_rq l G mX13_readPathThing (d + 2) 52 [some (.ref m), some (.int x1), some (.int x2), none, none] [.int v49] (md_H G B m S49) _
  refine q_istore dX13_readPathThing_52 (Nat.le_of_ble_eq_true rfl) rfl ?_
  show mv_rq l G mX13_readPathThing (d + 2) 54 [some (.ref m), some (.int x1), some (.int x2), none, some (.int v49)] [] (md_H G B m S49) _
  refine q_aload_n dX13_readPathThing_54 rfl ?_
  refine q_iload_n dX13_readPathThing_55 rfl ?_
  refine q_iload_n dX13_readPathThing_56 rfl ?_
  refine q_iload dX13_readPathThing_57 rfl ?_
  obtain ⟨S59, e59, hq⟩ := md_c_e hq
  refine q_cV (Y := mX13_push) (As := [.int x2, .int x1, .int v49]) (st := []) (b := m) (ci := 15) vc_X13_push dX13_readPathThing_59 ml_RX13_326 rfl md_obj rfl (Nat.le_of_ble_eq_true rfl) rfl (Nat.le_of_ble_eq_true rfl) (ro_push (d := d + 1) hG hm e59) (fun v h1 hq1 => ?_) (fun E h1 hq1 => md_nV hq1)
  obtain ⟨hv, rfl⟩ := hq1
  cases hv
  show mv_rq l G mX13_readPathThing (d + 2) 62 [some (.ref m), some (.int x1), some (.int x2), none, some (.int v49)] [] (md_H G B m S59) _
  refine q_aload_n dX13_readPathThing_62 rfl ?_
  refine q_iconst (v := 0) dX13_readPathThing_63 (by decide) ?_
  refine q_iload dX13_readPathThing_64 rfl ?_
  refine q_iconst (v := 0) dX13_readPathThing_66 (by decide) ?_
  obtain ⟨S67, e67, hq⟩ := md_c_e hq
  refine q_cV (Y := mX13_push) (As := [.int 0, .int v49, .int 0]) (st := []) (b := m) (ci := 15) vc_X13_push dX13_readPathThing_67 ml_RX13_326 rfl md_obj rfl (Nat.le_of_ble_eq_true rfl) rfl (Nat.le_of_ble_eq_true rfl) (ro_push (d := d + 1) hG hm e67) (fun v h1 hq1 => ?_) (fun E h1 hq1 => md_nV hq1)
  obtain ⟨hv, rfl⟩ := hq1
  cases hv
  show mv_rq l G mX13_readPathThing (d + 2) 70 [some (.ref m), some (.int x1), some (.int x2), none, some (.int v49)] [] (md_H G B m S67) _
  obtain rfl := Option.some.inj hq
  exact q_vret dX13_readPathThing_70 rfl ⟨rfl, rfl⟩
def mo_readPathThing_j28 (S : md_S) : Option md_S :=
  md_c (mo_fail (S.1 6) S) fun S33 =>
  some S33
theorem ro_readPathThing_j28 {l : Launch} {G : mv_G} {B : mv_H} {m d : Nat} (hG : mv_ok G) (hm : G.2.2.1 ≤ m) {S : md_S} {q : md_S} (hq : mo_readPathThing_j28  S = some q) : mv_rq l G mX13_readPathThing (d + 2) 28 [some (.ref m), none, none, none, none] [] (md_H G B m S) (md_V G B m q) := by
  unfold mo_readPathThing_j28 at hq
  refine q_aload_n dX13_readPathThing_28 rfl ?_
  refine q_aload_n dX13_readPathThing_29 rfl ?_
  refine r_geti 6 dX13_readPathThing_30 fl_RX13_202 (by decide) rfl ki_6 ?_
  obtain ⟨S33, e33, hq⟩ := md_c_e hq
  refine q_cV (Y := mX13_fail) (As := [.int (S.1 6)]) (st := []) (b := m) (ci := 15) vc_X13_fail dX13_readPathThing_33 ml_RX13_216 rfl md_obj rfl (Nat.le_of_ble_eq_true rfl) rfl (Nat.le_of_ble_eq_true rfl) (ro_fail (d := d) hG hm e33) (fun v h1 hq1 => ?_) (fun E h1 hq1 => md_nV hq1)
  obtain ⟨hv, rfl⟩ := hq1
  cases hv
  show mv_rq l G mX13_readPathThing (d + 2) 36 [some (.ref m), none, none, none, none] [] (md_H G B m S33) _
  obtain rfl := Option.some.inj hq
  exact q_vret dX13_readPathThing_36 rfl ⟨rfl, rfl⟩
def mo_readPathThing_j37 (x1 : Int32) (x2 : Int32) (x3 : Int32) (S : md_S) : Option md_S :=
  if x3 = 36 then
    mo_readPathThing_j49 x1 x2 1 S
  else
    mo_readPathThing_j49 x1 x2 0 S
theorem ro_readPathThing_j37 {l : Launch} {G : mv_G} {B : mv_H} {m d : Nat} (hG : mv_ok G) (hm : G.2.2.1 ≤ m) {x1 : Int32} {x2 : Int32} {x3 : Int32} {S : md_S} {q : md_S} (hq : mo_readPathThing_j37 x1 x2 x3 S = some q) : mv_rq l G mX13_readPathThing (d + 2) 37 [some (.ref m), some (.int x1), some (.int x2), some (.int x3), none] [] (md_H G B m S) (md_V G B m q) := by
  unfold mo_readPathThing_j37 at hq
  refine q_aload_n dX13_readPathThing_37 rfl ?_
  refine q_iload_n dX13_readPathThing_38 rfl ?_
  refine q_bipush (v := 36) dX13_readPathThing_39 (by decide) ?_
  refine q_icmp_ne (tgt := 48) dX13_readPathThing_41 (by decide) (fun c41 => ?_) (fun c41 => ?_)
  ·
    have hq := md_neg c41 hq
    refine q_iconst (v := 0) dX13_readPathThing_48 (by decide) ?_
    refine mv_weak (A := [some (.ref m), some (.int x1), some (.int x2), none, none]) (by repeat' constructor) ?_
    exact ro_readPathThing_j49 hG hm hq
  ·
    have hq := md_pos c41 hq
    refine q_iconst (v := 1) dX13_readPathThing_44 (by decide) ?_
    refine q_goto (tgt := 49) dX13_readPathThing_45 (by decide) ?_
    refine mv_weak (A := [some (.ref m), some (.int x1), some (.int x2), none, none]) (by repeat' constructor) ?_
    exact ro_readPathThing_j49 hG hm hq
def mo_readPathThing (x1 : Int32) (x2 : Int32) (S : md_S) : Option md_S :=
  md_b (mo_at (S.1 6) S) fun v5 S5 =>
  md_b (mo_good S5) fun v10 S10 =>
  if v10 = 0 then
    mo_readPathThing_j28  S10
  else
    if v5 = 64 then
      mo_readPathThing_j37 x1 x2 v5 S10
    else
      if v5 = 36 then
        mo_readPathThing_j37 x1 x2 v5 S10
      else
        mo_readPathThing_j28  S10
theorem ro_readPathThing {l : Launch} {G : mv_G} {B : mv_H} {m d : Nat} (hG : mv_ok G) (hm : G.2.2.1 ≤ m) {x1 : Int32} {x2 : Int32} {S : md_S} {q : md_S} (hq : mo_readPathThing x1 x2 S = some q) : mv_rq l G mX13_readPathThing (d + 2) 0 (mv_in [.ref m, .int x1, .int x2] 5) [] (md_H G B m S) (md_V G B m q) := by
  unfold mo_readPathThing at hq
  show mv_rq l G mX13_readPathThing (d + 2) 0 [some (.ref m), some (.int x1), some (.int x2), none, none] [] (md_H G B m S) _
  refine q_aload_n dX13_readPathThing_0 rfl ?_
  refine q_aload_n dX13_readPathThing_1 rfl ?_
  refine r_geti 6 dX13_readPathThing_2 fl_RX13_202 (by decide) rfl ki_6 ?_
  obtain ⟨v5, S5, e5, hq⟩ := md_b_e hq
  refine q_cV (Y := mX13_at) (As := [.int (S.1 6)]) (st := []) (b := m) (ci := 15) vc_X13_at dX13_readPathThing_5 ml_RX13_212 rfl md_obj rfl (Nat.le_of_ble_eq_true rfl) rfl (Nat.le_of_ble_eq_true rfl) (ro_at (d := d + 1) hG hm e5) (fun v h1 hq1 => ?_) (fun E h1 hq1 => md_nQ hq1)
  obtain ⟨hv, rfl⟩ := hq1
  cases hv
  show mv_rq l G mX13_readPathThing (d + 2) 8 [some (.ref m), some (.int x1), some (.int x2), none, none] [.int v5] (md_H G B m S5) _
  refine q_istore_n dX13_readPathThing_8 (Nat.le_of_ble_eq_true rfl) rfl ?_
  show mv_rq l G mX13_readPathThing (d + 2) 9 [some (.ref m), some (.int x1), some (.int x2), some (.int v5), none] [] (md_H G B m S5) _
  refine q_aload_n dX13_readPathThing_9 rfl ?_
  obtain ⟨v10, S10, e10, hq⟩ := md_b_e hq
  refine q_cV (Y := mX13_good) (As := []) (st := []) (b := m) (ci := 15) vc_X13_good dX13_readPathThing_10 ml_RX13_208 rfl md_obj rfl (Nat.le_of_ble_eq_true rfl) rfl (Nat.le_of_ble_eq_true rfl) (ro_good (d := d + 1) hG hm e10) (fun v h1 hq1 => ?_) (fun E h1 hq1 => md_nQ hq1)
  obtain ⟨hv, rfl⟩ := hq1
  cases hv
  show mv_rq l G mX13_readPathThing (d + 2) 13 [some (.ref m), some (.int x1), some (.int x2), some (.int v5), none] [.int v10] (md_H G B m S10) _
  refine q_if_eq (tgt := 28) dX13_readPathThing_13 (by decide) (fun c13 => ?_) (fun c13 => ?_)
  ·
    have hq := md_pos c13 hq
    refine mv_weak (A := [some (.ref m), none, none, none, none]) (by repeat' constructor) ?_
    exact ro_readPathThing_j28 hG hm hq
  ·
    have hq := md_neg c13 hq
    refine q_iload_n dX13_readPathThing_16 rfl ?_
    refine q_bipush (v := 64) dX13_readPathThing_17 (by decide) ?_
    refine q_icmp_eq (tgt := 37) dX13_readPathThing_19 (by decide) (fun c19 => ?_) (fun c19 => ?_)
    ·
      have hq := md_pos c19 hq
      refine mv_weak (A := [some (.ref m), some (.int x1), some (.int x2), some (.int v5), none]) (by repeat' constructor) ?_
      exact ro_readPathThing_j37 hG hm hq
    ·
      have hq := md_neg c19 hq
      refine q_iload_n dX13_readPathThing_22 rfl ?_
      refine q_bipush (v := 36) dX13_readPathThing_23 (by decide) ?_
      refine q_icmp_eq (tgt := 37) dX13_readPathThing_25 (by decide) (fun c25 => ?_) (fun c25 => ?_)
      ·
        have hq := md_pos c25 hq
        refine mv_weak (A := [some (.ref m), some (.int x1), some (.int x2), some (.int v5), none]) (by repeat' constructor) ?_
        exact ro_readPathThing_j37 hG hm hq
      ·
        have hq := md_neg c25 hq
        refine mv_weak (A := [some (.ref m), none, none, none, none]) (by repeat' constructor) ?_
        exact ro_readPathThing_j28 hG hm hq
def mo_readEnd (N : Nat) (x1 : Int32) (x2 : Int32) (x3 : Int32) (S : md_S) : Option md_S :=
  if x1 = 5 then
    md_c (mo_emit x2 10 0 0 S) fun S78 =>
    md_c (mo_push 4 x2 0 S78) fun S85 =>
    some S85
  else
  if x1 = 6 then
    md_l (md_p S 31 ((S.1 31) - 1)) fun S241 =>
    some S241
  else
  if x1 = 7 then
    md_l (md_p S 31 ((S.1 31) - 1)) fun S241 =>
    some S241
  else
  if x1 = 8 then
    md_c (mo_emit x2 9 0 0 S) fun S97 =>
    md_c (mo_push 7 x2 0 S97) fun S105 =>
    some S105
  else
  if x1 = 9 then
    md_l (md_p S 31 ((S.1 31) - 1)) fun S241 =>
    some S241
  else
  if x1 = 10 then
    md_l (md_p S 31 ((S.1 31) - 1)) fun S118 =>
    md_c (mo_emit x2 8 0 0 S118) fun S127 =>
    some S127
  else
  if x1 = 11 then
    md_l (md_p S 31 ((S.1 31) - 1)) fun S140 =>
    md_c (mo_need 41 S140) fun S146 =>
    some S146
  else
  if x1 = 12 then
    md_l (md_p S 31 ((S.1 31) - 1)) fun S241 =>
    some S241
  else
  if x1 = 13 then
    md_l (md_p S 31 ((S.1 31) - 1)) fun S241 =>
    some S241
  else
  if x1 = 14 then
    md_l (md_p S 31 ((S.1 31) - 1)) fun S241 =>
    some S241
  else
  if x1 = 15 then
    md_c (mo_emit x2 7 x3 0 S) fun S158 =>
    some S158
  else
  if x1 = 16 then
    md_l (md_p S 31 ((S.1 31) - 1)) fun S171 =>
    md_c (mo_need 41 S171) fun S177 =>
    md_c (mo_emit x2 3 0 0 S177) fun S185 =>
    some S185
  else
  if x1 = 17 then
    md_l (md_p S 31 ((S.1 31) - 1)) fun S198 =>
    md_c (mo_need 41 S198) fun S204 =>
    md_c (mo_emit x2 2 x3 0 S204) fun S212 =>
    some S212
  else
  if x1 = 18 then
    md_c (mo_mustBeSingle N x3 S) fun S220 =>
    md_c (mo_emit x2 1 x3 0 S220) fun S228 =>
    some S228
  else
    md_l (md_p S 31 ((S.1 31) - 1)) fun S241 =>
    some S241
theorem ro_readEnd {l : Launch} {G : mv_G} {B : mv_H} {m N d : Nat} (hG : mv_ok G) (hm : G.2.2.1 ≤ m) {x1 : Int32} {x2 : Int32} {x3 : Int32} {S : md_S} {q : md_S} (hq : mo_readEnd N x1 x2 x3 S = some q) : mv_rq l G mX13_readEnd (d + 3) 0 (mv_in [.ref m, .int x1, .int x2, .int x3] 4) [] (md_H G B m S) (md_V G B m q) := by
  unfold mo_readEnd at hq
  show mv_rq l G mX13_readEnd (d + 3) 0 [some (.ref m), some (.int x1), some (.int x2), some (.int x3)] [] (md_H G B m S) _
  refine q_iload_n dX13_readEnd_0 rfl ?_
  by_cases c1_0 : x1 = 5
  ·
    have hq := md_pos c1_0 hq
    have t1 := md_ti (i := 5) (by decide) c1_0
    refine q_tableIn (off := 71) (tgt := 72) dX13_readEnd_1 (by rw [t1]; decide) (by rw [t1]; decide) (by rw [t1]; rfl) (by decide) ?_
    refine q_aload_n dX13_readEnd_72 rfl ?_
    refine q_iload_n dX13_readEnd_73 rfl ?_
    refine q_bipush (v := 10) dX13_readEnd_74 (by decide) ?_
    refine q_iconst (v := 0) dX13_readEnd_76 (by decide) ?_
    refine q_iconst (v := 0) dX13_readEnd_77 (by decide) ?_
    obtain ⟨S78, e78, hq⟩ := md_c_e hq
    refine q_cV (Y := mX13_emit) (As := [.int x2, .int 10, .int 0, .int 0]) (st := []) (b := m) (ci := 15) vc_X13_emit dX13_readEnd_78 ml_RX13_362 rfl md_obj rfl (Nat.le_of_ble_eq_true rfl) rfl (Nat.le_of_ble_eq_true rfl) (ro_emit (d := d + 2) hG hm e78) (fun v h1 hq1 => ?_) (fun E h1 hq1 => md_nV hq1)
    obtain ⟨hv, rfl⟩ := hq1
    cases hv
    show mv_rq l G mX13_readEnd (d + 3) 81 [some (.ref m), some (.int x1), some (.int x2), some (.int x3)] [] (md_H G B m S78) _
    refine q_aload_n dX13_readEnd_81 rfl ?_
    refine q_iconst (v := 4) dX13_readEnd_82 (by decide) ?_
    refine q_iload_n dX13_readEnd_83 rfl ?_
    refine q_iconst (v := 0) dX13_readEnd_84 (by decide) ?_
    obtain ⟨S85, e85, hq⟩ := md_c_e hq
    refine q_cV (Y := mX13_push) (As := [.int 4, .int x2, .int 0]) (st := []) (b := m) (ci := 15) vc_X13_push dX13_readEnd_85 ml_RX13_326 rfl md_obj rfl (Nat.le_of_ble_eq_true rfl) rfl (Nat.le_of_ble_eq_true rfl) (ro_push (d := d + 2) hG hm e85) (fun v h1 hq1 => ?_) (fun E h1 hq1 => md_nV hq1)
    obtain ⟨hv, rfl⟩ := hq1
    cases hv
    show mv_rq l G mX13_readEnd (d + 3) 88 [some (.ref m), some (.int x1), some (.int x2), some (.int x3)] [] (md_H G B m S85) _
    refine q_goto (tgt := 244) dX13_readEnd_88 (by decide) ?_
    obtain rfl := Option.some.inj hq
    exact q_vret dX13_readEnd_244 rfl ⟨rfl, rfl⟩
  ·
    have hq := md_neg c1_0 hq
    by_cases c1_1 : x1 = 6
    ·
      have hq := md_pos c1_1 hq
      have t1 := md_ti (i := 6) (by decide) c1_1
      refine q_tableIn (off := 233) (tgt := 234) dX13_readEnd_1 (by rw [t1]; decide) (by rw [t1]; decide) (by rw [t1]; rfl) (by decide) ?_
      refine q_aload_n dX13_readEnd_234 rfl ?_
      refine q_dup dX13_readEnd_235 rfl ?_
      refine r_geti 31 dX13_readEnd_236 fl_RX13_340 (by decide) rfl ki_31 ?_
      refine q_iconst (v := 1) dX13_readEnd_239 (by decide) ?_
      refine q_isub dX13_readEnd_240 ?_
      refine r_puti 31 .int dX13_readEnd_241 fl_RX13_340 (by decide) rfl ki_31 rfl kp_31 rfl rfl hm (fun S241 e241 => ?_)
      have hq := md_l_e e241 hq
      clear e241
      show mv_rq l G mX13_readEnd (d + 3) 244 [some (.ref m), some (.int x1), some (.int x2), some (.int x3)] [] (md_H G B m S241) _
      obtain rfl := Option.some.inj hq
      exact q_vret dX13_readEnd_244 rfl ⟨rfl, rfl⟩
    ·
      have hq := md_neg c1_1 hq
      by_cases c1_2 : x1 = 7
      ·
        have hq := md_pos c1_2 hq
        have t1 := md_ti (i := 7) (by decide) c1_2
        refine q_tableIn (off := 233) (tgt := 234) dX13_readEnd_1 (by rw [t1]; decide) (by rw [t1]; decide) (by rw [t1]; rfl) (by decide) ?_
        refine q_aload_n dX13_readEnd_234 rfl ?_
        refine q_dup dX13_readEnd_235 rfl ?_
        refine r_geti 31 dX13_readEnd_236 fl_RX13_340 (by decide) rfl ki_31 ?_
        refine q_iconst (v := 1) dX13_readEnd_239 (by decide) ?_
        refine q_isub dX13_readEnd_240 ?_
        refine r_puti 31 .int dX13_readEnd_241 fl_RX13_340 (by decide) rfl ki_31 rfl kp_31 rfl rfl hm (fun S241 e241 => ?_)
        have hq := md_l_e e241 hq
        clear e241
        show mv_rq l G mX13_readEnd (d + 3) 244 [some (.ref m), some (.int x1), some (.int x2), some (.int x3)] [] (md_H G B m S241) _
        obtain rfl := Option.some.inj hq
        exact q_vret dX13_readEnd_244 rfl ⟨rfl, rfl⟩
      ·
        have hq := md_neg c1_2 hq
        by_cases c1_3 : x1 = 8
        ·
          have hq := md_pos c1_3 hq
          have t1 := md_ti (i := 8) (by decide) c1_3
          refine q_tableIn (off := 90) (tgt := 91) dX13_readEnd_1 (by rw [t1]; decide) (by rw [t1]; decide) (by rw [t1]; rfl) (by decide) ?_
          refine q_aload_n dX13_readEnd_91 rfl ?_
          refine q_iload_n dX13_readEnd_92 rfl ?_
          refine q_bipush (v := 9) dX13_readEnd_93 (by decide) ?_
          refine q_iconst (v := 0) dX13_readEnd_95 (by decide) ?_
          refine q_iconst (v := 0) dX13_readEnd_96 (by decide) ?_
          obtain ⟨S97, e97, hq⟩ := md_c_e hq
          refine q_cV (Y := mX13_emit) (As := [.int x2, .int 9, .int 0, .int 0]) (st := []) (b := m) (ci := 15) vc_X13_emit dX13_readEnd_97 ml_RX13_362 rfl md_obj rfl (Nat.le_of_ble_eq_true rfl) rfl (Nat.le_of_ble_eq_true rfl) (ro_emit (d := d + 2) hG hm e97) (fun v h1 hq1 => ?_) (fun E h1 hq1 => md_nV hq1)
          obtain ⟨hv, rfl⟩ := hq1
          cases hv
          show mv_rq l G mX13_readEnd (d + 3) 100 [some (.ref m), some (.int x1), some (.int x2), some (.int x3)] [] (md_H G B m S97) _
          refine q_aload_n dX13_readEnd_100 rfl ?_
          refine q_bipush (v := 7) dX13_readEnd_101 (by decide) ?_
          refine q_iload_n dX13_readEnd_103 rfl ?_
          refine q_iconst (v := 0) dX13_readEnd_104 (by decide) ?_
          obtain ⟨S105, e105, hq⟩ := md_c_e hq
          refine q_cV (Y := mX13_push) (As := [.int 7, .int x2, .int 0]) (st := []) (b := m) (ci := 15) vc_X13_push dX13_readEnd_105 ml_RX13_326 rfl md_obj rfl (Nat.le_of_ble_eq_true rfl) rfl (Nat.le_of_ble_eq_true rfl) (ro_push (d := d + 2) hG hm e105) (fun v h1 hq1 => ?_) (fun E h1 hq1 => md_nV hq1)
          obtain ⟨hv, rfl⟩ := hq1
          cases hv
          show mv_rq l G mX13_readEnd (d + 3) 108 [some (.ref m), some (.int x1), some (.int x2), some (.int x3)] [] (md_H G B m S105) _
          refine q_goto (tgt := 244) dX13_readEnd_108 (by decide) ?_
          obtain rfl := Option.some.inj hq
          exact q_vret dX13_readEnd_244 rfl ⟨rfl, rfl⟩
        ·
          have hq := md_neg c1_3 hq
          by_cases c1_4 : x1 = 9
          ·
            have hq := md_pos c1_4 hq
            have t1 := md_ti (i := 9) (by decide) c1_4
            refine q_tableIn (off := 233) (tgt := 234) dX13_readEnd_1 (by rw [t1]; decide) (by rw [t1]; decide) (by rw [t1]; rfl) (by decide) ?_
            refine q_aload_n dX13_readEnd_234 rfl ?_
            refine q_dup dX13_readEnd_235 rfl ?_
            refine r_geti 31 dX13_readEnd_236 fl_RX13_340 (by decide) rfl ki_31 ?_
            refine q_iconst (v := 1) dX13_readEnd_239 (by decide) ?_
            refine q_isub dX13_readEnd_240 ?_
            refine r_puti 31 .int dX13_readEnd_241 fl_RX13_340 (by decide) rfl ki_31 rfl kp_31 rfl rfl hm (fun S241 e241 => ?_)
            have hq := md_l_e e241 hq
            clear e241
            show mv_rq l G mX13_readEnd (d + 3) 244 [some (.ref m), some (.int x1), some (.int x2), some (.int x3)] [] (md_H G B m S241) _
            obtain rfl := Option.some.inj hq
            exact q_vret dX13_readEnd_244 rfl ⟨rfl, rfl⟩
          ·
            have hq := md_neg c1_4 hq
            by_cases c1_5 : x1 = 10
            ·
              have hq := md_pos c1_5 hq
              have t1 := md_ti (i := 10) (by decide) c1_5
              refine q_tableIn (off := 110) (tgt := 111) dX13_readEnd_1 (by rw [t1]; decide) (by rw [t1]; decide) (by rw [t1]; rfl) (by decide) ?_
              refine q_aload_n dX13_readEnd_111 rfl ?_
              refine q_dup dX13_readEnd_112 rfl ?_
              refine r_geti 31 dX13_readEnd_113 fl_RX13_340 (by decide) rfl ki_31 ?_
              refine q_iconst (v := 1) dX13_readEnd_116 (by decide) ?_
              refine q_isub dX13_readEnd_117 ?_
              refine r_puti 31 .int dX13_readEnd_118 fl_RX13_340 (by decide) rfl ki_31 rfl kp_31 rfl rfl hm (fun S118 e118 => ?_)
              have hq := md_l_e e118 hq
              clear e118
              show mv_rq l G mX13_readEnd (d + 3) 121 [some (.ref m), some (.int x1), some (.int x2), some (.int x3)] [] (md_H G B m S118) _
              refine q_aload_n dX13_readEnd_121 rfl ?_
              refine q_iload_n dX13_readEnd_122 rfl ?_
              refine q_bipush (v := 8) dX13_readEnd_123 (by decide) ?_
              refine q_iconst (v := 0) dX13_readEnd_125 (by decide) ?_
              refine q_iconst (v := 0) dX13_readEnd_126 (by decide) ?_
              obtain ⟨S127, e127, hq⟩ := md_c_e hq
              refine q_cV (Y := mX13_emit) (As := [.int x2, .int 8, .int 0, .int 0]) (st := []) (b := m) (ci := 15) vc_X13_emit dX13_readEnd_127 ml_RX13_362 rfl md_obj rfl (Nat.le_of_ble_eq_true rfl) rfl (Nat.le_of_ble_eq_true rfl) (ro_emit (d := d + 2) hG hm e127) (fun v h1 hq1 => ?_) (fun E h1 hq1 => md_nV hq1)
              obtain ⟨hv, rfl⟩ := hq1
              cases hv
              show mv_rq l G mX13_readEnd (d + 3) 130 [some (.ref m), some (.int x1), some (.int x2), some (.int x3)] [] (md_H G B m S127) _
              refine q_goto (tgt := 244) dX13_readEnd_130 (by decide) ?_
              obtain rfl := Option.some.inj hq
              exact q_vret dX13_readEnd_244 rfl ⟨rfl, rfl⟩
            ·
              have hq := md_neg c1_5 hq
              by_cases c1_6 : x1 = 11
              ·
                have hq := md_pos c1_6 hq
                have t1 := md_ti (i := 11) (by decide) c1_6
                refine q_tableIn (off := 132) (tgt := 133) dX13_readEnd_1 (by rw [t1]; decide) (by rw [t1]; decide) (by rw [t1]; rfl) (by decide) ?_
                refine q_aload_n dX13_readEnd_133 rfl ?_
                refine q_dup dX13_readEnd_134 rfl ?_
                refine r_geti 31 dX13_readEnd_135 fl_RX13_340 (by decide) rfl ki_31 ?_
                refine q_iconst (v := 1) dX13_readEnd_138 (by decide) ?_
                refine q_isub dX13_readEnd_139 ?_
                refine r_puti 31 .int dX13_readEnd_140 fl_RX13_340 (by decide) rfl ki_31 rfl kp_31 rfl rfl hm (fun S140 e140 => ?_)
                have hq := md_l_e e140 hq
                clear e140
                show mv_rq l G mX13_readEnd (d + 3) 143 [some (.ref m), some (.int x1), some (.int x2), some (.int x3)] [] (md_H G B m S140) _
                refine q_aload_n dX13_readEnd_143 rfl ?_
                refine q_bipush (v := 41) dX13_readEnd_144 (by decide) ?_
                obtain ⟨S146, e146, hq⟩ := md_c_e hq
                refine q_cV (Y := mX13_need) (As := [.int 41]) (st := []) (b := m) (ci := 15) vc_X13_need dX13_readEnd_146 ml_RX13_222 rfl md_obj rfl (Nat.le_of_ble_eq_true rfl) rfl (Nat.le_of_ble_eq_true rfl) (ro_need (d := d) hG hm e146) (fun v h1 hq1 => ?_) (fun E h1 hq1 => md_nV hq1)
                obtain ⟨hv, rfl⟩ := hq1
                cases hv
                show mv_rq l G mX13_readEnd (d + 3) 149 [some (.ref m), some (.int x1), some (.int x2), some (.int x3)] [] (md_H G B m S146) _
                refine q_goto (tgt := 244) dX13_readEnd_149 (by decide) ?_
                obtain rfl := Option.some.inj hq
                exact q_vret dX13_readEnd_244 rfl ⟨rfl, rfl⟩
              ·
                have hq := md_neg c1_6 hq
                by_cases c1_7 : x1 = 12
                ·
                  have hq := md_pos c1_7 hq
                  have t1 := md_ti (i := 12) (by decide) c1_7
                  refine q_tableIn (off := 233) (tgt := 234) dX13_readEnd_1 (by rw [t1]; decide) (by rw [t1]; decide) (by rw [t1]; rfl) (by decide) ?_
                  refine q_aload_n dX13_readEnd_234 rfl ?_
                  refine q_dup dX13_readEnd_235 rfl ?_
                  refine r_geti 31 dX13_readEnd_236 fl_RX13_340 (by decide) rfl ki_31 ?_
                  refine q_iconst (v := 1) dX13_readEnd_239 (by decide) ?_
                  refine q_isub dX13_readEnd_240 ?_
                  refine r_puti 31 .int dX13_readEnd_241 fl_RX13_340 (by decide) rfl ki_31 rfl kp_31 rfl rfl hm (fun S241 e241 => ?_)
                  have hq := md_l_e e241 hq
                  clear e241
                  show mv_rq l G mX13_readEnd (d + 3) 244 [some (.ref m), some (.int x1), some (.int x2), some (.int x3)] [] (md_H G B m S241) _
                  obtain rfl := Option.some.inj hq
                  exact q_vret dX13_readEnd_244 rfl ⟨rfl, rfl⟩
                ·
                  have hq := md_neg c1_7 hq
                  by_cases c1_8 : x1 = 13
                  ·
                    have hq := md_pos c1_8 hq
                    have t1 := md_ti (i := 13) (by decide) c1_8
                    refine q_tableIn (off := 233) (tgt := 234) dX13_readEnd_1 (by rw [t1]; decide) (by rw [t1]; decide) (by rw [t1]; rfl) (by decide) ?_
                    refine q_aload_n dX13_readEnd_234 rfl ?_
                    refine q_dup dX13_readEnd_235 rfl ?_
                    refine r_geti 31 dX13_readEnd_236 fl_RX13_340 (by decide) rfl ki_31 ?_
                    refine q_iconst (v := 1) dX13_readEnd_239 (by decide) ?_
                    refine q_isub dX13_readEnd_240 ?_
                    refine r_puti 31 .int dX13_readEnd_241 fl_RX13_340 (by decide) rfl ki_31 rfl kp_31 rfl rfl hm (fun S241 e241 => ?_)
                    have hq := md_l_e e241 hq
                    clear e241
                    show mv_rq l G mX13_readEnd (d + 3) 244 [some (.ref m), some (.int x1), some (.int x2), some (.int x3)] [] (md_H G B m S241) _
                    obtain rfl := Option.some.inj hq
                    exact q_vret dX13_readEnd_244 rfl ⟨rfl, rfl⟩
                  ·
                    have hq := md_neg c1_8 hq
                    by_cases c1_9 : x1 = 14
                    ·
                      have hq := md_pos c1_9 hq
                      have t1 := md_ti (i := 14) (by decide) c1_9
                      refine q_tableIn (off := 233) (tgt := 234) dX13_readEnd_1 (by rw [t1]; decide) (by rw [t1]; decide) (by rw [t1]; rfl) (by decide) ?_
                      refine q_aload_n dX13_readEnd_234 rfl ?_
                      refine q_dup dX13_readEnd_235 rfl ?_
                      refine r_geti 31 dX13_readEnd_236 fl_RX13_340 (by decide) rfl ki_31 ?_
                      refine q_iconst (v := 1) dX13_readEnd_239 (by decide) ?_
                      refine q_isub dX13_readEnd_240 ?_
                      refine r_puti 31 .int dX13_readEnd_241 fl_RX13_340 (by decide) rfl ki_31 rfl kp_31 rfl rfl hm (fun S241 e241 => ?_)
                      have hq := md_l_e e241 hq
                      clear e241
                      show mv_rq l G mX13_readEnd (d + 3) 244 [some (.ref m), some (.int x1), some (.int x2), some (.int x3)] [] (md_H G B m S241) _
                      obtain rfl := Option.some.inj hq
                      exact q_vret dX13_readEnd_244 rfl ⟨rfl, rfl⟩
                    ·
                      have hq := md_neg c1_9 hq
                      by_cases c1_10 : x1 = 15
                      ·
                        have hq := md_pos c1_10 hq
                        have t1 := md_ti (i := 15) (by decide) c1_10
                        refine q_tableIn (off := 151) (tgt := 152) dX13_readEnd_1 (by rw [t1]; decide) (by rw [t1]; decide) (by rw [t1]; rfl) (by decide) ?_
                        refine q_aload_n dX13_readEnd_152 rfl ?_
                        refine q_iload_n dX13_readEnd_153 rfl ?_
                        refine q_bipush (v := 7) dX13_readEnd_154 (by decide) ?_
                        refine q_iload_n dX13_readEnd_156 rfl ?_
                        refine q_iconst (v := 0) dX13_readEnd_157 (by decide) ?_
                        obtain ⟨S158, e158, hq⟩ := md_c_e hq
                        refine q_cV (Y := mX13_emit) (As := [.int x2, .int 7, .int x3, .int 0]) (st := []) (b := m) (ci := 15) vc_X13_emit dX13_readEnd_158 ml_RX13_362 rfl md_obj rfl (Nat.le_of_ble_eq_true rfl) rfl (Nat.le_of_ble_eq_true rfl) (ro_emit (d := d + 2) hG hm e158) (fun v h1 hq1 => ?_) (fun E h1 hq1 => md_nV hq1)
                        obtain ⟨hv, rfl⟩ := hq1
                        cases hv
                        show mv_rq l G mX13_readEnd (d + 3) 161 [some (.ref m), some (.int x1), some (.int x2), some (.int x3)] [] (md_H G B m S158) _
                        refine q_goto (tgt := 244) dX13_readEnd_161 (by decide) ?_
                        obtain rfl := Option.some.inj hq
                        exact q_vret dX13_readEnd_244 rfl ⟨rfl, rfl⟩
                      ·
                        have hq := md_neg c1_10 hq
                        by_cases c1_11 : x1 = 16
                        ·
                          have hq := md_pos c1_11 hq
                          have t1 := md_ti (i := 16) (by decide) c1_11
                          refine q_tableIn (off := 163) (tgt := 164) dX13_readEnd_1 (by rw [t1]; decide) (by rw [t1]; decide) (by rw [t1]; rfl) (by decide) ?_
                          refine q_aload_n dX13_readEnd_164 rfl ?_
                          refine q_dup dX13_readEnd_165 rfl ?_
                          refine r_geti 31 dX13_readEnd_166 fl_RX13_340 (by decide) rfl ki_31 ?_
                          refine q_iconst (v := 1) dX13_readEnd_169 (by decide) ?_
                          refine q_isub dX13_readEnd_170 ?_
                          refine r_puti 31 .int dX13_readEnd_171 fl_RX13_340 (by decide) rfl ki_31 rfl kp_31 rfl rfl hm (fun S171 e171 => ?_)
                          have hq := md_l_e e171 hq
                          clear e171
                          show mv_rq l G mX13_readEnd (d + 3) 174 [some (.ref m), some (.int x1), some (.int x2), some (.int x3)] [] (md_H G B m S171) _
                          refine q_aload_n dX13_readEnd_174 rfl ?_
                          refine q_bipush (v := 41) dX13_readEnd_175 (by decide) ?_
                          obtain ⟨S177, e177, hq⟩ := md_c_e hq
                          refine q_cV (Y := mX13_need) (As := [.int 41]) (st := []) (b := m) (ci := 15) vc_X13_need dX13_readEnd_177 ml_RX13_222 rfl md_obj rfl (Nat.le_of_ble_eq_true rfl) rfl (Nat.le_of_ble_eq_true rfl) (ro_need (d := d) hG hm e177) (fun v h1 hq1 => ?_) (fun E h1 hq1 => md_nV hq1)
                          obtain ⟨hv, rfl⟩ := hq1
                          cases hv
                          show mv_rq l G mX13_readEnd (d + 3) 180 [some (.ref m), some (.int x1), some (.int x2), some (.int x3)] [] (md_H G B m S177) _
                          refine q_aload_n dX13_readEnd_180 rfl ?_
                          refine q_iload_n dX13_readEnd_181 rfl ?_
                          refine q_iconst (v := 3) dX13_readEnd_182 (by decide) ?_
                          refine q_iconst (v := 0) dX13_readEnd_183 (by decide) ?_
                          refine q_iconst (v := 0) dX13_readEnd_184 (by decide) ?_
                          obtain ⟨S185, e185, hq⟩ := md_c_e hq
                          refine q_cV (Y := mX13_emit) (As := [.int x2, .int 3, .int 0, .int 0]) (st := []) (b := m) (ci := 15) vc_X13_emit dX13_readEnd_185 ml_RX13_362 rfl md_obj rfl (Nat.le_of_ble_eq_true rfl) rfl (Nat.le_of_ble_eq_true rfl) (ro_emit (d := d + 2) hG hm e185) (fun v h1 hq1 => ?_) (fun E h1 hq1 => md_nV hq1)
                          obtain ⟨hv, rfl⟩ := hq1
                          cases hv
                          show mv_rq l G mX13_readEnd (d + 3) 188 [some (.ref m), some (.int x1), some (.int x2), some (.int x3)] [] (md_H G B m S185) _
                          refine q_goto (tgt := 244) dX13_readEnd_188 (by decide) ?_
                          obtain rfl := Option.some.inj hq
                          exact q_vret dX13_readEnd_244 rfl ⟨rfl, rfl⟩
                        ·
                          have hq := md_neg c1_11 hq
                          by_cases c1_12 : x1 = 17
                          ·
                            have hq := md_pos c1_12 hq
                            have t1 := md_ti (i := 17) (by decide) c1_12
                            refine q_tableIn (off := 190) (tgt := 191) dX13_readEnd_1 (by rw [t1]; decide) (by rw [t1]; decide) (by rw [t1]; rfl) (by decide) ?_
                            refine q_aload_n dX13_readEnd_191 rfl ?_
                            refine q_dup dX13_readEnd_192 rfl ?_
                            refine r_geti 31 dX13_readEnd_193 fl_RX13_340 (by decide) rfl ki_31 ?_
                            refine q_iconst (v := 1) dX13_readEnd_196 (by decide) ?_
                            refine q_isub dX13_readEnd_197 ?_
                            refine r_puti 31 .int dX13_readEnd_198 fl_RX13_340 (by decide) rfl ki_31 rfl kp_31 rfl rfl hm (fun S198 e198 => ?_)
                            have hq := md_l_e e198 hq
                            clear e198
                            show mv_rq l G mX13_readEnd (d + 3) 201 [some (.ref m), some (.int x1), some (.int x2), some (.int x3)] [] (md_H G B m S198) _
                            refine q_aload_n dX13_readEnd_201 rfl ?_
                            refine q_bipush (v := 41) dX13_readEnd_202 (by decide) ?_
                            obtain ⟨S204, e204, hq⟩ := md_c_e hq
                            refine q_cV (Y := mX13_need) (As := [.int 41]) (st := []) (b := m) (ci := 15) vc_X13_need dX13_readEnd_204 ml_RX13_222 rfl md_obj rfl (Nat.le_of_ble_eq_true rfl) rfl (Nat.le_of_ble_eq_true rfl) (ro_need (d := d) hG hm e204) (fun v h1 hq1 => ?_) (fun E h1 hq1 => md_nV hq1)
                            obtain ⟨hv, rfl⟩ := hq1
                            cases hv
                            show mv_rq l G mX13_readEnd (d + 3) 207 [some (.ref m), some (.int x1), some (.int x2), some (.int x3)] [] (md_H G B m S204) _
                            refine q_aload_n dX13_readEnd_207 rfl ?_
                            refine q_iload_n dX13_readEnd_208 rfl ?_
                            refine q_iconst (v := 2) dX13_readEnd_209 (by decide) ?_
                            refine q_iload_n dX13_readEnd_210 rfl ?_
                            refine q_iconst (v := 0) dX13_readEnd_211 (by decide) ?_
                            obtain ⟨S212, e212, hq⟩ := md_c_e hq
                            refine q_cV (Y := mX13_emit) (As := [.int x2, .int 2, .int x3, .int 0]) (st := []) (b := m) (ci := 15) vc_X13_emit dX13_readEnd_212 ml_RX13_362 rfl md_obj rfl (Nat.le_of_ble_eq_true rfl) rfl (Nat.le_of_ble_eq_true rfl) (ro_emit (d := d + 2) hG hm e212) (fun v h1 hq1 => ?_) (fun E h1 hq1 => md_nV hq1)
                            obtain ⟨hv, rfl⟩ := hq1
                            cases hv
                            show mv_rq l G mX13_readEnd (d + 3) 215 [some (.ref m), some (.int x1), some (.int x2), some (.int x3)] [] (md_H G B m S212) _
                            refine q_goto (tgt := 244) dX13_readEnd_215 (by decide) ?_
                            obtain rfl := Option.some.inj hq
                            exact q_vret dX13_readEnd_244 rfl ⟨rfl, rfl⟩
                          ·
                            have hq := md_neg c1_12 hq
                            by_cases c1_13 : x1 = 18
                            ·
                              have hq := md_pos c1_13 hq
                              have t1 := md_ti (i := 18) (by decide) c1_13
                              refine q_tableIn (off := 217) (tgt := 218) dX13_readEnd_1 (by rw [t1]; decide) (by rw [t1]; decide) (by rw [t1]; rfl) (by decide) ?_
                              refine q_aload_n dX13_readEnd_218 rfl ?_
                              refine q_iload_n dX13_readEnd_219 rfl ?_
                              obtain ⟨S220, e220, hq⟩ := md_c_e hq
                              refine q_cV (Y := mX13_mustBeSingle) (As := [.int x3]) (st := []) (b := m) (ci := 15) vc_X13_mustBeSingle dX13_readEnd_220 ml_RX13_359 rfl md_obj rfl (Nat.le_of_ble_eq_true rfl) rfl (Nat.le_of_ble_eq_true rfl) (ro_mustBeSingle (d := d) hG hm e220) (fun v h1 hq1 => ?_) (fun E h1 hq1 => md_nV hq1)
                              obtain ⟨hv, rfl⟩ := hq1
                              cases hv
                              show mv_rq l G mX13_readEnd (d + 3) 223 [some (.ref m), some (.int x1), some (.int x2), some (.int x3)] [] (md_H G B m S220) _
                              refine q_aload_n dX13_readEnd_223 rfl ?_
                              refine q_iload_n dX13_readEnd_224 rfl ?_
                              refine q_iconst (v := 1) dX13_readEnd_225 (by decide) ?_
                              refine q_iload_n dX13_readEnd_226 rfl ?_
                              refine q_iconst (v := 0) dX13_readEnd_227 (by decide) ?_
                              obtain ⟨S228, e228, hq⟩ := md_c_e hq
                              refine q_cV (Y := mX13_emit) (As := [.int x2, .int 1, .int x3, .int 0]) (st := []) (b := m) (ci := 15) vc_X13_emit dX13_readEnd_228 ml_RX13_362 rfl md_obj rfl (Nat.le_of_ble_eq_true rfl) rfl (Nat.le_of_ble_eq_true rfl) (ro_emit (d := d + 2) hG hm e228) (fun v h1 hq1 => ?_) (fun E h1 hq1 => md_nV hq1)
                              obtain ⟨hv, rfl⟩ := hq1
                              cases hv
                              show mv_rq l G mX13_readEnd (d + 3) 231 [some (.ref m), some (.int x1), some (.int x2), some (.int x3)] [] (md_H G B m S228) _
                              refine q_goto (tgt := 244) dX13_readEnd_231 (by decide) ?_
                              obtain rfl := Option.some.inj hq
                              exact q_vret dX13_readEnd_244 rfl ⟨rfl, rfl⟩
                            ·
                              have hq := md_neg c1_13 hq
                              refine q_tableOut (tgt := 234) dX13_readEnd_1 (by have e0 := md_tn (i := 5) (by decide) c1_0; have e1 := md_tn (i := 6) (by decide) c1_1; have e2 := md_tn (i := 7) (by decide) c1_2; have e3 := md_tn (i := 8) (by decide) c1_3; have e4 := md_tn (i := 9) (by decide) c1_4; have e5 := md_tn (i := 10) (by decide) c1_5; have e6 := md_tn (i := 11) (by decide) c1_6; have e7 := md_tn (i := 12) (by decide) c1_7; have e8 := md_tn (i := 13) (by decide) c1_8; have e9 := md_tn (i := 14) (by decide) c1_9; have e10 := md_tn (i := 15) (by decide) c1_10; have e11 := md_tn (i := 16) (by decide) c1_11; have e12 := md_tn (i := 17) (by decide) c1_12; have e13 := md_tn (i := 18) (by decide) c1_13; omega) (by decide) ?_
                              refine q_aload_n dX13_readEnd_234 rfl ?_
                              refine q_dup dX13_readEnd_235 rfl ?_
                              refine r_geti 31 dX13_readEnd_236 fl_RX13_340 (by decide) rfl ki_31 ?_
                              refine q_iconst (v := 1) dX13_readEnd_239 (by decide) ?_
                              refine q_isub dX13_readEnd_240 ?_
                              refine r_puti 31 .int dX13_readEnd_241 fl_RX13_340 (by decide) rfl ki_31 rfl kp_31 rfl rfl hm (fun S241 e241 => ?_)
                              have hq := md_l_e e241 hq
                              clear e241
                              show mv_rq l G mX13_readEnd (d + 3) 244 [some (.ref m), some (.int x1), some (.int x2), some (.int x3)] [] (md_H G B m S241) _
                              obtain rfl := Option.some.inj hq
                              exact q_vret dX13_readEnd_244 rfl ⟨rfl, rfl⟩
def mo_place (S : md_S) : Option (Int32 × md_S) :=
  md_l (md_p S 0 0) fun S2 =>
  some ((S2.1 3), S2)
theorem ro_place {l : Launch} {G : mv_G} {B : mv_H} {m d : Nat} (hG : mv_ok G) (hm : G.2.2.1 ≤ m) {S : md_S} {q : (Int32 × md_S)} (hq : mo_place S = some q) : mv_rq l G mX13_place d 0 (mv_in [.ref m] 1) [] (md_H G B m S) (md_Q G B m q) := by
  unfold mo_place at hq
  show mv_rq l G mX13_place d 0 [some (.ref m)] [] (md_H G B m S) _
  refine q_aload_n dX13_place_0 rfl ?_
  refine q_iconst (v := 0) dX13_place_1 (by decide) ?_
  refine r_puti 0 .int dX13_place_2 fl_RX13_193 (by decide) rfl ki_0 rfl kp_0 rfl rfl hm (fun S2 e2 => ?_)
  have hq := md_l_e e2 hq
  clear e2
  show mv_rq l G mX13_place d 5 [some (.ref m)] [] (md_H G B m S2) _
  refine q_aload_n dX13_place_5 rfl ?_
  refine r_geti 3 dX13_place_6 fl_RX13_13 (by decide) rfl ki_3 ?_
  obtain rfl := Option.some.inj hq
  exact q_iret (ty := .int) dX13_place_9 rfl rfl ⟨rfl, rfl⟩
def mo_follower_j45 (N : Nat) (y0 : Int32) (S : md_S) : Option (Int32 × md_S) :=
  some (y0, S)
theorem ro_follower_j45 {l : Launch} {G : mv_G} {B : mv_H} {m N d : Nat} (hG : mv_ok G) (hm : G.2.2.1 ≤ m) {y0 : Int32} {S : md_S} {q : (Int32 × md_S)} (hq : mo_follower_j45 N y0 S = some q) : mv_rq l G mX13_follower d 45 [none, none, none, none] [.int y0] (md_H G B m S) (md_Q G B m q) := by
  unfold mo_follower_j45 at hq
  obtain rfl := Option.some.inj hq
  exact q_iret (ty := .int) dX13_follower_45 rfl rfl ⟨rfl, rfl⟩
def mo_follower_j30 (N : Nat) (x1 : Int32) (x3 : Int32) (S : md_S) : Option (Int32 × md_S) :=
  if md_in x1 41 then
  if (S.2 14 x1.toNatClampNeg) < x3 then
    mo_follower_j45 N (-1) S
  else
    mo_follower_j45 N x3 S
  else none
theorem ro_follower_j30 {l : Launch} {G : mv_G} {B : mv_H} {m N d : Nat} (hG : mv_ok G) (hm : G.2.2.1 ≤ m) {x1 : Int32} {x3 : Int32} {S : md_S} {q : (Int32 × md_S)} (hq : mo_follower_j30 N x1 x3 S = some q) : mv_rq l G mX13_follower d 30 [some (.ref m), some (.int x1), none, some (.int x3)] [] (md_H G B m S) (md_Q G B m q) := by
  unfold mo_follower_j30 at hq
  refine q_iload_n dX13_follower_30 rfl ?_
  refine q_aload_n dX13_follower_31 rfl ?_
  refine r_geta 14 dX13_follower_32 fl_RX13_30 (by decide) rfl kk_14 ?_
  refine q_iload_n dX13_follower_35 rfl ?_
  obtain ⟨g36, hq⟩ := md_g hq
  refine r_iald hG 14 dX13_follower_36 kk_14 g36 ?_
  refine q_icmp_gt (tgt := 44) dX13_follower_37 (by decide) (fun c37 => ?_) (fun c37 => ?_)
  ·
    have hq := md_pos c37 hq
    refine q_iconst (v := (-1)) dX13_follower_44 (by decide) ?_
    refine mv_weak (A := [none, none, none, none]) (by repeat' constructor) ?_
    exact ro_follower_j45 hG hm hq
  ·
    have hq := md_neg c37 hq
    refine q_iload_n dX13_follower_40 rfl ?_
    refine q_goto (tgt := 45) dX13_follower_41 (by decide) ?_
    refine mv_weak (A := [none, none, none, none]) (by repeat' constructor) ?_
    exact ro_follower_j45 hG hm hq
def mo_follower_l4 (N : Nat) : Nat → Int32 → Int32 → md_S → Option (Int32 × md_S)
  | 0, _, _, _ => none
  | n + 1, x1, x3, S =>
    if md_in x1 41 then
    if (S.2 14 x1.toNatClampNeg) < x3 then
      mo_follower_j30 N x1 x3 S
    else
      if md_in x3 41 then
      if (S.2 13 x3.toNatClampNeg) = x1 then
        mo_follower_j30 N x1 x3 S
      else
        mo_follower_l4 N n x1 (x3 + 1) S
      else none
    else none
theorem ro_follower_l4 {l : Launch} {G : mv_G} {B : mv_H} {m N d : Nat} (hG : mv_ok G) (hm : G.2.2.1 ≤ m) : ∀ n : Nat, ∀ {x1 : Int32} {x3 : Int32} {S : md_S} {q : (Int32 × md_S)}, mo_follower_l4 N n x1 x3 S = some q → mv_rq l G mX13_follower d 4 [some (.ref m), some (.int x1), none, some (.int x3)] [] (md_H G B m S) (md_Q G B m q)
  | 0, _, _, _, _, hq => nomatch hq
  | n + 1, x1, x3, S, q, hq => by
    rw [mo_follower_l4] at hq
    refine q_iload_n dX13_follower_4 rfl ?_
    refine q_aload_n dX13_follower_5 rfl ?_
    refine r_geta 14 dX13_follower_6 fl_RX13_30 (by decide) rfl kk_14 ?_
    refine q_iload_n dX13_follower_9 rfl ?_
    obtain ⟨g10, hq⟩ := md_g hq
    refine r_iald hG 14 dX13_follower_10 kk_14 g10 ?_
    refine q_icmp_gt (tgt := 30) dX13_follower_11 (by decide) (fun c11 => ?_) (fun c11 => ?_)
    ·
      have hq := md_pos c11 hq
      refine mv_weak (A := [some (.ref m), some (.int x1), none, some (.int x3)]) (by repeat' constructor) ?_
      exact ro_follower_j30 hG hm hq
    ·
      have hq := md_neg c11 hq
      refine q_aload_n dX13_follower_14 rfl ?_
      refine r_geta 13 dX13_follower_15 fl_RX13_27 (by decide) rfl kk_13 ?_
      refine q_iload_n dX13_follower_18 rfl ?_
      obtain ⟨g19, hq⟩ := md_g hq
      refine r_iald hG 13 dX13_follower_19 kk_13 g19 ?_
      refine q_iload_n dX13_follower_20 rfl ?_
      refine q_icmp_eq (tgt := 30) dX13_follower_21 (by decide) (fun c21 => ?_) (fun c21 => ?_)
      ·
        have hq := md_pos c21 hq
        refine mv_weak (A := [some (.ref m), some (.int x1), none, some (.int x3)]) (by repeat' constructor) ?_
        exact ro_follower_j30 hG hm hq
      ·
        have hq := md_neg c21 hq
        refine q_iinc dX13_follower_24 rfl rfl ?_
        show mv_rq l G mX13_follower d 27 [some (.ref m), some (.int x1), none, some (.int (x3 + 1))] [] (md_H G B m S) _
        refine q_goto (tgt := 4) dX13_follower_27 (by decide) ?_
        refine mv_weak (A := [some (.ref m), some (.int x1), none, some (.int (x3 + 1))]) (by repeat' constructor) ?_
        exact ro_follower_l4 hG hm n hq
def mo_follower (N : Nat) (x1 : Int32) (x2 : Int32) (S : md_S) : Option (Int32 × md_S) :=
  mo_follower_l4 N N x1 (x2 + 1) S
theorem ro_follower {l : Launch} {G : mv_G} {B : mv_H} {m N d : Nat} (hG : mv_ok G) (hm : G.2.2.1 ≤ m) {x1 : Int32} {x2 : Int32} {S : md_S} {q : (Int32 × md_S)} (hq : mo_follower N x1 x2 S = some q) : mv_rq l G mX13_follower d 0 (mv_in [.ref m, .int x1, .int x2] 4) [] (md_H G B m S) (md_Q G B m q) := by
  unfold mo_follower at hq
  show mv_rq l G mX13_follower d 0 [some (.ref m), some (.int x1), some (.int x2), none] [] (md_H G B m S) _
  refine q_iload_n dX13_follower_0 rfl ?_
  refine q_iconst (v := 1) dX13_follower_1 (by decide) ?_
  refine q_iadd dX13_follower_2 ?_
  refine q_istore_n dX13_follower_3 (Nat.le_of_ble_eq_true rfl) rfl ?_
  show mv_rq l G mX13_follower d 4 [some (.ref m), some (.int x1), some (.int x2), some (.int (x2 + 1))] [] (md_H G B m S) _
  refine mv_weak (A := [some (.ref m), some (.int x1), none, some (.int (x2 + 1))]) (by repeat' constructor) ?_
  exact ro_follower_l4 hG hm N hq
def mo_children_l6 (N : Nat) : Nat → Int32 → Int32 → Int32 → md_S → Option (Int32 × md_S)
  | 0, _, _, _, _ => none
  | n + 1, x1, x2, x3, S =>
    if md_in x1 41 then
    if (S.2 14 x1.toNatClampNeg) < x3 then
      some (x2, S)
    else
      if md_in x3 41 then
      if (S.2 13 x3.toNatClampNeg) = x1 then
        mo_children_l6 N n x1 (x2 + 1) (x3 + 1) S
      else
        mo_children_l6 N n x1 (x2 + 0) (x3 + 1) S
      else none
    else none
theorem ro_children_l6 {l : Launch} {G : mv_G} {B : mv_H} {m N d : Nat} (hG : mv_ok G) (hm : G.2.2.1 ≤ m) : ∀ n : Nat, ∀ {x1 : Int32} {x2 : Int32} {x3 : Int32} {S : md_S} {q : (Int32 × md_S)}, mo_children_l6 N n x1 x2 x3 S = some q → mv_rq l G mX13_children d 6 [some (.ref m), some (.int x1), some (.int x2), some (.int x3)] [] (md_H G B m S) (md_Q G B m q)
  | 0, _, _, _, _, _, hq => nomatch hq
  | n + 1, x1, x2, x3, S, q, hq => by
    rw [mo_children_l6] at hq
    refine q_iload_n dX13_children_6 rfl ?_
    refine q_aload_n dX13_children_7 rfl ?_
    refine r_geta 14 dX13_children_8 fl_RX13_30 (by decide) rfl kk_14 ?_
    refine q_iload_n dX13_children_11 rfl ?_
    obtain ⟨g12, hq⟩ := md_g hq
    refine r_iald hG 14 dX13_children_12 kk_14 g12 ?_
    refine q_icmp_gt (tgt := 40) dX13_children_13 (by decide) (fun c13 => ?_) (fun c13 => ?_)
    ·
      have hq := md_pos c13 hq
      refine q_iload_n dX13_children_40 rfl ?_
      obtain rfl := Option.some.inj hq
      exact q_iret (ty := .int) dX13_children_41 rfl rfl ⟨rfl, rfl⟩
    ·
      have hq := md_neg c13 hq
      refine q_iload_n dX13_children_16 rfl ?_
      refine q_aload_n dX13_children_17 rfl ?_
      refine r_geta 13 dX13_children_18 fl_RX13_27 (by decide) rfl kk_13 ?_
      refine q_iload_n dX13_children_21 rfl ?_
      obtain ⟨g22, hq⟩ := md_g hq
      refine r_iald hG 13 dX13_children_22 kk_13 g22 ?_
      refine q_iload_n dX13_children_23 rfl ?_
      refine q_icmp_ne (tgt := 31) dX13_children_24 (by decide) (fun c24 => ?_) (fun c24 => ?_)
      ·
        have hq := md_neg c24 hq
        refine q_iconst (v := 0) dX13_children_31 (by decide) ?_
        refine q_iadd dX13_children_32 ?_
        refine q_istore_n dX13_children_33 (Nat.le_of_ble_eq_true rfl) rfl ?_
        show mv_rq l G mX13_children d 34 [some (.ref m), some (.int x1), some (.int (x2 + 0)), some (.int x3)] [] (md_H G B m S) _
        refine q_iinc dX13_children_34 rfl rfl ?_
        show mv_rq l G mX13_children d 37 [some (.ref m), some (.int x1), some (.int (x2 + 0)), some (.int (x3 + 1))] [] (md_H G B m S) _
        refine q_goto (tgt := 6) dX13_children_37 (by decide) ?_
        refine mv_weak (A := [some (.ref m), some (.int x1), some (.int (x2 + 0)), some (.int (x3 + 1))]) (by repeat' constructor) ?_
        exact ro_children_l6 hG hm n hq
      ·
        have hq := md_pos c24 hq
        refine q_iconst (v := 1) dX13_children_27 (by decide) ?_
        refine q_goto (tgt := 32) dX13_children_28 (by decide) ?_
        refine q_iadd dX13_children_32 ?_
        refine q_istore_n dX13_children_33 (Nat.le_of_ble_eq_true rfl) rfl ?_
        show mv_rq l G mX13_children d 34 [some (.ref m), some (.int x1), some (.int (x2 + 1)), some (.int x3)] [] (md_H G B m S) _
        refine q_iinc dX13_children_34 rfl rfl ?_
        show mv_rq l G mX13_children d 37 [some (.ref m), some (.int x1), some (.int (x2 + 1)), some (.int (x3 + 1))] [] (md_H G B m S) _
        refine q_goto (tgt := 6) dX13_children_37 (by decide) ?_
        refine mv_weak (A := [some (.ref m), some (.int x1), some (.int (x2 + 1)), some (.int (x3 + 1))]) (by repeat' constructor) ?_
        exact ro_children_l6 hG hm n hq
def mo_children (N : Nat) (x1 : Int32) (S : md_S) : Option (Int32 × md_S) :=
  mo_children_l6 N N x1 0 (x1 + 1) S
theorem ro_children {l : Launch} {G : mv_G} {B : mv_H} {m N d : Nat} (hG : mv_ok G) (hm : G.2.2.1 ≤ m) {x1 : Int32} {S : md_S} {q : (Int32 × md_S)} (hq : mo_children N x1 S = some q) : mv_rq l G mX13_children d 0 (mv_in [.ref m, .int x1] 4) [] (md_H G B m S) (md_Q G B m q) := by
  unfold mo_children at hq
  show mv_rq l G mX13_children d 0 [some (.ref m), some (.int x1), none, none] [] (md_H G B m S) _
  refine q_iconst (v := 0) dX13_children_0 (by decide) ?_
  refine q_istore_n dX13_children_1 (Nat.le_of_ble_eq_true rfl) rfl ?_
  show mv_rq l G mX13_children d 2 [some (.ref m), some (.int x1), some (.int 0), none] [] (md_H G B m S) _
  refine q_iload_n dX13_children_2 rfl ?_
  refine q_iconst (v := 1) dX13_children_3 (by decide) ?_
  refine q_iadd dX13_children_4 ?_
  refine q_istore_n dX13_children_5 (Nat.le_of_ble_eq_true rfl) rfl ?_
  show mv_rq l G mX13_children d 6 [some (.ref m), some (.int x1), some (.int 0), some (.int (x1 + 1))] [] (md_H G B m S) _
  refine mv_weak (A := [some (.ref m), some (.int x1), some (.int 0), some (.int (x1 + 1))]) (by repeat' constructor) ?_
  exact ro_children_l6 hG hm N hq
def mo_childAt_j42 (N : Nat) (x3 : Int32) (S : md_S) : Option (Int32 × md_S) :=
  some (x3, S)
theorem ro_childAt_j42 {l : Launch} {G : mv_G} {B : mv_H} {m N d : Nat} (hG : mv_ok G) (hm : G.2.2.1 ≤ m) {x3 : Int32} {S : md_S} {q : (Int32 × md_S)} (hq : mo_childAt_j42 N x3 S = some q) : mv_rq l G mX13_childAt (d + 1) 42 [none, none, none, some (.int x3), none] [] (md_H G B m S) (md_Q G B m q) := by
  unfold mo_childAt_j42 at hq
  refine q_iload_n dX13_childAt_42 rfl ?_
  obtain rfl := Option.some.inj hq
  exact q_iret (ty := .int) dX13_childAt_43 rfl rfl ⟨rfl, rfl⟩
def mo_childAt_l18 (N : Nat) : Nat → Int32 → Int32 → Int32 → Int32 → md_S → Option (Int32 × md_S)
  | 0, _, _, _, _, _ => none
  | n + 1, x1, x2, x3, x4, S =>
    if x2 ≤ x4 then
      mo_childAt_j42 N x3 S
    else
      if x3 = (-1) then
        mo_childAt_j42 N x3 S
      else
        md_b (mo_follower N x1 x3 S) fun v32 S32 =>
        mo_childAt_l18 N n x1 x2 v32 (x4 + 1) S32
theorem ro_childAt_l18 {l : Launch} {G : mv_G} {B : mv_H} {m N d : Nat} (hG : mv_ok G) (hm : G.2.2.1 ≤ m) : ∀ n : Nat, ∀ {x1 : Int32} {x2 : Int32} {x3 : Int32} {x4 : Int32} {S : md_S} {q : (Int32 × md_S)}, mo_childAt_l18 N n x1 x2 x3 x4 S = some q → mv_rq l G mX13_childAt (d + 1) 18 [some (.ref m), some (.int x1), some (.int x2), some (.int x3), some (.int x4)] [] (md_H G B m S) (md_Q G B m q)
  | 0, _, _, _, _, _, _, hq => nomatch hq
  | n + 1, x1, x2, x3, x4, S, q, hq => by
    rw [mo_childAt_l18] at hq
    refine q_iload dX13_childAt_18 rfl ?_
    refine q_iload_n dX13_childAt_20 rfl ?_
    refine q_icmp_ge (tgt := 42) dX13_childAt_21 (by decide) (fun c21 => ?_) (fun c21 => ?_)
    ·
      have hq := md_pos c21 hq
      refine mv_weak (A := [none, none, none, some (.int x3), none]) (by repeat' constructor) ?_
      exact ro_childAt_j42 hG hm hq
    ·
      have hq := md_neg c21 hq
      refine q_iload_n dX13_childAt_24 rfl ?_
      refine q_iconst (v := (-1)) dX13_childAt_25 (by decide) ?_
      refine q_icmp_eq (tgt := 42) dX13_childAt_26 (by decide) (fun c26 => ?_) (fun c26 => ?_)
      ·
        have hq := md_pos c26 hq
        refine mv_weak (A := [none, none, none, some (.int x3), none]) (by repeat' constructor) ?_
        exact ro_childAt_j42 hG hm hq
      ·
        have hq := md_neg c26 hq
        refine q_aload_n dX13_childAt_29 rfl ?_
        refine q_iload_n dX13_childAt_30 rfl ?_
        refine q_iload_n dX13_childAt_31 rfl ?_
        obtain ⟨v32, S32, e32, hq⟩ := md_b_e hq
        refine q_cV (Y := mX13_follower) (As := [.int x1, .int x3]) (st := []) (b := m) (ci := 15) vc_X13_follower dX13_childAt_32 ml_RX13_415 rfl md_obj rfl (Nat.le_of_ble_eq_true rfl) rfl (Nat.le_of_ble_eq_true rfl) (ro_follower (d := d) hG hm e32) (fun v h1 hq1 => ?_) (fun E h1 hq1 => md_nQ hq1)
        obtain ⟨hv, rfl⟩ := hq1
        cases hv
        show mv_rq l G mX13_childAt (d + 1) 35 [some (.ref m), some (.int x1), some (.int x2), some (.int x3), some (.int x4)] [.int v32] (md_H G B m S32) _
        refine q_istore_n dX13_childAt_35 (Nat.le_of_ble_eq_true rfl) rfl ?_
        show mv_rq l G mX13_childAt (d + 1) 36 [some (.ref m), some (.int x1), some (.int x2), some (.int v32), some (.int x4)] [] (md_H G B m S32) _
        refine q_iinc dX13_childAt_36 rfl rfl ?_
        show mv_rq l G mX13_childAt (d + 1) 39 [some (.ref m), some (.int x1), some (.int x2), some (.int v32), some (.int (x4 + 1))] [] (md_H G B m S32) _
        refine q_goto (tgt := 18) dX13_childAt_39 (by decide) ?_
        refine mv_weak (A := [some (.ref m), some (.int x1), some (.int x2), some (.int v32), some (.int (x4 + 1))]) (by repeat' constructor) ?_
        exact ro_childAt_l18 hG hm n hq
def mo_childAt_j14 (N : Nat) (x1 : Int32) (x2 : Int32) (y0 : Int32) (S : md_S) : Option (Int32 × md_S) :=
  mo_childAt_l18 N N x1 x2 y0 0 S
theorem ro_childAt_j14 {l : Launch} {G : mv_G} {B : mv_H} {m N d : Nat} (hG : mv_ok G) (hm : G.2.2.1 ≤ m) {x1 : Int32} {x2 : Int32} {y0 : Int32} {S : md_S} {q : (Int32 × md_S)} (hq : mo_childAt_j14 N x1 x2 y0 S = some q) : mv_rq l G mX13_childAt (d + 1) 14 [some (.ref m), some (.int x1), some (.int x2), none, none] [.int y0] (md_H G B m S) (md_Q G B m q) := by
  unfold mo_childAt_j14 at hq
  refine q_istore_n dX13_childAt_14 (Nat.le_of_ble_eq_true rfl) rfl ?_
  show mv_rq l G mX13_childAt (d + 1) 15 [some (.ref m), some (.int x1), some (.int x2), some (.int y0), none] [] (md_H G B m S) _
  refine q_iconst (v := 0) dX13_childAt_15 (by decide) ?_
  refine q_istore dX13_childAt_16 (Nat.le_of_ble_eq_true rfl) rfl ?_
  show mv_rq l G mX13_childAt (d + 1) 18 [some (.ref m), some (.int x1), some (.int x2), some (.int y0), some (.int 0)] [] (md_H G B m S) _
  refine mv_weak (A := [some (.ref m), some (.int x1), some (.int x2), some (.int y0), some (.int 0)]) (by repeat' constructor) ?_
  exact ro_childAt_l18 hG hm N hq
def mo_childAt (N : Nat) (x1 : Int32) (x2 : Int32) (S : md_S) : Option (Int32 × md_S) :=
  if 0 ≤ x2 then
    md_b (mo_follower N x1 x1 S) fun v11 S11 =>
    mo_childAt_j14 N x1 x2 v11 S11
  else
    mo_childAt_j14 N x1 x2 (-1) S
theorem ro_childAt {l : Launch} {G : mv_G} {B : mv_H} {m N d : Nat} (hG : mv_ok G) (hm : G.2.2.1 ≤ m) {x1 : Int32} {x2 : Int32} {S : md_S} {q : (Int32 × md_S)} (hq : mo_childAt N x1 x2 S = some q) : mv_rq l G mX13_childAt (d + 1) 0 (mv_in [.ref m, .int x1, .int x2] 5) [] (md_H G B m S) (md_Q G B m q) := by
  unfold mo_childAt at hq
  show mv_rq l G mX13_childAt (d + 1) 0 [some (.ref m), some (.int x1), some (.int x2), none, none] [] (md_H G B m S) _
  refine q_iload_n dX13_childAt_0 rfl ?_
  refine q_if_ge (tgt := 8) dX13_childAt_1 (by decide) (fun c1 => ?_) (fun c1 => ?_)
  ·
    have hq := md_pos c1 hq
    refine q_aload_n dX13_childAt_8 rfl ?_
    refine q_iload_n dX13_childAt_9 rfl ?_
    refine q_iload_n dX13_childAt_10 rfl ?_
    obtain ⟨v11, S11, e11, hq⟩ := md_b_e hq
    refine q_cV (Y := mX13_follower) (As := [.int x1, .int x1]) (st := []) (b := m) (ci := 15) vc_X13_follower dX13_childAt_11 ml_RX13_415 rfl md_obj rfl (Nat.le_of_ble_eq_true rfl) rfl (Nat.le_of_ble_eq_true rfl) (ro_follower (d := d) hG hm e11) (fun v h1 hq1 => ?_) (fun E h1 hq1 => md_nQ hq1)
    obtain ⟨hv, rfl⟩ := hq1
    cases hv
    show mv_rq l G mX13_childAt (d + 1) 14 [some (.ref m), some (.int x1), some (.int x2), none, none] [.int v11] (md_H G B m S11) _
    refine mv_weak (A := [some (.ref m), some (.int x1), some (.int x2), none, none]) (by repeat' constructor) ?_
    exact ro_childAt_j14 hG hm hq
  ·
    have hq := md_neg c1 hq
    refine q_iconst (v := (-1)) dX13_childAt_4 (by decide) ?_
    refine q_goto (tgt := 14) dX13_childAt_5 (by decide) ?_
    refine mv_weak (A := [some (.ref m), some (.int x1), some (.int x2), none, none]) (by repeat' constructor) ?_
    exact ro_childAt_j14 hG hm hq
def mo_add (x1 : Int32) (x2 : Int32) (S : md_S) : Option md_S :=
  if md_in x1 8 then
  if (S.2 73 x1.toNatClampNeg) = 300 then
    md_l (md_p S 60 1) fun S14 =>
    some S14
  else
    if md_in x1 8 then
    if md_in ((300 * x1) + (S.2 73 x1.toNatClampNeg)) 2400 then
    md_l (md_w S 75 ((300 * x1) + (S.2 73 x1.toNatClampNeg)).toNatClampNeg x2) fun S37 =>
    if md_in x1 8 then
    if md_in x1 8 then
    md_l (md_w S37 73 x1.toNatClampNeg ((S37.2 73 x1.toNatClampNeg) + 1)) fun S47 =>
    some S47
    else none
    else none
    else none
    else none
  else none
theorem ro_add {l : Launch} {G : mv_G} {B : mv_H} {m d : Nat} (hG : mv_ok G) (hm : G.2.2.1 ≤ m) {x1 : Int32} {x2 : Int32} {S : md_S} {q : md_S} (hq : mo_add x1 x2 S = some q) : mv_rq l G mX13_add d 0 (mv_in [.ref m, .int x1, .int x2] 3) [] (md_H G B m S) (md_V G B m q) := by
  unfold mo_add at hq
  show mv_rq l G mX13_add d 0 [some (.ref m), some (.int x1), some (.int x2)] [] (md_H G B m S) _
  refine q_aload_n dX13_add_0 rfl ?_
  refine r_geta 73 dX13_add_1 fl_RX13_163 (by decide) rfl kk_73 ?_
  refine q_iload_n dX13_add_4 rfl ?_
  obtain ⟨g5, hq⟩ := md_g hq
  refine r_iald hG 73 dX13_add_5 kk_73 g5 ?_
  refine q_sipush (v := 300) dX13_add_6 (by decide) ?_
  refine q_icmp_ne (tgt := 20) dX13_add_9 (by decide) (fun c9 => ?_) (fun c9 => ?_)
  ·
    have hq := md_neg c9 hq
    refine q_aload_n dX13_add_20 rfl ?_
    refine r_geta 75 dX13_add_21 fl_RX13_169 (by decide) rfl kk_75 ?_
    refine q_sipush (v := 300) dX13_add_24 (by decide) ?_
    refine q_iload_n dX13_add_27 rfl ?_
    refine q_imul dX13_add_28 ?_
    refine q_aload_n dX13_add_29 rfl ?_
    refine r_geta 73 dX13_add_30 fl_RX13_163 (by decide) rfl kk_73 ?_
    refine q_iload_n dX13_add_33 rfl ?_
    obtain ⟨g34, hq⟩ := md_g hq
    refine r_iald hG 73 dX13_add_34 kk_73 g34 ?_
    refine q_iadd dX13_add_35 ?_
    refine q_iload_n dX13_add_36 rfl ?_
    obtain ⟨g37, hq⟩ := md_g hq
    refine r_iast hG hm 75 dX13_add_37 kk_75 g37 (fun S37 e37 => ?_)
    have hq := md_l_e e37 hq
    clear e37
    show mv_rq l G mX13_add d 38 [some (.ref m), some (.int x1), some (.int x2)] [] (md_H G B m S37) _
    refine q_aload_n dX13_add_38 rfl ?_
    refine r_geta 73 dX13_add_39 fl_RX13_163 (by decide) rfl kk_73 ?_
    refine q_iload_n dX13_add_42 rfl ?_
    refine q_dup2_11 dX13_add_43 rfl rfl ?_
    obtain ⟨g44, hq⟩ := md_g hq
    refine r_iald hG 73 dX13_add_44 kk_73 g44 ?_
    refine q_iconst (v := 1) dX13_add_45 (by decide) ?_
    refine q_iadd dX13_add_46 ?_
    obtain ⟨g47, hq⟩ := md_g hq
    refine r_iast hG hm 73 dX13_add_47 kk_73 g47 (fun S47 e47 => ?_)
    have hq := md_l_e e47 hq
    clear e47
    show mv_rq l G mX13_add d 48 [some (.ref m), some (.int x1), some (.int x2)] [] (md_H G B m S47) _
    obtain rfl := Option.some.inj hq
    exact q_vret dX13_add_48 rfl ⟨rfl, rfl⟩
  ·
    have hq := md_pos c9 hq
    refine q_aload_n dX13_add_12 rfl ?_
    refine q_iconst (v := 1) dX13_add_13 (by decide) ?_
    refine r_puti 60 .boolean dX13_add_14 fl_RX13_419 (by decide) rfl ki_60 rfl kp_60 rfl rfl hm (fun S14 e14 => ?_)
    have hq := md_l_e e14 hq
    clear e14
    show mv_rq l G mX13_add d 17 [some (.ref m), some (.int x1), some (.int x2)] [] (md_H G B m S14) _
    refine q_goto (tgt := 48) dX13_add_17 (by decide) ?_
    obtain rfl := Option.some.inj hq
    exact q_vret dX13_add_48 rfl ⟨rfl, rfl⟩
def mo_addPlace (N : Nat) (x1 : Int32) (x2 : Int32) (S : md_S) : Option md_S :=
  if md_in x1 8 then
  md_b (mo_childAt N (S.2 67 x1.toNatClampNeg) x2 S) fun v8 S8 =>
  if v8 = (-1) then
    some S8
  else
    md_c (mo_add x1 v8 S8) fun S20 =>
    some S20
  else none
theorem ro_addPlace {l : Launch} {G : mv_G} {B : mv_H} {m N d : Nat} (hG : mv_ok G) (hm : G.2.2.1 ≤ m) {x1 : Int32} {x2 : Int32} {S : md_S} {q : md_S} (hq : mo_addPlace N x1 x2 S = some q) : mv_rq l G mX13_addPlace (d + 2) 0 (mv_in [.ref m, .int x1, .int x2] 4) [] (md_H G B m S) (md_V G B m q) := by
  unfold mo_addPlace at hq
  show mv_rq l G mX13_addPlace (d + 2) 0 [some (.ref m), some (.int x1), some (.int x2), none] [] (md_H G B m S) _
  refine q_aload_n dX13_addPlace_0 rfl ?_
  refine q_aload_n dX13_addPlace_1 rfl ?_
  refine r_geta 67 dX13_addPlace_2 fl_RX13_145 (by decide) rfl kk_67 ?_
  refine q_iload_n dX13_addPlace_5 rfl ?_
  obtain ⟨g6, hq⟩ := md_g hq
  refine r_iald hG 67 dX13_addPlace_6 kk_67 g6 ?_
  refine q_iload_n dX13_addPlace_7 rfl ?_
  obtain ⟨v8, S8, e8, hq⟩ := md_b_e hq
  refine q_cV (Y := mX13_childAt) (As := [.int (S.2 67 x1.toNatClampNeg), .int x2]) (st := []) (b := m) (ci := 15) vc_X13_childAt dX13_addPlace_8 ml_RX13_422 rfl md_obj rfl (Nat.le_of_ble_eq_true rfl) rfl (Nat.le_of_ble_eq_true rfl) (ro_childAt (d := d) hG hm e8) (fun v h1 hq1 => ?_) (fun E h1 hq1 => md_nQ hq1)
  obtain ⟨hv, rfl⟩ := hq1
  cases hv
  show mv_rq l G mX13_addPlace (d + 2) 11 [some (.ref m), some (.int x1), some (.int x2), none] [.int v8] (md_H G B m S8) _
  refine q_istore_n dX13_addPlace_11 (Nat.le_of_ble_eq_true rfl) rfl ?_
  show mv_rq l G mX13_addPlace (d + 2) 12 [some (.ref m), some (.int x1), some (.int x2), some (.int v8)] [] (md_H G B m S8) _
  refine q_iload_n dX13_addPlace_12 rfl ?_
  refine q_iconst (v := (-1)) dX13_addPlace_13 (by decide) ?_
  refine q_icmp_eq (tgt := 23) dX13_addPlace_14 (by decide) (fun c14 => ?_) (fun c14 => ?_)
  ·
    have hq := md_pos c14 hq
    obtain rfl := Option.some.inj hq
    exact q_vret dX13_addPlace_23 rfl ⟨rfl, rfl⟩
  ·
    have hq := md_neg c14 hq
    refine q_aload_n dX13_addPlace_17 rfl ?_
    refine q_iload_n dX13_addPlace_18 rfl ?_
    refine q_iload_n dX13_addPlace_19 rfl ?_
    obtain ⟨S20, e20, hq⟩ := md_c_e hq
    refine q_cV (Y := mX13_add) (As := [.int x1, .int v8]) (st := []) (b := m) (ci := 15) vc_X13_add dX13_addPlace_20 ml_RX13_425 rfl md_obj rfl (Nat.le_of_ble_eq_true rfl) rfl (Nat.le_of_ble_eq_true rfl) (ro_add (d := d + 1) hG hm e20) (fun v h1 hq1 => ?_) (fun E h1 hq1 => md_nV hq1)
    obtain ⟨hv, rfl⟩ := hq1
    cases hv
    show mv_rq l G mX13_addPlace (d + 2) 23 [some (.ref m), some (.int x1), some (.int x2), some (.int v8)] [] (md_H G B m S20) _
    obtain rfl := Option.some.inj hq
    exact q_vret dX13_addPlace_23 rfl ⟨rfl, rfl⟩
def mo_slice_l206 (N : Nat) : Nat → Int32 → Int32 → Int32 → Int32 → md_S → Option md_S
  | 0, _, _, _, _, _ => none
  | n + 1, x1, x4, x8, x9, S =>
    if x9 ≤ x8 then
      some S
    else
      if x9 < 0 then
        some S
      else
        md_c (mo_addPlace N x1 x9 S) fun S222 =>
        mo_slice_l206 N n x1 x4 x8 (x9 + x4) S222
theorem ro_slice_l206 {l : Launch} {G : mv_G} {B : mv_H} {m N d : Nat} (hG : mv_ok G) (hm : G.2.2.1 ≤ m) : ∀ n : Nat, ∀ {x1 : Int32} {x4 : Int32} {x8 : Int32} {x9 : Int32} {S : md_S} {q : md_S}, mo_slice_l206 N n x1 x4 x8 x9 S = some q → mv_rq l G mX13_slice (d + 3) 206 [some (.ref m), some (.int x1), none, none, some (.int x4), none, none, none, some (.int x8), some (.int x9)] [] (md_H G B m S) (md_V G B m q)
  | 0, _, _, _, _, _, _, hq => nomatch hq
  | n + 1, x1, x4, x8, x9, S, q, hq => by
    rw [mo_slice_l206] at hq
    refine q_iload dX13_slice_206 rfl ?_
    refine q_iload dX13_slice_208 rfl ?_
    refine q_icmp_le (tgt := 235) dX13_slice_210 (by decide) (fun c210 => ?_) (fun c210 => ?_)
    ·
      have hq := md_pos c210 hq
      obtain rfl := Option.some.inj hq
      exact q_vret dX13_slice_235 rfl ⟨rfl, rfl⟩
    ·
      have hq := md_neg c210 hq
      refine q_iload dX13_slice_213 rfl ?_
      refine q_if_lt (tgt := 235) dX13_slice_215 (by decide) (fun c215 => ?_) (fun c215 => ?_)
      ·
        have hq := md_pos c215 hq
        obtain rfl := Option.some.inj hq
        exact q_vret dX13_slice_235 rfl ⟨rfl, rfl⟩
      ·
        have hq := md_neg c215 hq
        refine q_aload_n dX13_slice_218 rfl ?_
        refine q_iload_n dX13_slice_219 rfl ?_
        refine q_iload dX13_slice_220 rfl ?_
        obtain ⟨S222, e222, hq⟩ := md_c_e hq
        refine q_cV (Y := mX13_addPlace) (As := [.int x1, .int x9]) (st := []) (b := m) (ci := 15) vc_X13_addPlace dX13_slice_222 ml_RX13_431 rfl md_obj rfl (Nat.le_of_ble_eq_true rfl) rfl (Nat.le_of_ble_eq_true rfl) (ro_addPlace (d := d) hG hm e222) (fun v h1 hq1 => ?_) (fun E h1 hq1 => md_nV hq1)
        obtain ⟨hv, rfl⟩ := hq1
        cases hv
        show mv_rq l G mX13_slice (d + 3) 225 [some (.ref m), some (.int x1), none, none, some (.int x4), none, none, none, some (.int x8), some (.int x9)] [] (md_H G B m S222) _
        refine q_iload dX13_slice_225 rfl ?_
        refine q_iload dX13_slice_227 rfl ?_
        refine q_iadd dX13_slice_229 ?_
        refine q_istore dX13_slice_230 (Nat.le_of_ble_eq_true rfl) rfl ?_
        show mv_rq l G mX13_slice (d + 3) 232 [some (.ref m), some (.int x1), none, none, some (.int x4), none, none, none, some (.int x8), some (.int (x9 + x4))] [] (md_H G B m S222) _
        refine q_goto (tgt := 206) dX13_slice_232 (by decide) ?_
        refine mv_weak (A := [some (.ref m), some (.int x1), none, none, some (.int x4), none, none, none, some (.int x8), some (.int (x9 + x4))]) (by repeat' constructor) ?_
        exact ro_slice_l206 hG hm n hq
def mo_slice_j197 (N : Nat) (x1 : Int32) (x4 : Int32) (x7 : Int32) (x8 : Int32) (S : md_S) : Option md_S :=
  if 0 ≤ x4 then
    some S
  else
    mo_slice_l206 N N x1 x4 x8 x7 S
theorem ro_slice_j197 {l : Launch} {G : mv_G} {B : mv_H} {m N d : Nat} (hG : mv_ok G) (hm : G.2.2.1 ≤ m) {x1 : Int32} {x4 : Int32} {x7 : Int32} {x8 : Int32} {S : md_S} {q : md_S} (hq : mo_slice_j197 N x1 x4 x7 x8 S = some q) : mv_rq l G mX13_slice (d + 3) 197 [some (.ref m), some (.int x1), none, none, some (.int x4), none, none, some (.int x7), some (.int x8), none] [] (md_H G B m S) (md_V G B m q) := by
  unfold mo_slice_j197 at hq
  refine q_iload dX13_slice_197 rfl ?_
  refine q_if_ge (tgt := 235) dX13_slice_199 (by decide) (fun c199 => ?_) (fun c199 => ?_)
  ·
    have hq := md_pos c199 hq
    obtain rfl := Option.some.inj hq
    exact q_vret dX13_slice_235 rfl ⟨rfl, rfl⟩
  ·
    have hq := md_neg c199 hq
    refine q_iload dX13_slice_202 rfl ?_
    refine q_istore dX13_slice_204 (Nat.le_of_ble_eq_true rfl) rfl ?_
    show mv_rq l G mX13_slice (d + 3) 206 [some (.ref m), some (.int x1), none, none, some (.int x4), none, none, some (.int x7), some (.int x8), some (.int x7)] [] (md_H G B m S) _
    refine mv_weak (A := [some (.ref m), some (.int x1), none, none, some (.int x4), none, none, none, some (.int x8), some (.int x7)]) (by repeat' constructor) ?_
    exact ro_slice_l206 hG hm N hq
def mo_slice_l167 (N : Nat) : Nat → Int32 → Int32 → Int32 → Int32 → Int32 → Int32 → md_S → Option md_S
  | 0, _, _, _, _, _, _, _ => none
  | n + 1, x1, x3, x4, x7, x8, x9, S =>
    if x8 ≤ x9 then
      mo_slice_j197 N x1 x4 x7 x8 S
    else
      if x3 ≤ x9 then
        mo_slice_j197 N x1 x4 x7 x8 S
      else
        md_c (mo_addPlace N x1 x9 S) fun S184 =>
        mo_slice_l167 N n x1 x3 x4 x7 x8 (x9 + x4) S184
theorem ro_slice_l167 {l : Launch} {G : mv_G} {B : mv_H} {m N d : Nat} (hG : mv_ok G) (hm : G.2.2.1 ≤ m) : ∀ n : Nat, ∀ {x1 : Int32} {x3 : Int32} {x4 : Int32} {x7 : Int32} {x8 : Int32} {x9 : Int32} {S : md_S} {q : md_S}, mo_slice_l167 N n x1 x3 x4 x7 x8 x9 S = some q → mv_rq l G mX13_slice (d + 3) 167 [some (.ref m), some (.int x1), none, some (.int x3), some (.int x4), none, none, some (.int x7), some (.int x8), some (.int x9)] [] (md_H G B m S) (md_V G B m q)
  | 0, _, _, _, _, _, _, _, _, hq => nomatch hq
  | n + 1, x1, x3, x4, x7, x8, x9, S, q, hq => by
    rw [mo_slice_l167] at hq
    refine q_iload dX13_slice_167 rfl ?_
    refine q_iload dX13_slice_169 rfl ?_
    refine q_icmp_ge (tgt := 197) dX13_slice_171 (by decide) (fun c171 => ?_) (fun c171 => ?_)
    ·
      have hq := md_pos c171 hq
      refine mv_weak (A := [some (.ref m), some (.int x1), none, none, some (.int x4), none, none, some (.int x7), some (.int x8), none]) (by repeat' constructor) ?_
      exact ro_slice_j197 hG hm hq
    ·
      have hq := md_neg c171 hq
      refine q_iload dX13_slice_174 rfl ?_
      refine q_iload_n dX13_slice_176 rfl ?_
      refine q_icmp_ge (tgt := 197) dX13_slice_177 (by decide) (fun c177 => ?_) (fun c177 => ?_)
      ·
        have hq := md_pos c177 hq
        refine mv_weak (A := [some (.ref m), some (.int x1), none, none, some (.int x4), none, none, some (.int x7), some (.int x8), none]) (by repeat' constructor) ?_
        exact ro_slice_j197 hG hm hq
      ·
        have hq := md_neg c177 hq
        refine q_aload_n dX13_slice_180 rfl ?_
        refine q_iload_n dX13_slice_181 rfl ?_
        refine q_iload dX13_slice_182 rfl ?_
        obtain ⟨S184, e184, hq⟩ := md_c_e hq
        refine q_cV (Y := mX13_addPlace) (As := [.int x1, .int x9]) (st := []) (b := m) (ci := 15) vc_X13_addPlace dX13_slice_184 ml_RX13_431 rfl md_obj rfl (Nat.le_of_ble_eq_true rfl) rfl (Nat.le_of_ble_eq_true rfl) (ro_addPlace (d := d) hG hm e184) (fun v h1 hq1 => ?_) (fun E h1 hq1 => md_nV hq1)
        obtain ⟨hv, rfl⟩ := hq1
        cases hv
        show mv_rq l G mX13_slice (d + 3) 187 [some (.ref m), some (.int x1), none, some (.int x3), some (.int x4), none, none, some (.int x7), some (.int x8), some (.int x9)] [] (md_H G B m S184) _
        refine q_iload dX13_slice_187 rfl ?_
        refine q_iload dX13_slice_189 rfl ?_
        refine q_iadd dX13_slice_191 ?_
        refine q_istore dX13_slice_192 (Nat.le_of_ble_eq_true rfl) rfl ?_
        show mv_rq l G mX13_slice (d + 3) 194 [some (.ref m), some (.int x1), none, some (.int x3), some (.int x4), none, none, some (.int x7), some (.int x8), some (.int (x9 + x4))] [] (md_H G B m S184) _
        refine q_goto (tgt := 167) dX13_slice_194 (by decide) ?_
        refine mv_weak (A := [some (.ref m), some (.int x1), none, some (.int x3), some (.int x4), none, none, some (.int x7), some (.int x8), some (.int (x9 + x4))]) (by repeat' constructor) ?_
        exact ro_slice_l167 hG hm n hq
def mo_slice_j165 (N : Nat) (x1 : Int32) (x3 : Int32) (x4 : Int32) (x7 : Int32) (x8 : Int32) (y0 : Int32) (S : md_S) : Option md_S :=
  mo_slice_l167 N N x1 x3 x4 x7 x8 y0 S
theorem ro_slice_j165 {l : Launch} {G : mv_G} {B : mv_H} {m N d : Nat} (hG : mv_ok G) (hm : G.2.2.1 ≤ m) {x1 : Int32} {x3 : Int32} {x4 : Int32} {x7 : Int32} {x8 : Int32} {y0 : Int32} {S : md_S} {q : md_S} (hq : mo_slice_j165 N x1 x3 x4 x7 x8 y0 S = some q) : mv_rq l G mX13_slice (d + 3) 165 [some (.ref m), some (.int x1), none, some (.int x3), some (.int x4), none, none, some (.int x7), some (.int x8), none] [.int y0] (md_H G B m S) (md_V G B m q) := by
  unfold mo_slice_j165 at hq
  refine q_istore dX13_slice_165 (Nat.le_of_ble_eq_true rfl) rfl ?_
  show mv_rq l G mX13_slice (d + 3) 167 [some (.ref m), some (.int x1), none, some (.int x3), some (.int x4), none, none, some (.int x7), some (.int x8), some (.int y0)] [] (md_H G B m S) _
  refine mv_weak (A := [some (.ref m), some (.int x1), none, some (.int x3), some (.int x4), none, none, some (.int x7), some (.int x8), some (.int y0)]) (by repeat' constructor) ?_
  exact ro_slice_l167 hG hm N hq
def mo_slice_j147 (N : Nat) (x1 : Int32) (x3 : Int32) (x4 : Int32) (x7 : Int32) (y0 : Int32) (S : md_S) : Option md_S :=
  if x4 ≤ 0 then
    mo_slice_j197 N x1 x4 x7 y0 S
  else
    if 0 ≤ x7 then
      mo_slice_j165 N x1 x3 x4 x7 y0 x7 S
    else
      mo_slice_j165 N x1 x3 x4 x7 y0 0 S
theorem ro_slice_j147 {l : Launch} {G : mv_G} {B : mv_H} {m N d : Nat} (hG : mv_ok G) (hm : G.2.2.1 ≤ m) {x1 : Int32} {x3 : Int32} {x4 : Int32} {x7 : Int32} {y0 : Int32} {S : md_S} {q : md_S} (hq : mo_slice_j147 N x1 x3 x4 x7 y0 S = some q) : mv_rq l G mX13_slice (d + 3) 147 [some (.ref m), some (.int x1), none, some (.int x3), some (.int x4), none, none, some (.int x7), none, none] [.int y0] (md_H G B m S) (md_V G B m q) := by
  unfold mo_slice_j147 at hq
  refine q_istore dX13_slice_147 (Nat.le_of_ble_eq_true rfl) rfl ?_
  show mv_rq l G mX13_slice (d + 3) 149 [some (.ref m), some (.int x1), none, some (.int x3), some (.int x4), none, none, some (.int x7), some (.int y0), none] [] (md_H G B m S) _
  refine q_iload dX13_slice_149 rfl ?_
  refine q_if_le (tgt := 197) dX13_slice_151 (by decide) (fun c151 => ?_) (fun c151 => ?_)
  ·
    have hq := md_pos c151 hq
    refine mv_weak (A := [some (.ref m), some (.int x1), none, none, some (.int x4), none, none, some (.int x7), some (.int y0), none]) (by repeat' constructor) ?_
    exact ro_slice_j197 hG hm hq
  ·
    have hq := md_neg c151 hq
    refine q_iload dX13_slice_154 rfl ?_
    refine q_if_ge (tgt := 163) dX13_slice_156 (by decide) (fun c156 => ?_) (fun c156 => ?_)
    ·
      have hq := md_pos c156 hq
      refine q_iload dX13_slice_163 rfl ?_
      refine mv_weak (A := [some (.ref m), some (.int x1), none, some (.int x3), some (.int x4), none, none, some (.int x7), some (.int y0), none]) (by repeat' constructor) ?_
      exact ro_slice_j165 hG hm hq
    ·
      have hq := md_neg c156 hq
      refine q_iconst (v := 0) dX13_slice_159 (by decide) ?_
      refine q_goto (tgt := 165) dX13_slice_160 (by decide) ?_
      refine mv_weak (A := [some (.ref m), some (.int x1), none, some (.int x3), some (.int x4), none, none, some (.int x7), some (.int y0), none]) (by repeat' constructor) ?_
      exact ro_slice_j165 hG hm hq
def mo_slice_j101 (N : Nat) (x1 : Int32) (x2 : Int32) (x3 : Int32) (x4 : Int32) (x6 : Int32) (y0 : Int32) (S : md_S) : Option md_S :=
  if x6 = 0 then
    if x4 ≤ 0 then
      mo_slice_j147 N x1 x3 x4 y0 (-1) S
    else
      mo_slice_j147 N x1 x3 x4 y0 x3 S
  else
    if md_in x2 170 then
    if 0 ≤ (S.2 46 x2.toNatClampNeg) then
      if md_in x2 170 then
      mo_slice_j147 N x1 x3 x4 y0 (S.2 46 x2.toNatClampNeg) S
      else none
    else
      if md_in x2 170 then
      mo_slice_j147 N x1 x3 x4 y0 ((S.2 46 x2.toNatClampNeg) + x3) S
      else none
    else none
theorem ro_slice_j101 {l : Launch} {G : mv_G} {B : mv_H} {m N d : Nat} (hG : mv_ok G) (hm : G.2.2.1 ≤ m) {x1 : Int32} {x2 : Int32} {x3 : Int32} {x4 : Int32} {x6 : Int32} {y0 : Int32} {S : md_S} {q : md_S} (hq : mo_slice_j101 N x1 x2 x3 x4 x6 y0 S = some q) : mv_rq l G mX13_slice (d + 3) 101 [some (.ref m), some (.int x1), some (.int x2), some (.int x3), some (.int x4), none, some (.int x6), none, none, none] [.int y0] (md_H G B m S) (md_V G B m q) := by
  unfold mo_slice_j101 at hq
  refine q_istore dX13_slice_101 (Nat.le_of_ble_eq_true rfl) rfl ?_
  show mv_rq l G mX13_slice (d + 3) 103 [some (.ref m), some (.int x1), some (.int x2), some (.int x3), some (.int x4), none, some (.int x6), some (.int y0), none, none] [] (md_H G B m S) _
  refine q_iload dX13_slice_103 rfl ?_
  refine q_if_eq (tgt := 137) dX13_slice_105 (by decide) (fun c105 => ?_) (fun c105 => ?_)
  ·
    have hq := md_pos c105 hq
    refine q_iload dX13_slice_137 rfl ?_
    refine q_if_le (tgt := 146) dX13_slice_139 (by decide) (fun c139 => ?_) (fun c139 => ?_)
    ·
      have hq := md_pos c139 hq
      refine q_iconst (v := (-1)) dX13_slice_146 (by decide) ?_
      refine mv_weak (A := [some (.ref m), some (.int x1), none, some (.int x3), some (.int x4), none, none, some (.int y0), none, none]) (by repeat' constructor) ?_
      exact ro_slice_j147 hG hm hq
    ·
      have hq := md_neg c139 hq
      refine q_iload_n dX13_slice_142 rfl ?_
      refine q_goto (tgt := 147) dX13_slice_143 (by decide) ?_
      refine mv_weak (A := [some (.ref m), some (.int x1), none, some (.int x3), some (.int x4), none, none, some (.int y0), none, none]) (by repeat' constructor) ?_
      exact ro_slice_j147 hG hm hq
  ·
    have hq := md_neg c105 hq
    refine q_aload_n dX13_slice_108 rfl ?_
    refine r_geta 46 dX13_slice_109 fl_RX13_94 (by decide) rfl kk_46 ?_
    refine q_iload_n dX13_slice_112 rfl ?_
    obtain ⟨g113, hq⟩ := md_g hq
    refine r_iald hG 46 dX13_slice_113 kk_46 g113 ?_
    refine q_if_ge (tgt := 128) dX13_slice_114 (by decide) (fun c114 => ?_) (fun c114 => ?_)
    ·
      have hq := md_pos c114 hq
      refine q_aload_n dX13_slice_128 rfl ?_
      refine r_geta 46 dX13_slice_129 fl_RX13_94 (by decide) rfl kk_46 ?_
      refine q_iload_n dX13_slice_132 rfl ?_
      obtain ⟨g133, hq⟩ := md_g hq
      refine r_iald hG 46 dX13_slice_133 kk_46 g133 ?_
      refine q_goto (tgt := 147) dX13_slice_134 (by decide) ?_
      refine mv_weak (A := [some (.ref m), some (.int x1), none, some (.int x3), some (.int x4), none, none, some (.int y0), none, none]) (by repeat' constructor) ?_
      exact ro_slice_j147 hG hm hq
    ·
      have hq := md_neg c114 hq
      refine q_aload_n dX13_slice_117 rfl ?_
      refine r_geta 46 dX13_slice_118 fl_RX13_94 (by decide) rfl kk_46 ?_
      refine q_iload_n dX13_slice_121 rfl ?_
      obtain ⟨g122, hq⟩ := md_g hq
      refine r_iald hG 46 dX13_slice_122 kk_46 g122 ?_
      refine q_iload_n dX13_slice_123 rfl ?_
      refine q_iadd dX13_slice_124 ?_
      refine q_goto (tgt := 147) dX13_slice_125 (by decide) ?_
      refine mv_weak (A := [some (.ref m), some (.int x1), none, some (.int x3), some (.int x4), none, none, some (.int y0), none, none]) (by repeat' constructor) ?_
      exact ro_slice_j147 hG hm hq
def mo_slice_j53 (N : Nat) (x1 : Int32) (x2 : Int32) (x3 : Int32) (x4 : Int32) (x5 : Int32) (y0 : Int32) (S : md_S) : Option md_S :=
  if x5 = 0 then
    if x4 ≤ 0 then
      mo_slice_j101 N x1 x2 x3 x4 y0 (x3 - 1) S
    else
      mo_slice_j101 N x1 x2 x3 x4 y0 0 S
  else
    if md_in x2 170 then
    if 0 ≤ (S.2 45 x2.toNatClampNeg) then
      if md_in x2 170 then
      mo_slice_j101 N x1 x2 x3 x4 y0 (S.2 45 x2.toNatClampNeg) S
      else none
    else
      if md_in x2 170 then
      mo_slice_j101 N x1 x2 x3 x4 y0 ((S.2 45 x2.toNatClampNeg) + x3) S
      else none
    else none
theorem ro_slice_j53 {l : Launch} {G : mv_G} {B : mv_H} {m N d : Nat} (hG : mv_ok G) (hm : G.2.2.1 ≤ m) {x1 : Int32} {x2 : Int32} {x3 : Int32} {x4 : Int32} {x5 : Int32} {y0 : Int32} {S : md_S} {q : md_S} (hq : mo_slice_j53 N x1 x2 x3 x4 x5 y0 S = some q) : mv_rq l G mX13_slice (d + 3) 53 [some (.ref m), some (.int x1), some (.int x2), some (.int x3), some (.int x4), some (.int x5), none, none, none, none] [.int y0] (md_H G B m S) (md_V G B m q) := by
  unfold mo_slice_j53 at hq
  refine q_istore dX13_slice_53 (Nat.le_of_ble_eq_true rfl) rfl ?_
  show mv_rq l G mX13_slice (d + 3) 55 [some (.ref m), some (.int x1), some (.int x2), some (.int x3), some (.int x4), some (.int x5), some (.int y0), none, none, none] [] (md_H G B m S) _
  refine q_iload dX13_slice_55 rfl ?_
  refine q_if_eq (tgt := 89) dX13_slice_57 (by decide) (fun c57 => ?_) (fun c57 => ?_)
  ·
    have hq := md_pos c57 hq
    refine q_iload dX13_slice_89 rfl ?_
    refine q_if_le (tgt := 98) dX13_slice_91 (by decide) (fun c91 => ?_) (fun c91 => ?_)
    ·
      have hq := md_pos c91 hq
      refine q_iload_n dX13_slice_98 rfl ?_
      refine q_iconst (v := 1) dX13_slice_99 (by decide) ?_
      refine q_isub dX13_slice_100 ?_
      refine mv_weak (A := [some (.ref m), some (.int x1), some (.int x2), some (.int x3), some (.int x4), none, some (.int y0), none, none, none]) (by repeat' constructor) ?_
      exact ro_slice_j101 hG hm hq
    ·
      have hq := md_neg c91 hq
      refine q_iconst (v := 0) dX13_slice_94 (by decide) ?_
      refine q_goto (tgt := 101) dX13_slice_95 (by decide) ?_
      refine mv_weak (A := [some (.ref m), some (.int x1), some (.int x2), some (.int x3), some (.int x4), none, some (.int y0), none, none, none]) (by repeat' constructor) ?_
      exact ro_slice_j101 hG hm hq
  ·
    have hq := md_neg c57 hq
    refine q_aload_n dX13_slice_60 rfl ?_
    refine r_geta 45 dX13_slice_61 fl_RX13_91 (by decide) rfl kk_45 ?_
    refine q_iload_n dX13_slice_64 rfl ?_
    obtain ⟨g65, hq⟩ := md_g hq
    refine r_iald hG 45 dX13_slice_65 kk_45 g65 ?_
    refine q_if_ge (tgt := 80) dX13_slice_66 (by decide) (fun c66 => ?_) (fun c66 => ?_)
    ·
      have hq := md_pos c66 hq
      refine q_aload_n dX13_slice_80 rfl ?_
      refine r_geta 45 dX13_slice_81 fl_RX13_91 (by decide) rfl kk_45 ?_
      refine q_iload_n dX13_slice_84 rfl ?_
      obtain ⟨g85, hq⟩ := md_g hq
      refine r_iald hG 45 dX13_slice_85 kk_45 g85 ?_
      refine q_goto (tgt := 101) dX13_slice_86 (by decide) ?_
      refine mv_weak (A := [some (.ref m), some (.int x1), some (.int x2), some (.int x3), some (.int x4), none, some (.int y0), none, none, none]) (by repeat' constructor) ?_
      exact ro_slice_j101 hG hm hq
    ·
      have hq := md_neg c66 hq
      refine q_aload_n dX13_slice_69 rfl ?_
      refine r_geta 45 dX13_slice_70 fl_RX13_91 (by decide) rfl kk_45 ?_
      refine q_iload_n dX13_slice_73 rfl ?_
      obtain ⟨g74, hq⟩ := md_g hq
      refine r_iald hG 45 dX13_slice_74 kk_45 g74 ?_
      refine q_iload_n dX13_slice_75 rfl ?_
      refine q_iadd dX13_slice_76 ?_
      refine q_goto (tgt := 101) dX13_slice_77 (by decide) ?_
      refine mv_weak (A := [some (.ref m), some (.int x1), some (.int x2), some (.int x3), some (.int x4), none, some (.int y0), none, none, none]) (by repeat' constructor) ?_
      exact ro_slice_j101 hG hm hq
def mo_slice_j35 (N : Nat) (x1 : Int32) (x2 : Int32) (x3 : Int32) (x4 : Int32) (y0 : Int32) (S : md_S) : Option md_S :=
  if md_in x2 170 then
  if ((S.2 48 x2.toNatClampNeg) &&& 2) ≤ 0 then
    mo_slice_j53 N x1 x2 x3 x4 y0 0 S
  else
    mo_slice_j53 N x1 x2 x3 x4 y0 1 S
  else none
theorem ro_slice_j35 {l : Launch} {G : mv_G} {B : mv_H} {m N d : Nat} (hG : mv_ok G) (hm : G.2.2.1 ≤ m) {x1 : Int32} {x2 : Int32} {x3 : Int32} {x4 : Int32} {y0 : Int32} {S : md_S} {q : md_S} (hq : mo_slice_j35 N x1 x2 x3 x4 y0 S = some q) : mv_rq l G mX13_slice (d + 3) 35 [some (.ref m), some (.int x1), some (.int x2), some (.int x3), some (.int x4), none, none, none, none, none] [.int y0] (md_H G B m S) (md_V G B m q) := by
  unfold mo_slice_j35 at hq
  refine q_istore dX13_slice_35 (Nat.le_of_ble_eq_true rfl) rfl ?_
  show mv_rq l G mX13_slice (d + 3) 37 [some (.ref m), some (.int x1), some (.int x2), some (.int x3), some (.int x4), some (.int y0), none, none, none, none] [] (md_H G B m S) _
  refine q_aload_n dX13_slice_37 rfl ?_
  refine r_geta 48 dX13_slice_38 fl_RX13_100 (by decide) rfl kk_48 ?_
  refine q_iload_n dX13_slice_41 rfl ?_
  obtain ⟨g42, hq⟩ := md_g hq
  refine r_iald hG 48 dX13_slice_42 kk_48 g42 ?_
  refine q_iconst (v := 2) dX13_slice_43 (by decide) ?_
  refine q_iand dX13_slice_44 ?_
  refine q_if_le (tgt := 52) dX13_slice_45 (by decide) (fun c45 => ?_) (fun c45 => ?_)
  ·
    have hq := md_pos c45 hq
    refine q_iconst (v := 0) dX13_slice_52 (by decide) ?_
    refine mv_weak (A := [some (.ref m), some (.int x1), some (.int x2), some (.int x3), some (.int x4), some (.int y0), none, none, none, none]) (by repeat' constructor) ?_
    exact ro_slice_j53 hG hm hq
  ·
    have hq := md_neg c45 hq
    refine q_iconst (v := 1) dX13_slice_48 (by decide) ?_
    refine q_goto (tgt := 53) dX13_slice_49 (by decide) ?_
    refine mv_weak (A := [some (.ref m), some (.int x1), some (.int x2), some (.int x3), some (.int x4), some (.int y0), none, none, none, none]) (by repeat' constructor) ?_
    exact ro_slice_j53 hG hm hq
def mo_slice (N : Nat) (x1 : Int32) (x2 : Int32) (S : md_S) : Option md_S :=
  if md_in x1 8 then
  md_b (mo_children N (S.2 67 x1.toNatClampNeg) S) fun v7 S7 =>
  if md_in x2 170 then
  if md_in x2 170 then
  if ((S7.2 48 x2.toNatClampNeg) &&& 1) ≤ 0 then
    mo_slice_j35 N x1 x2 v7 (S7.2 47 x2.toNatClampNeg) 0 S7
  else
    mo_slice_j35 N x1 x2 v7 (S7.2 47 x2.toNatClampNeg) 1 S7
  else none
  else none
  else none
theorem ro_slice {l : Launch} {G : mv_G} {B : mv_H} {m N d : Nat} (hG : mv_ok G) (hm : G.2.2.1 ≤ m) {x1 : Int32} {x2 : Int32} {S : md_S} {q : md_S} (hq : mo_slice N x1 x2 S = some q) : mv_rq l G mX13_slice (d + 3) 0 (mv_in [.ref m, .int x1, .int x2] 10) [] (md_H G B m S) (md_V G B m q) := by
  unfold mo_slice at hq
  show mv_rq l G mX13_slice (d + 3) 0 [some (.ref m), some (.int x1), some (.int x2), none, none, none, none, none, none, none] [] (md_H G B m S) _
  refine q_aload_n dX13_slice_0 rfl ?_
  refine q_aload_n dX13_slice_1 rfl ?_
  refine r_geta 67 dX13_slice_2 fl_RX13_145 (by decide) rfl kk_67 ?_
  refine q_iload_n dX13_slice_5 rfl ?_
  obtain ⟨g6, hq⟩ := md_g hq
  refine r_iald hG 67 dX13_slice_6 kk_67 g6 ?_
  obtain ⟨v7, S7, e7, hq⟩ := md_b_e hq
  refine q_cV (Y := mX13_children) (As := [.int (S.2 67 x1.toNatClampNeg)]) (st := []) (b := m) (ci := 15) vc_X13_children dX13_slice_7 ml_RX13_428 rfl md_obj rfl (Nat.le_of_ble_eq_true rfl) rfl (Nat.le_of_ble_eq_true rfl) (ro_children (d := d + 2) hG hm e7) (fun v h1 hq1 => ?_) (fun E h1 hq1 => md_nQ hq1)
  obtain ⟨hv, rfl⟩ := hq1
  cases hv
  show mv_rq l G mX13_slice (d + 3) 10 [some (.ref m), some (.int x1), some (.int x2), none, none, none, none, none, none, none] [.int v7] (md_H G B m S7) _
  refine q_istore_n dX13_slice_10 (Nat.le_of_ble_eq_true rfl) rfl ?_
  show mv_rq l G mX13_slice (d + 3) 11 [some (.ref m), some (.int x1), some (.int x2), some (.int v7), none, none, none, none, none, none] [] (md_H G B m S7) _
  refine q_aload_n dX13_slice_11 rfl ?_
  refine r_geta 47 dX13_slice_12 fl_RX13_97 (by decide) rfl kk_47 ?_
  refine q_iload_n dX13_slice_15 rfl ?_
  obtain ⟨g16, hq⟩ := md_g hq
  refine r_iald hG 47 dX13_slice_16 kk_47 g16 ?_
  refine q_istore dX13_slice_17 (Nat.le_of_ble_eq_true rfl) rfl ?_
  show mv_rq l G mX13_slice (d + 3) 19 [some (.ref m), some (.int x1), some (.int x2), some (.int v7), some (.int (S7.2 47 x2.toNatClampNeg)), none, none, none, none, none] [] (md_H G B m S7) _
  refine q_aload_n dX13_slice_19 rfl ?_
  refine r_geta 48 dX13_slice_20 fl_RX13_100 (by decide) rfl kk_48 ?_
  refine q_iload_n dX13_slice_23 rfl ?_
  obtain ⟨g24, hq⟩ := md_g hq
  refine r_iald hG 48 dX13_slice_24 kk_48 g24 ?_
  refine q_iconst (v := 1) dX13_slice_25 (by decide) ?_
  refine q_iand dX13_slice_26 ?_
  refine q_if_le (tgt := 34) dX13_slice_27 (by decide) (fun c27 => ?_) (fun c27 => ?_)
  ·
    have hq := md_pos c27 hq
    refine q_iconst (v := 0) dX13_slice_34 (by decide) ?_
    refine mv_weak (A := [some (.ref m), some (.int x1), some (.int x2), some (.int v7), some (.int (S7.2 47 x2.toNatClampNeg)), none, none, none, none, none]) (by repeat' constructor) ?_
    exact ro_slice_j35 hG hm hq
  ·
    have hq := md_neg c27 hq
    refine q_iconst (v := 1) dX13_slice_30 (by decide) ?_
    refine q_goto (tgt := 35) dX13_slice_31 (by decide) ?_
    refine mv_weak (A := [some (.ref m), some (.int x1), some (.int x2), some (.int v7), some (.int (S7.2 47 x2.toNatClampNeg)), none, none, none, none, none]) (by repeat' constructor) ?_
    exact ro_slice_j35 hG hm hq
def mo_select_j204 (N : Nat) (x1 : Int32) (x2 : Int32) (x3 : Int32) (x4 : Int32) (S : md_S) : Option md_S :=
  if x4 = 3 then
    if md_in x3 41 then
    if (S.2 12 x3.toNatClampNeg) = 5 then
      md_c (mo_slice N x1 x2 S) fun S223 =>
      some S223
    else
      some S
    else none
  else
    some S
theorem ro_select_j204 {l : Launch} {G : mv_G} {B : mv_H} {m N d : Nat} (hG : mv_ok G) (hm : G.2.2.1 ≤ m) {x1 : Int32} {x2 : Int32} {x3 : Int32} {x4 : Int32} {S : md_S} {q : md_S} (hq : mo_select_j204 N x1 x2 x3 x4 S = some q) : mv_rq l G mX13_select (d + 4) 204 [some (.ref m), some (.int x1), some (.int x2), some (.int x3), some (.int x4), none] [] (md_H G B m S) (md_V G B m q) := by
  unfold mo_select_j204 at hq
  refine q_iload dX13_select_204 rfl ?_
  refine q_iconst (v := 3) dX13_select_206 (by decide) ?_
  refine q_icmp_ne (tgt := 226) dX13_select_207 (by decide) (fun c207 => ?_) (fun c207 => ?_)
  ·
    have hq := md_neg c207 hq
    obtain rfl := Option.some.inj hq
    exact q_vret dX13_select_226 rfl ⟨rfl, rfl⟩
  ·
    have hq := md_pos c207 hq
    refine q_aload_n dX13_select_210 rfl ?_
    refine r_geta 12 dX13_select_211 fl_RX13_23 (by decide) rfl kk_12 ?_
    refine q_iload_n dX13_select_214 rfl ?_
    obtain ⟨g215, hq⟩ := md_g hq
    refine r_iald hG 12 dX13_select_215 kk_12 g215 ?_
    refine q_iconst (v := 5) dX13_select_216 (by decide) ?_
    refine q_icmp_ne (tgt := 226) dX13_select_217 (by decide) (fun c217 => ?_) (fun c217 => ?_)
    ·
      have hq := md_neg c217 hq
      obtain rfl := Option.some.inj hq
      exact q_vret dX13_select_226 rfl ⟨rfl, rfl⟩
    ·
      have hq := md_pos c217 hq
      refine q_aload_n dX13_select_220 rfl ?_
      refine q_iload_n dX13_select_221 rfl ?_
      refine q_iload_n dX13_select_222 rfl ?_
      obtain ⟨S223, e223, hq⟩ := md_c_e hq
      refine q_cV (Y := mX13_slice) (As := [.int x1, .int x2]) (st := []) (b := m) (ci := 15) vc_X13_slice dX13_select_223 ml_RX13_434 rfl md_obj rfl (Nat.le_of_ble_eq_true rfl) rfl (Nat.le_of_ble_eq_true rfl) (ro_slice (d := d) hG hm e223) (fun v h1 hq1 => ?_) (fun E h1 hq1 => md_nV hq1)
      obtain ⟨hv, rfl⟩ := hq1
      cases hv
      show mv_rq l G mX13_select (d + 4) 226 [some (.ref m), some (.int x1), some (.int x2), some (.int x3), some (.int x4), none] [] (md_H G B m S223) _
      obtain rfl := Option.some.inj hq
      exact q_vret dX13_select_226 rfl ⟨rfl, rfl⟩
def mo_select_j198 (N : Nat) (y0 : Int32) (y1 : Int32) (S : md_S) : Option md_S :=
  md_c (mo_addPlace N y1 y0 S) fun S198 =>
  some S198
theorem ro_select_j198 {l : Launch} {G : mv_G} {B : mv_H} {m N d : Nat} (hG : mv_ok G) (hm : G.2.2.1 ≤ m) {y0 : Int32} {y1 : Int32} {S : md_S} {q : md_S} (hq : mo_select_j198 N y0 y1 S = some q) : mv_rq l G mX13_select (d + 4) 198 [none, none, none, none, none, none] [.int y0, .int y1, .ref m] (md_H G B m S) (md_V G B m q) := by
  unfold mo_select_j198 at hq
  obtain ⟨S198, e198, hq⟩ := md_c_e hq
  refine q_cV (Y := mX13_addPlace) (As := [.int y1, .int y0]) (st := []) (b := m) (ci := 15) vc_X13_addPlace dX13_select_198 ml_RX13_431 rfl md_obj rfl (Nat.le_of_ble_eq_true rfl) rfl (Nat.le_of_ble_eq_true rfl) (ro_addPlace (d := d + 1) hG hm e198) (fun v h1 hq1 => ?_) (fun E h1 hq1 => md_nV hq1)
  obtain ⟨hv, rfl⟩ := hq1
  cases hv
  show mv_rq l G mX13_select (d + 4) 201 [none, none, none, none, none, none] [] (md_H G B m S198) _
  refine q_goto (tgt := 226) dX13_select_201 (by decide) ?_
  obtain rfl := Option.some.inj hq
  exact q_vret dX13_select_226 rfl ⟨rfl, rfl⟩
def mo_select_l39 (N : Nat) : Nat → Int32 → Int32 → Int32 → Int32 → md_S → Option md_S
  | 0, _, _, _, _, _ => none
  | n + 1, x1, x2, x3, x5, S =>
    if x5 = (-1) then
      some S
    else
      if md_in x2 170 then
      if md_in x2 170 then
      if md_in x5 41 then
      if md_in x5 41 then
      md_b (mo_isSame N 32 (S.2 45 x2.toNatClampNeg) (S.2 46 x2.toNatClampNeg) 11 (S.2 18 x5.toNatClampNeg) (S.2 19 x5.toNatClampNeg) S) fun v80 S80 =>
      if v80 = 0 then
        md_b (mo_follower N x3 x5 S80) fun v97 S97 =>
        mo_select_l39 N n x1 x2 x3 v97 S97
      else
        md_c (mo_add x1 x5 S80) fun S90 =>
        md_b (mo_follower N x3 x5 S90) fun v97 S97 =>
        mo_select_l39 N n x1 x2 x3 v97 S97
      else none
      else none
      else none
      else none
theorem ro_select_l39 {l : Launch} {G : mv_G} {B : mv_H} {m N d : Nat} (hG : mv_ok G) (hm : G.2.2.1 ≤ m) : ∀ n : Nat, ∀ {x1 : Int32} {x2 : Int32} {x3 : Int32} {x5 : Int32} {S : md_S} {q : md_S}, mo_select_l39 N n x1 x2 x3 x5 S = some q → mv_rq l G mX13_select (d + 4) 39 [some (.ref m), some (.int x1), some (.int x2), some (.int x3), none, some (.int x5)] [] (md_H G B m S) (md_V G B m q)
  | 0, _, _, _, _, _, _, hq => nomatch hq
  | n + 1, x1, x2, x3, x5, S, q, hq => by
    rw [mo_select_l39] at hq
    refine q_iload dX13_select_39 rfl ?_
    refine q_iconst (v := (-1)) dX13_select_41 (by decide) ?_
    refine q_icmp_eq (tgt := 105) dX13_select_42 (by decide) (fun c42 => ?_) (fun c42 => ?_)
    ·
      have hq := md_pos c42 hq
      refine q_goto (tgt := 226) dX13_select_105 (by decide) ?_
      obtain rfl := Option.some.inj hq
      exact q_vret dX13_select_226 rfl ⟨rfl, rfl⟩
    ·
      have hq := md_neg c42 hq
      refine q_aload_n dX13_select_45 rfl ?_
      refine q_aload_n dX13_select_46 rfl ?_
      refine r_geta 32 dX13_select_47 fl_RX13_51 (by decide) rfl kk_32 ?_
      refine q_aload_n dX13_select_50 rfl ?_
      refine r_geta 45 dX13_select_51 fl_RX13_91 (by decide) rfl kk_45 ?_
      refine q_iload_n dX13_select_54 rfl ?_
      obtain ⟨g55, hq⟩ := md_g hq
      refine r_iald hG 45 dX13_select_55 kk_45 g55 ?_
      refine q_aload_n dX13_select_56 rfl ?_
      refine r_geta 46 dX13_select_57 fl_RX13_94 (by decide) rfl kk_46 ?_
      refine q_iload_n dX13_select_60 rfl ?_
      obtain ⟨g61, hq⟩ := md_g hq
      refine r_iald hG 46 dX13_select_61 kk_46 g61 ?_
      refine q_aload_n dX13_select_62 rfl ?_
      refine r_geta 11 dX13_select_63 fl_RX13_20 (by decide) rfl kk_11 ?_
      refine q_aload_n dX13_select_66 rfl ?_
      refine r_geta 18 dX13_select_67 fl_RX13_42 (by decide) rfl kk_18 ?_
      refine q_iload dX13_select_70 rfl ?_
      obtain ⟨g72, hq⟩ := md_g hq
      refine r_iald hG 18 dX13_select_72 kk_18 g72 ?_
      refine q_aload_n dX13_select_73 rfl ?_
      refine r_geta 19 dX13_select_74 fl_RX13_45 (by decide) rfl kk_19 ?_
      refine q_iload dX13_select_77 rfl ?_
      obtain ⟨g79, hq⟩ := md_g hq
      refine r_iald hG 19 dX13_select_79 kk_19 g79 ?_
      obtain ⟨v80, S80, e80, hq⟩ := md_b_e hq
      refine q_cV (Y := mX13_isSame) (As := [.ref (m + md_ad 32), .int (S.2 45 x2.toNatClampNeg), .int (S.2 46 x2.toNatClampNeg), .ref (m + md_ad 11), .int (S.2 18 x5.toNatClampNeg), .int (S.2 19 x5.toNatClampNeg)]) (st := []) (b := m) (ci := 15) vc_X13_isSame dX13_select_80 ml_RX13_271 rfl md_obj rfl (Nat.le_of_ble_eq_true rfl) rfl (Nat.le_of_ble_eq_true rfl) (ro_isSame (d := d + 3) hG hm e80) (fun v h1 hq1 => ?_) (fun E h1 hq1 => md_nQ hq1)
      obtain ⟨hv, rfl⟩ := hq1
      cases hv
      show mv_rq l G mX13_select (d + 4) 83 [some (.ref m), some (.int x1), some (.int x2), some (.int x3), none, some (.int x5)] [.int v80] (md_H G B m S80) _
      refine q_if_eq (tgt := 93) dX13_select_83 (by decide) (fun c83 => ?_) (fun c83 => ?_)
      ·
        have hq := md_pos c83 hq
        refine q_aload_n dX13_select_93 rfl ?_
        refine q_iload_n dX13_select_94 rfl ?_
        refine q_iload dX13_select_95 rfl ?_
        obtain ⟨v97, S97, e97, hq⟩ := md_b_e hq
        refine q_cV (Y := mX13_follower) (As := [.int x3, .int x5]) (st := []) (b := m) (ci := 15) vc_X13_follower dX13_select_97 ml_RX13_415 rfl md_obj rfl (Nat.le_of_ble_eq_true rfl) rfl (Nat.le_of_ble_eq_true rfl) (ro_follower (d := d + 3) hG hm e97) (fun v h1 hq1 => ?_) (fun E h1 hq1 => md_nQ hq1)
        obtain ⟨hv, rfl⟩ := hq1
        cases hv
        show mv_rq l G mX13_select (d + 4) 100 [some (.ref m), some (.int x1), some (.int x2), some (.int x3), none, some (.int x5)] [.int v97] (md_H G B m S97) _
        refine q_istore dX13_select_100 (Nat.le_of_ble_eq_true rfl) rfl ?_
        show mv_rq l G mX13_select (d + 4) 102 [some (.ref m), some (.int x1), some (.int x2), some (.int x3), none, some (.int v97)] [] (md_H G B m S97) _
        refine q_goto (tgt := 39) dX13_select_102 (by decide) ?_
        refine mv_weak (A := [some (.ref m), some (.int x1), some (.int x2), some (.int x3), none, some (.int v97)]) (by repeat' constructor) ?_
        exact ro_select_l39 hG hm n hq
      ·
        have hq := md_neg c83 hq
        refine q_aload_n dX13_select_86 rfl ?_
        refine q_iload_n dX13_select_87 rfl ?_
        refine q_iload dX13_select_88 rfl ?_
        obtain ⟨S90, e90, hq⟩ := md_c_e hq
        refine q_cV (Y := mX13_add) (As := [.int x1, .int x5]) (st := []) (b := m) (ci := 15) vc_X13_add dX13_select_90 ml_RX13_425 rfl md_obj rfl (Nat.le_of_ble_eq_true rfl) rfl (Nat.le_of_ble_eq_true rfl) (ro_add (d := d + 3) hG hm e90) (fun v h1 hq1 => ?_) (fun E h1 hq1 => md_nV hq1)
        obtain ⟨hv, rfl⟩ := hq1
        cases hv
        show mv_rq l G mX13_select (d + 4) 93 [some (.ref m), some (.int x1), some (.int x2), some (.int x3), none, some (.int x5)] [] (md_H G B m S90) _
        refine q_aload_n dX13_select_93 rfl ?_
        refine q_iload_n dX13_select_94 rfl ?_
        refine q_iload dX13_select_95 rfl ?_
        obtain ⟨v97, S97, e97, hq⟩ := md_b_e hq
        refine q_cV (Y := mX13_follower) (As := [.int x3, .int x5]) (st := []) (b := m) (ci := 15) vc_X13_follower dX13_select_97 ml_RX13_415 rfl md_obj rfl (Nat.le_of_ble_eq_true rfl) rfl (Nat.le_of_ble_eq_true rfl) (ro_follower (d := d + 3) hG hm e97) (fun v h1 hq1 => ?_) (fun E h1 hq1 => md_nQ hq1)
        obtain ⟨hv, rfl⟩ := hq1
        cases hv
        show mv_rq l G mX13_select (d + 4) 100 [some (.ref m), some (.int x1), some (.int x2), some (.int x3), none, some (.int x5)] [.int v97] (md_H G B m S97) _
        refine q_istore dX13_select_100 (Nat.le_of_ble_eq_true rfl) rfl ?_
        show mv_rq l G mX13_select (d + 4) 102 [some (.ref m), some (.int x1), some (.int x2), some (.int x3), none, some (.int v97)] [] (md_H G B m S97) _
        refine q_goto (tgt := 39) dX13_select_102 (by decide) ?_
        refine mv_weak (A := [some (.ref m), some (.int x1), some (.int x2), some (.int x3), none, some (.int v97)]) (by repeat' constructor) ?_
        exact ro_select_l39 hG hm n hq
def mo_select_l122 (N : Nat) : Nat → Int32 → Int32 → Int32 → md_S → Option md_S
  | 0, _, _, _, _ => none
  | n + 1, x1, x3, x5, S =>
    if x5 = (-1) then
      some S
    else
      md_c (mo_add x1 x5 S) fun S132 =>
      md_b (mo_follower N x3 x5 S132) fun v139 S139 =>
      mo_select_l122 N n x1 x3 v139 S139
theorem ro_select_l122 {l : Launch} {G : mv_G} {B : mv_H} {m N d : Nat} (hG : mv_ok G) (hm : G.2.2.1 ≤ m) : ∀ n : Nat, ∀ {x1 : Int32} {x3 : Int32} {x5 : Int32} {S : md_S} {q : md_S}, mo_select_l122 N n x1 x3 x5 S = some q → mv_rq l G mX13_select (d + 4) 122 [some (.ref m), some (.int x1), none, some (.int x3), none, some (.int x5)] [] (md_H G B m S) (md_V G B m q)
  | 0, _, _, _, _, _, hq => nomatch hq
  | n + 1, x1, x3, x5, S, q, hq => by
    rw [mo_select_l122] at hq
    refine q_iload dX13_select_122 rfl ?_
    refine q_iconst (v := (-1)) dX13_select_124 (by decide) ?_
    refine q_icmp_eq (tgt := 147) dX13_select_125 (by decide) (fun c125 => ?_) (fun c125 => ?_)
    ·
      have hq := md_pos c125 hq
      refine q_goto (tgt := 226) dX13_select_147 (by decide) ?_
      obtain rfl := Option.some.inj hq
      exact q_vret dX13_select_226 rfl ⟨rfl, rfl⟩
    ·
      have hq := md_neg c125 hq
      refine q_aload_n dX13_select_128 rfl ?_
      refine q_iload_n dX13_select_129 rfl ?_
      refine q_iload dX13_select_130 rfl ?_
      obtain ⟨S132, e132, hq⟩ := md_c_e hq
      refine q_cV (Y := mX13_add) (As := [.int x1, .int x5]) (st := []) (b := m) (ci := 15) vc_X13_add dX13_select_132 ml_RX13_425 rfl md_obj rfl (Nat.le_of_ble_eq_true rfl) rfl (Nat.le_of_ble_eq_true rfl) (ro_add (d := d + 3) hG hm e132) (fun v h1 hq1 => ?_) (fun E h1 hq1 => md_nV hq1)
      obtain ⟨hv, rfl⟩ := hq1
      cases hv
      show mv_rq l G mX13_select (d + 4) 135 [some (.ref m), some (.int x1), none, some (.int x3), none, some (.int x5)] [] (md_H G B m S132) _
      refine q_aload_n dX13_select_135 rfl ?_
      refine q_iload_n dX13_select_136 rfl ?_
      refine q_iload dX13_select_137 rfl ?_
      obtain ⟨v139, S139, e139, hq⟩ := md_b_e hq
      refine q_cV (Y := mX13_follower) (As := [.int x3, .int x5]) (st := []) (b := m) (ci := 15) vc_X13_follower dX13_select_139 ml_RX13_415 rfl md_obj rfl (Nat.le_of_ble_eq_true rfl) rfl (Nat.le_of_ble_eq_true rfl) (ro_follower (d := d + 3) hG hm e139) (fun v h1 hq1 => ?_) (fun E h1 hq1 => md_nQ hq1)
      obtain ⟨hv, rfl⟩ := hq1
      cases hv
      show mv_rq l G mX13_select (d + 4) 142 [some (.ref m), some (.int x1), none, some (.int x3), none, some (.int x5)] [.int v139] (md_H G B m S139) _
      refine q_istore dX13_select_142 (Nat.le_of_ble_eq_true rfl) rfl ?_
      show mv_rq l G mX13_select (d + 4) 144 [some (.ref m), some (.int x1), none, some (.int x3), none, some (.int v139)] [] (md_H G B m S139) _
      refine q_goto (tgt := 122) dX13_select_144 (by decide) ?_
      refine mv_weak (A := [some (.ref m), some (.int x1), none, some (.int x3), none, some (.int v139)]) (by repeat' constructor) ?_
      exact ro_select_l122 hG hm n hq
def mo_select_j108 (N : Nat) (x1 : Int32) (x2 : Int32) (x3 : Int32) (x4 : Int32) (S : md_S) : Option md_S :=
  if x4 = 1 then
    md_b (mo_follower N x3 x3 S) fun v117 S117 =>
    mo_select_l122 N N x1 x3 v117 S117
  else
    if x4 = 2 then
      if md_in x3 41 then
      if (S.2 12 x3.toNatClampNeg) = 5 then
        if md_in x2 170 then
        if 0 ≤ (S.2 45 x2.toNatClampNeg) then
          if md_in x2 170 then
          mo_select_j198 N (S.2 45 x2.toNatClampNeg) x1 S
          else none
        else
          if md_in x2 170 then
          md_b (mo_children N x3 S) fun v185 S185 =>
          mo_select_j198 N ((S.2 45 x2.toNatClampNeg) + v185) x1 S185
          else none
        else none
      else
        mo_select_j204 N x1 x2 x3 x4 S
      else none
    else
      mo_select_j204 N x1 x2 x3 x4 S
theorem ro_select_j108 {l : Launch} {G : mv_G} {B : mv_H} {m N d : Nat} (hG : mv_ok G) (hm : G.2.2.1 ≤ m) {x1 : Int32} {x2 : Int32} {x3 : Int32} {x4 : Int32} {S : md_S} {q : md_S} (hq : mo_select_j108 N x1 x2 x3 x4 S = some q) : mv_rq l G mX13_select (d + 4) 108 [some (.ref m), some (.int x1), some (.int x2), some (.int x3), some (.int x4), none] [] (md_H G B m S) (md_V G B m q) := by
  unfold mo_select_j108 at hq
  refine q_iload dX13_select_108 rfl ?_
  refine q_iconst (v := 1) dX13_select_110 (by decide) ?_
  refine q_icmp_ne (tgt := 150) dX13_select_111 (by decide) (fun c111 => ?_) (fun c111 => ?_)
  ·
    have hq := md_neg c111 hq
    refine q_iload dX13_select_150 rfl ?_
    refine q_iconst (v := 2) dX13_select_152 (by decide) ?_
    refine q_icmp_ne (tgt := 204) dX13_select_153 (by decide) (fun c153 => ?_) (fun c153 => ?_)
    ·
      have hq := md_neg c153 hq
      refine mv_weak (A := [some (.ref m), some (.int x1), some (.int x2), some (.int x3), some (.int x4), none]) (by repeat' constructor) ?_
      exact ro_select_j204 hG hm hq
    ·
      have hq := md_pos c153 hq
      refine q_aload_n dX13_select_156 rfl ?_
      refine r_geta 12 dX13_select_157 fl_RX13_23 (by decide) rfl kk_12 ?_
      refine q_iload_n dX13_select_160 rfl ?_
      obtain ⟨g161, hq⟩ := md_g hq
      refine r_iald hG 12 dX13_select_161 kk_12 g161 ?_
      refine q_iconst (v := 5) dX13_select_162 (by decide) ?_
      refine q_icmp_ne (tgt := 204) dX13_select_163 (by decide) (fun c163 => ?_) (fun c163 => ?_)
      ·
        have hq := md_neg c163 hq
        refine mv_weak (A := [some (.ref m), some (.int x1), some (.int x2), some (.int x3), some (.int x4), none]) (by repeat' constructor) ?_
        exact ro_select_j204 hG hm hq
      ·
        have hq := md_pos c163 hq
        refine q_aload_n dX13_select_166 rfl ?_
        refine q_iload_n dX13_select_167 rfl ?_
        refine q_aload_n dX13_select_168 rfl ?_
        refine r_geta 45 dX13_select_169 fl_RX13_91 (by decide) rfl kk_45 ?_
        refine q_iload_n dX13_select_172 rfl ?_
        obtain ⟨g173, hq⟩ := md_g hq
        refine r_iald hG 45 dX13_select_173 kk_45 g173 ?_
        refine q_if_ge (tgt := 192) dX13_select_174 (by decide) (fun c174 => ?_) (fun c174 => ?_)
        ·
          have hq := md_pos c174 hq
          refine q_aload_n dX13_select_192 rfl ?_
          refine r_geta 45 dX13_select_193 fl_RX13_91 (by decide) rfl kk_45 ?_
          refine q_iload_n dX13_select_196 rfl ?_
          obtain ⟨g197, hq⟩ := md_g hq
          refine r_iald hG 45 dX13_select_197 kk_45 g197 ?_
          refine mv_weak (A := [none, none, none, none, none, none]) (by repeat' constructor) ?_
          exact ro_select_j198 hG hm hq
        ·
          have hq := md_neg c174 hq
          refine q_aload_n dX13_select_177 rfl ?_
          refine r_geta 45 dX13_select_178 fl_RX13_91 (by decide) rfl kk_45 ?_
          refine q_iload_n dX13_select_181 rfl ?_
          obtain ⟨g182, hq⟩ := md_g hq
          refine r_iald hG 45 dX13_select_182 kk_45 g182 ?_
          refine q_aload_n dX13_select_183 rfl ?_
          refine q_iload_n dX13_select_184 rfl ?_
          obtain ⟨v185, S185, e185, hq⟩ := md_b_e hq
          refine q_cV (Y := mX13_children) (As := [.int x3]) (st := [.int (S.2 45 x2.toNatClampNeg), .int x1, .ref m]) (b := m) (ci := 15) vc_X13_children dX13_select_185 ml_RX13_428 rfl md_obj rfl (Nat.le_of_ble_eq_true rfl) rfl (Nat.le_of_ble_eq_true rfl) (ro_children (d := d + 3) hG hm e185) (fun v h1 hq1 => ?_) (fun E h1 hq1 => md_nQ hq1)
          obtain ⟨hv, rfl⟩ := hq1
          cases hv
          show mv_rq l G mX13_select (d + 4) 188 [some (.ref m), some (.int x1), some (.int x2), some (.int x3), some (.int x4), none] [.int v185, .int (S.2 45 x2.toNatClampNeg), .int x1, .ref m] (md_H G B m S185) _
          refine q_iadd dX13_select_188 ?_
          refine q_goto (tgt := 198) dX13_select_189 (by decide) ?_
          refine mv_weak (A := [none, none, none, none, none, none]) (by repeat' constructor) ?_
          exact ro_select_j198 hG hm hq
  ·
    have hq := md_pos c111 hq
    refine q_aload_n dX13_select_114 rfl ?_
    refine q_iload_n dX13_select_115 rfl ?_
    refine q_iload_n dX13_select_116 rfl ?_
    obtain ⟨v117, S117, e117, hq⟩ := md_b_e hq
    refine q_cV (Y := mX13_follower) (As := [.int x3, .int x3]) (st := []) (b := m) (ci := 15) vc_X13_follower dX13_select_117 ml_RX13_415 rfl md_obj rfl (Nat.le_of_ble_eq_true rfl) rfl (Nat.le_of_ble_eq_true rfl) (ro_follower (d := d + 3) hG hm e117) (fun v h1 hq1 => ?_) (fun E h1 hq1 => md_nQ hq1)
    obtain ⟨hv, rfl⟩ := hq1
    cases hv
    show mv_rq l G mX13_select (d + 4) 120 [some (.ref m), some (.int x1), some (.int x2), some (.int x3), some (.int x4), none] [.int v117] (md_H G B m S117) _
    refine q_istore dX13_select_120 (Nat.le_of_ble_eq_true rfl) rfl ?_
    show mv_rq l G mX13_select (d + 4) 122 [some (.ref m), some (.int x1), some (.int x2), some (.int x3), some (.int x4), some (.int v117)] [] (md_H G B m S117) _
    refine mv_weak (A := [some (.ref m), some (.int x1), none, some (.int x3), none, some (.int v117)]) (by repeat' constructor) ?_
    exact ro_select_l122 hG hm N hq
def mo_select (N : Nat) (x1 : Int32) (x2 : Int32) (S : md_S) : Option md_S :=
  if md_in x1 8 then
  if md_in x2 170 then
  if (S.2 43 x2.toNatClampNeg) = 0 then
    if md_in (S.2 67 x1.toNatClampNeg) 41 then
    if (S.2 12 (S.2 67 x1.toNatClampNeg).toNatClampNeg) = 6 then
      md_b (mo_follower N (S.2 67 x1.toNatClampNeg) (S.2 67 x1.toNatClampNeg) S) fun v34 S34 =>
      mo_select_l39 N N x1 x2 (S.2 67 x1.toNatClampNeg) v34 S34
    else
      mo_select_j108 N x1 x2 (S.2 67 x1.toNatClampNeg) (S.2 43 x2.toNatClampNeg) S
    else none
  else
    mo_select_j108 N x1 x2 (S.2 67 x1.toNatClampNeg) (S.2 43 x2.toNatClampNeg) S
  else none
  else none
theorem ro_select {l : Launch} {G : mv_G} {B : mv_H} {m N d : Nat} (hG : mv_ok G) (hm : G.2.2.1 ≤ m) {x1 : Int32} {x2 : Int32} {S : md_S} {q : md_S} (hq : mo_select N x1 x2 S = some q) : mv_rq l G mX13_select (d + 4) 0 (mv_in [.ref m, .int x1, .int x2] 6) [] (md_H G B m S) (md_V G B m q) := by
  unfold mo_select at hq
  show mv_rq l G mX13_select (d + 4) 0 [some (.ref m), some (.int x1), some (.int x2), none, none, none] [] (md_H G B m S) _
  refine q_aload_n dX13_select_0 rfl ?_
  refine r_geta 67 dX13_select_1 fl_RX13_145 (by decide) rfl kk_67 ?_
  refine q_iload_n dX13_select_4 rfl ?_
  obtain ⟨g5, hq⟩ := md_g hq
  refine r_iald hG 67 dX13_select_5 kk_67 g5 ?_
  refine q_istore_n dX13_select_6 (Nat.le_of_ble_eq_true rfl) rfl ?_
  show mv_rq l G mX13_select (d + 4) 7 [some (.ref m), some (.int x1), some (.int x2), some (.int (S.2 67 x1.toNatClampNeg)), none, none] [] (md_H G B m S) _
  refine q_aload_n dX13_select_7 rfl ?_
  refine r_geta 43 dX13_select_8 fl_RX13_85 (by decide) rfl kk_43 ?_
  refine q_iload_n dX13_select_11 rfl ?_
  obtain ⟨g12, hq⟩ := md_g hq
  refine r_iald hG 43 dX13_select_12 kk_43 g12 ?_
  refine q_istore dX13_select_13 (Nat.le_of_ble_eq_true rfl) rfl ?_
  show mv_rq l G mX13_select (d + 4) 15 [some (.ref m), some (.int x1), some (.int x2), some (.int (S.2 67 x1.toNatClampNeg)), some (.int (S.2 43 x2.toNatClampNeg)), none] [] (md_H G B m S) _
  refine q_iload dX13_select_15 rfl ?_
  refine q_if_ne (tgt := 108) dX13_select_17 (by decide) (fun c17 => ?_) (fun c17 => ?_)
  ·
    have hq := md_neg c17 hq
    refine mv_weak (A := [some (.ref m), some (.int x1), some (.int x2), some (.int (S.2 67 x1.toNatClampNeg)), some (.int (S.2 43 x2.toNatClampNeg)), none]) (by repeat' constructor) ?_
    exact ro_select_j108 hG hm hq
  ·
    have hq := md_pos c17 hq
    refine q_aload_n dX13_select_20 rfl ?_
    refine r_geta 12 dX13_select_21 fl_RX13_23 (by decide) rfl kk_12 ?_
    refine q_iload_n dX13_select_24 rfl ?_
    obtain ⟨g25, hq⟩ := md_g hq
    refine r_iald hG 12 dX13_select_25 kk_12 g25 ?_
    refine q_bipush (v := 6) dX13_select_26 (by decide) ?_
    refine q_icmp_ne (tgt := 108) dX13_select_28 (by decide) (fun c28 => ?_) (fun c28 => ?_)
    ·
      have hq := md_neg c28 hq
      refine mv_weak (A := [some (.ref m), some (.int x1), some (.int x2), some (.int (S.2 67 x1.toNatClampNeg)), some (.int (S.2 43 x2.toNatClampNeg)), none]) (by repeat' constructor) ?_
      exact ro_select_j108 hG hm hq
    ·
      have hq := md_pos c28 hq
      refine q_aload_n dX13_select_31 rfl ?_
      refine q_iload_n dX13_select_32 rfl ?_
      refine q_iload_n dX13_select_33 rfl ?_
      obtain ⟨v34, S34, e34, hq⟩ := md_b_e hq
      refine q_cV (Y := mX13_follower) (As := [.int (S.2 67 x1.toNatClampNeg), .int (S.2 67 x1.toNatClampNeg)]) (st := []) (b := m) (ci := 15) vc_X13_follower dX13_select_34 ml_RX13_415 rfl md_obj rfl (Nat.le_of_ble_eq_true rfl) rfl (Nat.le_of_ble_eq_true rfl) (ro_follower (d := d + 3) hG hm e34) (fun v h1 hq1 => ?_) (fun E h1 hq1 => md_nQ hq1)
      obtain ⟨hv, rfl⟩ := hq1
      cases hv
      show mv_rq l G mX13_select (d + 4) 37 [some (.ref m), some (.int x1), some (.int x2), some (.int (S.2 67 x1.toNatClampNeg)), some (.int (S.2 43 x2.toNatClampNeg)), none] [.int v34] (md_H G B m S34) _
      refine q_istore dX13_select_37 (Nat.le_of_ble_eq_true rfl) rfl ?_
      show mv_rq l G mX13_select (d + 4) 39 [some (.ref m), some (.int x1), some (.int x2), some (.int (S.2 67 x1.toNatClampNeg)), some (.int (S.2 43 x2.toNatClampNeg)), some (.int v34)] [] (md_H G B m S34) _
      refine mv_weak (A := [some (.ref m), some (.int x1), some (.int x2), some (.int (S.2 67 x1.toNatClampNeg)), none, some (.int v34)]) (by repeat' constructor) ?_
      exact ro_select_l39 hG hm N hq
