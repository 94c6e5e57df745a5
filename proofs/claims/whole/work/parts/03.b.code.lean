theorem dX9_init_0 : decode cX9_init 0 = .ok (.aload_n 0, 1) := by decide +kernel
theorem dX9_init_1 : decode cX9_init 1 = .ok (.invokespecial 1, 3) := by decide +kernel
theorem dX9_init_4 : decode cX9_init 4 = .ok (.aload_n 0, 1) := by decide +kernel
theorem dX9_init_5 : decode cX9_init 5 = .ok (.bipush 12, 2) := by decide +kernel
theorem dX9_init_7 : decode cX9_init 7 = .ok (.newarray .int, 2) := by decide +kernel
theorem dX9_init_9 : decode cX9_init 9 = .ok (.putfield 9, 3) := by decide +kernel
theorem dX9_init_12 : decode cX9_init 12 = .ok (.aload_n 0, 1) := by decide +kernel
theorem dX9_init_13 : decode cX9_init 13 = .ok (.bipush 12, 2) := by decide +kernel
theorem dX9_init_15 : decode cX9_init 15 = .ok (.newarray .int, 2) := by decide +kernel
theorem dX9_init_17 : decode cX9_init 17 = .ok (.putfield 13, 3) := by decide +kernel
theorem dX9_init_20 : decode cX9_init 20 = .ok (.aload_n 0, 1) := by decide +kernel
theorem dX9_init_21 : decode cX9_init 21 = .ok (.bipush 12, 2) := by decide +kernel
theorem dX9_init_23 : decode cX9_init 23 = .ok (.newarray .int, 2) := by decide +kernel
theorem dX9_init_25 : decode cX9_init 25 = .ok (.putfield 16, 3) := by decide +kernel
theorem dX9_init_28 : decode cX9_init 28 = .ok (.aload_n 0, 1) := by decide +kernel
theorem dX9_init_29 : decode cX9_init 29 = .ok (.bipush 12, 2) := by decide +kernel
theorem dX9_init_31 : decode cX9_init 31 = .ok (.newarray .int, 2) := by decide +kernel
theorem dX9_init_33 : decode cX9_init 33 = .ok (.putfield 19, 3) := by decide +kernel
theorem dX9_init_36 : decode cX9_init 36 = .ok (.aload_n 0, 1) := by decide +kernel
theorem dX9_init_37 : decode cX9_init 37 = .ok (.bipush 10, 2) := by decide +kernel
theorem dX9_init_39 : decode cX9_init 39 = .ok (.newarray .int, 2) := by decide +kernel
theorem dX9_init_41 : decode cX9_init 41 = .ok (.putfield 22, 3) := by decide +kernel
theorem dX9_init_44 : decode cX9_init 44 = .ok (.aload_n 0, 1) := by decide +kernel
theorem dX9_init_45 : decode cX9_init 45 = .ok (.iconst 1, 1) := by decide +kernel
theorem dX9_init_46 : decode cX9_init 46 = .ok (.putfield 25, 3) := by decide +kernel
theorem dX9_init_49 : decode cX9_init 49 = .ok (.aload_n 0, 1) := by decide +kernel
theorem dX9_init_50 : decode cX9_init 50 = .ok (.bipush 24, 2) := by decide +kernel
theorem dX9_init_52 : decode cX9_init 52 = .ok (.newarray .int, 2) := by decide +kernel
theorem dX9_init_54 : decode cX9_init 54 = .ok (.putfield 29, 3) := by decide +kernel
theorem dX9_init_57 : decode cX9_init 57 = .ok (.aload_n 0, 1) := by decide +kernel
theorem dX9_init_58 : decode cX9_init 58 = .ok (.bipush 24, 2) := by decide +kernel
theorem dX9_init_60 : decode cX9_init 60 = .ok (.newarray .int, 2) := by decide +kernel
theorem dX9_init_62 : decode cX9_init 62 = .ok (.putfield 32, 3) := by decide +kernel
theorem dX9_init_65 : decode cX9_init 65 = .ok (.aload_n 0, 1) := by decide +kernel
theorem dX9_init_66 : decode cX9_init 66 = .ok (.bipush 24, 2) := by decide +kernel
theorem dX9_init_68 : decode cX9_init 68 = .ok (.newarray .int, 2) := by decide +kernel
theorem dX9_init_70 : decode cX9_init 70 = .ok (.putfield 35, 3) := by decide +kernel
theorem dX9_init_73 : decode cX9_init 73 = .ok (.aload_n 0, 1) := by decide +kernel
theorem dX9_init_74 : decode cX9_init 74 = .ok (.bipush 24, 2) := by decide +kernel
theorem dX9_init_76 : decode cX9_init 76 = .ok (.newarray .int, 2) := by decide +kernel
theorem dX9_init_78 : decode cX9_init 78 = .ok (.putfield 38, 3) := by decide +kernel
theorem dX9_init_81 : decode cX9_init 81 = .ok (.aload_n 0, 1) := by decide +kernel
theorem dX9_init_82 : decode cX9_init 82 = .ok (.bipush 30, 2) := by decide +kernel
theorem dX9_init_84 : decode cX9_init 84 = .ok (.newarray .boolean, 2) := by decide +kernel
theorem dX9_init_86 : decode cX9_init 86 = .ok (.putfield 41, 3) := by decide +kernel
theorem dX9_init_89 : decode cX9_init 89 = .ok (.aload_n 0, 1) := by decide +kernel
theorem dX9_init_90 : decode cX9_init 90 = .ok (.bipush 30, 2) := by decide +kernel
theorem dX9_init_92 : decode cX9_init 92 = .ok (.newarray .boolean, 2) := by decide +kernel
theorem dX9_init_94 : decode cX9_init 94 = .ok (.putfield 45, 3) := by decide +kernel
theorem dX9_init_97 : decode cX9_init 97 = .ok (.aload_n 0, 1) := by decide +kernel
theorem dX9_init_98 : decode cX9_init 98 = .ok (.bipush 30, 2) := by decide +kernel
theorem dX9_init_100 : decode cX9_init 100 = .ok (.newarray .int, 2) := by decide +kernel
theorem dX9_init_102 : decode cX9_init 102 = .ok (.putfield 48, 3) := by decide +kernel
theorem dX9_init_105 : decode cX9_init 105 = .ok (.aload_n 0, 1) := by decide +kernel
theorem dX9_init_106 : decode cX9_init 106 = .ok (.bipush 30, 2) := by decide +kernel
theorem dX9_init_108 : decode cX9_init 108 = .ok (.newarray .int, 2) := by decide +kernel
theorem dX9_init_110 : decode cX9_init 110 = .ok (.putfield 51, 3) := by decide +kernel
theorem dX9_init_113 : decode cX9_init 113 = .ok (.aload_n 0, 1) := by decide +kernel
theorem dX9_init_114 : decode cX9_init 114 = .ok (.bipush 30, 2) := by decide +kernel
theorem dX9_init_116 : decode cX9_init 116 = .ok (.newarray .int, 2) := by decide +kernel
theorem dX9_init_118 : decode cX9_init 118 = .ok (.putfield 54, 3) := by decide +kernel
theorem dX9_init_121 : decode cX9_init 121 = .ok (.aload_n 0, 1) := by decide +kernel
theorem dX9_init_122 : decode cX9_init 122 = .ok (.bipush 30, 2) := by decide +kernel
theorem dX9_init_124 : decode cX9_init 124 = .ok (.newarray .int, 2) := by decide +kernel
theorem dX9_init_126 : decode cX9_init 126 = .ok (.putfield 57, 3) := by decide +kernel
theorem dX9_init_129 : decode cX9_init 129 = .ok (.aload_n 0, 1) := by decide +kernel
theorem dX9_init_130 : decode cX9_init 130 = .ok (.bipush 30, 2) := by decide +kernel
theorem dX9_init_132 : decode cX9_init 132 = .ok (.newarray .int, 2) := by decide +kernel
theorem dX9_init_134 : decode cX9_init 134 = .ok (.putfield 60, 3) := by decide +kernel
theorem dX9_init_137 : decode cX9_init 137 = .ok (.aload_n 0, 1) := by decide +kernel
theorem dX9_init_138 : decode cX9_init 138 = .ok (.bipush 30, 2) := by decide +kernel
theorem dX9_init_140 : decode cX9_init 140 = .ok (.newarray .int, 2) := by decide +kernel
theorem dX9_init_142 : decode cX9_init 142 = .ok (.putfield 63, 3) := by decide +kernel
theorem dX9_init_145 : decode cX9_init 145 = .ok (.aload_n 0, 1) := by decide +kernel
theorem dX9_init_146 : decode cX9_init 146 = .ok (.bipush 30, 2) := by decide +kernel
theorem dX9_init_148 : decode cX9_init 148 = .ok (.newarray .int, 2) := by decide +kernel
theorem dX9_init_150 : decode cX9_init 150 = .ok (.putfield 66, 3) := by decide +kernel
theorem dX9_init_153 : decode cX9_init 153 = .ok (.aload_n 0, 1) := by decide +kernel
theorem dX9_init_154 : decode cX9_init 154 = .ok (.bipush 30, 2) := by decide +kernel
theorem dX9_init_156 : decode cX9_init 156 = .ok (.newarray .int, 2) := by decide +kernel
theorem dX9_init_158 : decode cX9_init 158 = .ok (.putfield 69, 3) := by decide +kernel
theorem dX9_init_161 : decode cX9_init 161 = .ok (.aload_n 0, 1) := by decide +kernel
theorem dX9_init_162 : decode cX9_init 162 = .ok (.bipush 30, 2) := by decide +kernel
theorem dX9_init_164 : decode cX9_init 164 = .ok (.newarray .int, 2) := by decide +kernel
theorem dX9_init_166 : decode cX9_init 166 = .ok (.putfield 72, 3) := by decide +kernel
theorem dX9_init_169 : decode cX9_init 169 = .ok (.aload_n 0, 1) := by decide +kernel
theorem dX9_init_170 : decode cX9_init 170 = .ok (.bipush 30, 2) := by decide +kernel
theorem dX9_init_172 : decode cX9_init 172 = .ok (.newarray .int, 2) := by decide +kernel
theorem dX9_init_174 : decode cX9_init 174 = .ok (.putfield 75, 3) := by decide +kernel
theorem dX9_init_177 : decode cX9_init 177 = .ok (.aload_n 0, 1) := by decide +kernel
theorem dX9_init_178 : decode cX9_init 178 = .ok (.bipush 30, 2) := by decide +kernel
theorem dX9_init_180 : decode cX9_init 180 = .ok (.newarray .int, 2) := by decide +kernel
theorem dX9_init_182 : decode cX9_init 182 = .ok (.putfield 78, 3) := by decide +kernel
theorem dX9_init_185 : decode cX9_init 185 = .ok (.aload_n 0, 1) := by decide +kernel
theorem dX9_init_186 : decode cX9_init 186 = .ok (.bipush 30, 2) := by decide +kernel
theorem dX9_init_188 : decode cX9_init 188 = .ok (.newarray .int, 2) := by decide +kernel
theorem dX9_init_190 : decode cX9_init 190 = .ok (.putfield 81, 3) := by decide +kernel
theorem dX9_init_193 : decode cX9_init 193 = .ok (.aload_n 0, 1) := by decide +kernel
theorem dX9_init_194 : decode cX9_init 194 = .ok (.bipush 30, 2) := by decide +kernel
theorem dX9_init_196 : decode cX9_init 196 = .ok (.newarray .int, 2) := by decide +kernel
theorem dX9_init_198 : decode cX9_init 198 = .ok (.putfield 84, 3) := by decide +kernel
theorem dX9_init_201 : decode cX9_init 201 = .ok (.aload_n 0, 1) := by decide +kernel
theorem dX9_init_202 : decode cX9_init 202 = .ok (.bipush 6, 2) := by decide +kernel
theorem dX9_init_204 : decode cX9_init 204 = .ok (.newarray .int, 2) := by decide +kernel
theorem dX9_init_206 : decode cX9_init 206 = .ok (.putfield 87, 3) := by decide +kernel
theorem dX9_init_209 : decode cX9_init 209 = .ok (.aload_n 0, 1) := by decide +kernel
theorem dX9_init_210 : decode cX9_init 210 = .ok (.sipush 288, 3) := by decide +kernel
theorem dX9_init_213 : decode cX9_init 213 = .ok (.newarray .int, 2) := by decide +kernel
theorem dX9_init_215 : decode cX9_init 215 = .ok (.putfield 90, 3) := by decide +kernel
theorem dX9_init_218 : decode cX9_init 218 = .ok (.aload_n 0, 1) := by decide +kernel
theorem dX9_init_219 : decode cX9_init 219 = .ok (.iconst (-1), 1) := by decide +kernel
theorem dX9_init_220 : decode cX9_init 220 = .ok (.putfield 93, 3) := by decide +kernel
theorem dX9_init_223 : decode cX9_init 223 = .ok (.aload_n 0, 1) := by decide +kernel
theorem dX9_init_224 : decode cX9_init 224 = .ok (.bipush 12, 2) := by decide +kernel
theorem dX9_init_226 : decode cX9_init 226 = .ok (.newarray .int, 2) := by decide +kernel
theorem dX9_init_228 : decode cX9_init 228 = .ok (.putfield 96, 3) := by decide +kernel
theorem dX9_init_231 : decode cX9_init 231 = .ok (.aload_n 0, 1) := by decide +kernel
theorem dX9_init_232 : decode cX9_init 232 = .ok (.bipush 30, 2) := by decide +kernel
theorem dX9_init_234 : decode cX9_init 234 = .ok (.newarray .int, 2) := by decide +kernel
theorem dX9_init_236 : decode cX9_init 236 = .ok (.putfield 99, 3) := by decide +kernel
theorem dX9_init_239 : decode cX9_init 239 = .ok (.aload_n 0, 1) := by decide +kernel
theorem dX9_init_240 : decode cX9_init 240 = .ok (.getfield 29, 3) := by decide +kernel
theorem dX9_init_243 : decode cX9_init 243 = .ok (.iconst 0, 1) := by decide +kernel
theorem dX9_init_244 : decode cX9_init 244 = .ok (.iconst (-1), 1) := by decide +kernel
theorem dX9_init_245 : decode cX9_init 245 = .ok (.iastore, 1) := by decide +kernel
theorem dX9_init_246 : decode cX9_init 246 = .ok (.iconst 0, 1) := by decide +kernel
theorem dX9_init_247 : decode cX9_init 247 = .ok (.istore_n 1, 1) := by decide +kernel
theorem dX9_init_248 : decode cX9_init 248 = .ok (.iload_n 1, 1) := by decide +kernel
theorem dX9_init_249 : decode cX9_init 249 = .ok (.bipush 24, 2) := by decide +kernel
theorem dX9_init_251 : decode cX9_init 251 = .ok (.if_icmp .ge 16, 3) := by decide +kernel
theorem dX9_init_254 : decode cX9_init 254 = .ok (.aload_n 0, 1) := by decide +kernel
theorem dX9_init_255 : decode cX9_init 255 = .ok (.getfield 35, 3) := by decide +kernel
theorem dX9_init_258 : decode cX9_init 258 = .ok (.iload_n 1, 1) := by decide +kernel
theorem dX9_init_259 : decode cX9_init 259 = .ok (.iconst (-1), 1) := by decide +kernel
theorem dX9_init_260 : decode cX9_init 260 = .ok (.iastore, 1) := by decide +kernel
theorem dX9_init_261 : decode cX9_init 261 = .ok (.iinc 1 1, 3) := by decide +kernel
theorem dX9_init_264 : decode cX9_init 264 = .ok (.goto (-16), 3) := by decide +kernel
theorem dX9_init_267 : decode cX9_init 267 = .ok (.return_, 1) := by decide +kernel
theorem dX9_thrown_0 : decode cX9_thrown 0 = .ok (.aload_n 0, 1) := by decide +kernel
theorem dX9_thrown_1 : decode cX9_thrown 1 = .ok (.getfield 102, 3) := by decide +kernel
theorem dX9_thrown_4 : decode cX9_thrown 4 = .ok (.ireturn, 1) := by decide +kernel
theorem dX9_no_0 : decode cX9_no 0 = .ok (.aload_n 0, 1) := by decide +kernel
theorem dX9_no_1 : decode cX9_no 1 = .ok (.iload_n 1, 1) := by decide +kernel
theorem dX9_no_2 : decode cX9_no 2 = .ok (.putfield 102, 3) := by decide +kernel
theorem dX9_no_5 : decode cX9_no 5 = .ok (.iconst 0, 1) := by decide +kernel
theorem dX9_no_6 : decode cX9_no 6 = .ok (.ireturn, 1) := by decide +kernel
theorem dX9_isNot_0 : decode cX9_isNot 0 = .ok (.aload_n 0, 1) := by decide +kernel
theorem dX9_isNot_1 : decode cX9_isNot 1 = .ok (.iload_n 1, 1) := by decide +kernel
theorem dX9_isNot_2 : decode cX9_isNot 2 = .ok (.putfield 102, 3) := by decide +kernel
theorem dX9_isNot_5 : decode cX9_isNot 5 = .ok (.iconst 0, 1) := by decide +kernel
theorem dX9_isNot_6 : decode cX9_isNot 6 = .ok (.ireturn, 1) := by decide +kernel
theorem dX9_ok_0 : decode cX9_ok 0 = .ok (.aload_n 0, 1) := by decide +kernel
theorem dX9_ok_1 : decode cX9_ok 1 = .ok (.iconst 0, 1) := by decide +kernel
theorem dX9_ok_2 : decode cX9_ok 2 = .ok (.putfield 102, 3) := by decide +kernel
theorem dX9_ok_5 : decode cX9_ok 5 = .ok (.iload_n 1, 1) := by decide +kernel
theorem dX9_ok_6 : decode cX9_ok 6 = .ok (.ireturn, 1) := by decide +kernel
theorem dX9_isIn_0 : decode cX9_isIn 0 = .ok (.iload_n 0, 1) := by decide +kernel
theorem dX9_isIn_1 : decode cX9_isIn 1 = .ok (.iload_n 1, 1) := by decide +kernel
theorem dX9_isIn_2 : decode cX9_isIn 2 = .ok (.if_icmp .lt 12, 3) := by decide +kernel
theorem dX9_isIn_5 : decode cX9_isIn 5 = .ok (.iload_n 0, 1) := by decide +kernel
theorem dX9_isIn_6 : decode cX9_isIn 6 = .ok (.iload_n 2, 1) := by decide +kernel
theorem dX9_isIn_7 : decode cX9_isIn 7 = .ok (.if_icmp .gt 7, 3) := by decide +kernel
theorem dX9_isIn_10 : decode cX9_isIn 10 = .ok (.iconst 1, 1) := by decide +kernel
theorem dX9_isIn_11 : decode cX9_isIn 11 = .ok (.goto 4, 3) := by decide +kernel
theorem dX9_isIn_14 : decode cX9_isIn 14 = .ok (.iconst 0, 1) := by decide +kernel
theorem dX9_isIn_15 : decode cX9_isIn 15 = .ok (.ireturn, 1) := by decide +kernel
theorem dX9_isUser_0 : decode cX9_isUser 0 = .ok (.iload_n 1, 1) := by decide +kernel
theorem dX9_isUser_1 : decode cX9_isUser 1 = .ok (.iconst 0, 1) := by decide +kernel
theorem dX9_isUser_2 : decode cX9_isUser 2 = .ok (.aload_n 0, 1) := by decide +kernel
theorem dX9_isUser_3 : decode cX9_isUser 3 = .ok (.getfield 105, 3) := by decide +kernel
theorem dX9_isUser_6 : decode cX9_isUser 6 = .ok (.iconst 1, 1) := by decide +kernel
theorem dX9_isUser_7 : decode cX9_isUser 7 = .ok (.isub, 1) := by decide +kernel
theorem dX9_isUser_8 : decode cX9_isUser 8 = .ok (.invokestatic 108, 3) := by decide +kernel
theorem dX9_isUser_11 : decode cX9_isUser 11 = .ok (.ireturn, 1) := by decide +kernel
theorem dX9_isRole_0 : decode cX9_isRole 0 = .ok (.iload_n 1, 1) := by decide +kernel
theorem dX9_isRole_1 : decode cX9_isRole 1 = .ok (.iconst 0, 1) := by decide +kernel
theorem dX9_isRole_2 : decode cX9_isRole 2 = .ok (.aload_n 0, 1) := by decide +kernel
theorem dX9_isRole_3 : decode cX9_isRole 3 = .ok (.getfield 112, 3) := by decide +kernel
theorem dX9_isRole_6 : decode cX9_isRole 6 = .ok (.iconst 1, 1) := by decide +kernel
theorem dX9_isRole_7 : decode cX9_isRole 7 = .ok (.isub, 1) := by decide +kernel
theorem dX9_isRole_8 : decode cX9_isRole 8 = .ok (.invokestatic 108, 3) := by decide +kernel
theorem dX9_isRole_11 : decode cX9_isRole 11 = .ok (.ireturn, 1) := by decide +kernel
theorem dX9_isResource_0 : decode cX9_isResource 0 = .ok (.iload_n 1, 1) := by decide +kernel
theorem dX9_isResource_1 : decode cX9_isResource 1 = .ok (.iconst 0, 1) := by decide +kernel
theorem dX9_isResource_2 : decode cX9_isResource 2 = .ok (.aload_n 0, 1) := by decide +kernel
theorem dX9_isResource_3 : decode cX9_isResource 3 = .ok (.getfield 25, 3) := by decide +kernel
theorem dX9_isResource_6 : decode cX9_isResource 6 = .ok (.iconst 1, 1) := by decide +kernel
theorem dX9_isResource_7 : decode cX9_isResource 7 = .ok (.isub, 1) := by decide +kernel
theorem dX9_isResource_8 : decode cX9_isResource 8 = .ok (.invokestatic 108, 3) := by decide +kernel
theorem dX9_isResource_11 : decode cX9_isResource 11 = .ok (.ireturn, 1) := by decide +kernel
theorem dX9_isAction_0 : decode cX9_isAction 0 = .ok (.iload_n 0, 1) := by decide +kernel
theorem dX9_isAction_1 : decode cX9_isAction 1 = .ok (.iconst 0, 1) := by decide +kernel
theorem dX9_isAction_2 : decode cX9_isAction 2 = .ok (.iconst 4, 1) := by decide +kernel
theorem dX9_isAction_3 : decode cX9_isAction 3 = .ok (.invokestatic 108, 3) := by decide +kernel
theorem dX9_isAction_6 : decode cX9_isAction 6 = .ok (.ireturn, 1) := by decide +kernel
theorem dX9_isQuestion_0 : decode cX9_isQuestion 0 = .ok (.aload_n 0, 1) := by decide +kernel
theorem dX9_isQuestion_1 : decode cX9_isQuestion 1 = .ok (.iload_n 1, 1) := by decide +kernel
theorem dX9_isQuestion_2 : decode cX9_isQuestion 2 = .ok (.invokevirtual 115, 3) := by decide +kernel
theorem dX9_isQuestion_5 : decode cX9_isQuestion 5 = .ok (.ifCond .eq 22, 3) := by decide +kernel
theorem dX9_isQuestion_8 : decode cX9_isQuestion 8 = .ok (.iload_n 2, 1) := by decide +kernel
theorem dX9_isQuestion_9 : decode cX9_isQuestion 9 = .ok (.invokestatic 119, 3) := by decide +kernel
theorem dX9_isQuestion_12 : decode cX9_isQuestion 12 = .ok (.ifCond .eq 15, 3) := by decide +kernel
theorem dX9_isQuestion_15 : decode cX9_isQuestion 15 = .ok (.aload_n 0, 1) := by decide +kernel
theorem dX9_isQuestion_16 : decode cX9_isQuestion 16 = .ok (.iload_n 3, 1) := by decide +kernel
theorem dX9_isQuestion_17 : decode cX9_isQuestion 17 = .ok (.invokevirtual 122, 3) := by decide +kernel
theorem dX9_isQuestion_20 : decode cX9_isQuestion 20 = .ok (.ifCond .eq 7, 3) := by decide +kernel
theorem dX9_isQuestion_23 : decode cX9_isQuestion 23 = .ok (.iconst 1, 1) := by decide +kernel
theorem dX9_isQuestion_24 : decode cX9_isQuestion 24 = .ok (.goto 4, 3) := by decide +kernel
theorem dX9_isQuestion_27 : decode cX9_isQuestion 27 = .ok (.iconst 0, 1) := by decide +kernel
theorem dX9_isQuestion_28 : decode cX9_isQuestion 28 = .ok (.ireturn, 1) := by decide +kernel
theorem dX9_nears_0 : decode cX9_nears 0 = .ok (.aload_n 0, 1) := by decide +kernel
theorem dX9_nears_1 : decode cX9_nears 1 = .ok (.iload_n 1, 1) := by decide +kernel
theorem dX9_nears_2 : decode cX9_nears 2 = .ok (.bipush 12, 2) := by decide +kernel
theorem dX9_nears_4 : decode cX9_nears 4 = .ok (.newarray .int, 2) := by decide +kernel
theorem dX9_nears_6 : decode cX9_nears 6 = .ok (.invokevirtual 125, 3) := by decide +kernel
theorem dX9_nears_9 : decode cX9_nears 9 = .ok (.areturn, 1) := by decide +kernel
theorem dX9_nears__0 : decode cX9_nears_ 0 = .ok (.iconst 0, 1) := by decide +kernel
theorem dX9_nears__1 : decode cX9_nears_ 1 = .ok (.istore_n 3, 1) := by decide +kernel
theorem dX9_nears__2 : decode cX9_nears_ 2 = .ok (.iload_n 1, 1) := by decide +kernel
theorem dX9_nears__3 : decode cX9_nears_ 3 = .ok (.istore 4, 2) := by decide +kernel
theorem dX9_nears__5 : decode cX9_nears_ 5 = .ok (.iconst 0, 1) := by decide +kernel
theorem dX9_nears__6 : decode cX9_nears_ 6 = .ok (.istore 5, 2) := by decide +kernel
theorem dX9_nears__8 : decode cX9_nears_ 8 = .ok (.iload 5, 2) := by decide +kernel
theorem dX9_nears__10 : decode cX9_nears_ 10 = .ok (.bipush 12, 2) := by decide +kernel
theorem dX9_nears__12 : decode cX9_nears_ 12 = .ok (.if_icmp .ge 15, 3) := by decide +kernel
theorem dX9_nears__15 : decode cX9_nears_ 15 = .ok (.aload_n 2, 1) := by decide +kernel
theorem dX9_nears__16 : decode cX9_nears_ 16 = .ok (.iload 5, 2) := by decide +kernel
theorem dX9_nears__18 : decode cX9_nears_ 18 = .ok (.bipush 99, 2) := by decide +kernel
theorem dX9_nears__20 : decode cX9_nears_ 20 = .ok (.iastore, 1) := by decide +kernel
theorem dX9_nears__21 : decode cX9_nears_ 21 = .ok (.iinc 5 1, 3) := by decide +kernel
theorem dX9_nears__24 : decode cX9_nears_ 24 = .ok (.goto (-16), 3) := by decide +kernel
theorem dX9_nears__27 : decode cX9_nears_ 27 = .ok (.iconst 1, 1) := by decide +kernel
theorem dX9_nears__28 : decode cX9_nears_ 28 = .ok (.istore 5, 2) := by decide +kernel
theorem dX9_nears__30 : decode cX9_nears_ 30 = .ok (.iload 4, 2) := by decide +kernel
theorem dX9_nears__32 : decode cX9_nears_ 32 = .ok (.ifCond .eq 74, 3) := by decide +kernel
theorem dX9_nears__35 : decode cX9_nears_ 35 = .ok (.iconst 0, 1) := by decide +kernel
theorem dX9_nears__36 : decode cX9_nears_ 36 = .ok (.istore 6, 2) := by decide +kernel
theorem dX9_nears__38 : decode cX9_nears_ 38 = .ok (.iconst 0, 1) := by decide +kernel
theorem dX9_nears__39 : decode cX9_nears_ 39 = .ok (.istore 7, 2) := by decide +kernel
theorem dX9_nears__41 : decode cX9_nears_ 41 = .ok (.iload 7, 2) := by decide +kernel
theorem dX9_nears__43 : decode cX9_nears_ 43 = .ok (.aload_n 0, 1) := by decide +kernel
theorem dX9_nears__44 : decode cX9_nears_ 44 = .ok (.getfield 112, 3) := by decide +kernel
theorem dX9_nears__47 : decode cX9_nears_ 47 = .ok (.if_icmp .ge 40, 3) := by decide +kernel
theorem dX9_nears__50 : decode cX9_nears_ 50 = .ok (.iload 4, 2) := by decide +kernel
theorem dX9_nears__52 : decode cX9_nears_ 52 = .ok (.iload 7, 2) := by decide +kernel
theorem dX9_nears__54 : decode cX9_nears_ 54 = .ok (.ishr, 1) := by decide +kernel
theorem dX9_nears__55 : decode cX9_nears_ 55 = .ok (.iconst 1, 1) := by decide +kernel
theorem dX9_nears__56 : decode cX9_nears_ 56 = .ok (.iand, 1) := by decide +kernel
theorem dX9_nears__57 : decode cX9_nears_ 57 = .ok (.ifCond .ne 6, 3) := by decide +kernel
theorem dX9_nears__60 : decode cX9_nears_ 60 = .ok (.goto 21, 3) := by decide +kernel
theorem dX9_nears__63 : decode cX9_nears_ 63 = .ok (.aload_n 2, 1) := by decide +kernel
theorem dX9_nears__64 : decode cX9_nears_ 64 = .ok (.iload 7, 2) := by decide +kernel
theorem dX9_nears__66 : decode cX9_nears_ 66 = .ok (.iload 5, 2) := by decide +kernel
theorem dX9_nears__68 : decode cX9_nears_ 68 = .ok (.iastore, 1) := by decide +kernel
theorem dX9_nears__69 : decode cX9_nears_ 69 = .ok (.iload 6, 2) := by decide +kernel
theorem dX9_nears__71 : decode cX9_nears_ 71 = .ok (.aload_n 0, 1) := by decide +kernel
theorem dX9_nears__72 : decode cX9_nears_ 72 = .ok (.getfield 19, 3) := by decide +kernel
theorem dX9_nears__75 : decode cX9_nears_ 75 = .ok (.iload 7, 2) := by decide +kernel
theorem dX9_nears__77 : decode cX9_nears_ 77 = .ok (.iaload, 1) := by decide +kernel
theorem dX9_nears__78 : decode cX9_nears_ 78 = .ok (.ior, 1) := by decide +kernel
theorem dX9_nears__79 : decode cX9_nears_ 79 = .ok (.istore 6, 2) := by decide +kernel
theorem dX9_nears__81 : decode cX9_nears_ 81 = .ok (.iinc 7 1, 3) := by decide +kernel
theorem dX9_nears__84 : decode cX9_nears_ 84 = .ok (.goto (-43), 3) := by decide +kernel
theorem dX9_nears__87 : decode cX9_nears_ 87 = .ok (.iload_n 3, 1) := by decide +kernel
theorem dX9_nears__88 : decode cX9_nears_ 88 = .ok (.iload 4, 2) := by decide +kernel
theorem dX9_nears__90 : decode cX9_nears_ 90 = .ok (.ior, 1) := by decide +kernel
theorem dX9_nears__91 : decode cX9_nears_ 91 = .ok (.istore_n 3, 1) := by decide +kernel
theorem dX9_nears__92 : decode cX9_nears_ 92 = .ok (.iload 6, 2) := by decide +kernel
theorem dX9_nears__94 : decode cX9_nears_ 94 = .ok (.iload_n 3, 1) := by decide +kernel
theorem dX9_nears__95 : decode cX9_nears_ 95 = .ok (.iconst (-1), 1) := by decide +kernel
theorem dX9_nears__96 : decode cX9_nears_ 96 = .ok (.ixor, 1) := by decide +kernel
theorem dX9_nears__97 : decode cX9_nears_ 97 = .ok (.iand, 1) := by decide +kernel
theorem dX9_nears__98 : decode cX9_nears_ 98 = .ok (.istore 4, 2) := by decide +kernel
theorem dX9_nears__100 : decode cX9_nears_ 100 = .ok (.iinc 5 1, 3) := by decide +kernel
theorem dX9_nears__103 : decode cX9_nears_ 103 = .ok (.goto (-73), 3) := by decide +kernel
theorem dX9_nears__106 : decode cX9_nears_ 106 = .ok (.aload_n 2, 1) := by decide +kernel
theorem dX9_nears__107 : decode cX9_nears_ 107 = .ok (.areturn, 1) := by decide +kernel
theorem dX9_had_0 : decode cX9_had 0 = .ok (.aload_n 0, 1) := by decide +kernel
theorem dX9_had_1 : decode cX9_had 1 = .ok (.iload_n 1, 1) := by decide +kernel
theorem dX9_had_2 : decode cX9_had 2 = .ok (.aload_n 0, 1) := by decide +kernel
theorem dX9_had_3 : decode cX9_had 3 = .ok (.getfield 96, 3) := by decide +kernel
theorem dX9_had_6 : decode cX9_had 6 = .ok (.invokevirtual 125, 3) := by decide +kernel
theorem dX9_had_9 : decode cX9_had 9 = .ok (.astore_n 2, 1) := by decide +kernel
theorem dX9_had_10 : decode cX9_had 10 = .ok (.iconst 0, 1) := by decide +kernel
theorem dX9_had_11 : decode cX9_had 11 = .ok (.istore_n 3, 1) := by decide +kernel
theorem dX9_had_12 : decode cX9_had 12 = .ok (.iconst 0, 1) := by decide +kernel
theorem dX9_had_13 : decode cX9_had 13 = .ok (.istore 4, 2) := by decide +kernel
theorem dX9_had_15 : decode cX9_had 15 = .ok (.iload 4, 2) := by decide +kernel
theorem dX9_had_17 : decode cX9_had 17 = .ok (.aload_n 0, 1) := by decide +kernel
theorem dX9_had_18 : decode cX9_had 18 = .ok (.getfield 112, 3) := by decide +kernel
theorem dX9_had_21 : decode cX9_had 21 = .ok (.if_icmp .ge 29, 3) := by decide +kernel
theorem dX9_had_24 : decode cX9_had 24 = .ok (.iload_n 3, 1) := by decide +kernel
theorem dX9_had_25 : decode cX9_had 25 = .ok (.aload_n 2, 1) := by decide +kernel
theorem dX9_had_26 : decode cX9_had 26 = .ok (.iload 4, 2) := by decide +kernel
theorem dX9_had_28 : decode cX9_had 28 = .ok (.iaload, 1) := by decide +kernel
theorem dX9_had_29 : decode cX9_had 29 = .ok (.bipush 99, 2) := by decide +kernel
theorem dX9_had_31 : decode cX9_had 31 = .ok (.if_icmp .ge 10, 3) := by decide +kernel
theorem dX9_had_34 : decode cX9_had 34 = .ok (.iconst 1, 1) := by decide +kernel
theorem dX9_had_35 : decode cX9_had 35 = .ok (.iload 4, 2) := by decide +kernel
theorem dX9_had_37 : decode cX9_had 37 = .ok (.ishl, 1) := by decide +kernel
theorem dX9_had_38 : decode cX9_had 38 = .ok (.goto 4, 3) := by decide +kernel
theorem dX9_had_41 : decode cX9_had 41 = .ok (.iconst 0, 1) := by decide +kernel
theorem dX9_had_42 : decode cX9_had 42 = .ok (.ior, 1) := by decide +kernel
theorem dX9_had_43 : decode cX9_had 43 = .ok (.istore_n 3, 1) := by decide +kernel
theorem dX9_had_44 : decode cX9_had 44 = .ok (.iinc 4 1, 3) := by decide +kernel
theorem dX9_had_47 : decode cX9_had 47 = .ok (.goto (-32), 3) := by decide +kernel
theorem dX9_had_50 : decode cX9_had 50 = .ok (.iload_n 3, 1) := by decide +kernel
theorem dX9_had_51 : decode cX9_had 51 = .ok (.ireturn, 1) := by decide +kernel
theorem dX9_hasApart_0 : decode cX9_hasApart 0 = .ok (.aload_n 0, 1) := by decide +kernel
theorem dX9_hasApart_1 : decode cX9_hasApart 1 = .ok (.iload_n 1, 1) := by decide +kernel
theorem dX9_hasApart_2 : decode cX9_hasApart 2 = .ok (.invokevirtual 129, 3) := by decide +kernel
theorem dX9_hasApart_5 : decode cX9_hasApart 5 = .ok (.istore_n 2, 1) := by decide +kernel
theorem dX9_hasApart_6 : decode cX9_hasApart 6 = .ok (.iconst 0, 1) := by decide +kernel
theorem dX9_hasApart_7 : decode cX9_hasApart 7 = .ok (.istore_n 3, 1) := by decide +kernel
theorem dX9_hasApart_8 : decode cX9_hasApart 8 = .ok (.iload_n 3, 1) := by decide +kernel
theorem dX9_hasApart_9 : decode cX9_hasApart 9 = .ok (.aload_n 0, 1) := by decide +kernel
theorem dX9_hasApart_10 : decode cX9_hasApart 10 = .ok (.getfield 133, 3) := by decide +kernel
theorem dX9_hasApart_13 : decode cX9_hasApart 13 = .ok (.if_icmp .ge 28, 3) := by decide +kernel
theorem dX9_hasApart_16 : decode cX9_hasApart 16 = .ok (.iload_n 2, 1) := by decide +kernel
theorem dX9_hasApart_17 : decode cX9_hasApart 17 = .ok (.aload_n 0, 1) := by decide +kernel
theorem dX9_hasApart_18 : decode cX9_hasApart 18 = .ok (.getfield 22, 3) := by decide +kernel
theorem dX9_hasApart_21 : decode cX9_hasApart 21 = .ok (.iload_n 3, 1) := by decide +kernel
theorem dX9_hasApart_22 : decode cX9_hasApart 22 = .ok (.iaload, 1) := by decide +kernel
theorem dX9_hasApart_23 : decode cX9_hasApart 23 = .ok (.iand, 1) := by decide +kernel
theorem dX9_hasApart_24 : decode cX9_hasApart 24 = .ok (.aload_n 0, 1) := by decide +kernel
theorem dX9_hasApart_25 : decode cX9_hasApart 25 = .ok (.getfield 22, 3) := by decide +kernel
theorem dX9_hasApart_28 : decode cX9_hasApart 28 = .ok (.iload_n 3, 1) := by decide +kernel
theorem dX9_hasApart_29 : decode cX9_hasApart 29 = .ok (.iaload, 1) := by decide +kernel
theorem dX9_hasApart_30 : decode cX9_hasApart 30 = .ok (.if_icmp .ne 5, 3) := by decide +kernel
theorem dX9_hasApart_33 : decode cX9_hasApart 33 = .ok (.iconst 1, 1) := by decide +kernel
theorem dX9_hasApart_34 : decode cX9_hasApart 34 = .ok (.ireturn, 1) := by decide +kernel
theorem dX9_hasApart_35 : decode cX9_hasApart 35 = .ok (.iinc 3 1, 3) := by decide +kernel
theorem dX9_hasApart_38 : decode cX9_hasApart 38 = .ok (.goto (-30), 3) := by decide +kernel
theorem dX9_hasApart_41 : decode cX9_hasApart 41 = .ok (.iconst 0, 1) := by decide +kernel
theorem dX9_hasApart_42 : decode cX9_hasApart 42 = .ok (.ireturn, 1) := by decide +kernel
theorem dX9_areAllRight_0 : decode cX9_areAllRight 0 = .ok (.iconst 0, 1) := by decide +kernel
theorem dX9_areAllRight_1 : decode cX9_areAllRight 1 = .ok (.istore_n 1, 1) := by decide +kernel
theorem dX9_areAllRight_2 : decode cX9_areAllRight 2 = .ok (.iload_n 1, 1) := by decide +kernel
theorem dX9_areAllRight_3 : decode cX9_areAllRight 3 = .ok (.aload_n 0, 1) := by decide +kernel
theorem dX9_areAllRight_4 : decode cX9_areAllRight 4 = .ok (.getfield 105, 3) := by decide +kernel
theorem dX9_areAllRight_7 : decode cX9_areAllRight 7 = .ok (.if_icmp .ge 24, 3) := by decide +kernel
theorem dX9_areAllRight_10 : decode cX9_areAllRight 10 = .ok (.aload_n 0, 1) := by decide +kernel
theorem dX9_areAllRight_11 : decode cX9_areAllRight 11 = .ok (.aload_n 0, 1) := by decide +kernel
theorem dX9_areAllRight_12 : decode cX9_areAllRight 12 = .ok (.getfield 9, 3) := by decide +kernel
theorem dX9_areAllRight_15 : decode cX9_areAllRight 15 = .ok (.iload_n 1, 1) := by decide +kernel
theorem dX9_areAllRight_16 : decode cX9_areAllRight 16 = .ok (.iaload, 1) := by decide +kernel
theorem dX9_areAllRight_17 : decode cX9_areAllRight 17 = .ok (.invokevirtual 136, 3) := by decide +kernel
theorem dX9_areAllRight_20 : decode cX9_areAllRight 20 = .ok (.ifCond .eq 5, 3) := by decide +kernel
theorem dX9_areAllRight_23 : decode cX9_areAllRight 23 = .ok (.iconst 0, 1) := by decide +kernel
theorem dX9_areAllRight_24 : decode cX9_areAllRight 24 = .ok (.ireturn, 1) := by decide +kernel
theorem dX9_areAllRight_25 : decode cX9_areAllRight 25 = .ok (.iinc 1 1, 3) := by decide +kernel
theorem dX9_areAllRight_28 : decode cX9_areAllRight 28 = .ok (.goto (-26), 3) := by decide +kernel
theorem dX9_areAllRight_31 : decode cX9_areAllRight 31 = .ok (.iconst 1, 1) := by decide +kernel
theorem dX9_areAllRight_32 : decode cX9_areAllRight 32 = .ok (.ireturn, 1) := by decide +kernel
theorem dX9_addUser_0 : decode cX9_addUser 0 = .ok (.aload_n 0, 1) := by decide +kernel
theorem dX9_addUser_1 : decode cX9_addUser 1 = .ok (.iconst 0, 1) := by decide +kernel
theorem dX9_addUser_2 : decode cX9_addUser 2 = .ok (.putfield 102, 3) := by decide +kernel
theorem dX9_addUser_5 : decode cX9_addUser 5 = .ok (.iload_n 1, 1) := by decide +kernel
theorem dX9_addUser_6 : decode cX9_addUser 6 = .ok (.iconst 0, 1) := by decide +kernel
theorem dX9_addUser_7 : decode cX9_addUser 7 = .ok (.iconst 3, 1) := by decide +kernel
theorem dX9_addUser_8 : decode cX9_addUser 8 = .ok (.invokestatic 108, 3) := by decide +kernel
theorem dX9_addUser_11 : decode cX9_addUser 11 = .ok (.ifCond .eq 14, 3) := by decide +kernel
theorem dX9_addUser_14 : decode cX9_addUser 14 = .ok (.iload_n 2, 1) := by decide +kernel
theorem dX9_addUser_15 : decode cX9_addUser 15 = .ok (.iconst 0, 1) := by decide +kernel
theorem dX9_addUser_16 : decode cX9_addUser 16 = .ok (.sipush 255, 3) := by decide +kernel
theorem dX9_addUser_19 : decode cX9_addUser 19 = .ok (.invokestatic 108, 3) := by decide +kernel
theorem dX9_addUser_22 : decode cX9_addUser 22 = .ok (.ifCond .ne 9, 3) := by decide +kernel
theorem dX9_addUser_25 : decode cX9_addUser 25 = .ok (.aload_n 0, 1) := by decide +kernel
theorem dX9_addUser_26 : decode cX9_addUser 26 = .ok (.iconst 1, 1) := by decide +kernel
theorem dX9_addUser_27 : decode cX9_addUser 27 = .ok (.invokevirtual 139, 3) := by decide +kernel
theorem dX9_addUser_30 : decode cX9_addUser 30 = .ok (.ireturn, 1) := by decide +kernel
theorem dX9_addUser_31 : decode cX9_addUser 31 = .ok (.aload_n 0, 1) := by decide +kernel
theorem dX9_addUser_32 : decode cX9_addUser 32 = .ok (.getfield 105, 3) := by decide +kernel
theorem dX9_addUser_35 : decode cX9_addUser 35 = .ok (.bipush 12, 2) := by decide +kernel
theorem dX9_addUser_37 : decode cX9_addUser 37 = .ok (.if_icmp .ne 9, 3) := by decide +kernel
theorem dX9_addUser_40 : decode cX9_addUser 40 = .ok (.aload_n 0, 1) := by decide +kernel
theorem dX9_addUser_41 : decode cX9_addUser 41 = .ok (.iconst 2, 1) := by decide +kernel
theorem dX9_addUser_42 : decode cX9_addUser 42 = .ok (.invokevirtual 139, 3) := by decide +kernel
theorem dX9_addUser_45 : decode cX9_addUser 45 = .ok (.ireturn, 1) := by decide +kernel
theorem dX9_addUser_46 : decode cX9_addUser 46 = .ok (.aload_n 0, 1) := by decide +kernel
theorem dX9_addUser_47 : decode cX9_addUser 47 = .ok (.getfield 13, 3) := by decide +kernel
theorem dX9_addUser_50 : decode cX9_addUser 50 = .ok (.aload_n 0, 1) := by decide +kernel
theorem dX9_addUser_51 : decode cX9_addUser 51 = .ok (.getfield 105, 3) := by decide +kernel
theorem dX9_addUser_54 : decode cX9_addUser 54 = .ok (.iload_n 1, 1) := by decide +kernel
theorem dX9_addUser_55 : decode cX9_addUser 55 = .ok (.iastore, 1) := by decide +kernel
theorem dX9_addUser_56 : decode cX9_addUser 56 = .ok (.aload_n 0, 1) := by decide +kernel
theorem dX9_addUser_57 : decode cX9_addUser 57 = .ok (.getfield 16, 3) := by decide +kernel
theorem dX9_addUser_60 : decode cX9_addUser 60 = .ok (.aload_n 0, 1) := by decide +kernel
theorem dX9_addUser_61 : decode cX9_addUser 61 = .ok (.getfield 105, 3) := by decide +kernel
theorem dX9_addUser_64 : decode cX9_addUser 64 = .ok (.iload_n 2, 1) := by decide +kernel
theorem dX9_addUser_65 : decode cX9_addUser 65 = .ok (.iastore, 1) := by decide +kernel
theorem dX9_addUser_66 : decode cX9_addUser 66 = .ok (.aload_n 0, 1) := by decide +kernel
theorem dX9_addUser_67 : decode cX9_addUser 67 = .ok (.dup, 1) := by decide +kernel
theorem dX9_addUser_68 : decode cX9_addUser 68 = .ok (.getfield 105, 3) := by decide +kernel
theorem dX9_addUser_71 : decode cX9_addUser 71 = .ok (.dup_x1, 1) := by decide +kernel
theorem dX9_addUser_72 : decode cX9_addUser 72 = .ok (.iconst 1, 1) := by decide +kernel
theorem dX9_addUser_73 : decode cX9_addUser 73 = .ok (.iadd, 1) := by decide +kernel
theorem dX9_addUser_74 : decode cX9_addUser 74 = .ok (.putfield 105, 3) := by decide +kernel
theorem dX9_addUser_77 : decode cX9_addUser 77 = .ok (.ireturn, 1) := by decide +kernel
theorem dX9_addRole_0 : decode cX9_addRole 0 = .ok (.aload_n 0, 1) := by decide +kernel
theorem dX9_addRole_1 : decode cX9_addRole 1 = .ok (.iconst 0, 1) := by decide +kernel
theorem dX9_addRole_2 : decode cX9_addRole 2 = .ok (.putfield 102, 3) := by decide +kernel
theorem dX9_addRole_5 : decode cX9_addRole 5 = .ok (.aload_n 0, 1) := by decide +kernel
theorem dX9_addRole_6 : decode cX9_addRole 6 = .ok (.getfield 112, 3) := by decide +kernel
theorem dX9_addRole_9 : decode cX9_addRole 9 = .ok (.bipush 12, 2) := by decide +kernel
theorem dX9_addRole_11 : decode cX9_addRole 11 = .ok (.if_icmp .ne 11, 3) := by decide +kernel
theorem dX9_addRole_14 : decode cX9_addRole 14 = .ok (.aload_n 0, 1) := by decide +kernel
theorem dX9_addRole_15 : decode cX9_addRole 15 = .ok (.iconst 1, 1) := by decide +kernel
theorem dX9_addRole_16 : decode cX9_addRole 16 = .ok (.invokevirtual 139, 3) := by decide +kernel
theorem dX9_addRole_19 : decode cX9_addRole 19 = .ok (.goto 14, 3) := by decide +kernel
theorem dX9_addRole_22 : decode cX9_addRole 22 = .ok (.aload_n 0, 1) := by decide +kernel
theorem dX9_addRole_23 : decode cX9_addRole 23 = .ok (.dup, 1) := by decide +kernel
theorem dX9_addRole_24 : decode cX9_addRole 24 = .ok (.getfield 112, 3) := by decide +kernel
theorem dX9_addRole_27 : decode cX9_addRole 27 = .ok (.dup_x1, 1) := by decide +kernel
theorem dX9_addRole_28 : decode cX9_addRole 28 = .ok (.iconst 1, 1) := by decide +kernel
theorem dX9_addRole_29 : decode cX9_addRole 29 = .ok (.iadd, 1) := by decide +kernel
theorem dX9_addRole_30 : decode cX9_addRole 30 = .ok (.putfield 112, 3) := by decide +kernel
theorem dX9_addRole_33 : decode cX9_addRole 33 = .ok (.ireturn, 1) := by decide +kernel
theorem dX9_addResource_0 : decode cX9_addResource 0 = .ok (.aload_n 0, 1) := by decide +kernel
theorem dX9_addResource_1 : decode cX9_addResource 1 = .ok (.iconst 0, 1) := by decide +kernel
theorem dX9_addResource_2 : decode cX9_addResource 2 = .ok (.putfield 102, 3) := by decide +kernel
theorem dX9_addResource_5 : decode cX9_addResource 5 = .ok (.aload_n 0, 1) := by decide +kernel
theorem dX9_addResource_6 : decode cX9_addResource 6 = .ok (.iload_n 1, 1) := by decide +kernel
theorem dX9_addResource_7 : decode cX9_addResource 7 = .ok (.invokevirtual 122, 3) := by decide +kernel
theorem dX9_addResource_10 : decode cX9_addResource 10 = .ok (.ifCond .ne 9, 3) := by decide +kernel
theorem dX9_addResource_13 : decode cX9_addResource 13 = .ok (.aload_n 0, 1) := by decide +kernel
theorem dX9_addResource_14 : decode cX9_addResource 14 = .ok (.iconst 1, 1) := by decide +kernel
theorem dX9_addResource_15 : decode cX9_addResource 15 = .ok (.invokevirtual 139, 3) := by decide +kernel
theorem dX9_addResource_18 : decode cX9_addResource 18 = .ok (.ireturn, 1) := by decide +kernel
theorem dX9_addResource_19 : decode cX9_addResource 19 = .ok (.aload_n 0, 1) := by decide +kernel
theorem dX9_addResource_20 : decode cX9_addResource 20 = .ok (.getfield 25, 3) := by decide +kernel
theorem dX9_addResource_23 : decode cX9_addResource 23 = .ok (.bipush 24, 2) := by decide +kernel
theorem dX9_addResource_25 : decode cX9_addResource 25 = .ok (.if_icmp .ne 9, 3) := by decide +kernel
theorem dX9_addResource_28 : decode cX9_addResource 28 = .ok (.aload_n 0, 1) := by decide +kernel
theorem dX9_addResource_29 : decode cX9_addResource 29 = .ok (.iconst 2, 1) := by decide +kernel
theorem dX9_addResource_30 : decode cX9_addResource 30 = .ok (.invokevirtual 139, 3) := by decide +kernel
theorem dX9_addResource_33 : decode cX9_addResource 33 = .ok (.ireturn, 1) := by decide +kernel
theorem dX9_addResource_34 : decode cX9_addResource 34 = .ok (.aload_n 0, 1) := by decide +kernel
theorem dX9_addResource_35 : decode cX9_addResource 35 = .ok (.getfield 29, 3) := by decide +kernel
theorem dX9_addResource_38 : decode cX9_addResource 38 = .ok (.aload_n 0, 1) := by decide +kernel
theorem dX9_addResource_39 : decode cX9_addResource 39 = .ok (.getfield 25, 3) := by decide +kernel
theorem dX9_addResource_42 : decode cX9_addResource 42 = .ok (.iload_n 1, 1) := by decide +kernel
theorem dX9_addResource_43 : decode cX9_addResource 43 = .ok (.iastore, 1) := by decide +kernel
theorem dX9_addResource_44 : decode cX9_addResource 44 = .ok (.aload_n 0, 1) := by decide +kernel
theorem dX9_addResource_45 : decode cX9_addResource 45 = .ok (.dup, 1) := by decide +kernel
theorem dX9_addResource_46 : decode cX9_addResource 46 = .ok (.getfield 25, 3) := by decide +kernel
theorem dX9_addResource_49 : decode cX9_addResource 49 = .ok (.dup_x1, 1) := by decide +kernel
theorem dX9_addResource_50 : decode cX9_addResource 50 = .ok (.iconst 1, 1) := by decide +kernel
theorem dX9_addResource_51 : decode cX9_addResource 51 = .ok (.iadd, 1) := by decide +kernel
theorem dX9_addResource_52 : decode cX9_addResource 52 = .ok (.putfield 25, 3) := by decide +kernel
theorem dX9_addResource_55 : decode cX9_addResource 55 = .ok (.ireturn, 1) := by decide +kernel
theorem dX9_setRole_0 : decode cX9_setRole 0 = .ok (.aload_n 0, 1) := by decide +kernel
theorem dX9_setRole_1 : decode cX9_setRole 1 = .ok (.iconst 0, 1) := by decide +kernel
theorem dX9_setRole_2 : decode cX9_setRole 2 = .ok (.putfield 102, 3) := by decide +kernel
theorem dX9_setRole_5 : decode cX9_setRole 5 = .ok (.aload_n 0, 1) := by decide +kernel
theorem dX9_setRole_6 : decode cX9_setRole 6 = .ok (.iload_n 1, 1) := by decide +kernel
theorem dX9_setRole_7 : decode cX9_setRole 7 = .ok (.invokevirtual 115, 3) := by decide +kernel
theorem dX9_setRole_10 : decode cX9_setRole 10 = .ok (.ifCond .eq 11, 3) := by decide +kernel
theorem dX9_setRole_13 : decode cX9_setRole 13 = .ok (.aload_n 0, 1) := by decide +kernel
theorem dX9_setRole_14 : decode cX9_setRole 14 = .ok (.iload_n 2, 1) := by decide +kernel
theorem dX9_setRole_15 : decode cX9_setRole 15 = .ok (.invokevirtual 142, 3) := by decide +kernel
theorem dX9_setRole_18 : decode cX9_setRole 18 = .ok (.ifCond .ne 9, 3) := by decide +kernel
theorem dX9_setRole_21 : decode cX9_setRole 21 = .ok (.aload_n 0, 1) := by decide +kernel
theorem dX9_setRole_22 : decode cX9_setRole 22 = .ok (.iconst 1, 1) := by decide +kernel
theorem dX9_setRole_23 : decode cX9_setRole 23 = .ok (.invokevirtual 145, 3) := by decide +kernel
theorem dX9_setRole_26 : decode cX9_setRole 26 = .ok (.ireturn, 1) := by decide +kernel
theorem dX9_setRole_27 : decode cX9_setRole 27 = .ok (.aload_n 0, 1) := by decide +kernel
theorem dX9_setRole_28 : decode cX9_setRole 28 = .ok (.getfield 9, 3) := by decide +kernel
theorem dX9_setRole_31 : decode cX9_setRole 31 = .ok (.iload_n 1, 1) := by decide +kernel
theorem dX9_setRole_32 : decode cX9_setRole 32 = .ok (.iaload, 1) := by decide +kernel
theorem dX9_setRole_33 : decode cX9_setRole 33 = .ok (.iload_n 2, 1) := by decide +kernel
theorem dX9_setRole_34 : decode cX9_setRole 34 = .ok (.ishr, 1) := by decide +kernel
theorem dX9_setRole_35 : decode cX9_setRole 35 = .ok (.iconst 1, 1) := by decide +kernel
theorem dX9_setRole_36 : decode cX9_setRole 36 = .ok (.iand, 1) := by decide +kernel
theorem dX9_setRole_37 : decode cX9_setRole 37 = .ok (.ifCond .eq 7, 3) := by decide +kernel
theorem dX9_setRole_40 : decode cX9_setRole 40 = .ok (.iconst 1, 1) := by decide +kernel
theorem dX9_setRole_41 : decode cX9_setRole 41 = .ok (.goto 4, 3) := by decide +kernel
theorem dX9_setRole_44 : decode cX9_setRole 44 = .ok (.iconst 0, 1) := by decide +kernel
theorem dX9_setRole_45 : decode cX9_setRole 45 = .ok (.istore 4, 2) := by decide +kernel
theorem dX9_setRole_47 : decode cX9_setRole 47 = .ok (.iload_n 3, 1) := by decide +kernel
theorem dX9_setRole_48 : decode cX9_setRole 48 = .ok (.ifCond .eq 16, 3) := by decide +kernel
theorem dX9_setRole_51 : decode cX9_setRole 51 = .ok (.aload_n 0, 1) := by decide +kernel
theorem dX9_setRole_52 : decode cX9_setRole 52 = .ok (.getfield 9, 3) := by decide +kernel
theorem dX9_setRole_55 : decode cX9_setRole 55 = .ok (.iload_n 1, 1) := by decide +kernel
theorem dX9_setRole_56 : decode cX9_setRole 56 = .ok (.iaload, 1) := by decide +kernel
theorem dX9_setRole_57 : decode cX9_setRole 57 = .ok (.iconst 1, 1) := by decide +kernel
theorem dX9_setRole_58 : decode cX9_setRole 58 = .ok (.iload_n 2, 1) := by decide +kernel
theorem dX9_setRole_59 : decode cX9_setRole 59 = .ok (.ishl, 1) := by decide +kernel
theorem dX9_setRole_60 : decode cX9_setRole 60 = .ok (.ior, 1) := by decide +kernel
theorem dX9_setRole_61 : decode cX9_setRole 61 = .ok (.goto 15, 3) := by decide +kernel
theorem dX9_setRole_64 : decode cX9_setRole 64 = .ok (.aload_n 0, 1) := by decide +kernel
theorem dX9_setRole_65 : decode cX9_setRole 65 = .ok (.getfield 9, 3) := by decide +kernel
theorem dX9_setRole_68 : decode cX9_setRole 68 = .ok (.iload_n 1, 1) := by decide +kernel
theorem dX9_setRole_69 : decode cX9_setRole 69 = .ok (.iaload, 1) := by decide +kernel
theorem dX9_setRole_70 : decode cX9_setRole 70 = .ok (.iconst 1, 1) := by decide +kernel
theorem dX9_setRole_71 : decode cX9_setRole 71 = .ok (.iload_n 2, 1) := by decide +kernel
theorem dX9_setRole_72 : decode cX9_setRole 72 = .ok (.ishl, 1) := by decide +kernel
theorem dX9_setRole_73 : decode cX9_setRole 73 = .ok (.iconst (-1), 1) := by decide +kernel
theorem dX9_setRole_74 : decode cX9_setRole 74 = .ok (.ixor, 1) := by decide +kernel
theorem dX9_setRole_75 : decode cX9_setRole 75 = .ok (.iand, 1) := by decide +kernel
theorem dX9_setRole_76 : decode cX9_setRole 76 = .ok (.istore 5, 2) := by decide +kernel
theorem dX9_setRole_78 : decode cX9_setRole 78 = .ok (.iload_n 3, 1) := by decide +kernel
theorem dX9_setRole_79 : decode cX9_setRole 79 = .ok (.ifCond .eq 18, 3) := by decide +kernel
theorem dX9_setRole_82 : decode cX9_setRole 82 = .ok (.aload_n 0, 1) := by decide +kernel
theorem dX9_setRole_83 : decode cX9_setRole 83 = .ok (.iload 5, 2) := by decide +kernel
theorem dX9_setRole_85 : decode cX9_setRole 85 = .ok (.invokevirtual 136, 3) := by decide +kernel
theorem dX9_setRole_88 : decode cX9_setRole 88 = .ok (.ifCond .eq 9, 3) := by decide +kernel
theorem dX9_setRole_91 : decode cX9_setRole 91 = .ok (.aload_n 0, 1) := by decide +kernel
theorem dX9_setRole_92 : decode cX9_setRole 92 = .ok (.iconst 2, 1) := by decide +kernel
theorem dX9_setRole_93 : decode cX9_setRole 93 = .ok (.invokevirtual 145, 3) := by decide +kernel
theorem dX9_setRole_96 : decode cX9_setRole 96 = .ok (.ireturn, 1) := by decide +kernel
theorem dX9_setRole_97 : decode cX9_setRole 97 = .ok (.aload_n 0, 1) := by decide +kernel
theorem dX9_setRole_98 : decode cX9_setRole 98 = .ok (.getfield 9, 3) := by decide +kernel
theorem dX9_setRole_101 : decode cX9_setRole 101 = .ok (.iload_n 1, 1) := by decide +kernel
theorem dX9_setRole_102 : decode cX9_setRole 102 = .ok (.iload 5, 2) := by decide +kernel
theorem dX9_setRole_104 : decode cX9_setRole 104 = .ok (.iastore, 1) := by decide +kernel
theorem dX9_setRole_105 : decode cX9_setRole 105 = .ok (.iload 4, 2) := by decide +kernel
theorem dX9_setRole_107 : decode cX9_setRole 107 = .ok (.ireturn, 1) := by decide +kernel
theorem dX9_setHolds_0 : decode cX9_setHolds 0 = .ok (.aload_n 0, 1) := by decide +kernel
theorem dX9_setHolds_1 : decode cX9_setHolds 1 = .ok (.iconst 0, 1) := by decide +kernel
theorem dX9_setHolds_2 : decode cX9_setHolds 2 = .ok (.putfield 102, 3) := by decide +kernel
theorem dX9_setHolds_5 : decode cX9_setHolds 5 = .ok (.aload_n 0, 1) := by decide +kernel
theorem dX9_setHolds_6 : decode cX9_setHolds 6 = .ok (.iload_n 1, 1) := by decide +kernel
theorem dX9_setHolds_7 : decode cX9_setHolds 7 = .ok (.invokevirtual 142, 3) := by decide +kernel
theorem dX9_setHolds_10 : decode cX9_setHolds 10 = .ok (.ifCond .eq 11, 3) := by decide +kernel
theorem dX9_setHolds_13 : decode cX9_setHolds 13 = .ok (.aload_n 0, 1) := by decide +kernel
theorem dX9_setHolds_14 : decode cX9_setHolds 14 = .ok (.iload_n 2, 1) := by decide +kernel
theorem dX9_setHolds_15 : decode cX9_setHolds 15 = .ok (.invokevirtual 142, 3) := by decide +kernel
theorem dX9_setHolds_18 : decode cX9_setHolds 18 = .ok (.ifCond .ne 9, 3) := by decide +kernel
theorem dX9_setHolds_21 : decode cX9_setHolds 21 = .ok (.aload_n 0, 1) := by decide +kernel
theorem dX9_setHolds_22 : decode cX9_setHolds 22 = .ok (.iconst 1, 1) := by decide +kernel
theorem dX9_setHolds_23 : decode cX9_setHolds 23 = .ok (.invokevirtual 145, 3) := by decide +kernel
theorem dX9_setHolds_26 : decode cX9_setHolds 26 = .ok (.ireturn, 1) := by decide +kernel
theorem dX9_setHolds_27 : decode cX9_setHolds 27 = .ok (.iload_n 1, 1) := by decide +kernel
theorem dX9_setHolds_28 : decode cX9_setHolds 28 = .ok (.iload_n 2, 1) := by decide +kernel
theorem dX9_setHolds_29 : decode cX9_setHolds 29 = .ok (.if_icmp .eq 21, 3) := by decide +kernel
theorem dX9_setHolds_32 : decode cX9_setHolds 32 = .ok (.iload_n 3, 1) := by decide +kernel
theorem dX9_setHolds_33 : decode cX9_setHolds 33 = .ok (.ifCond .eq 23, 3) := by decide +kernel
theorem dX9_setHolds_36 : decode cX9_setHolds 36 = .ok (.aload_n 0, 1) := by decide +kernel
theorem dX9_setHolds_37 : decode cX9_setHolds 37 = .ok (.iconst 1, 1) := by decide +kernel
theorem dX9_setHolds_38 : decode cX9_setHolds 38 = .ok (.iload_n 2, 1) := by decide +kernel
theorem dX9_setHolds_39 : decode cX9_setHolds 39 = .ok (.ishl, 1) := by decide +kernel
theorem dX9_setHolds_40 : decode cX9_setHolds 40 = .ok (.invokevirtual 129, 3) := by decide +kernel
theorem dX9_setHolds_43 : decode cX9_setHolds 43 = .ok (.iload_n 1, 1) := by decide +kernel
theorem dX9_setHolds_44 : decode cX9_setHolds 44 = .ok (.ishr, 1) := by decide +kernel
theorem dX9_setHolds_45 : decode cX9_setHolds 45 = .ok (.iconst 1, 1) := by decide +kernel
theorem dX9_setHolds_46 : decode cX9_setHolds 46 = .ok (.iand, 1) := by decide +kernel
theorem dX9_setHolds_47 : decode cX9_setHolds 47 = .ok (.ifCond .eq 9, 3) := by decide +kernel
theorem dX9_setHolds_50 : decode cX9_setHolds 50 = .ok (.aload_n 0, 1) := by decide +kernel
theorem dX9_setHolds_51 : decode cX9_setHolds 51 = .ok (.iconst 2, 1) := by decide +kernel
theorem dX9_setHolds_52 : decode cX9_setHolds 52 = .ok (.invokevirtual 145, 3) := by decide +kernel
theorem dX9_setHolds_55 : decode cX9_setHolds 55 = .ok (.ireturn, 1) := by decide +kernel
theorem dX9_setHolds_56 : decode cX9_setHolds 56 = .ok (.aload_n 0, 1) := by decide +kernel
theorem dX9_setHolds_57 : decode cX9_setHolds 57 = .ok (.getfield 19, 3) := by decide +kernel
theorem dX9_setHolds_60 : decode cX9_setHolds 60 = .ok (.iload_n 1, 1) := by decide +kernel
theorem dX9_setHolds_61 : decode cX9_setHolds 61 = .ok (.iaload, 1) := by decide +kernel
theorem dX9_setHolds_62 : decode cX9_setHolds 62 = .ok (.iload_n 2, 1) := by decide +kernel
theorem dX9_setHolds_63 : decode cX9_setHolds 63 = .ok (.ishr, 1) := by decide +kernel
theorem dX9_setHolds_64 : decode cX9_setHolds 64 = .ok (.iconst 1, 1) := by decide +kernel
theorem dX9_setHolds_65 : decode cX9_setHolds 65 = .ok (.iand, 1) := by decide +kernel
theorem dX9_setHolds_66 : decode cX9_setHolds 66 = .ok (.ifCond .eq 7, 3) := by decide +kernel
theorem dX9_setHolds_69 : decode cX9_setHolds 69 = .ok (.iconst 1, 1) := by decide +kernel
theorem dX9_setHolds_70 : decode cX9_setHolds 70 = .ok (.goto 4, 3) := by decide +kernel
theorem dX9_setHolds_73 : decode cX9_setHolds 73 = .ok (.iconst 0, 1) := by decide +kernel
theorem dX9_setHolds_74 : decode cX9_setHolds 74 = .ok (.istore 4, 2) := by decide +kernel
theorem dX9_setHolds_76 : decode cX9_setHolds 76 = .ok (.aload_n 0, 1) := by decide +kernel
theorem dX9_setHolds_77 : decode cX9_setHolds 77 = .ok (.getfield 19, 3) := by decide +kernel
theorem dX9_setHolds_80 : decode cX9_setHolds 80 = .ok (.iload_n 1, 1) := by decide +kernel
theorem dX9_setHolds_81 : decode cX9_setHolds 81 = .ok (.iaload, 1) := by decide +kernel
theorem dX9_setHolds_82 : decode cX9_setHolds 82 = .ok (.istore 5, 2) := by decide +kernel
theorem dX9_setHolds_84 : decode cX9_setHolds 84 = .ok (.aload_n 0, 1) := by decide +kernel
theorem dX9_setHolds_85 : decode cX9_setHolds 85 = .ok (.getfield 19, 3) := by decide +kernel
theorem dX9_setHolds_88 : decode cX9_setHolds 88 = .ok (.iload_n 1, 1) := by decide +kernel
theorem dX9_setHolds_89 : decode cX9_setHolds 89 = .ok (.iload_n 3, 1) := by decide +kernel
theorem dX9_setHolds_90 : decode cX9_setHolds 90 = .ok (.ifCond .eq 12, 3) := by decide +kernel
theorem dX9_setHolds_93 : decode cX9_setHolds 93 = .ok (.iload 5, 2) := by decide +kernel
theorem dX9_setHolds_95 : decode cX9_setHolds 95 = .ok (.iconst 1, 1) := by decide +kernel
theorem dX9_setHolds_96 : decode cX9_setHolds 96 = .ok (.iload_n 2, 1) := by decide +kernel
theorem dX9_setHolds_97 : decode cX9_setHolds 97 = .ok (.ishl, 1) := by decide +kernel
theorem dX9_setHolds_98 : decode cX9_setHolds 98 = .ok (.ior, 1) := by decide +kernel
theorem dX9_setHolds_99 : decode cX9_setHolds 99 = .ok (.goto 11, 3) := by decide +kernel
theorem dX9_setHolds_102 : decode cX9_setHolds 102 = .ok (.iload 5, 2) := by decide +kernel
theorem dX9_setHolds_104 : decode cX9_setHolds 104 = .ok (.iconst 1, 1) := by decide +kernel
theorem dX9_setHolds_105 : decode cX9_setHolds 105 = .ok (.iload_n 2, 1) := by decide +kernel
theorem dX9_setHolds_106 : decode cX9_setHolds 106 = .ok (.ishl, 1) := by decide +kernel
theorem dX9_setHolds_107 : decode cX9_setHolds 107 = .ok (.iconst (-1), 1) := by decide +kernel
theorem dX9_setHolds_108 : decode cX9_setHolds 108 = .ok (.ixor, 1) := by decide +kernel
theorem dX9_setHolds_109 : decode cX9_setHolds 109 = .ok (.iand, 1) := by decide +kernel
theorem dX9_setHolds_110 : decode cX9_setHolds 110 = .ok (.iastore, 1) := by decide +kernel
theorem dX9_setHolds_111 : decode cX9_setHolds 111 = .ok (.iload_n 3, 1) := by decide +kernel
theorem dX9_setHolds_112 : decode cX9_setHolds 112 = .ok (.ifCond .eq 24, 3) := by decide +kernel
theorem dX9_setHolds_115 : decode cX9_setHolds 115 = .ok (.aload_n 0, 1) := by decide +kernel
theorem dX9_setHolds_116 : decode cX9_setHolds 116 = .ok (.invokevirtual 148, 3) := by decide +kernel
theorem dX9_setHolds_119 : decode cX9_setHolds 119 = .ok (.ifCond .ne 17, 3) := by decide +kernel
theorem dX9_setHolds_122 : decode cX9_setHolds 122 = .ok (.aload_n 0, 1) := by decide +kernel
theorem dX9_setHolds_123 : decode cX9_setHolds 123 = .ok (.getfield 19, 3) := by decide +kernel
theorem dX9_setHolds_126 : decode cX9_setHolds 126 = .ok (.iload_n 1, 1) := by decide +kernel
theorem dX9_setHolds_127 : decode cX9_setHolds 127 = .ok (.iload 5, 2) := by decide +kernel
theorem dX9_setHolds_129 : decode cX9_setHolds 129 = .ok (.iastore, 1) := by decide +kernel
theorem dX9_setHolds_130 : decode cX9_setHolds 130 = .ok (.aload_n 0, 1) := by decide +kernel
theorem dX9_setHolds_131 : decode cX9_setHolds 131 = .ok (.iconst 3, 1) := by decide +kernel
theorem dX9_setHolds_132 : decode cX9_setHolds 132 = .ok (.invokevirtual 145, 3) := by decide +kernel
theorem dX9_setHolds_135 : decode cX9_setHolds 135 = .ok (.ireturn, 1) := by decide +kernel
theorem dX9_setHolds_136 : decode cX9_setHolds 136 = .ok (.iload 4, 2) := by decide +kernel
theorem dX9_setHolds_138 : decode cX9_setHolds 138 = .ok (.ireturn, 1) := by decide +kernel
theorem dX9_setApart_0 : decode cX9_setApart 0 = .ok (.aload_n 0, 1) := by decide +kernel
theorem dX9_setApart_1 : decode cX9_setApart 1 = .ok (.iconst 0, 1) := by decide +kernel
theorem dX9_setApart_2 : decode cX9_setApart 2 = .ok (.putfield 102, 3) := by decide +kernel
theorem dX9_setApart_5 : decode cX9_setApart 5 = .ok (.aload_n 0, 1) := by decide +kernel
theorem dX9_setApart_6 : decode cX9_setApart 6 = .ok (.iload_n 1, 1) := by decide +kernel
theorem dX9_setApart_7 : decode cX9_setApart 7 = .ok (.invokevirtual 142, 3) := by decide +kernel
theorem dX9_setApart_10 : decode cX9_setApart 10 = .ok (.ifCond .eq 11, 3) := by decide +kernel
theorem dX9_setApart_13 : decode cX9_setApart 13 = .ok (.aload_n 0, 1) := by decide +kernel
theorem dX9_setApart_14 : decode cX9_setApart 14 = .ok (.iload_n 2, 1) := by decide +kernel
theorem dX9_setApart_15 : decode cX9_setApart 15 = .ok (.invokevirtual 142, 3) := by decide +kernel
theorem dX9_setApart_18 : decode cX9_setApart 18 = .ok (.ifCond .ne 9, 3) := by decide +kernel
theorem dX9_setApart_21 : decode cX9_setApart 21 = .ok (.aload_n 0, 1) := by decide +kernel
theorem dX9_setApart_22 : decode cX9_setApart 22 = .ok (.iconst 1, 1) := by decide +kernel
theorem dX9_setApart_23 : decode cX9_setApart 23 = .ok (.invokevirtual 139, 3) := by decide +kernel
theorem dX9_setApart_26 : decode cX9_setApart 26 = .ok (.ireturn, 1) := by decide +kernel
theorem dX9_setApart_27 : decode cX9_setApart 27 = .ok (.iload_n 1, 1) := by decide +kernel
theorem dX9_setApart_28 : decode cX9_setApart 28 = .ok (.iload_n 2, 1) := by decide +kernel
theorem dX9_setApart_29 : decode cX9_setApart 29 = .ok (.if_icmp .ne 9, 3) := by decide +kernel
theorem dX9_setApart_32 : decode cX9_setApart 32 = .ok (.aload_n 0, 1) := by decide +kernel
theorem dX9_setApart_33 : decode cX9_setApart 33 = .ok (.iconst 2, 1) := by decide +kernel
theorem dX9_setApart_34 : decode cX9_setApart 34 = .ok (.invokevirtual 139, 3) := by decide +kernel
theorem dX9_setApart_37 : decode cX9_setApart 37 = .ok (.ireturn, 1) := by decide +kernel
theorem dX9_setApart_38 : decode cX9_setApart 38 = .ok (.iconst 1, 1) := by decide +kernel
theorem dX9_setApart_39 : decode cX9_setApart 39 = .ok (.iload_n 1, 1) := by decide +kernel
theorem dX9_setApart_40 : decode cX9_setApart 40 = .ok (.ishl, 1) := by decide +kernel
theorem dX9_setApart_41 : decode cX9_setApart 41 = .ok (.iconst 1, 1) := by decide +kernel
theorem dX9_setApart_42 : decode cX9_setApart 42 = .ok (.iload_n 2, 1) := by decide +kernel
theorem dX9_setApart_43 : decode cX9_setApart 43 = .ok (.ishl, 1) := by decide +kernel
theorem dX9_setApart_44 : decode cX9_setApart 44 = .ok (.ior, 1) := by decide +kernel
theorem dX9_setApart_45 : decode cX9_setApart 45 = .ok (.istore_n 3, 1) := by decide +kernel
theorem dX9_setApart_46 : decode cX9_setApart 46 = .ok (.aload_n 0, 1) := by decide +kernel
theorem dX9_setApart_47 : decode cX9_setApart 47 = .ok (.getfield 133, 3) := by decide +kernel
theorem dX9_setApart_50 : decode cX9_setApart 50 = .ok (.bipush 10, 2) := by decide +kernel
theorem dX9_setApart_52 : decode cX9_setApart 52 = .ok (.if_icmp .ne 7, 3) := by decide +kernel
theorem dX9_setApart_55 : decode cX9_setApart 55 = .ok (.iconst 1, 1) := by decide +kernel
theorem dX9_setApart_56 : decode cX9_setApart 56 = .ok (.goto 4, 3) := by decide +kernel
theorem dX9_setApart_59 : decode cX9_setApart 59 = .ok (.iconst 0, 1) := by decide +kernel
theorem dX9_setApart_60 : decode cX9_setApart 60 = .ok (.istore 4, 2) := by decide +kernel
theorem dX9_setApart_62 : decode cX9_setApart 62 = .ok (.iconst 0, 1) := by decide +kernel
theorem dX9_setApart_63 : decode cX9_setApart 63 = .ok (.istore 5, 2) := by decide +kernel
theorem dX9_setApart_65 : decode cX9_setApart 65 = .ok (.iload 5, 2) := by decide +kernel
theorem dX9_setApart_67 : decode cX9_setApart 67 = .ok (.aload_n 0, 1) := by decide +kernel
theorem dX9_setApart_68 : decode cX9_setApart 68 = .ok (.getfield 133, 3) := by decide +kernel
theorem dX9_setApart_71 : decode cX9_setApart 71 = .ok (.if_icmp .ge 30, 3) := by decide +kernel
theorem dX9_setApart_74 : decode cX9_setApart 74 = .ok (.iload 4, 2) := by decide +kernel
theorem dX9_setApart_76 : decode cX9_setApart 76 = .ok (.aload_n 0, 1) := by decide +kernel
theorem dX9_setApart_77 : decode cX9_setApart 77 = .ok (.getfield 22, 3) := by decide +kernel
theorem dX9_setApart_80 : decode cX9_setApart 80 = .ok (.iload 5, 2) := by decide +kernel
theorem dX9_setApart_82 : decode cX9_setApart 82 = .ok (.iaload, 1) := by decide +kernel
theorem dX9_setApart_83 : decode cX9_setApart 83 = .ok (.iload_n 3, 1) := by decide +kernel
theorem dX9_setApart_84 : decode cX9_setApart 84 = .ok (.if_icmp .ne 7, 3) := by decide +kernel
theorem dX9_setApart_87 : decode cX9_setApart 87 = .ok (.iconst 1, 1) := by decide +kernel
theorem dX9_setApart_88 : decode cX9_setApart 88 = .ok (.goto 4, 3) := by decide +kernel
theorem dX9_setApart_91 : decode cX9_setApart 91 = .ok (.iconst 0, 1) := by decide +kernel
theorem dX9_setApart_92 : decode cX9_setApart 92 = .ok (.ior, 1) := by decide +kernel
theorem dX9_setApart_93 : decode cX9_setApart 93 = .ok (.istore 4, 2) := by decide +kernel
theorem dX9_setApart_95 : decode cX9_setApart 95 = .ok (.iinc 5 1, 3) := by decide +kernel
theorem dX9_setApart_98 : decode cX9_setApart 98 = .ok (.goto (-33), 3) := by decide +kernel
theorem dX9_setApart_101 : decode cX9_setApart 101 = .ok (.iconst 0, 1) := by decide +kernel
theorem dX9_setApart_102 : decode cX9_setApart 102 = .ok (.istore 5, 2) := by decide +kernel
theorem dX9_setApart_104 : decode cX9_setApart 104 = .ok (.iload 5, 2) := by decide +kernel
theorem dX9_setApart_106 : decode cX9_setApart 106 = .ok (.aload_n 0, 1) := by decide +kernel
theorem dX9_setApart_107 : decode cX9_setApart 107 = .ok (.getfield 105, 3) := by decide +kernel
theorem dX9_setApart_110 : decode cX9_setApart 110 = .ok (.if_icmp .ge 36, 3) := by decide +kernel
theorem dX9_setApart_113 : decode cX9_setApart 113 = .ok (.iload 4, 2) := by decide +kernel
theorem dX9_setApart_115 : decode cX9_setApart 115 = .ok (.aload_n 0, 1) := by decide +kernel
theorem dX9_setApart_116 : decode cX9_setApart 116 = .ok (.aload_n 0, 1) := by decide +kernel
theorem dX9_setApart_117 : decode cX9_setApart 117 = .ok (.getfield 9, 3) := by decide +kernel
theorem dX9_setApart_120 : decode cX9_setApart 120 = .ok (.iload 5, 2) := by decide +kernel
theorem dX9_setApart_122 : decode cX9_setApart 122 = .ok (.iaload, 1) := by decide +kernel
theorem dX9_setApart_123 : decode cX9_setApart 123 = .ok (.invokevirtual 129, 3) := by decide +kernel
theorem dX9_setApart_126 : decode cX9_setApart 126 = .ok (.iload_n 3, 1) := by decide +kernel
theorem dX9_setApart_127 : decode cX9_setApart 127 = .ok (.iand, 1) := by decide +kernel
theorem dX9_setApart_128 : decode cX9_setApart 128 = .ok (.iload_n 3, 1) := by decide +kernel
theorem dX9_setApart_129 : decode cX9_setApart 129 = .ok (.if_icmp .ne 7, 3) := by decide +kernel
theorem dX9_setApart_132 : decode cX9_setApart 132 = .ok (.iconst 1, 1) := by decide +kernel
theorem dX9_setApart_133 : decode cX9_setApart 133 = .ok (.goto 4, 3) := by decide +kernel
theorem dX9_setApart_136 : decode cX9_setApart 136 = .ok (.iconst 0, 1) := by decide +kernel
theorem dX9_setApart_137 : decode cX9_setApart 137 = .ok (.ior, 1) := by decide +kernel
theorem dX9_setApart_138 : decode cX9_setApart 138 = .ok (.istore 4, 2) := by decide +kernel
theorem dX9_setApart_140 : decode cX9_setApart 140 = .ok (.iinc 5 1, 3) := by decide +kernel
theorem dX9_setApart_143 : decode cX9_setApart 143 = .ok (.goto (-39), 3) := by decide +kernel
theorem dX9_setApart_146 : decode cX9_setApart 146 = .ok (.iload 4, 2) := by decide +kernel
theorem dX9_setApart_148 : decode cX9_setApart 148 = .ok (.ifCond .eq 9, 3) := by decide +kernel
theorem dX9_setApart_151 : decode cX9_setApart 151 = .ok (.aload_n 0, 1) := by decide +kernel
theorem dX9_setApart_152 : decode cX9_setApart 152 = .ok (.iconst 3, 1) := by decide +kernel
theorem dX9_setApart_153 : decode cX9_setApart 153 = .ok (.invokevirtual 139, 3) := by decide +kernel
theorem dX9_setApart_156 : decode cX9_setApart 156 = .ok (.ireturn, 1) := by decide +kernel
theorem dX9_setApart_157 : decode cX9_setApart 157 = .ok (.aload_n 0, 1) := by decide +kernel
theorem dX9_setApart_158 : decode cX9_setApart 158 = .ok (.getfield 22, 3) := by decide +kernel
theorem dX9_setApart_161 : decode cX9_setApart 161 = .ok (.aload_n 0, 1) := by decide +kernel
theorem dX9_setApart_162 : decode cX9_setApart 162 = .ok (.dup, 1) := by decide +kernel
theorem dX9_setApart_163 : decode cX9_setApart 163 = .ok (.getfield 133, 3) := by decide +kernel
theorem dX9_setApart_166 : decode cX9_setApart 166 = .ok (.dup_x1, 1) := by decide +kernel
theorem dX9_setApart_167 : decode cX9_setApart 167 = .ok (.iconst 1, 1) := by decide +kernel
theorem dX9_setApart_168 : decode cX9_setApart 168 = .ok (.iadd, 1) := by decide +kernel
theorem dX9_setApart_169 : decode cX9_setApart 169 = .ok (.putfield 133, 3) := by decide +kernel
theorem dX9_setApart_172 : decode cX9_setApart 172 = .ok (.iload_n 3, 1) := by decide +kernel
theorem dX9_setApart_173 : decode cX9_setApart 173 = .ok (.iastore, 1) := by decide +kernel
theorem dX9_setApart_174 : decode cX9_setApart 174 = .ok (.aload_n 0, 1) := by decide +kernel
theorem dX9_setApart_175 : decode cX9_setApart 175 = .ok (.getfield 133, 3) := by decide +kernel
theorem dX9_setApart_178 : decode cX9_setApart 178 = .ok (.ireturn, 1) := by decide +kernel
theorem dX9_setUser_0 : decode cX9_setUser 0 = .ok (.aload_n 0, 1) := by decide +kernel
theorem dX9_setUser_1 : decode cX9_setUser 1 = .ok (.iconst 0, 1) := by decide +kernel
theorem dX9_setUser_2 : decode cX9_setUser 2 = .ok (.putfield 102, 3) := by decide +kernel
theorem dX9_setUser_5 : decode cX9_setUser 5 = .ok (.aload_n 0, 1) := by decide +kernel
theorem dX9_setUser_6 : decode cX9_setUser 6 = .ok (.iload_n 1, 1) := by decide +kernel
theorem dX9_setUser_7 : decode cX9_setUser 7 = .ok (.invokevirtual 115, 3) := by decide +kernel
theorem dX9_setUser_10 : decode cX9_setUser 10 = .ok (.ifCond .ne 9, 3) := by decide +kernel
theorem dX9_setUser_13 : decode cX9_setUser 13 = .ok (.aload_n 0, 1) := by decide +kernel
theorem dX9_setUser_14 : decode cX9_setUser 14 = .ok (.iconst 1, 1) := by decide +kernel
theorem dX9_setUser_15 : decode cX9_setUser 15 = .ok (.invokevirtual 139, 3) := by decide +kernel
theorem dX9_setUser_18 : decode cX9_setUser 18 = .ok (.ireturn, 1) := by decide +kernel
theorem dX9_setUser_19 : decode cX9_setUser 19 = .ok (.iload_n 2, 1) := by decide +kernel
theorem dX9_setUser_20 : decode cX9_setUser 20 = .ok (.iconst 0, 1) := by decide +kernel
theorem dX9_setUser_21 : decode cX9_setUser 21 = .ok (.iconst 3, 1) := by decide +kernel
theorem dX9_setUser_22 : decode cX9_setUser 22 = .ok (.invokestatic 108, 3) := by decide +kernel
theorem dX9_setUser_25 : decode cX9_setUser 25 = .ok (.ifCond .eq 14, 3) := by decide +kernel
theorem dX9_setUser_28 : decode cX9_setUser 28 = .ok (.iload_n 3, 1) := by decide +kernel
theorem dX9_setUser_29 : decode cX9_setUser 29 = .ok (.iconst 0, 1) := by decide +kernel
theorem dX9_setUser_30 : decode cX9_setUser 30 = .ok (.sipush 255, 3) := by decide +kernel
theorem dX9_setUser_33 : decode cX9_setUser 33 = .ok (.invokestatic 108, 3) := by decide +kernel
theorem dX9_setUser_36 : decode cX9_setUser 36 = .ok (.ifCond .ne 9, 3) := by decide +kernel
theorem dX9_setUser_39 : decode cX9_setUser 39 = .ok (.aload_n 0, 1) := by decide +kernel
theorem dX9_setUser_40 : decode cX9_setUser 40 = .ok (.iconst 2, 1) := by decide +kernel
theorem dX9_setUser_41 : decode cX9_setUser 41 = .ok (.invokevirtual 139, 3) := by decide +kernel
theorem dX9_setUser_44 : decode cX9_setUser 44 = .ok (.ireturn, 1) := by decide +kernel
theorem dX9_setUser_45 : decode cX9_setUser 45 = .ok (.aload_n 0, 1) := by decide +kernel
theorem dX9_setUser_46 : decode cX9_setUser 46 = .ok (.getfield 16, 3) := by decide +kernel
theorem dX9_setUser_49 : decode cX9_setUser 49 = .ok (.iload_n 1, 1) := by decide +kernel
theorem dX9_setUser_50 : decode cX9_setUser 50 = .ok (.iaload, 1) := by decide +kernel
theorem dX9_setUser_51 : decode cX9_setUser 51 = .ok (.istore 4, 2) := by decide +kernel
theorem dX9_setUser_53 : decode cX9_setUser 53 = .ok (.aload_n 0, 1) := by decide +kernel
theorem dX9_setUser_54 : decode cX9_setUser 54 = .ok (.getfield 13, 3) := by decide +kernel
theorem dX9_setUser_57 : decode cX9_setUser 57 = .ok (.iload_n 1, 1) := by decide +kernel
theorem dX9_setUser_58 : decode cX9_setUser 58 = .ok (.iload_n 2, 1) := by decide +kernel
theorem dX9_setUser_59 : decode cX9_setUser 59 = .ok (.iastore, 1) := by decide +kernel
theorem dX9_setUser_60 : decode cX9_setUser 60 = .ok (.aload_n 0, 1) := by decide +kernel
theorem dX9_setUser_61 : decode cX9_setUser 61 = .ok (.getfield 16, 3) := by decide +kernel
theorem dX9_setUser_64 : decode cX9_setUser 64 = .ok (.iload_n 1, 1) := by decide +kernel
theorem dX9_setUser_65 : decode cX9_setUser 65 = .ok (.iload_n 3, 1) := by decide +kernel
theorem dX9_setUser_66 : decode cX9_setUser 66 = .ok (.iastore, 1) := by decide +kernel
theorem dX9_setUser_67 : decode cX9_setUser 67 = .ok (.iload 4, 2) := by decide +kernel
theorem dX9_setUser_69 : decode cX9_setUser 69 = .ok (.ireturn, 1) := by decide +kernel
theorem dX9_setLabel_0 : decode cX9_setLabel 0 = .ok (.aload_n 0, 1) := by decide +kernel
theorem dX9_setLabel_1 : decode cX9_setLabel 1 = .ok (.iconst 0, 1) := by decide +kernel
theorem dX9_setLabel_2 : decode cX9_setLabel 2 = .ok (.putfield 102, 3) := by decide +kernel
theorem dX9_setLabel_5 : decode cX9_setLabel 5 = .ok (.aload_n 0, 1) := by decide +kernel
theorem dX9_setLabel_6 : decode cX9_setLabel 6 = .ok (.iload_n 1, 1) := by decide +kernel
theorem dX9_setLabel_7 : decode cX9_setLabel 7 = .ok (.invokevirtual 122, 3) := by decide +kernel
theorem dX9_setLabel_10 : decode cX9_setLabel 10 = .ok (.ifCond .ne 9, 3) := by decide +kernel
theorem dX9_setLabel_13 : decode cX9_setLabel 13 = .ok (.aload_n 0, 1) := by decide +kernel
theorem dX9_setLabel_14 : decode cX9_setLabel 14 = .ok (.iconst 1, 1) := by decide +kernel
theorem dX9_setLabel_15 : decode cX9_setLabel 15 = .ok (.invokevirtual 139, 3) := by decide +kernel
theorem dX9_setLabel_18 : decode cX9_setLabel 18 = .ok (.ireturn, 1) := by decide +kernel
theorem dX9_setLabel_19 : decode cX9_setLabel 19 = .ok (.iload_n 2, 1) := by decide +kernel
theorem dX9_setLabel_20 : decode cX9_setLabel 20 = .ok (.iconst 0, 1) := by decide +kernel
theorem dX9_setLabel_21 : decode cX9_setLabel 21 = .ok (.iconst 3, 1) := by decide +kernel
theorem dX9_setLabel_22 : decode cX9_setLabel 22 = .ok (.invokestatic 108, 3) := by decide +kernel
theorem dX9_setLabel_25 : decode cX9_setLabel 25 = .ok (.ifCond .ne 9, 3) := by decide +kernel
theorem dX9_setLabel_28 : decode cX9_setLabel 28 = .ok (.aload_n 0, 1) := by decide +kernel
theorem dX9_setLabel_29 : decode cX9_setLabel 29 = .ok (.iconst 2, 1) := by decide +kernel
theorem dX9_setLabel_30 : decode cX9_setLabel 30 = .ok (.invokevirtual 139, 3) := by decide +kernel
theorem dX9_setLabel_33 : decode cX9_setLabel 33 = .ok (.ireturn, 1) := by decide +kernel
theorem dX9_setLabel_34 : decode cX9_setLabel 34 = .ok (.aload_n 0, 1) := by decide +kernel
theorem dX9_setLabel_35 : decode cX9_setLabel 35 = .ok (.getfield 32, 3) := by decide +kernel
theorem dX9_setLabel_38 : decode cX9_setLabel 38 = .ok (.iload_n 1, 1) := by decide +kernel
theorem dX9_setLabel_39 : decode cX9_setLabel 39 = .ok (.iaload, 1) := by decide +kernel
theorem dX9_setLabel_40 : decode cX9_setLabel 40 = .ok (.istore_n 3, 1) := by decide +kernel
theorem dX9_setLabel_41 : decode cX9_setLabel 41 = .ok (.aload_n 0, 1) := by decide +kernel
theorem dX9_setLabel_42 : decode cX9_setLabel 42 = .ok (.getfield 32, 3) := by decide +kernel
theorem dX9_setLabel_45 : decode cX9_setLabel 45 = .ok (.iload_n 1, 1) := by decide +kernel
theorem dX9_setLabel_46 : decode cX9_setLabel 46 = .ok (.iload_n 2, 1) := by decide +kernel
theorem dX9_setLabel_47 : decode cX9_setLabel 47 = .ok (.iastore, 1) := by decide +kernel
theorem dX9_setLabel_48 : decode cX9_setLabel 48 = .ok (.iload_n 3, 1) := by decide +kernel
theorem dX9_setLabel_49 : decode cX9_setLabel 49 = .ok (.ireturn, 1) := by decide +kernel
theorem dX9_setWall_0 : decode cX9_setWall 0 = .ok (.aload_n 0, 1) := by decide +kernel
theorem dX9_setWall_1 : decode cX9_setWall 1 = .ok (.iconst 0, 1) := by decide +kernel
theorem dX9_setWall_2 : decode cX9_setWall 2 = .ok (.putfield 102, 3) := by decide +kernel
theorem dX9_setWall_5 : decode cX9_setWall 5 = .ok (.aload_n 0, 1) := by decide +kernel
theorem dX9_setWall_6 : decode cX9_setWall 6 = .ok (.iload_n 1, 1) := by decide +kernel
theorem dX9_setWall_7 : decode cX9_setWall 7 = .ok (.invokevirtual 122, 3) := by decide +kernel
theorem dX9_setWall_10 : decode cX9_setWall 10 = .ok (.ifCond .ne 9, 3) := by decide +kernel
theorem dX9_setWall_13 : decode cX9_setWall 13 = .ok (.aload_n 0, 1) := by decide +kernel
theorem dX9_setWall_14 : decode cX9_setWall 14 = .ok (.iconst 1, 1) := by decide +kernel
theorem dX9_setWall_15 : decode cX9_setWall 15 = .ok (.invokevirtual 145, 3) := by decide +kernel
theorem dX9_setWall_18 : decode cX9_setWall 18 = .ok (.ireturn, 1) := by decide +kernel
theorem dX9_setWall_19 : decode cX9_setWall 19 = .ok (.iload_n 2, 1) := by decide +kernel
theorem dX9_setWall_20 : decode cX9_setWall 20 = .ok (.iconst (-1), 1) := by decide +kernel
theorem dX9_setWall_21 : decode cX9_setWall 21 = .ok (.iconst 3, 1) := by decide +kernel
theorem dX9_setWall_22 : decode cX9_setWall 22 = .ok (.invokestatic 108, 3) := by decide +kernel
theorem dX9_setWall_25 : decode cX9_setWall 25 = .ok (.ifCond .eq 17, 3) := by decide +kernel
theorem dX9_setWall_28 : decode cX9_setWall 28 = .ok (.iload_n 2, 1) := by decide +kernel
theorem dX9_setWall_29 : decode cX9_setWall 29 = .ok (.iconst (-1), 1) := by decide +kernel
theorem dX9_setWall_30 : decode cX9_setWall 30 = .ok (.if_icmp .eq 18, 3) := by decide +kernel
theorem dX9_setWall_33 : decode cX9_setWall 33 = .ok (.iload_n 3, 1) := by decide +kernel
theorem dX9_setWall_34 : decode cX9_setWall 34 = .ok (.iconst 0, 1) := by decide +kernel
theorem dX9_setWall_35 : decode cX9_setWall 35 = .ok (.iconst 3, 1) := by decide +kernel
theorem dX9_setWall_36 : decode cX9_setWall 36 = .ok (.invokestatic 108, 3) := by decide +kernel
theorem dX9_setWall_39 : decode cX9_setWall 39 = .ok (.ifCond .ne 9, 3) := by decide +kernel
theorem dX9_setWall_42 : decode cX9_setWall 42 = .ok (.aload_n 0, 1) := by decide +kernel
theorem dX9_setWall_43 : decode cX9_setWall 43 = .ok (.iconst 2, 1) := by decide +kernel
theorem dX9_setWall_44 : decode cX9_setWall 44 = .ok (.invokevirtual 145, 3) := by decide +kernel
theorem dX9_setWall_47 : decode cX9_setWall 47 = .ok (.ireturn, 1) := by decide +kernel
theorem dX9_setWall_48 : decode cX9_setWall 48 = .ok (.aload_n 0, 1) := by decide +kernel
theorem dX9_setWall_49 : decode cX9_setWall 49 = .ok (.getfield 35, 3) := by decide +kernel
theorem dX9_setWall_52 : decode cX9_setWall 52 = .ok (.iload_n 1, 1) := by decide +kernel
theorem dX9_setWall_53 : decode cX9_setWall 53 = .ok (.iaload, 1) := by decide +kernel
theorem dX9_setWall_54 : decode cX9_setWall 54 = .ok (.iconst (-1), 1) := by decide +kernel
theorem dX9_setWall_55 : decode cX9_setWall 55 = .ok (.if_icmp .eq 7, 3) := by decide +kernel
theorem dX9_setWall_58 : decode cX9_setWall 58 = .ok (.iconst 1, 1) := by decide +kernel
theorem dX9_setWall_59 : decode cX9_setWall 59 = .ok (.goto 4, 3) := by decide +kernel
theorem dX9_setWall_62 : decode cX9_setWall 62 = .ok (.iconst 0, 1) := by decide +kernel
theorem dX9_setWall_63 : decode cX9_setWall 63 = .ok (.istore 4, 2) := by decide +kernel
theorem dX9_setWall_65 : decode cX9_setWall 65 = .ok (.aload_n 0, 1) := by decide +kernel
theorem dX9_setWall_66 : decode cX9_setWall 66 = .ok (.getfield 35, 3) := by decide +kernel
theorem dX9_setWall_69 : decode cX9_setWall 69 = .ok (.iload_n 1, 1) := by decide +kernel
theorem dX9_setWall_70 : decode cX9_setWall 70 = .ok (.iload_n 2, 1) := by decide +kernel
theorem dX9_setWall_71 : decode cX9_setWall 71 = .ok (.iastore, 1) := by decide +kernel
theorem dX9_setWall_72 : decode cX9_setWall 72 = .ok (.aload_n 0, 1) := by decide +kernel
theorem dX9_setWall_73 : decode cX9_setWall 73 = .ok (.getfield 38, 3) := by decide +kernel
theorem dX9_setWall_76 : decode cX9_setWall 76 = .ok (.iload_n 1, 1) := by decide +kernel
theorem dX9_setWall_77 : decode cX9_setWall 77 = .ok (.iload_n 3, 1) := by decide +kernel
theorem dX9_setWall_78 : decode cX9_setWall 78 = .ok (.iastore, 1) := by decide +kernel
theorem dX9_setWall_79 : decode cX9_setWall 79 = .ok (.iload 4, 2) := by decide +kernel
theorem dX9_setWall_81 : decode cX9_setWall 81 = .ok (.ireturn, 1) := by decide +kernel
theorem dX9_users_0 : decode cX9_users 0 = .ok (.aload_n 0, 1) := by decide +kernel
theorem dX9_users_1 : decode cX9_users 1 = .ok (.aload_n 0, 1) := by decide +kernel
theorem dX9_users_2 : decode cX9_users 2 = .ok (.getfield 105, 3) := by decide +kernel
theorem dX9_users_5 : decode cX9_users 5 = .ok (.invokevirtual 152, 3) := by decide +kernel
theorem dX9_users_8 : decode cX9_users 8 = .ok (.ireturn, 1) := by decide +kernel
theorem dX9_roles_0 : decode cX9_roles 0 = .ok (.aload_n 0, 1) := by decide +kernel
theorem dX9_roles_1 : decode cX9_roles 1 = .ok (.aload_n 0, 1) := by decide +kernel
theorem dX9_roles_2 : decode cX9_roles 2 = .ok (.getfield 112, 3) := by decide +kernel
theorem dX9_roles_5 : decode cX9_roles 5 = .ok (.invokevirtual 152, 3) := by decide +kernel
theorem dX9_roles_8 : decode cX9_roles 8 = .ok (.ireturn, 1) := by decide +kernel
theorem dX9_resources_0 : decode cX9_resources 0 = .ok (.aload_n 0, 1) := by decide +kernel
theorem dX9_resources_1 : decode cX9_resources 1 = .ok (.aload_n 0, 1) := by decide +kernel
theorem dX9_resources_2 : decode cX9_resources 2 = .ok (.getfield 25, 3) := by decide +kernel
theorem dX9_resources_5 : decode cX9_resources 5 = .ok (.invokevirtual 152, 3) := by decide +kernel
theorem dX9_resources_8 : decode cX9_resources 8 = .ok (.ireturn, 1) := by decide +kernel
theorem dX9_orNone_0 : decode cX9_orNone 0 = .ok (.iload_n 0, 1) := by decide +kernel
theorem dX9_orNone_1 : decode cX9_orNone 1 = .ok (.bipush 99, 2) := by decide +kernel
theorem dX9_orNone_3 : decode cX9_orNone 3 = .ok (.if_icmp .ne 7, 3) := by decide +kernel
theorem dX9_orNone_6 : decode cX9_orNone 6 = .ok (.iconst (-1), 1) := by decide +kernel
theorem dX9_orNone_7 : decode cX9_orNone 7 = .ok (.goto 4, 3) := by decide +kernel
theorem dX9_orNone_10 : decode cX9_orNone 10 = .ok (.iload_n 0, 1) := by decide +kernel
theorem dX9_orNone_11 : decode cX9_orNone 11 = .ok (.ireturn, 1) := by decide +kernel
theorem dX9_near_0 : decode cX9_near 0 = .ok (.aload_n 0, 1) := by decide +kernel
theorem dX9_near_1 : decode cX9_near 1 = .ok (.iconst 0, 1) := by decide +kernel
theorem dX9_near_2 : decode cX9_near 2 = .ok (.putfield 102, 3) := by decide +kernel
theorem dX9_near_5 : decode cX9_near 5 = .ok (.aload_n 0, 1) := by decide +kernel
theorem dX9_near_6 : decode cX9_near 6 = .ok (.iload_n 1, 1) := by decide +kernel
theorem dX9_near_7 : decode cX9_near 7 = .ok (.invokevirtual 115, 3) := by decide +kernel
theorem dX9_near_10 : decode cX9_near 10 = .ok (.ifCond .eq 29, 3) := by decide +kernel
theorem dX9_near_13 : decode cX9_near 13 = .ok (.aload_n 0, 1) := by decide +kernel
theorem dX9_near_14 : decode cX9_near 14 = .ok (.iload_n 2, 1) := by decide +kernel
theorem dX9_near_15 : decode cX9_near 15 = .ok (.invokevirtual 142, 3) := by decide +kernel
theorem dX9_near_18 : decode cX9_near 18 = .ok (.ifCond .eq 21, 3) := by decide +kernel
theorem dX9_near_21 : decode cX9_near 21 = .ok (.aload_n 0, 1) := by decide +kernel
theorem dX9_near_22 : decode cX9_near 22 = .ok (.aload_n 0, 1) := by decide +kernel
theorem dX9_near_23 : decode cX9_near 23 = .ok (.getfield 9, 3) := by decide +kernel
theorem dX9_near_26 : decode cX9_near 26 = .ok (.iload_n 1, 1) := by decide +kernel
theorem dX9_near_27 : decode cX9_near 27 = .ok (.iaload, 1) := by decide +kernel
theorem dX9_near_28 : decode cX9_near 28 = .ok (.invokevirtual 155, 3) := by decide +kernel
theorem dX9_near_31 : decode cX9_near 31 = .ok (.iload_n 2, 1) := by decide +kernel
theorem dX9_near_32 : decode cX9_near 32 = .ok (.iaload, 1) := by decide +kernel
theorem dX9_near_33 : decode cX9_near 33 = .ok (.invokestatic 158, 3) := by decide +kernel
theorem dX9_near_36 : decode cX9_near 36 = .ok (.goto 8, 3) := by decide +kernel
theorem dX9_near_39 : decode cX9_near 39 = .ok (.aload_n 0, 1) := by decide +kernel
theorem dX9_near_40 : decode cX9_near 40 = .ok (.iconst 1, 1) := by decide +kernel
theorem dX9_near_41 : decode cX9_near 41 = .ok (.invokevirtual 139, 3) := by decide +kernel
theorem dX9_near_44 : decode cX9_near 44 = .ok (.ireturn, 1) := by decide +kernel
theorem dX9_farNow_0 : decode cX9_farNow 0 = .ok (.iconst 0, 1) := by decide +kernel
theorem dX9_farNow_1 : decode cX9_farNow 1 = .ok (.istore_n 3, 1) := by decide +kernel
theorem dX9_farNow_2 : decode cX9_farNow 2 = .ok (.iload_n 1, 1) := by decide +kernel
theorem dX9_farNow_3 : decode cX9_farNow 3 = .ok (.istore 4, 2) := by decide +kernel
theorem dX9_farNow_5 : decode cX9_farNow 5 = .ok (.iload 4, 2) := by decide +kernel
theorem dX9_farNow_7 : decode cX9_farNow 7 = .ok (.iconst (-1), 1) := by decide +kernel
theorem dX9_farNow_8 : decode cX9_farNow 8 = .ok (.if_icmp .eq 26, 3) := by decide +kernel
theorem dX9_farNow_11 : decode cX9_farNow 11 = .ok (.iload 4, 2) := by decide +kernel
theorem dX9_farNow_13 : decode cX9_farNow 13 = .ok (.iload_n 2, 1) := by decide +kernel
theorem dX9_farNow_14 : decode cX9_farNow 14 = .ok (.if_icmp .ne 5, 3) := by decide +kernel
theorem dX9_farNow_17 : decode cX9_farNow 17 = .ok (.iload_n 3, 1) := by decide +kernel
theorem dX9_farNow_18 : decode cX9_farNow 18 = .ok (.ireturn, 1) := by decide +kernel
theorem dX9_farNow_19 : decode cX9_farNow 19 = .ok (.iinc 3 1, 3) := by decide +kernel
theorem dX9_farNow_22 : decode cX9_farNow 22 = .ok (.aload_n 0, 1) := by decide +kernel
theorem dX9_farNow_23 : decode cX9_farNow 23 = .ok (.getfield 29, 3) := by decide +kernel
theorem dX9_farNow_26 : decode cX9_farNow 26 = .ok (.iload 4, 2) := by decide +kernel
theorem dX9_farNow_28 : decode cX9_farNow 28 = .ok (.iaload, 1) := by decide +kernel
theorem dX9_farNow_29 : decode cX9_farNow 29 = .ok (.istore 4, 2) := by decide +kernel
theorem dX9_farNow_31 : decode cX9_farNow 31 = .ok (.goto (-26), 3) := by decide +kernel
theorem dX9_farNow_34 : decode cX9_farNow 34 = .ok (.iconst (-1), 1) := by decide +kernel
theorem dX9_farNow_35 : decode cX9_farNow 35 = .ok (.ireturn, 1) := by decide +kernel
theorem dX9_far_0 : decode cX9_far 0 = .ok (.aload_n 0, 1) := by decide +kernel
theorem dX9_far_1 : decode cX9_far 1 = .ok (.iconst 0, 1) := by decide +kernel
theorem dX9_far_2 : decode cX9_far 2 = .ok (.putfield 102, 3) := by decide +kernel
theorem dX9_far_5 : decode cX9_far 5 = .ok (.aload_n 0, 1) := by decide +kernel
theorem dX9_far_6 : decode cX9_far 6 = .ok (.iload_n 1, 1) := by decide +kernel
theorem dX9_far_7 : decode cX9_far 7 = .ok (.invokevirtual 122, 3) := by decide +kernel
theorem dX9_far_10 : decode cX9_far 10 = .ok (.ifCond .eq 20, 3) := by decide +kernel
theorem dX9_far_13 : decode cX9_far 13 = .ok (.aload_n 0, 1) := by decide +kernel
theorem dX9_far_14 : decode cX9_far 14 = .ok (.iload_n 2, 1) := by decide +kernel
theorem dX9_far_15 : decode cX9_far 15 = .ok (.invokevirtual 122, 3) := by decide +kernel
theorem dX9_far_18 : decode cX9_far 18 = .ok (.ifCond .eq 12, 3) := by decide +kernel
theorem dX9_far_21 : decode cX9_far 21 = .ok (.aload_n 0, 1) := by decide +kernel
theorem dX9_far_22 : decode cX9_far 22 = .ok (.iload_n 1, 1) := by decide +kernel
theorem dX9_far_23 : decode cX9_far 23 = .ok (.iload_n 2, 1) := by decide +kernel
theorem dX9_far_24 : decode cX9_far 24 = .ok (.invokevirtual 161, 3) := by decide +kernel
theorem dX9_far_27 : decode cX9_far 27 = .ok (.goto 8, 3) := by decide +kernel
theorem dX9_far_30 : decode cX9_far 30 = .ok (.aload_n 0, 1) := by decide +kernel
theorem dX9_far_31 : decode cX9_far 31 = .ok (.iconst 1, 1) := by decide +kernel
theorem dX9_far_32 : decode cX9_far 32 = .ok (.invokevirtual 139, 3) := by decide +kernel
theorem dX9_far_35 : decode cX9_far 35 = .ok (.ireturn, 1) := by decide +kernel
theorem dX9_addRule_0 : decode cX9_addRule 0 = .ok (.aload_n 0, 1) := by decide +kernel
theorem dX9_addRule_1 : decode cX9_addRule 1 = .ok (.iconst 0, 1) := by decide +kernel
theorem dX9_addRule_2 : decode cX9_addRule 2 = .ok (.putfield 102, 3) := by decide +kernel
theorem dX9_addRule_5 : decode cX9_addRule 5 = .ok (.iload_n 2, 1) := by decide +kernel
theorem dX9_addRule_6 : decode cX9_addRule 6 = .ok (.bipush 12, 2) := by decide +kernel
theorem dX9_addRule_8 : decode cX9_addRule 8 = .ok (.if_icmp .lt 14, 3) := by decide +kernel
theorem dX9_addRule_11 : decode cX9_addRule 11 = .ok (.aload_n 0, 1) := by decide +kernel
theorem dX9_addRule_12 : decode cX9_addRule 12 = .ok (.iload_n 2, 1) := by decide +kernel
theorem dX9_addRule_13 : decode cX9_addRule 13 = .ok (.bipush 12, 2) := by decide +kernel
theorem dX9_addRule_15 : decode cX9_addRule 15 = .ok (.isub, 1) := by decide +kernel
theorem dX9_addRule_16 : decode cX9_addRule 16 = .ok (.invokevirtual 142, 3) := by decide +kernel
theorem dX9_addRule_19 : decode cX9_addRule 19 = .ok (.goto 8, 3) := by decide +kernel
theorem dX9_addRule_22 : decode cX9_addRule 22 = .ok (.aload_n 0, 1) := by decide +kernel
theorem dX9_addRule_23 : decode cX9_addRule 23 = .ok (.iload_n 2, 1) := by decide +kernel
theorem dX9_addRule_24 : decode cX9_addRule 24 = .ok (.invokevirtual 115, 3) := by decide +kernel
theorem dX9_addRule_27 : decode cX9_addRule 27 = .ok (.istore 5, 2) := by decide +kernel
theorem dX9_addRule_29 : decode cX9_addRule 29 = .ok (.iload 5, 2) := by decide +kernel
theorem dX9_addRule_31 : decode cX9_addRule 31 = .ok (.ifCond .eq 12, 3) := by decide +kernel
theorem dX9_addRule_34 : decode cX9_addRule 34 = .ok (.aload_n 0, 1) := by decide +kernel
theorem dX9_addRule_35 : decode cX9_addRule 35 = .ok (.iload 4, 2) := by decide +kernel
theorem dX9_addRule_37 : decode cX9_addRule 37 = .ok (.invokevirtual 122, 3) := by decide +kernel
theorem dX9_addRule_40 : decode cX9_addRule 40 = .ok (.ifCond .ne 9, 3) := by decide +kernel
theorem dX9_addRule_43 : decode cX9_addRule 43 = .ok (.aload_n 0, 1) := by decide +kernel
theorem dX9_addRule_44 : decode cX9_addRule 44 = .ok (.iconst 1, 1) := by decide +kernel
theorem dX9_addRule_45 : decode cX9_addRule 45 = .ok (.invokevirtual 139, 3) := by decide +kernel
theorem dX9_addRule_48 : decode cX9_addRule 48 = .ok (.ireturn, 1) := by decide +kernel
theorem dX9_addRule_49 : decode cX9_addRule 49 = .ok (.iload_n 3, 1) := by decide +kernel
theorem dX9_addRule_50 : decode cX9_addRule 50 = .ok (.iconst 1, 1) := by decide +kernel
theorem dX9_addRule_51 : decode cX9_addRule 51 = .ok (.bipush 31, 2) := by decide +kernel
theorem dX9_addRule_53 : decode cX9_addRule 53 = .ok (.invokestatic 108, 3) := by decide +kernel
theorem dX9_addRule_56 : decode cX9_addRule 56 = .ok (.ifCond .ne 9, 3) := by decide +kernel
theorem dX9_addRule_59 : decode cX9_addRule 59 = .ok (.aload_n 0, 1) := by decide +kernel
theorem dX9_addRule_60 : decode cX9_addRule 60 = .ok (.iconst 2, 1) := by decide +kernel
theorem dX9_addRule_61 : decode cX9_addRule 61 = .ok (.invokevirtual 139, 3) := by decide +kernel
theorem dX9_addRule_64 : decode cX9_addRule 64 = .ok (.ireturn, 1) := by decide +kernel
theorem dX9_addRule_65 : decode cX9_addRule 65 = .ok (.aload_n 0, 1) := by decide +kernel
theorem dX9_addRule_66 : decode cX9_addRule 66 = .ok (.getfield 165, 3) := by decide +kernel
theorem dX9_addRule_69 : decode cX9_addRule 69 = .ok (.bipush 30, 2) := by decide +kernel
theorem dX9_addRule_71 : decode cX9_addRule 71 = .ok (.if_icmp .ne 9, 3) := by decide +kernel
theorem dX9_addRule_74 : decode cX9_addRule 74 = .ok (.aload_n 0, 1) := by decide +kernel
theorem dX9_addRule_75 : decode cX9_addRule 75 = .ok (.iconst 3, 1) := by decide +kernel
theorem dX9_addRule_76 : decode cX9_addRule 76 = .ok (.invokevirtual 139, 3) := by decide +kernel
theorem dX9_addRule_79 : decode cX9_addRule 79 = .ok (.ireturn, 1) := by decide +kernel
theorem dX9_addRule_80 : decode cX9_addRule 80 = .ok (.aload_n 0, 1) := by decide +kernel
theorem dX9_addRule_81 : decode cX9_addRule 81 = .ok (.getfield 41, 3) := by decide +kernel
theorem dX9_addRule_84 : decode cX9_addRule 84 = .ok (.aload_n 0, 1) := by decide +kernel
theorem dX9_addRule_85 : decode cX9_addRule 85 = .ok (.getfield 165, 3) := by decide +kernel
theorem dX9_addRule_88 : decode cX9_addRule 88 = .ok (.iload_n 1, 1) := by decide +kernel
theorem dX9_addRule_89 : decode cX9_addRule 89 = .ok (.bastore, 1) := by decide +kernel
theorem dX9_addRule_90 : decode cX9_addRule 90 = .ok (.aload_n 0, 1) := by decide +kernel
theorem dX9_addRule_91 : decode cX9_addRule 91 = .ok (.getfield 48, 3) := by decide +kernel
theorem dX9_addRule_94 : decode cX9_addRule 94 = .ok (.aload_n 0, 1) := by decide +kernel
theorem dX9_addRule_95 : decode cX9_addRule 95 = .ok (.getfield 165, 3) := by decide +kernel
theorem dX9_addRule_98 : decode cX9_addRule 98 = .ok (.iload_n 2, 1) := by decide +kernel
theorem dX9_addRule_99 : decode cX9_addRule 99 = .ok (.iastore, 1) := by decide +kernel
theorem dX9_addRule_100 : decode cX9_addRule 100 = .ok (.aload_n 0, 1) := by decide +kernel
theorem dX9_addRule_101 : decode cX9_addRule 101 = .ok (.getfield 51, 3) := by decide +kernel
theorem dX9_addRule_104 : decode cX9_addRule 104 = .ok (.aload_n 0, 1) := by decide +kernel
theorem dX9_addRule_105 : decode cX9_addRule 105 = .ok (.getfield 165, 3) := by decide +kernel
theorem dX9_addRule_108 : decode cX9_addRule 108 = .ok (.iload_n 3, 1) := by decide +kernel
theorem dX9_addRule_109 : decode cX9_addRule 109 = .ok (.iastore, 1) := by decide +kernel
theorem dX9_addRule_110 : decode cX9_addRule 110 = .ok (.aload_n 0, 1) := by decide +kernel
theorem dX9_addRule_111 : decode cX9_addRule 111 = .ok (.getfield 54, 3) := by decide +kernel
theorem dX9_addRule_114 : decode cX9_addRule 114 = .ok (.aload_n 0, 1) := by decide +kernel
theorem dX9_addRule_115 : decode cX9_addRule 115 = .ok (.getfield 165, 3) := by decide +kernel
theorem dX9_addRule_118 : decode cX9_addRule 118 = .ok (.iload 4, 2) := by decide +kernel
theorem dX9_addRule_120 : decode cX9_addRule 120 = .ok (.iastore, 1) := by decide +kernel
theorem dX9_addRule_121 : decode cX9_addRule 121 = .ok (.aload_n 0, 1) := by decide +kernel
theorem dX9_addRule_122 : decode cX9_addRule 122 = .ok (.getfield 45, 3) := by decide +kernel
theorem dX9_addRule_125 : decode cX9_addRule 125 = .ok (.aload_n 0, 1) := by decide +kernel
theorem dX9_addRule_126 : decode cX9_addRule 126 = .ok (.getfield 165, 3) := by decide +kernel
theorem dX9_addRule_129 : decode cX9_addRule 129 = .ok (.iconst 0, 1) := by decide +kernel
theorem dX9_addRule_130 : decode cX9_addRule 130 = .ok (.bastore, 1) := by decide +kernel
theorem dX9_addRule_131 : decode cX9_addRule 131 = .ok (.aload_n 0, 1) := by decide +kernel
theorem dX9_addRule_132 : decode cX9_addRule 132 = .ok (.getfield 57, 3) := by decide +kernel
theorem dX9_addRule_135 : decode cX9_addRule 135 = .ok (.aload_n 0, 1) := by decide +kernel
theorem dX9_addRule_136 : decode cX9_addRule 136 = .ok (.getfield 165, 3) := by decide +kernel
theorem dX9_addRule_139 : decode cX9_addRule 139 = .ok (.iconst 0, 1) := by decide +kernel
theorem dX9_addRule_140 : decode cX9_addRule 140 = .ok (.iastore, 1) := by decide +kernel
theorem dX9_addRule_141 : decode cX9_addRule 141 = .ok (.aload_n 0, 1) := by decide +kernel
theorem dX9_addRule_142 : decode cX9_addRule 142 = .ok (.getfield 60, 3) := by decide +kernel
theorem dX9_addRule_145 : decode cX9_addRule 145 = .ok (.aload_n 0, 1) := by decide +kernel
theorem dX9_addRule_146 : decode cX9_addRule 146 = .ok (.getfield 165, 3) := by decide +kernel
theorem dX9_addRule_149 : decode cX9_addRule 149 = .ok (.iconst 0, 1) := by decide +kernel
theorem dX9_addRule_150 : decode cX9_addRule 150 = .ok (.iastore, 1) := by decide +kernel
theorem dX9_addRule_151 : decode cX9_addRule 151 = .ok (.aload_n 0, 1) := by decide +kernel
theorem dX9_addRule_152 : decode cX9_addRule 152 = .ok (.getfield 63, 3) := by decide +kernel
theorem dX9_addRule_155 : decode cX9_addRule 155 = .ok (.aload_n 0, 1) := by decide +kernel
theorem dX9_addRule_156 : decode cX9_addRule 156 = .ok (.getfield 165, 3) := by decide +kernel
theorem dX9_addRule_159 : decode cX9_addRule 159 = .ok (.iconst 0, 1) := by decide +kernel
theorem dX9_addRule_160 : decode cX9_addRule 160 = .ok (.iastore, 1) := by decide +kernel
theorem dX9_addRule_161 : decode cX9_addRule 161 = .ok (.aload_n 0, 1) := by decide +kernel
theorem dX9_addRule_162 : decode cX9_addRule 162 = .ok (.getfield 66, 3) := by decide +kernel
theorem dX9_addRule_165 : decode cX9_addRule 165 = .ok (.aload_n 0, 1) := by decide +kernel
theorem dX9_addRule_166 : decode cX9_addRule 166 = .ok (.getfield 165, 3) := by decide +kernel
theorem dX9_addRule_169 : decode cX9_addRule 169 = .ok (.bipush 23, 2) := by decide +kernel
theorem dX9_addRule_171 : decode cX9_addRule 171 = .ok (.iastore, 1) := by decide +kernel
theorem dX9_addRule_172 : decode cX9_addRule 172 = .ok (.aload_n 0, 1) := by decide +kernel
theorem dX9_addRule_173 : decode cX9_addRule 173 = .ok (.dup, 1) := by decide +kernel
theorem dX9_addRule_174 : decode cX9_addRule 174 = .ok (.getfield 165, 3) := by decide +kernel
theorem dX9_addRule_177 : decode cX9_addRule 177 = .ok (.dup_x1, 1) := by decide +kernel
theorem dX9_addRule_178 : decode cX9_addRule 178 = .ok (.iconst 1, 1) := by decide +kernel
theorem dX9_addRule_179 : decode cX9_addRule 179 = .ok (.iadd, 1) := by decide +kernel
theorem dX9_addRule_180 : decode cX9_addRule 180 = .ok (.putfield 165, 3) := by decide +kernel
theorem dX9_addRule_183 : decode cX9_addRule 183 = .ok (.ireturn, 1) := by decide +kernel
theorem dX9_isRule_0 : decode cX9_isRule 0 = .ok (.iload_n 1, 1) := by decide +kernel
theorem dX9_isRule_1 : decode cX9_isRule 1 = .ok (.iconst 0, 1) := by decide +kernel
theorem dX9_isRule_2 : decode cX9_isRule 2 = .ok (.aload_n 0, 1) := by decide +kernel
theorem dX9_isRule_3 : decode cX9_isRule 3 = .ok (.getfield 165, 3) := by decide +kernel
theorem dX9_isRule_6 : decode cX9_isRule 6 = .ok (.iconst 1, 1) := by decide +kernel
theorem dX9_isRule_7 : decode cX9_isRule 7 = .ok (.isub, 1) := by decide +kernel
theorem dX9_isRule_8 : decode cX9_isRule 8 = .ok (.invokestatic 108, 3) := by decide +kernel
theorem dX9_isRule_11 : decode cX9_isRule 11 = .ok (.ireturn, 1) := by decide +kernel
theorem dX9_setRule_0 : decode cX9_setRule 0 = .ok (.aload_n 0, 1) := by decide +kernel
theorem dX9_setRule_1 : decode cX9_setRule 1 = .ok (.iconst 0, 1) := by decide +kernel
theorem dX9_setRule_2 : decode cX9_setRule 2 = .ok (.putfield 102, 3) := by decide +kernel
theorem dX9_setRule_5 : decode cX9_setRule 5 = .ok (.aload_n 0, 1) := by decide +kernel
theorem dX9_setRule_6 : decode cX9_setRule 6 = .ok (.iload_n 1, 1) := by decide +kernel
theorem dX9_setRule_7 : decode cX9_setRule 7 = .ok (.invokevirtual 168, 3) := by decide +kernel
theorem dX9_setRule_10 : decode cX9_setRule 10 = .ok (.ifCond .ne 9, 3) := by decide +kernel
theorem dX9_setRule_13 : decode cX9_setRule 13 = .ok (.aload_n 0, 1) := by decide +kernel
theorem dX9_setRule_14 : decode cX9_setRule 14 = .ok (.iconst 1, 1) := by decide +kernel
theorem dX9_setRule_15 : decode cX9_setRule 15 = .ok (.invokevirtual 139, 3) := by decide +kernel
theorem dX9_setRule_18 : decode cX9_setRule 18 = .ok (.ireturn, 1) := by decide +kernel
theorem dX9_setRule_19 : decode cX9_setRule 19 = .ok (.iload_n 3, 1) := by decide +kernel
theorem dX9_setRule_20 : decode cX9_setRule 20 = .ok (.iconst 0, 1) := by decide +kernel
theorem dX9_setRule_21 : decode cX9_setRule 21 = .ok (.bipush 9, 2) := by decide +kernel
theorem dX9_setRule_23 : decode cX9_setRule 23 = .ok (.invokestatic 108, 3) := by decide +kernel
theorem dX9_setRule_26 : decode cX9_setRule 26 = .ok (.ifCond .ne 9, 3) := by decide +kernel
theorem dX9_setRule_29 : decode cX9_setRule 29 = .ok (.aload_n 0, 1) := by decide +kernel
theorem dX9_setRule_30 : decode cX9_setRule 30 = .ok (.iconst 2, 1) := by decide +kernel
theorem dX9_setRule_31 : decode cX9_setRule 31 = .ok (.invokevirtual 139, 3) := by decide +kernel
theorem dX9_setRule_34 : decode cX9_setRule 34 = .ok (.ireturn, 1) := by decide +kernel
theorem dX9_setRule_35 : decode cX9_setRule 35 = .ok (.aload_n 0, 1) := by decide +kernel
theorem dX9_setRule_36 : decode cX9_setRule 36 = .ok (.getfield 57, 3) := by decide +kernel
theorem dX9_setRule_39 : decode cX9_setRule 39 = .ok (.iload_n 1, 1) := by decide +kernel
theorem dX9_setRule_40 : decode cX9_setRule 40 = .ok (.iaload, 1) := by decide +kernel
theorem dX9_setRule_41 : decode cX9_setRule 41 = .ok (.istore 4, 2) := by decide +kernel
theorem dX9_setRule_43 : decode cX9_setRule 43 = .ok (.aload_n 0, 1) := by decide +kernel
theorem dX9_setRule_44 : decode cX9_setRule 44 = .ok (.getfield 45, 3) := by decide +kernel
theorem dX9_setRule_47 : decode cX9_setRule 47 = .ok (.iload_n 1, 1) := by decide +kernel
theorem dX9_setRule_48 : decode cX9_setRule 48 = .ok (.iload_n 2, 1) := by decide +kernel
theorem dX9_setRule_49 : decode cX9_setRule 49 = .ok (.bastore, 1) := by decide +kernel
theorem dX9_setRule_50 : decode cX9_setRule 50 = .ok (.aload_n 0, 1) := by decide +kernel
theorem dX9_setRule_51 : decode cX9_setRule 51 = .ok (.getfield 57, 3) := by decide +kernel
theorem dX9_setRule_54 : decode cX9_setRule 54 = .ok (.iload_n 1, 1) := by decide +kernel
theorem dX9_setRule_55 : decode cX9_setRule 55 = .ok (.iload_n 3, 1) := by decide +kernel
theorem dX9_setRule_56 : decode cX9_setRule 56 = .ok (.iastore, 1) := by decide +kernel
theorem dX9_setRule_57 : decode cX9_setRule 57 = .ok (.iload 4, 2) := by decide +kernel
theorem dX9_setRule_59 : decode cX9_setRule 59 = .ok (.ireturn, 1) := by decide +kernel
theorem dX9_setTerms_0 : decode cX9_setTerms 0 = .ok (.aload_n 0, 1) := by decide +kernel
theorem dX9_setTerms_1 : decode cX9_setTerms 1 = .ok (.iconst 0, 1) := by decide +kernel
theorem dX9_setTerms_2 : decode cX9_setTerms 2 = .ok (.putfield 102, 3) := by decide +kernel
theorem dX9_setTerms_5 : decode cX9_setTerms 5 = .ok (.aload_n 0, 1) := by decide +kernel
theorem dX9_setTerms_6 : decode cX9_setTerms 6 = .ok (.iload_n 1, 1) := by decide +kernel
theorem dX9_setTerms_7 : decode cX9_setTerms 7 = .ok (.invokevirtual 168, 3) := by decide +kernel
theorem dX9_setTerms_10 : decode cX9_setTerms 10 = .ok (.ifCond .ne 9, 3) := by decide +kernel
theorem dX9_setTerms_13 : decode cX9_setTerms 13 = .ok (.aload_n 0, 1) := by decide +kernel
theorem dX9_setTerms_14 : decode cX9_setTerms 14 = .ok (.iconst 1, 1) := by decide +kernel
theorem dX9_setTerms_15 : decode cX9_setTerms 15 = .ok (.invokevirtual 139, 3) := by decide +kernel
theorem dX9_setTerms_18 : decode cX9_setTerms 18 = .ok (.ireturn, 1) := by decide +kernel
theorem dX9_setTerms_19 : decode cX9_setTerms 19 = .ok (.iload_n 2, 1) := by decide +kernel
theorem dX9_setTerms_20 : decode cX9_setTerms 20 = .ok (.iconst 0, 1) := by decide +kernel
theorem dX9_setTerms_21 : decode cX9_setTerms 21 = .ok (.sipush 255, 3) := by decide +kernel
theorem dX9_setTerms_24 : decode cX9_setTerms 24 = .ok (.invokestatic 108, 3) := by decide +kernel
theorem dX9_setTerms_27 : decode cX9_setTerms 27 = .ok (.ifCond .eq 24, 3) := by decide +kernel
theorem dX9_setTerms_30 : decode cX9_setTerms 30 = .ok (.iload_n 3, 1) := by decide +kernel
theorem dX9_setTerms_31 : decode cX9_setTerms 31 = .ok (.iconst 0, 1) := by decide +kernel
theorem dX9_setTerms_32 : decode cX9_setTerms 32 = .ok (.bipush 23, 2) := by decide +kernel
theorem dX9_setTerms_34 : decode cX9_setTerms 34 = .ok (.invokestatic 108, 3) := by decide +kernel
theorem dX9_setTerms_37 : decode cX9_setTerms 37 = .ok (.ifCond .eq 14, 3) := by decide +kernel
theorem dX9_setTerms_40 : decode cX9_setTerms 40 = .ok (.iload 4, 2) := by decide +kernel
theorem dX9_setTerms_42 : decode cX9_setTerms 42 = .ok (.iconst 0, 1) := by decide +kernel
theorem dX9_setTerms_43 : decode cX9_setTerms 43 = .ok (.bipush 23, 2) := by decide +kernel
theorem dX9_setTerms_45 : decode cX9_setTerms 45 = .ok (.invokestatic 108, 3) := by decide +kernel
theorem dX9_setTerms_48 : decode cX9_setTerms 48 = .ok (.ifCond .ne 9, 3) := by decide +kernel
theorem dX9_setTerms_51 : decode cX9_setTerms 51 = .ok (.aload_n 0, 1) := by decide +kernel
theorem dX9_setTerms_52 : decode cX9_setTerms 52 = .ok (.iconst 2, 1) := by decide +kernel
theorem dX9_setTerms_53 : decode cX9_setTerms 53 = .ok (.invokevirtual 139, 3) := by decide +kernel
theorem dX9_setTerms_56 : decode cX9_setTerms 56 = .ok (.ireturn, 1) := by decide +kernel
theorem dX9_setTerms_57 : decode cX9_setTerms 57 = .ok (.aload_n 0, 1) := by decide +kernel
theorem dX9_setTerms_58 : decode cX9_setTerms 58 = .ok (.getfield 60, 3) := by decide +kernel
theorem dX9_setTerms_61 : decode cX9_setTerms 61 = .ok (.iload_n 1, 1) := by decide +kernel
theorem dX9_setTerms_62 : decode cX9_setTerms 62 = .ok (.iaload, 1) := by decide +kernel
theorem dX9_setTerms_63 : decode cX9_setTerms 63 = .ok (.istore 5, 2) := by decide +kernel
theorem dX9_setTerms_65 : decode cX9_setTerms 65 = .ok (.aload_n 0, 1) := by decide +kernel
theorem dX9_setTerms_66 : decode cX9_setTerms 66 = .ok (.getfield 60, 3) := by decide +kernel
theorem dX9_setTerms_69 : decode cX9_setTerms 69 = .ok (.iload_n 1, 1) := by decide +kernel
theorem dX9_setTerms_70 : decode cX9_setTerms 70 = .ok (.iload_n 2, 1) := by decide +kernel
theorem dX9_setTerms_71 : decode cX9_setTerms 71 = .ok (.iastore, 1) := by decide +kernel
theorem dX9_setTerms_72 : decode cX9_setTerms 72 = .ok (.aload_n 0, 1) := by decide +kernel
theorem dX9_setTerms_73 : decode cX9_setTerms 73 = .ok (.getfield 63, 3) := by decide +kernel
theorem dX9_setTerms_76 : decode cX9_setTerms 76 = .ok (.iload_n 1, 1) := by decide +kernel
theorem dX9_setTerms_77 : decode cX9_setTerms 77 = .ok (.iload_n 3, 1) := by decide +kernel
theorem dX9_setTerms_78 : decode cX9_setTerms 78 = .ok (.iastore, 1) := by decide +kernel
theorem dX9_setTerms_79 : decode cX9_setTerms 79 = .ok (.aload_n 0, 1) := by decide +kernel
theorem dX9_setTerms_80 : decode cX9_setTerms 80 = .ok (.getfield 66, 3) := by decide +kernel
theorem dX9_setTerms_83 : decode cX9_setTerms 83 = .ok (.iload_n 1, 1) := by decide +kernel
theorem dX9_setTerms_84 : decode cX9_setTerms 84 = .ok (.iload 4, 2) := by decide +kernel
theorem dX9_setTerms_86 : decode cX9_setTerms 86 = .ok (.iastore, 1) := by decide +kernel
theorem dX9_setTerms_87 : decode cX9_setTerms 87 = .ok (.iload 5, 2) := by decide +kernel
theorem dX9_setTerms_89 : decode cX9_setTerms 89 = .ok (.ireturn, 1) := by decide +kernel
theorem dX9_dropRule_0 : decode cX9_dropRule 0 = .ok (.aload_n 0, 1) := by decide +kernel
theorem dX9_dropRule_1 : decode cX9_dropRule 1 = .ok (.iconst 0, 1) := by decide +kernel
theorem dX9_dropRule_2 : decode cX9_dropRule 2 = .ok (.putfield 102, 3) := by decide +kernel
theorem dX9_dropRule_5 : decode cX9_dropRule 5 = .ok (.aload_n 0, 1) := by decide +kernel
theorem dX9_dropRule_6 : decode cX9_dropRule 6 = .ok (.iload_n 1, 1) := by decide +kernel
theorem dX9_dropRule_7 : decode cX9_dropRule 7 = .ok (.invokevirtual 168, 3) := by decide +kernel
theorem dX9_dropRule_10 : decode cX9_dropRule 10 = .ok (.ifCond .ne 9, 3) := by decide +kernel
theorem dX9_dropRule_13 : decode cX9_dropRule 13 = .ok (.aload_n 0, 1) := by decide +kernel
theorem dX9_dropRule_14 : decode cX9_dropRule 14 = .ok (.iconst 1, 1) := by decide +kernel
theorem dX9_dropRule_15 : decode cX9_dropRule 15 = .ok (.invokevirtual 139, 3) := by decide +kernel
theorem dX9_dropRule_18 : decode cX9_dropRule 18 = .ok (.ireturn, 1) := by decide +kernel
theorem dX9_dropRule_19 : decode cX9_dropRule 19 = .ok (.aload_n 0, 1) := by decide +kernel
theorem dX9_dropRule_20 : decode cX9_dropRule 20 = .ok (.dup, 1) := by decide +kernel
theorem dX9_dropRule_21 : decode cX9_dropRule 21 = .ok (.getfield 165, 3) := by decide +kernel
theorem dX9_dropRule_24 : decode cX9_dropRule 24 = .ok (.iconst 1, 1) := by decide +kernel
theorem dX9_dropRule_25 : decode cX9_dropRule 25 = .ok (.isub, 1) := by decide +kernel
theorem dX9_dropRule_26 : decode cX9_dropRule 26 = .ok (.putfield 165, 3) := by decide +kernel
theorem dX9_dropRule_29 : decode cX9_dropRule 29 = .ok (.iload_n 1, 1) := by decide +kernel
theorem dX9_dropRule_30 : decode cX9_dropRule 30 = .ok (.istore_n 2, 1) := by decide +kernel
theorem dX9_dropRule_31 : decode cX9_dropRule 31 = .ok (.iload_n 2, 1) := by decide +kernel
theorem dX9_dropRule_32 : decode cX9_dropRule 32 = .ok (.aload_n 0, 1) := by decide +kernel
theorem dX9_dropRule_33 : decode cX9_dropRule 33 = .ok (.getfield 165, 3) := by decide +kernel
theorem dX9_dropRule_36 : decode cX9_dropRule 36 = .ok (.if_icmp .ge 135, 3) := by decide +kernel
theorem dX9_dropRule_39 : decode cX9_dropRule 39 = .ok (.aload_n 0, 1) := by decide +kernel
theorem dX9_dropRule_40 : decode cX9_dropRule 40 = .ok (.getfield 41, 3) := by decide +kernel
theorem dX9_dropRule_43 : decode cX9_dropRule 43 = .ok (.iload_n 2, 1) := by decide +kernel
theorem dX9_dropRule_44 : decode cX9_dropRule 44 = .ok (.aload_n 0, 1) := by decide +kernel
theorem dX9_dropRule_45 : decode cX9_dropRule 45 = .ok (.getfield 41, 3) := by decide +kernel
theorem dX9_dropRule_48 : decode cX9_dropRule 48 = .ok (.iload_n 2, 1) := by decide +kernel
theorem dX9_dropRule_49 : decode cX9_dropRule 49 = .ok (.iconst 1, 1) := by decide +kernel
theorem dX9_dropRule_50 : decode cX9_dropRule 50 = .ok (.iadd, 1) := by decide +kernel
theorem dX9_dropRule_51 : decode cX9_dropRule 51 = .ok (.baload, 1) := by decide +kernel
theorem dX9_dropRule_52 : decode cX9_dropRule 52 = .ok (.bastore, 1) := by decide +kernel
theorem dX9_dropRule_53 : decode cX9_dropRule 53 = .ok (.aload_n 0, 1) := by decide +kernel
theorem dX9_dropRule_54 : decode cX9_dropRule 54 = .ok (.getfield 45, 3) := by decide +kernel
theorem dX9_dropRule_57 : decode cX9_dropRule 57 = .ok (.iload_n 2, 1) := by decide +kernel
theorem dX9_dropRule_58 : decode cX9_dropRule 58 = .ok (.aload_n 0, 1) := by decide +kernel
theorem dX9_dropRule_59 : decode cX9_dropRule 59 = .ok (.getfield 45, 3) := by decide +kernel
theorem dX9_dropRule_62 : decode cX9_dropRule 62 = .ok (.iload_n 2, 1) := by decide +kernel
theorem dX9_dropRule_63 : decode cX9_dropRule 63 = .ok (.iconst 1, 1) := by decide +kernel
theorem dX9_dropRule_64 : decode cX9_dropRule 64 = .ok (.iadd, 1) := by decide +kernel
theorem dX9_dropRule_65 : decode cX9_dropRule 65 = .ok (.baload, 1) := by decide +kernel
theorem dX9_dropRule_66 : decode cX9_dropRule 66 = .ok (.bastore, 1) := by decide +kernel
theorem dX9_dropRule_67 : decode cX9_dropRule 67 = .ok (.aload_n 0, 1) := by decide +kernel
theorem dX9_dropRule_68 : decode cX9_dropRule 68 = .ok (.getfield 48, 3) := by decide +kernel
theorem dX9_dropRule_71 : decode cX9_dropRule 71 = .ok (.iload_n 2, 1) := by decide +kernel
theorem dX9_dropRule_72 : decode cX9_dropRule 72 = .ok (.aload_n 0, 1) := by decide +kernel
theorem dX9_dropRule_73 : decode cX9_dropRule 73 = .ok (.getfield 48, 3) := by decide +kernel
theorem dX9_dropRule_76 : decode cX9_dropRule 76 = .ok (.iload_n 2, 1) := by decide +kernel
theorem dX9_dropRule_77 : decode cX9_dropRule 77 = .ok (.iconst 1, 1) := by decide +kernel
theorem dX9_dropRule_78 : decode cX9_dropRule 78 = .ok (.iadd, 1) := by decide +kernel
theorem dX9_dropRule_79 : decode cX9_dropRule 79 = .ok (.iaload, 1) := by decide +kernel
theorem dX9_dropRule_80 : decode cX9_dropRule 80 = .ok (.iastore, 1) := by decide +kernel
theorem dX9_dropRule_81 : decode cX9_dropRule 81 = .ok (.aload_n 0, 1) := by decide +kernel
theorem dX9_dropRule_82 : decode cX9_dropRule 82 = .ok (.getfield 51, 3) := by decide +kernel
theorem dX9_dropRule_85 : decode cX9_dropRule 85 = .ok (.iload_n 2, 1) := by decide +kernel
theorem dX9_dropRule_86 : decode cX9_dropRule 86 = .ok (.aload_n 0, 1) := by decide +kernel
theorem dX9_dropRule_87 : decode cX9_dropRule 87 = .ok (.getfield 51, 3) := by decide +kernel
theorem dX9_dropRule_90 : decode cX9_dropRule 90 = .ok (.iload_n 2, 1) := by decide +kernel
theorem dX9_dropRule_91 : decode cX9_dropRule 91 = .ok (.iconst 1, 1) := by decide +kernel
theorem dX9_dropRule_92 : decode cX9_dropRule 92 = .ok (.iadd, 1) := by decide +kernel
theorem dX9_dropRule_93 : decode cX9_dropRule 93 = .ok (.iaload, 1) := by decide +kernel
theorem dX9_dropRule_94 : decode cX9_dropRule 94 = .ok (.iastore, 1) := by decide +kernel
theorem dX9_dropRule_95 : decode cX9_dropRule 95 = .ok (.aload_n 0, 1) := by decide +kernel
theorem dX9_dropRule_96 : decode cX9_dropRule 96 = .ok (.getfield 54, 3) := by decide +kernel
theorem dX9_dropRule_99 : decode cX9_dropRule 99 = .ok (.iload_n 2, 1) := by decide +kernel
theorem dX9_dropRule_100 : decode cX9_dropRule 100 = .ok (.aload_n 0, 1) := by decide +kernel
theorem dX9_dropRule_101 : decode cX9_dropRule 101 = .ok (.getfield 54, 3) := by decide +kernel
theorem dX9_dropRule_104 : decode cX9_dropRule 104 = .ok (.iload_n 2, 1) := by decide +kernel
theorem dX9_dropRule_105 : decode cX9_dropRule 105 = .ok (.iconst 1, 1) := by decide +kernel
theorem dX9_dropRule_106 : decode cX9_dropRule 106 = .ok (.iadd, 1) := by decide +kernel
theorem dX9_dropRule_107 : decode cX9_dropRule 107 = .ok (.iaload, 1) := by decide +kernel
theorem dX9_dropRule_108 : decode cX9_dropRule 108 = .ok (.iastore, 1) := by decide +kernel
theorem dX9_dropRule_109 : decode cX9_dropRule 109 = .ok (.aload_n 0, 1) := by decide +kernel
theorem dX9_dropRule_110 : decode cX9_dropRule 110 = .ok (.getfield 57, 3) := by decide +kernel
theorem dX9_dropRule_113 : decode cX9_dropRule 113 = .ok (.iload_n 2, 1) := by decide +kernel
theorem dX9_dropRule_114 : decode cX9_dropRule 114 = .ok (.aload_n 0, 1) := by decide +kernel
theorem dX9_dropRule_115 : decode cX9_dropRule 115 = .ok (.getfield 57, 3) := by decide +kernel
theorem dX9_dropRule_118 : decode cX9_dropRule 118 = .ok (.iload_n 2, 1) := by decide +kernel
theorem dX9_dropRule_119 : decode cX9_dropRule 119 = .ok (.iconst 1, 1) := by decide +kernel
theorem dX9_dropRule_120 : decode cX9_dropRule 120 = .ok (.iadd, 1) := by decide +kernel
theorem dX9_dropRule_121 : decode cX9_dropRule 121 = .ok (.iaload, 1) := by decide +kernel
theorem dX9_dropRule_122 : decode cX9_dropRule 122 = .ok (.iastore, 1) := by decide +kernel
theorem dX9_dropRule_123 : decode cX9_dropRule 123 = .ok (.aload_n 0, 1) := by decide +kernel
theorem dX9_dropRule_124 : decode cX9_dropRule 124 = .ok (.getfield 60, 3) := by decide +kernel
theorem dX9_dropRule_127 : decode cX9_dropRule 127 = .ok (.iload_n 2, 1) := by decide +kernel
theorem dX9_dropRule_128 : decode cX9_dropRule 128 = .ok (.aload_n 0, 1) := by decide +kernel
theorem dX9_dropRule_129 : decode cX9_dropRule 129 = .ok (.getfield 60, 3) := by decide +kernel
theorem dX9_dropRule_132 : decode cX9_dropRule 132 = .ok (.iload_n 2, 1) := by decide +kernel
theorem dX9_dropRule_133 : decode cX9_dropRule 133 = .ok (.iconst 1, 1) := by decide +kernel
theorem dX9_dropRule_134 : decode cX9_dropRule 134 = .ok (.iadd, 1) := by decide +kernel
theorem dX9_dropRule_135 : decode cX9_dropRule 135 = .ok (.iaload, 1) := by decide +kernel
theorem dX9_dropRule_136 : decode cX9_dropRule 136 = .ok (.iastore, 1) := by decide +kernel
theorem dX9_dropRule_137 : decode cX9_dropRule 137 = .ok (.aload_n 0, 1) := by decide +kernel
theorem dX9_dropRule_138 : decode cX9_dropRule 138 = .ok (.getfield 63, 3) := by decide +kernel
theorem dX9_dropRule_141 : decode cX9_dropRule 141 = .ok (.iload_n 2, 1) := by decide +kernel
theorem dX9_dropRule_142 : decode cX9_dropRule 142 = .ok (.aload_n 0, 1) := by decide +kernel
theorem dX9_dropRule_143 : decode cX9_dropRule 143 = .ok (.getfield 63, 3) := by decide +kernel
theorem dX9_dropRule_146 : decode cX9_dropRule 146 = .ok (.iload_n 2, 1) := by decide +kernel
theorem dX9_dropRule_147 : decode cX9_dropRule 147 = .ok (.iconst 1, 1) := by decide +kernel
theorem dX9_dropRule_148 : decode cX9_dropRule 148 = .ok (.iadd, 1) := by decide +kernel
theorem dX9_dropRule_149 : decode cX9_dropRule 149 = .ok (.iaload, 1) := by decide +kernel
theorem dX9_dropRule_150 : decode cX9_dropRule 150 = .ok (.iastore, 1) := by decide +kernel
theorem dX9_dropRule_151 : decode cX9_dropRule 151 = .ok (.aload_n 0, 1) := by decide +kernel
theorem dX9_dropRule_152 : decode cX9_dropRule 152 = .ok (.getfield 66, 3) := by decide +kernel
theorem dX9_dropRule_155 : decode cX9_dropRule 155 = .ok (.iload_n 2, 1) := by decide +kernel
theorem dX9_dropRule_156 : decode cX9_dropRule 156 = .ok (.aload_n 0, 1) := by decide +kernel
theorem dX9_dropRule_157 : decode cX9_dropRule 157 = .ok (.getfield 66, 3) := by decide +kernel
theorem dX9_dropRule_160 : decode cX9_dropRule 160 = .ok (.iload_n 2, 1) := by decide +kernel
theorem dX9_dropRule_161 : decode cX9_dropRule 161 = .ok (.iconst 1, 1) := by decide +kernel
theorem dX9_dropRule_162 : decode cX9_dropRule 162 = .ok (.iadd, 1) := by decide +kernel
theorem dX9_dropRule_163 : decode cX9_dropRule 163 = .ok (.iaload, 1) := by decide +kernel
theorem dX9_dropRule_164 : decode cX9_dropRule 164 = .ok (.iastore, 1) := by decide +kernel
theorem dX9_dropRule_165 : decode cX9_dropRule 165 = .ok (.iinc 2 1, 3) := by decide +kernel
theorem dX9_dropRule_168 : decode cX9_dropRule 168 = .ok (.goto (-137), 3) := by decide +kernel
theorem dX9_dropRule_171 : decode cX9_dropRule 171 = .ok (.aload_n 0, 1) := by decide +kernel
theorem dX9_dropRule_172 : decode cX9_dropRule 172 = .ok (.getfield 165, 3) := by decide +kernel
theorem dX9_dropRule_175 : decode cX9_dropRule 175 = .ok (.ireturn, 1) := by decide +kernel
theorem dX9_rules_0 : decode cX9_rules 0 = .ok (.aload_n 0, 1) := by decide +kernel
theorem dX9_rules_1 : decode cX9_rules 1 = .ok (.aload_n 0, 1) := by decide +kernel
theorem dX9_rules_2 : decode cX9_rules 2 = .ok (.getfield 165, 3) := by decide +kernel
theorem dX9_rules_5 : decode cX9_rules 5 = .ok (.invokevirtual 152, 3) := by decide +kernel
theorem dX9_rules_8 : decode cX9_rules 8 = .ok (.ireturn, 1) := by decide +kernel
theorem dX9_setWeighing_0 : decode cX9_setWeighing 0 = .ok (.aload_n 0, 1) := by decide +kernel
theorem dX9_setWeighing_1 : decode cX9_setWeighing 1 = .ok (.iconst 0, 1) := by decide +kernel
theorem dX9_setWeighing_2 : decode cX9_setWeighing 2 = .ok (.putfield 102, 3) := by decide +kernel
theorem dX9_setWeighing_5 : decode cX9_setWeighing 5 = .ok (.iload_n 1, 1) := by decide +kernel
theorem dX9_setWeighing_6 : decode cX9_setWeighing 6 = .ok (.iconst 0, 1) := by decide +kernel
theorem dX9_setWeighing_7 : decode cX9_setWeighing 7 = .ok (.iconst 3, 1) := by decide +kernel
theorem dX9_setWeighing_8 : decode cX9_setWeighing 8 = .ok (.invokestatic 108, 3) := by decide +kernel
theorem dX9_setWeighing_11 : decode cX9_setWeighing 11 = .ok (.ifCond .ne 9, 3) := by decide +kernel
theorem dX9_setWeighing_14 : decode cX9_setWeighing 14 = .ok (.aload_n 0, 1) := by decide +kernel
theorem dX9_setWeighing_15 : decode cX9_setWeighing 15 = .ok (.iconst 1, 1) := by decide +kernel
theorem dX9_setWeighing_16 : decode cX9_setWeighing 16 = .ok (.invokevirtual 139, 3) := by decide +kernel
theorem dX9_setWeighing_19 : decode cX9_setWeighing 19 = .ok (.ireturn, 1) := by decide +kernel
theorem dX9_setWeighing_20 : decode cX9_setWeighing 20 = .ok (.aload_n 0, 1) := by decide +kernel
theorem dX9_setWeighing_21 : decode cX9_setWeighing 21 = .ok (.getfield 171, 3) := by decide +kernel
theorem dX9_setWeighing_24 : decode cX9_setWeighing 24 = .ok (.istore_n 2, 1) := by decide +kernel
theorem dX9_setWeighing_25 : decode cX9_setWeighing 25 = .ok (.aload_n 0, 1) := by decide +kernel
theorem dX9_setWeighing_26 : decode cX9_setWeighing 26 = .ok (.iload_n 1, 1) := by decide +kernel
theorem dX9_setWeighing_27 : decode cX9_setWeighing 27 = .ok (.putfield 171, 3) := by decide +kernel
theorem dX9_setWeighing_30 : decode cX9_setWeighing 30 = .ok (.iload_n 2, 1) := by decide +kernel
theorem dX9_setWeighing_31 : decode cX9_setWeighing 31 = .ok (.ireturn, 1) := by decide +kernel
theorem dX9_hour_0 : decode cX9_hour 0 = .ok (.aload_n 0, 1) := by decide +kernel
theorem dX9_hour_1 : decode cX9_hour 1 = .ok (.getfield 174, 3) := by decide +kernel
theorem dX9_hour_4 : decode cX9_hour 4 = .ok (.bipush 60, 2) := by decide +kernel
theorem dX9_hour_6 : decode cX9_hour 6 = .ok (.idiv, 1) := by decide +kernel
theorem dX9_hour_7 : decode cX9_hour 7 = .ok (.bipush 24, 2) := by decide +kernel
theorem dX9_hour_9 : decode cX9_hour 9 = .ok (.irem, 1) := by decide +kernel
theorem dX9_hour_10 : decode cX9_hour 10 = .ok (.ireturn, 1) := by decide +kernel
theorem dX9_isNow_0 : decode cX9_isNow 0 = .ok (.aload_n 0, 1) := by decide +kernel
theorem dX9_isNow_1 : decode cX9_isNow 1 = .ok (.invokevirtual 177, 3) := by decide +kernel
theorem dX9_isNow_4 : decode cX9_isNow 4 = .ok (.istore_n 2, 1) := by decide +kernel
theorem dX9_isNow_5 : decode cX9_isNow 5 = .ok (.aload_n 0, 1) := by decide +kernel
theorem dX9_isNow_6 : decode cX9_isNow 6 = .ok (.getfield 63, 3) := by decide +kernel
theorem dX9_isNow_9 : decode cX9_isNow 9 = .ok (.iload_n 1, 1) := by decide +kernel
theorem dX9_isNow_10 : decode cX9_isNow 10 = .ok (.iaload, 1) := by decide +kernel
theorem dX9_isNow_11 : decode cX9_isNow 11 = .ok (.aload_n 0, 1) := by decide +kernel
theorem dX9_isNow_12 : decode cX9_isNow 12 = .ok (.getfield 66, 3) := by decide +kernel
theorem dX9_isNow_15 : decode cX9_isNow 15 = .ok (.iload_n 1, 1) := by decide +kernel
theorem dX9_isNow_16 : decode cX9_isNow 16 = .ok (.iaload, 1) := by decide +kernel
theorem dX9_isNow_17 : decode cX9_isNow 17 = .ok (.if_icmp .gt 22, 3) := by decide +kernel
theorem dX9_isNow_20 : decode cX9_isNow 20 = .ok (.iload_n 2, 1) := by decide +kernel
theorem dX9_isNow_21 : decode cX9_isNow 21 = .ok (.aload_n 0, 1) := by decide +kernel
theorem dX9_isNow_22 : decode cX9_isNow 22 = .ok (.getfield 63, 3) := by decide +kernel
theorem dX9_isNow_25 : decode cX9_isNow 25 = .ok (.iload_n 1, 1) := by decide +kernel
theorem dX9_isNow_26 : decode cX9_isNow 26 = .ok (.iaload, 1) := by decide +kernel
theorem dX9_isNow_27 : decode cX9_isNow 27 = .ok (.aload_n 0, 1) := by decide +kernel
theorem dX9_isNow_28 : decode cX9_isNow 28 = .ok (.getfield 66, 3) := by decide +kernel
theorem dX9_isNow_31 : decode cX9_isNow 31 = .ok (.iload_n 1, 1) := by decide +kernel
theorem dX9_isNow_32 : decode cX9_isNow 32 = .ok (.iaload, 1) := by decide +kernel
theorem dX9_isNow_33 : decode cX9_isNow 33 = .ok (.invokestatic 108, 3) := by decide +kernel
theorem dX9_isNow_36 : decode cX9_isNow 36 = .ok (.goto 28, 3) := by decide +kernel
theorem dX9_isNow_39 : decode cX9_isNow 39 = .ok (.iload_n 2, 1) := by decide +kernel
theorem dX9_isNow_40 : decode cX9_isNow 40 = .ok (.aload_n 0, 1) := by decide +kernel
theorem dX9_isNow_41 : decode cX9_isNow 41 = .ok (.getfield 63, 3) := by decide +kernel
theorem dX9_isNow_44 : decode cX9_isNow 44 = .ok (.iload_n 1, 1) := by decide +kernel
theorem dX9_isNow_45 : decode cX9_isNow 45 = .ok (.iaload, 1) := by decide +kernel
theorem dX9_isNow_46 : decode cX9_isNow 46 = .ok (.if_icmp .ge 13, 3) := by decide +kernel
theorem dX9_isNow_49 : decode cX9_isNow 49 = .ok (.iload_n 2, 1) := by decide +kernel
theorem dX9_isNow_50 : decode cX9_isNow 50 = .ok (.aload_n 0, 1) := by decide +kernel
theorem dX9_isNow_51 : decode cX9_isNow 51 = .ok (.getfield 66, 3) := by decide +kernel
theorem dX9_isNow_54 : decode cX9_isNow 54 = .ok (.iload_n 1, 1) := by decide +kernel
theorem dX9_isNow_55 : decode cX9_isNow 55 = .ok (.iaload, 1) := by decide +kernel
theorem dX9_isNow_56 : decode cX9_isNow 56 = .ok (.if_icmp .gt 7, 3) := by decide +kernel
theorem dX9_isNow_59 : decode cX9_isNow 59 = .ok (.iconst 1, 1) := by decide +kernel
theorem dX9_isNow_60 : decode cX9_isNow 60 = .ok (.goto 4, 3) := by decide +kernel
theorem dX9_isNow_63 : decode cX9_isNow 63 = .ok (.iconst 0, 1) := by decide +kernel
theorem dX9_isNow_64 : decode cX9_isNow 64 = .ok (.ireturn, 1) := by decide +kernel
theorem dX9_isFor_0 : decode cX9_isFor 0 = .ok (.aload_n 0, 1) := by decide +kernel
theorem dX9_isFor_1 : decode cX9_isFor 1 = .ok (.getfield 48, 3) := by decide +kernel
theorem dX9_isFor_4 : decode cX9_isFor 4 = .ok (.iload_n 1, 1) := by decide +kernel
theorem dX9_isFor_5 : decode cX9_isFor 5 = .ok (.iaload, 1) := by decide +kernel
theorem dX9_isFor_6 : decode cX9_isFor 6 = .ok (.bipush 12, 2) := by decide +kernel
theorem dX9_isFor_8 : decode cX9_isFor 8 = .ok (.if_icmp .lt 27, 3) := by decide +kernel
theorem dX9_isFor_11 : decode cX9_isFor 11 = .ok (.aload_n 3, 1) := by decide +kernel
theorem dX9_isFor_12 : decode cX9_isFor 12 = .ok (.aload_n 0, 1) := by decide +kernel
theorem dX9_isFor_13 : decode cX9_isFor 13 = .ok (.getfield 48, 3) := by decide +kernel
theorem dX9_isFor_16 : decode cX9_isFor 16 = .ok (.iload_n 1, 1) := by decide +kernel
theorem dX9_isFor_17 : decode cX9_isFor 17 = .ok (.iaload, 1) := by decide +kernel
theorem dX9_isFor_18 : decode cX9_isFor 18 = .ok (.bipush 12, 2) := by decide +kernel
theorem dX9_isFor_20 : decode cX9_isFor 20 = .ok (.isub, 1) := by decide +kernel
theorem dX9_isFor_21 : decode cX9_isFor 21 = .ok (.iaload, 1) := by decide +kernel
theorem dX9_isFor_22 : decode cX9_isFor 22 = .ok (.bipush 99, 2) := by decide +kernel
theorem dX9_isFor_24 : decode cX9_isFor 24 = .ok (.if_icmp .ge 7, 3) := by decide +kernel
theorem dX9_isFor_27 : decode cX9_isFor 27 = .ok (.iconst 1, 1) := by decide +kernel
theorem dX9_isFor_28 : decode cX9_isFor 28 = .ok (.goto 22, 3) := by decide +kernel
theorem dX9_isFor_31 : decode cX9_isFor 31 = .ok (.iconst 0, 1) := by decide +kernel
theorem dX9_isFor_32 : decode cX9_isFor 32 = .ok (.goto 18, 3) := by decide +kernel
theorem dX9_isFor_35 : decode cX9_isFor 35 = .ok (.aload_n 0, 1) := by decide +kernel
theorem dX9_isFor_36 : decode cX9_isFor 36 = .ok (.getfield 48, 3) := by decide +kernel
theorem dX9_isFor_39 : decode cX9_isFor 39 = .ok (.iload_n 1, 1) := by decide +kernel
theorem dX9_isFor_40 : decode cX9_isFor 40 = .ok (.iaload, 1) := by decide +kernel
theorem dX9_isFor_41 : decode cX9_isFor 41 = .ok (.iload_n 2, 1) := by decide +kernel
theorem dX9_isFor_42 : decode cX9_isFor 42 = .ok (.if_icmp .ne 7, 3) := by decide +kernel
theorem dX9_isFor_45 : decode cX9_isFor 45 = .ok (.iconst 1, 1) := by decide +kernel
theorem dX9_isFor_46 : decode cX9_isFor 46 = .ok (.goto 4, 3) := by decide +kernel
theorem dX9_isFor_49 : decode cX9_isFor 49 = .ok (.iconst 0, 1) := by decide +kernel
theorem dX9_isFor_50 : decode cX9_isFor 50 = .ok (.ireturn, 1) := by decide +kernel
theorem dX9_fitting_0 : decode cX9_fitting 0 = .ok (.iconst 0, 1) := by decide +kernel
theorem dX9_fitting_1 : decode cX9_fitting 1 = .ok (.istore 4, 2) := by decide +kernel
theorem dX9_fitting_3 : decode cX9_fitting 3 = .ok (.iconst 0, 1) := by decide +kernel
theorem dX9_fitting_4 : decode cX9_fitting 4 = .ok (.istore 5, 2) := by decide +kernel
theorem dX9_fitting_6 : decode cX9_fitting 6 = .ok (.iload 5, 2) := by decide +kernel
theorem dX9_fitting_8 : decode cX9_fitting 8 = .ok (.aload_n 0, 1) := by decide +kernel
theorem dX9_fitting_9 : decode cX9_fitting 9 = .ok (.getfield 165, 3) := by decide +kernel
theorem dX9_fitting_12 : decode cX9_fitting 12 = .ok (.if_icmp .ge 127, 3) := by decide +kernel
theorem dX9_fitting_15 : decode cX9_fitting 15 = .ok (.aload_n 0, 1) := by decide +kernel
theorem dX9_fitting_16 : decode cX9_fitting 16 = .ok (.getfield 54, 3) := by decide +kernel
theorem dX9_fitting_19 : decode cX9_fitting 19 = .ok (.iload 5, 2) := by decide +kernel
theorem dX9_fitting_21 : decode cX9_fitting 21 = .ok (.iaload, 1) := by decide +kernel
theorem dX9_fitting_22 : decode cX9_fitting 22 = .ok (.iload_n 3, 1) := by decide +kernel
theorem dX9_fitting_23 : decode cX9_fitting 23 = .ok (.if_icmp .eq 29, 3) := by decide +kernel
theorem dX9_fitting_26 : decode cX9_fitting 26 = .ok (.aload_n 0, 1) := by decide +kernel
theorem dX9_fitting_27 : decode cX9_fitting 27 = .ok (.getfield 45, 3) := by decide +kernel
theorem dX9_fitting_30 : decode cX9_fitting 30 = .ok (.iload 5, 2) := by decide +kernel
theorem dX9_fitting_32 : decode cX9_fitting 32 = .ok (.baload, 1) := by decide +kernel
theorem dX9_fitting_33 : decode cX9_fitting 33 = .ok (.ifCond .eq 23, 3) := by decide +kernel
theorem dX9_fitting_36 : decode cX9_fitting 36 = .ok (.aload_n 0, 1) := by decide +kernel
theorem dX9_fitting_37 : decode cX9_fitting 37 = .ok (.iload_n 3, 1) := by decide +kernel
theorem dX9_fitting_38 : decode cX9_fitting 38 = .ok (.aload_n 0, 1) := by decide +kernel
theorem dX9_fitting_39 : decode cX9_fitting 39 = .ok (.getfield 54, 3) := by decide +kernel
theorem dX9_fitting_42 : decode cX9_fitting 42 = .ok (.iload 5, 2) := by decide +kernel
theorem dX9_fitting_44 : decode cX9_fitting 44 = .ok (.iaload, 1) := by decide +kernel
theorem dX9_fitting_45 : decode cX9_fitting 45 = .ok (.invokevirtual 161, 3) := by decide +kernel
theorem dX9_fitting_48 : decode cX9_fitting 48 = .ok (.iconst (-1), 1) := by decide +kernel
theorem dX9_fitting_49 : decode cX9_fitting 49 = .ok (.if_icmp .eq 7, 3) := by decide +kernel
theorem dX9_fitting_52 : decode cX9_fitting 52 = .ok (.iconst 1, 1) := by decide +kernel
theorem dX9_fitting_53 : decode cX9_fitting 53 = .ok (.goto 4, 3) := by decide +kernel
theorem dX9_fitting_56 : decode cX9_fitting 56 = .ok (.iconst 0, 1) := by decide +kernel
theorem dX9_fitting_57 : decode cX9_fitting 57 = .ok (.istore 6, 2) := by decide +kernel
theorem dX9_fitting_59 : decode cX9_fitting 59 = .ok (.iload 4, 2) := by decide +kernel
theorem dX9_fitting_61 : decode cX9_fitting 61 = .ok (.iload 5, 2) := by decide +kernel
theorem dX9_fitting_63 : decode cX9_fitting 63 = .ok (.aload_n 0, 1) := by decide +kernel
theorem dX9_fitting_64 : decode cX9_fitting 64 = .ok (.getfield 93, 3) := by decide +kernel
theorem dX9_fitting_67 : decode cX9_fitting 67 = .ok (.if_icmp .eq 62, 3) := by decide +kernel
theorem dX9_fitting_70 : decode cX9_fitting 70 = .ok (.iload 6, 2) := by decide +kernel
theorem dX9_fitting_72 : decode cX9_fitting 72 = .ok (.ifCond .eq 57, 3) := by decide +kernel
theorem dX9_fitting_75 : decode cX9_fitting 75 = .ok (.aload_n 0, 1) := by decide +kernel
theorem dX9_fitting_76 : decode cX9_fitting 76 = .ok (.getfield 51, 3) := by decide +kernel
theorem dX9_fitting_79 : decode cX9_fitting 79 = .ok (.iload 5, 2) := by decide +kernel
theorem dX9_fitting_81 : decode cX9_fitting 81 = .ok (.iaload, 1) := by decide +kernel
theorem dX9_fitting_82 : decode cX9_fitting 82 = .ok (.iload_n 2, 1) := by decide +kernel
theorem dX9_fitting_83 : decode cX9_fitting 83 = .ok (.ishr, 1) := by decide +kernel
theorem dX9_fitting_84 : decode cX9_fitting 84 = .ok (.iconst 1, 1) := by decide +kernel
theorem dX9_fitting_85 : decode cX9_fitting 85 = .ok (.iand, 1) := by decide +kernel
theorem dX9_fitting_86 : decode cX9_fitting 86 = .ok (.ifCond .eq 43, 3) := by decide +kernel
theorem dX9_fitting_89 : decode cX9_fitting 89 = .ok (.aload_n 0, 1) := by decide +kernel
theorem dX9_fitting_90 : decode cX9_fitting 90 = .ok (.getfield 16, 3) := by decide +kernel
theorem dX9_fitting_93 : decode cX9_fitting 93 = .ok (.iload_n 1, 1) := by decide +kernel
theorem dX9_fitting_94 : decode cX9_fitting 94 = .ok (.iaload, 1) := by decide +kernel
theorem dX9_fitting_95 : decode cX9_fitting 95 = .ok (.aload_n 0, 1) := by decide +kernel
theorem dX9_fitting_96 : decode cX9_fitting 96 = .ok (.getfield 60, 3) := by decide +kernel
theorem dX9_fitting_99 : decode cX9_fitting 99 = .ok (.iload 5, 2) := by decide +kernel
theorem dX9_fitting_101 : decode cX9_fitting 101 = .ok (.iaload, 1) := by decide +kernel
theorem dX9_fitting_102 : decode cX9_fitting 102 = .ok (.iand, 1) := by decide +kernel
theorem dX9_fitting_103 : decode cX9_fitting 103 = .ok (.aload_n 0, 1) := by decide +kernel
theorem dX9_fitting_104 : decode cX9_fitting 104 = .ok (.getfield 60, 3) := by decide +kernel
theorem dX9_fitting_107 : decode cX9_fitting 107 = .ok (.iload 5, 2) := by decide +kernel
theorem dX9_fitting_109 : decode cX9_fitting 109 = .ok (.iaload, 1) := by decide +kernel
theorem dX9_fitting_110 : decode cX9_fitting 110 = .ok (.if_icmp .ne 19, 3) := by decide +kernel
theorem dX9_fitting_113 : decode cX9_fitting 113 = .ok (.aload_n 0, 1) := by decide +kernel
theorem dX9_fitting_114 : decode cX9_fitting 114 = .ok (.iload 5, 2) := by decide +kernel
theorem dX9_fitting_116 : decode cX9_fitting 116 = .ok (.invokevirtual 181, 3) := by decide +kernel
theorem dX9_fitting_119 : decode cX9_fitting 119 = .ok (.ifCond .eq 10, 3) := by decide +kernel
theorem dX9_fitting_122 : decode cX9_fitting 122 = .ok (.iconst 1, 1) := by decide +kernel
theorem dX9_fitting_123 : decode cX9_fitting 123 = .ok (.iload 5, 2) := by decide +kernel
theorem dX9_fitting_125 : decode cX9_fitting 125 = .ok (.ishl, 1) := by decide +kernel
theorem dX9_fitting_126 : decode cX9_fitting 126 = .ok (.goto 4, 3) := by decide +kernel
theorem dX9_fitting_129 : decode cX9_fitting 129 = .ok (.iconst 0, 1) := by decide +kernel
theorem dX9_fitting_130 : decode cX9_fitting 130 = .ok (.ior, 1) := by decide +kernel
theorem dX9_fitting_131 : decode cX9_fitting 131 = .ok (.istore 4, 2) := by decide +kernel
theorem dX9_fitting_133 : decode cX9_fitting 133 = .ok (.iinc 5 1, 3) := by decide +kernel
theorem dX9_fitting_136 : decode cX9_fitting 136 = .ok (.goto (-130), 3) := by decide +kernel
theorem dX9_fitting_139 : decode cX9_fitting 139 = .ok (.iload 4, 2) := by decide +kernel
theorem dX9_fitting_141 : decode cX9_fitting 141 = .ok (.ireturn, 1) := by decide +kernel
theorem dX9_own_0 : decode cX9_own 0 = .ok (.iconst 0, 1) := by decide +kernel
theorem dX9_own_1 : decode cX9_own 1 = .ok (.istore 4, 2) := by decide +kernel
theorem dX9_own_3 : decode cX9_own 3 = .ok (.iconst 0, 1) := by decide +kernel
theorem dX9_own_4 : decode cX9_own 4 = .ok (.istore 5, 2) := by decide +kernel
theorem dX9_own_6 : decode cX9_own 6 = .ok (.iload 5, 2) := by decide +kernel
theorem dX9_own_8 : decode cX9_own 8 = .ok (.aload_n 0, 1) := by decide +kernel
theorem dX9_own_9 : decode cX9_own 9 = .ok (.getfield 165, 3) := by decide +kernel
theorem dX9_own_12 : decode cX9_own 12 = .ok (.if_icmp .ge 42, 3) := by decide +kernel
theorem dX9_own_15 : decode cX9_own 15 = .ok (.iload 4, 2) := by decide +kernel
theorem dX9_own_17 : decode cX9_own 17 = .ok (.iload_n 1, 1) := by decide +kernel
theorem dX9_own_18 : decode cX9_own 18 = .ok (.iload 5, 2) := by decide +kernel
theorem dX9_own_20 : decode cX9_own 20 = .ok (.ishr, 1) := by decide +kernel
theorem dX9_own_21 : decode cX9_own 21 = .ok (.iconst 1, 1) := by decide +kernel
theorem dX9_own_22 : decode cX9_own 22 = .ok (.iand, 1) := by decide +kernel
theorem dX9_own_23 : decode cX9_own 23 = .ok (.ifCond .eq 21, 3) := by decide +kernel
theorem dX9_own_26 : decode cX9_own 26 = .ok (.aload_n 0, 1) := by decide +kernel
theorem dX9_own_27 : decode cX9_own 27 = .ok (.iload 5, 2) := by decide +kernel
theorem dX9_own_29 : decode cX9_own 29 = .ok (.iload_n 2, 1) := by decide +kernel
theorem dX9_own_30 : decode cX9_own 30 = .ok (.aload_n 3, 1) := by decide +kernel
theorem dX9_own_31 : decode cX9_own 31 = .ok (.invokevirtual 184, 3) := by decide +kernel
theorem dX9_own_34 : decode cX9_own 34 = .ok (.ifCond .eq 10, 3) := by decide +kernel
theorem dX9_own_37 : decode cX9_own 37 = .ok (.iconst 1, 1) := by decide +kernel
theorem dX9_own_38 : decode cX9_own 38 = .ok (.iload 5, 2) := by decide +kernel
theorem dX9_own_40 : decode cX9_own 40 = .ok (.ishl, 1) := by decide +kernel
theorem dX9_own_41 : decode cX9_own 41 = .ok (.goto 4, 3) := by decide +kernel
theorem dX9_own_44 : decode cX9_own 44 = .ok (.iconst 0, 1) := by decide +kernel
theorem dX9_own_45 : decode cX9_own 45 = .ok (.ior, 1) := by decide +kernel
theorem dX9_own_46 : decode cX9_own 46 = .ok (.istore 4, 2) := by decide +kernel
theorem dX9_own_48 : decode cX9_own 48 = .ok (.iinc 5 1, 3) := by decide +kernel
theorem dX9_own_51 : decode cX9_own 51 = .ok (.goto (-45), 3) := by decide +kernel
theorem dX9_own_54 : decode cX9_own 54 = .ok (.iload 4, 2) := by decide +kernel
theorem dX9_own_56 : decode cX9_own 56 = .ok (.ireturn, 1) := by decide +kernel
theorem dX9_matching_0 : decode cX9_matching 0 = .ok (.aload_n 0, 1) := by decide +kernel
theorem dX9_matching_1 : decode cX9_matching 1 = .ok (.aload_n 0, 1) := by decide +kernel
theorem dX9_matching_2 : decode cX9_matching 2 = .ok (.iload_n 1, 1) := by decide +kernel
theorem dX9_matching_3 : decode cX9_matching 3 = .ok (.iload_n 3, 1) := by decide +kernel
theorem dX9_matching_4 : decode cX9_matching 4 = .ok (.iload 4, 2) := by decide +kernel
theorem dX9_matching_6 : decode cX9_matching 6 = .ok (.invokevirtual 188, 3) := by decide +kernel
theorem dX9_matching_9 : decode cX9_matching 9 = .ok (.iload_n 1, 1) := by decide +kernel
theorem dX9_matching_10 : decode cX9_matching 10 = .ok (.aload_n 2, 1) := by decide +kernel
theorem dX9_matching_11 : decode cX9_matching 11 = .ok (.invokevirtual 192, 3) := by decide +kernel
theorem dX9_matching_14 : decode cX9_matching 14 = .ok (.ireturn, 1) := by decide +kernel
theorem dX9_matches_0 : decode cX9_matches 0 = .ok (.aload_n 0, 1) := by decide +kernel
theorem dX9_matches_1 : decode cX9_matches 1 = .ok (.iconst 0, 1) := by decide +kernel
theorem dX9_matches_2 : decode cX9_matches 2 = .ok (.putfield 102, 3) := by decide +kernel
theorem dX9_matches_5 : decode cX9_matches 5 = .ok (.aload_n 0, 1) := by decide +kernel
theorem dX9_matches_6 : decode cX9_matches 6 = .ok (.iload_n 1, 1) := by decide +kernel
theorem dX9_matches_7 : decode cX9_matches 7 = .ok (.invokevirtual 168, 3) := by decide +kernel
theorem dX9_matches_10 : decode cX9_matches 10 = .ok (.ifCond .eq 47, 3) := by decide +kernel
theorem dX9_matches_13 : decode cX9_matches 13 = .ok (.aload_n 0, 1) := by decide +kernel
theorem dX9_matches_14 : decode cX9_matches 14 = .ok (.iload_n 2, 1) := by decide +kernel
theorem dX9_matches_15 : decode cX9_matches 15 = .ok (.iload_n 3, 1) := by decide +kernel
theorem dX9_matches_16 : decode cX9_matches 16 = .ok (.iload 4, 2) := by decide +kernel
theorem dX9_matches_18 : decode cX9_matches 18 = .ok (.invokevirtual 196, 3) := by decide +kernel
theorem dX9_matches_21 : decode cX9_matches 21 = .ok (.ifCond .eq 36, 3) := by decide +kernel
theorem dX9_matches_24 : decode cX9_matches 24 = .ok (.aload_n 0, 1) := by decide +kernel
theorem dX9_matches_25 : decode cX9_matches 25 = .ok (.iload_n 2, 1) := by decide +kernel
theorem dX9_matches_26 : decode cX9_matches 26 = .ok (.aload_n 0, 1) := by decide +kernel
theorem dX9_matches_27 : decode cX9_matches 27 = .ok (.aload_n 0, 1) := by decide +kernel
theorem dX9_matches_28 : decode cX9_matches 28 = .ok (.getfield 9, 3) := by decide +kernel
theorem dX9_matches_31 : decode cX9_matches 31 = .ok (.iload_n 2, 1) := by decide +kernel
theorem dX9_matches_32 : decode cX9_matches 32 = .ok (.iaload, 1) := by decide +kernel
theorem dX9_matches_33 : decode cX9_matches 33 = .ok (.invokevirtual 155, 3) := by decide +kernel
theorem dX9_matches_36 : decode cX9_matches 36 = .ok (.iload_n 3, 1) := by decide +kernel
theorem dX9_matches_37 : decode cX9_matches 37 = .ok (.iload 4, 2) := by decide +kernel
theorem dX9_matches_39 : decode cX9_matches 39 = .ok (.invokevirtual 199, 3) := by decide +kernel
theorem dX9_matches_42 : decode cX9_matches 42 = .ok (.iload_n 1, 1) := by decide +kernel
theorem dX9_matches_43 : decode cX9_matches 43 = .ok (.ishr, 1) := by decide +kernel
theorem dX9_matches_44 : decode cX9_matches 44 = .ok (.iconst 1, 1) := by decide +kernel
theorem dX9_matches_45 : decode cX9_matches 45 = .ok (.iand, 1) := by decide +kernel
theorem dX9_matches_46 : decode cX9_matches 46 = .ok (.ifCond .eq 7, 3) := by decide +kernel
theorem dX9_matches_49 : decode cX9_matches 49 = .ok (.iconst 1, 1) := by decide +kernel
theorem dX9_matches_50 : decode cX9_matches 50 = .ok (.goto 12, 3) := by decide +kernel
theorem dX9_matches_53 : decode cX9_matches 53 = .ok (.iconst 0, 1) := by decide +kernel
theorem dX9_matches_54 : decode cX9_matches 54 = .ok (.goto 8, 3) := by decide +kernel
theorem dX9_matches_57 : decode cX9_matches 57 = .ok (.aload_n 0, 1) := by decide +kernel
theorem dX9_matches_58 : decode cX9_matches 58 = .ok (.iconst 1, 1) := by decide +kernel
theorem dX9_matches_59 : decode cX9_matches 59 = .ok (.invokevirtual 145, 3) := by decide +kernel
theorem dX9_matches_62 : decode cX9_matches 62 = .ok (.ireturn, 1) := by decide +kernel
theorem dX9_goOn_0 : decode cX9_goOn 0 = .ok (.aload_n 0, 1) := by decide +kernel
theorem dX9_goOn_1 : decode cX9_goOn 1 = .ok (.iconst 0, 1) := by decide +kernel
theorem dX9_goOn_2 : decode cX9_goOn 2 = .ok (.putfield 102, 3) := by decide +kernel
theorem dX9_goOn_5 : decode cX9_goOn 5 = .ok (.iload_n 1, 1) := by decide +kernel
theorem dX9_goOn_6 : decode cX9_goOn 6 = .ok (.iconst 1, 1) := by decide +kernel
theorem dX9_goOn_7 : decode cX9_goOn 7 = .ok (.sipush 10000, 3) := by decide +kernel
theorem dX9_goOn_10 : decode cX9_goOn 10 = .ok (.invokestatic 108, 3) := by decide +kernel
theorem dX9_goOn_13 : decode cX9_goOn 13 = .ok (.ifCond .ne 9, 3) := by decide +kernel
theorem dX9_goOn_16 : decode cX9_goOn 16 = .ok (.aload_n 0, 1) := by decide +kernel
theorem dX9_goOn_17 : decode cX9_goOn 17 = .ok (.iconst 1, 1) := by decide +kernel
theorem dX9_goOn_18 : decode cX9_goOn 18 = .ok (.invokevirtual 139, 3) := by decide +kernel
theorem dX9_goOn_21 : decode cX9_goOn 21 = .ok (.ireturn, 1) := by decide +kernel
theorem dX9_goOn_22 : decode cX9_goOn 22 = .ok (.aload_n 0, 1) := by decide +kernel
theorem dX9_goOn_23 : decode cX9_goOn 23 = .ok (.dup, 1) := by decide +kernel
theorem dX9_goOn_24 : decode cX9_goOn 24 = .ok (.getfield 174, 3) := by decide +kernel
theorem dX9_goOn_27 : decode cX9_goOn 27 = .ok (.iload_n 1, 1) := by decide +kernel
theorem dX9_goOn_28 : decode cX9_goOn 28 = .ok (.iadd, 1) := by decide +kernel
theorem dX9_goOn_29 : decode cX9_goOn 29 = .ok (.putfield 174, 3) := by decide +kernel
theorem dX9_goOn_32 : decode cX9_goOn 32 = .ok (.aload_n 0, 1) := by decide +kernel
theorem dX9_goOn_33 : decode cX9_goOn 33 = .ok (.invokevirtual 177, 3) := by decide +kernel
theorem dX9_goOn_36 : decode cX9_goOn 36 = .ok (.ireturn, 1) := by decide +kernel
theorem dX9_clock_0 : decode cX9_clock 0 = .ok (.aload_n 0, 1) := by decide +kernel
theorem dX9_clock_1 : decode cX9_clock 1 = .ok (.aload_n 0, 1) := by decide +kernel
theorem dX9_clock_2 : decode cX9_clock 2 = .ok (.getfield 174, 3) := by decide +kernel
theorem dX9_clock_5 : decode cX9_clock 5 = .ok (.invokevirtual 152, 3) := by decide +kernel
theorem dX9_clock_8 : decode cX9_clock 8 = .ok (.ireturn, 1) := by decide +kernel
theorem dX9_firstOf_0 : decode cX9_firstOf 0 = .ok (.iconst (-1), 1) := by decide +kernel
theorem dX9_firstOf_1 : decode cX9_firstOf 1 = .ok (.istore_n 3, 1) := by decide +kernel
theorem dX9_firstOf_2 : decode cX9_firstOf 2 = .ok (.aload_n 0, 1) := by decide +kernel
theorem dX9_firstOf_3 : decode cX9_firstOf 3 = .ok (.getfield 165, 3) := by decide +kernel
theorem dX9_firstOf_6 : decode cX9_firstOf 6 = .ok (.iconst 1, 1) := by decide +kernel
theorem dX9_firstOf_7 : decode cX9_firstOf 7 = .ok (.isub, 1) := by decide +kernel
theorem dX9_firstOf_8 : decode cX9_firstOf 8 = .ok (.istore 4, 2) := by decide +kernel
theorem dX9_firstOf_10 : decode cX9_firstOf 10 = .ok (.iload 4, 2) := by decide +kernel
theorem dX9_firstOf_12 : decode cX9_firstOf 12 = .ok (.ifCond .lt 47, 3) := by decide +kernel
theorem dX9_firstOf_15 : decode cX9_firstOf 15 = .ok (.iload_n 1, 1) := by decide +kernel
theorem dX9_firstOf_16 : decode cX9_firstOf 16 = .ok (.iload 4, 2) := by decide +kernel
theorem dX9_firstOf_18 : decode cX9_firstOf 18 = .ok (.ishr, 1) := by decide +kernel
theorem dX9_firstOf_19 : decode cX9_firstOf 19 = .ok (.iconst 1, 1) := by decide +kernel
theorem dX9_firstOf_20 : decode cX9_firstOf 20 = .ok (.iand, 1) := by decide +kernel
theorem dX9_firstOf_21 : decode cX9_firstOf 21 = .ok (.ifCond .eq 32, 3) := by decide +kernel
theorem dX9_firstOf_24 : decode cX9_firstOf 24 = .ok (.iload_n 3, 1) := by decide +kernel
theorem dX9_firstOf_25 : decode cX9_firstOf 25 = .ok (.iconst (-1), 1) := by decide +kernel
theorem dX9_firstOf_26 : decode cX9_firstOf 26 = .ok (.if_icmp .eq 24, 3) := by decide +kernel
theorem dX9_firstOf_29 : decode cX9_firstOf 29 = .ok (.aload_n 0, 1) := by decide +kernel
theorem dX9_firstOf_30 : decode cX9_firstOf 30 = .ok (.getfield 41, 3) := by decide +kernel
theorem dX9_firstOf_33 : decode cX9_firstOf 33 = .ok (.iload 4, 2) := by decide +kernel
theorem dX9_firstOf_35 : decode cX9_firstOf 35 = .ok (.baload, 1) := by decide +kernel
theorem dX9_firstOf_36 : decode cX9_firstOf 36 = .ok (.iload_n 2, 1) := by decide +kernel
theorem dX9_firstOf_37 : decode cX9_firstOf 37 = .ok (.if_icmp .eq 13, 3) := by decide +kernel
theorem dX9_firstOf_40 : decode cX9_firstOf 40 = .ok (.aload_n 0, 1) := by decide +kernel
theorem dX9_firstOf_41 : decode cX9_firstOf 41 = .ok (.getfield 41, 3) := by decide +kernel
theorem dX9_firstOf_44 : decode cX9_firstOf 44 = .ok (.iload_n 3, 1) := by decide +kernel
theorem dX9_firstOf_45 : decode cX9_firstOf 45 = .ok (.baload, 1) := by decide +kernel
theorem dX9_firstOf_46 : decode cX9_firstOf 46 = .ok (.iload_n 2, 1) := by decide +kernel
theorem dX9_firstOf_47 : decode cX9_firstOf 47 = .ok (.if_icmp .eq 6, 3) := by decide +kernel
theorem dX9_firstOf_50 : decode cX9_firstOf 50 = .ok (.iload 4, 2) := by decide +kernel
theorem dX9_firstOf_52 : decode cX9_firstOf 52 = .ok (.istore_n 3, 1) := by decide +kernel
theorem dX9_firstOf_53 : decode cX9_firstOf 53 = .ok (.iinc 4 (-1), 3) := by decide +kernel
theorem dX9_firstOf_56 : decode cX9_firstOf 56 = .ok (.goto (-46), 3) := by decide +kernel
theorem dX9_firstOf_59 : decode cX9_firstOf 59 = .ok (.iload_n 3, 1) := by decide +kernel
theorem dX9_firstOf_60 : decode cX9_firstOf 60 = .ok (.ireturn, 1) := by decide +kernel
theorem dX9_leastOf_0 : decode cX9_leastOf 0 = .ok (.bipush 99, 2) := by decide +kernel
theorem dX9_leastOf_2 : decode cX9_leastOf 2 = .ok (.istore_n 2, 1) := by decide +kernel
theorem dX9_leastOf_3 : decode cX9_leastOf 3 = .ok (.iconst 0, 1) := by decide +kernel
theorem dX9_leastOf_4 : decode cX9_leastOf 4 = .ok (.istore_n 3, 1) := by decide +kernel
theorem dX9_leastOf_5 : decode cX9_leastOf 5 = .ok (.iload_n 3, 1) := by decide +kernel
theorem dX9_leastOf_6 : decode cX9_leastOf 6 = .ok (.aload_n 0, 1) := by decide +kernel
theorem dX9_leastOf_7 : decode cX9_leastOf 7 = .ok (.getfield 165, 3) := by decide +kernel
theorem dX9_leastOf_10 : decode cX9_leastOf 10 = .ok (.if_icmp .ge 28, 3) := by decide +kernel
theorem dX9_leastOf_13 : decode cX9_leastOf 13 = .ok (.iload_n 1, 1) := by decide +kernel
theorem dX9_leastOf_14 : decode cX9_leastOf 14 = .ok (.iload_n 3, 1) := by decide +kernel
theorem dX9_leastOf_15 : decode cX9_leastOf 15 = .ok (.ishr, 1) := by decide +kernel
theorem dX9_leastOf_16 : decode cX9_leastOf 16 = .ok (.iconst 1, 1) := by decide +kernel
theorem dX9_leastOf_17 : decode cX9_leastOf 17 = .ok (.iand, 1) := by decide +kernel
theorem dX9_leastOf_18 : decode cX9_leastOf 18 = .ok (.ifCond .eq 14, 3) := by decide +kernel
theorem dX9_leastOf_21 : decode cX9_leastOf 21 = .ok (.iload_n 2, 1) := by decide +kernel
theorem dX9_leastOf_22 : decode cX9_leastOf 22 = .ok (.aload_n 0, 1) := by decide +kernel
theorem dX9_leastOf_23 : decode cX9_leastOf 23 = .ok (.getfield 99, 3) := by decide +kernel
theorem dX9_leastOf_26 : decode cX9_leastOf 26 = .ok (.iload_n 3, 1) := by decide +kernel
theorem dX9_leastOf_27 : decode cX9_leastOf 27 = .ok (.iaload, 1) := by decide +kernel
theorem dX9_leastOf_28 : decode cX9_leastOf 28 = .ok (.invokestatic 203, 3) := by decide +kernel
theorem dX9_leastOf_31 : decode cX9_leastOf 31 = .ok (.istore_n 2, 1) := by decide +kernel
theorem dX9_leastOf_32 : decode cX9_leastOf 32 = .ok (.iinc 3 1, 3) := by decide +kernel
theorem dX9_leastOf_35 : decode cX9_leastOf 35 = .ok (.goto (-30), 3) := by decide +kernel
theorem dX9_leastOf_38 : decode cX9_leastOf 38 = .ok (.iconst 0, 1) := by decide +kernel
theorem dX9_leastOf_39 : decode cX9_leastOf 39 = .ok (.istore_n 3, 1) := by decide +kernel
theorem dX9_leastOf_40 : decode cX9_leastOf 40 = .ok (.iconst 0, 1) := by decide +kernel
theorem dX9_leastOf_41 : decode cX9_leastOf 41 = .ok (.istore 4, 2) := by decide +kernel
theorem dX9_leastOf_43 : decode cX9_leastOf 43 = .ok (.iload 4, 2) := by decide +kernel
theorem dX9_leastOf_45 : decode cX9_leastOf 45 = .ok (.aload_n 0, 1) := by decide +kernel
theorem dX9_leastOf_46 : decode cX9_leastOf 46 = .ok (.getfield 165, 3) := by decide +kernel
theorem dX9_leastOf_49 : decode cX9_leastOf 49 = .ok (.if_icmp .ge 40, 3) := by decide +kernel
theorem dX9_leastOf_52 : decode cX9_leastOf 52 = .ok (.iload_n 3, 1) := by decide +kernel
theorem dX9_leastOf_53 : decode cX9_leastOf 53 = .ok (.iload_n 1, 1) := by decide +kernel
theorem dX9_leastOf_54 : decode cX9_leastOf 54 = .ok (.iload 4, 2) := by decide +kernel
theorem dX9_leastOf_56 : decode cX9_leastOf 56 = .ok (.ishr, 1) := by decide +kernel
theorem dX9_leastOf_57 : decode cX9_leastOf 57 = .ok (.iconst 1, 1) := by decide +kernel
theorem dX9_leastOf_58 : decode cX9_leastOf 58 = .ok (.iand, 1) := by decide +kernel
theorem dX9_leastOf_59 : decode cX9_leastOf 59 = .ok (.ifCond .eq 21, 3) := by decide +kernel
theorem dX9_leastOf_62 : decode cX9_leastOf 62 = .ok (.aload_n 0, 1) := by decide +kernel
theorem dX9_leastOf_63 : decode cX9_leastOf 63 = .ok (.getfield 99, 3) := by decide +kernel
theorem dX9_leastOf_66 : decode cX9_leastOf 66 = .ok (.iload 4, 2) := by decide +kernel
theorem dX9_leastOf_68 : decode cX9_leastOf 68 = .ok (.iaload, 1) := by decide +kernel
theorem dX9_leastOf_69 : decode cX9_leastOf 69 = .ok (.iload_n 2, 1) := by decide +kernel
theorem dX9_leastOf_70 : decode cX9_leastOf 70 = .ok (.if_icmp .ne 10, 3) := by decide +kernel
theorem dX9_leastOf_73 : decode cX9_leastOf 73 = .ok (.iconst 1, 1) := by decide +kernel
theorem dX9_leastOf_74 : decode cX9_leastOf 74 = .ok (.iload 4, 2) := by decide +kernel
theorem dX9_leastOf_76 : decode cX9_leastOf 76 = .ok (.ishl, 1) := by decide +kernel
theorem dX9_leastOf_77 : decode cX9_leastOf 77 = .ok (.goto 4, 3) := by decide +kernel
theorem dX9_leastOf_80 : decode cX9_leastOf 80 = .ok (.iconst 0, 1) := by decide +kernel
theorem dX9_leastOf_81 : decode cX9_leastOf 81 = .ok (.ior, 1) := by decide +kernel
theorem dX9_leastOf_82 : decode cX9_leastOf 82 = .ok (.istore_n 3, 1) := by decide +kernel
theorem dX9_leastOf_83 : decode cX9_leastOf 83 = .ok (.iinc 4 1, 3) := by decide +kernel
theorem dX9_leastOf_86 : decode cX9_leastOf 86 = .ok (.goto (-43), 3) := by decide +kernel
theorem dX9_leastOf_89 : decode cX9_leastOf 89 = .ok (.iload_n 3, 1) := by decide +kernel
theorem dX9_leastOf_90 : decode cX9_leastOf 90 = .ok (.ireturn, 1) := by decide +kernel
theorem dX9_weigh_0 : decode cX9_weigh 0 = .ok (.iload_n 1, 1) := by decide +kernel
theorem dX9_weigh_1 : decode cX9_weigh 1 = .ok (.ifCond .ne 5, 3) := by decide +kernel
theorem dX9_weigh_4 : decode cX9_weigh 4 = .ok (.iconst (-1), 1) := by decide +kernel
theorem dX9_weigh_5 : decode cX9_weigh 5 = .ok (.ireturn, 1) := by decide +kernel
theorem dX9_weigh_6 : decode cX9_weigh 6 = .ok (.iload 4, 2) := by decide +kernel
theorem dX9_weigh_8 : decode cX9_weigh 8 = .ok (.iconst 1, 1) := by decide +kernel
theorem dX9_weigh_9 : decode cX9_weigh 9 = .ok (.if_icmp .ne 10, 3) := by decide +kernel
theorem dX9_weigh_12 : decode cX9_weigh 12 = .ok (.aload_n 0, 1) := by decide +kernel
theorem dX9_weigh_13 : decode cX9_weigh 13 = .ok (.iload_n 1, 1) := by decide +kernel
theorem dX9_weigh_14 : decode cX9_weigh 14 = .ok (.iconst 1, 1) := by decide +kernel
theorem dX9_weigh_15 : decode cX9_weigh 15 = .ok (.invokevirtual 208, 3) := by decide +kernel
theorem dX9_weigh_18 : decode cX9_weigh 18 = .ok (.ireturn, 1) := by decide +kernel
theorem dX9_weigh_19 : decode cX9_weigh 19 = .ok (.iload_n 1, 1) := by decide +kernel
theorem dX9_weigh_20 : decode cX9_weigh 20 = .ok (.istore 5, 2) := by decide +kernel
theorem dX9_weigh_22 : decode cX9_weigh 22 = .ok (.iload 4, 2) := by decide +kernel
theorem dX9_weigh_24 : decode cX9_weigh 24 = .ok (.iconst 2, 1) := by decide +kernel
theorem dX9_weigh_25 : decode cX9_weigh 25 = .ok (.if_icmp .ne 109, 3) := by decide +kernel
theorem dX9_weigh_28 : decode cX9_weigh 28 = .ok (.iconst 0, 1) := by decide +kernel
theorem dX9_weigh_29 : decode cX9_weigh 29 = .ok (.istore 6, 2) := by decide +kernel
theorem dX9_weigh_31 : decode cX9_weigh 31 = .ok (.iload 6, 2) := by decide +kernel
theorem dX9_weigh_33 : decode cX9_weigh 33 = .ok (.aload_n 0, 1) := by decide +kernel
theorem dX9_weigh_34 : decode cX9_weigh 34 = .ok (.getfield 165, 3) := by decide +kernel
theorem dX9_weigh_37 : decode cX9_weigh 37 = .ok (.if_icmp .ge 28, 3) := by decide +kernel
theorem dX9_weigh_40 : decode cX9_weigh 40 = .ok (.aload_n 0, 1) := by decide +kernel
theorem dX9_weigh_41 : decode cX9_weigh 41 = .ok (.getfield 99, 3) := by decide +kernel
theorem dX9_weigh_44 : decode cX9_weigh 44 = .ok (.iload 6, 2) := by decide +kernel
theorem dX9_weigh_46 : decode cX9_weigh 46 = .ok (.aload_n 0, 1) := by decide +kernel
theorem dX9_weigh_47 : decode cX9_weigh 47 = .ok (.iload_n 3, 1) := by decide +kernel
theorem dX9_weigh_48 : decode cX9_weigh 48 = .ok (.aload_n 0, 1) := by decide +kernel
theorem dX9_weigh_49 : decode cX9_weigh 49 = .ok (.getfield 54, 3) := by decide +kernel
theorem dX9_weigh_52 : decode cX9_weigh 52 = .ok (.iload 6, 2) := by decide +kernel
theorem dX9_weigh_54 : decode cX9_weigh 54 = .ok (.iaload, 1) := by decide +kernel
theorem dX9_weigh_55 : decode cX9_weigh 55 = .ok (.invokevirtual 161, 3) := by decide +kernel
theorem dX9_weigh_58 : decode cX9_weigh 58 = .ok (.iastore, 1) := by decide +kernel
theorem dX9_weigh_59 : decode cX9_weigh 59 = .ok (.iinc 6 1, 3) := by decide +kernel
theorem dX9_weigh_62 : decode cX9_weigh 62 = .ok (.goto (-31), 3) := by decide +kernel
theorem dX9_weigh_65 : decode cX9_weigh 65 = .ok (.aload_n 0, 1) := by decide +kernel
theorem dX9_weigh_66 : decode cX9_weigh 66 = .ok (.iload 5, 2) := by decide +kernel
theorem dX9_weigh_68 : decode cX9_weigh 68 = .ok (.invokevirtual 212, 3) := by decide +kernel
theorem dX9_weigh_71 : decode cX9_weigh 71 = .ok (.istore 5, 2) := by decide +kernel
theorem dX9_weigh_73 : decode cX9_weigh 73 = .ok (.iconst 0, 1) := by decide +kernel
theorem dX9_weigh_74 : decode cX9_weigh 74 = .ok (.istore 6, 2) := by decide +kernel
theorem dX9_weigh_76 : decode cX9_weigh 76 = .ok (.iload 6, 2) := by decide +kernel
theorem dX9_weigh_78 : decode cX9_weigh 78 = .ok (.aload_n 0, 1) := by decide +kernel
theorem dX9_weigh_79 : decode cX9_weigh 79 = .ok (.getfield 165, 3) := by decide +kernel
theorem dX9_weigh_82 : decode cX9_weigh 82 = .ok (.if_icmp .ge 44, 3) := by decide +kernel
theorem dX9_weigh_85 : decode cX9_weigh 85 = .ok (.aload_n 0, 1) := by decide +kernel
theorem dX9_weigh_86 : decode cX9_weigh 86 = .ok (.getfield 99, 3) := by decide +kernel
theorem dX9_weigh_89 : decode cX9_weigh 89 = .ok (.iload 6, 2) := by decide +kernel
theorem dX9_weigh_91 : decode cX9_weigh 91 = .ok (.aload_n 0, 1) := by decide +kernel
theorem dX9_weigh_92 : decode cX9_weigh 92 = .ok (.getfield 48, 3) := by decide +kernel
theorem dX9_weigh_95 : decode cX9_weigh 95 = .ok (.iload 6, 2) := by decide +kernel
theorem dX9_weigh_97 : decode cX9_weigh 97 = .ok (.iaload, 1) := by decide +kernel
theorem dX9_weigh_98 : decode cX9_weigh 98 = .ok (.bipush 12, 2) := by decide +kernel
theorem dX9_weigh_100 : decode cX9_weigh 100 = .ok (.if_icmp .ge 7, 3) := by decide +kernel
theorem dX9_weigh_103 : decode cX9_weigh 103 = .ok (.iconst 0, 1) := by decide +kernel
theorem dX9_weigh_104 : decode cX9_weigh 104 = .ok (.goto 15, 3) := by decide +kernel
theorem dX9_weigh_107 : decode cX9_weigh 107 = .ok (.aload_n 2, 1) := by decide +kernel
theorem dX9_weigh_108 : decode cX9_weigh 108 = .ok (.aload_n 0, 1) := by decide +kernel
theorem dX9_weigh_109 : decode cX9_weigh 109 = .ok (.getfield 48, 3) := by decide +kernel
theorem dX9_weigh_112 : decode cX9_weigh 112 = .ok (.iload 6, 2) := by decide +kernel
theorem dX9_weigh_114 : decode cX9_weigh 114 = .ok (.iaload, 1) := by decide +kernel
theorem dX9_weigh_115 : decode cX9_weigh 115 = .ok (.bipush 12, 2) := by decide +kernel
theorem dX9_weigh_117 : decode cX9_weigh 117 = .ok (.isub, 1) := by decide +kernel
theorem dX9_weigh_118 : decode cX9_weigh 118 = .ok (.iaload, 1) := by decide +kernel
theorem dX9_weigh_119 : decode cX9_weigh 119 = .ok (.iastore, 1) := by decide +kernel
theorem dX9_weigh_120 : decode cX9_weigh 120 = .ok (.iinc 6 1, 3) := by decide +kernel
theorem dX9_weigh_123 : decode cX9_weigh 123 = .ok (.goto (-47), 3) := by decide +kernel
theorem dX9_weigh_126 : decode cX9_weigh 126 = .ok (.aload_n 0, 1) := by decide +kernel
theorem dX9_weigh_127 : decode cX9_weigh 127 = .ok (.iload 5, 2) := by decide +kernel
theorem dX9_weigh_129 : decode cX9_weigh 129 = .ok (.invokevirtual 212, 3) := by decide +kernel
theorem dX9_weigh_132 : decode cX9_weigh 132 = .ok (.istore 5, 2) := by decide +kernel
theorem dX9_weigh_134 : decode cX9_weigh 134 = .ok (.iload 4, 2) := by decide +kernel
theorem dX9_weigh_136 : decode cX9_weigh 136 = .ok (.iconst 3, 1) := by decide +kernel
theorem dX9_weigh_137 : decode cX9_weigh 137 = .ok (.if_icmp .ne 44, 3) := by decide +kernel
theorem dX9_weigh_140 : decode cX9_weigh 140 = .ok (.iconst 0, 1) := by decide +kernel
theorem dX9_weigh_141 : decode cX9_weigh 141 = .ok (.istore 6, 2) := by decide +kernel
theorem dX9_weigh_143 : decode cX9_weigh 143 = .ok (.iload 6, 2) := by decide +kernel
theorem dX9_weigh_145 : decode cX9_weigh 145 = .ok (.aload_n 0, 1) := by decide +kernel
theorem dX9_weigh_146 : decode cX9_weigh 146 = .ok (.getfield 165, 3) := by decide +kernel
theorem dX9_weigh_149 : decode cX9_weigh 149 = .ok (.if_icmp .ge 24, 3) := by decide +kernel
theorem dX9_weigh_152 : decode cX9_weigh 152 = .ok (.aload_n 0, 1) := by decide +kernel
theorem dX9_weigh_153 : decode cX9_weigh 153 = .ok (.getfield 99, 3) := by decide +kernel
theorem dX9_weigh_156 : decode cX9_weigh 156 = .ok (.iload 6, 2) := by decide +kernel
theorem dX9_weigh_158 : decode cX9_weigh 158 = .ok (.aload_n 0, 1) := by decide +kernel
theorem dX9_weigh_159 : decode cX9_weigh 159 = .ok (.getfield 57, 3) := by decide +kernel
theorem dX9_weigh_162 : decode cX9_weigh 162 = .ok (.iload 6, 2) := by decide +kernel
theorem dX9_weigh_164 : decode cX9_weigh 164 = .ok (.iaload, 1) := by decide +kernel
theorem dX9_weigh_165 : decode cX9_weigh 165 = .ok (.ineg, 1) := by decide +kernel
theorem dX9_weigh_166 : decode cX9_weigh 166 = .ok (.iastore, 1) := by decide +kernel
theorem dX9_weigh_167 : decode cX9_weigh 167 = .ok (.iinc 6 1, 3) := by decide +kernel
theorem dX9_weigh_170 : decode cX9_weigh 170 = .ok (.goto (-27), 3) := by decide +kernel
theorem dX9_weigh_173 : decode cX9_weigh 173 = .ok (.aload_n 0, 1) := by decide +kernel
theorem dX9_weigh_174 : decode cX9_weigh 174 = .ok (.iload 5, 2) := by decide +kernel
theorem dX9_weigh_176 : decode cX9_weigh 176 = .ok (.invokevirtual 212, 3) := by decide +kernel
theorem dX9_weigh_179 : decode cX9_weigh 179 = .ok (.istore 5, 2) := by decide +kernel
theorem dX9_weigh_181 : decode cX9_weigh 181 = .ok (.aload_n 0, 1) := by decide +kernel
theorem dX9_weigh_182 : decode cX9_weigh 182 = .ok (.iload 5, 2) := by decide +kernel
theorem dX9_weigh_184 : decode cX9_weigh 184 = .ok (.iconst 0, 1) := by decide +kernel
theorem dX9_weigh_185 : decode cX9_weigh 185 = .ok (.invokevirtual 208, 3) := by decide +kernel
theorem dX9_weigh_188 : decode cX9_weigh 188 = .ok (.ireturn, 1) := by decide +kernel
theorem dX9_deciding_0 : decode cX9_deciding 0 = .ok (.aload_n 0, 1) := by decide +kernel
theorem dX9_deciding_1 : decode cX9_deciding 1 = .ok (.aload_n 0, 1) := by decide +kernel
theorem dX9_deciding_2 : decode cX9_deciding 2 = .ok (.iload_n 1, 1) := by decide +kernel
theorem dX9_deciding_3 : decode cX9_deciding 3 = .ok (.aload_n 2, 1) := by decide +kernel
theorem dX9_deciding_4 : decode cX9_deciding 4 = .ok (.iload_n 3, 1) := by decide +kernel
theorem dX9_deciding_5 : decode cX9_deciding 5 = .ok (.iload 4, 2) := by decide +kernel
theorem dX9_deciding_7 : decode cX9_deciding 7 = .ok (.invokevirtual 199, 3) := by decide +kernel
theorem dX9_deciding_10 : decode cX9_deciding 10 = .ok (.aload_n 2, 1) := by decide +kernel
theorem dX9_deciding_11 : decode cX9_deciding 11 = .ok (.iload 4, 2) := by decide +kernel
theorem dX9_deciding_13 : decode cX9_deciding 13 = .ok (.iload 5, 2) := by decide +kernel
theorem dX9_deciding_15 : decode cX9_deciding 15 = .ok (.invokevirtual 215, 3) := by decide +kernel
theorem dX9_deciding_18 : decode cX9_deciding 18 = .ok (.ireturn, 1) := by decide +kernel
theorem dX9_isWalled_0 : decode cX9_isWalled 0 = .ok (.iconst 0, 1) := by decide +kernel
theorem dX9_isWalled_1 : decode cX9_isWalled 1 = .ok (.istore_n 3, 1) := by decide +kernel
theorem dX9_isWalled_2 : decode cX9_isWalled 2 = .ok (.iload_n 3, 1) := by decide +kernel
theorem dX9_isWalled_3 : decode cX9_isWalled 3 = .ok (.aload_n 0, 1) := by decide +kernel
theorem dX9_isWalled_4 : decode cX9_isWalled 4 = .ok (.getfield 25, 3) := by decide +kernel
theorem dX9_isWalled_7 : decode cX9_isWalled 7 = .ok (.if_icmp .ge 65, 3) := by decide +kernel
theorem dX9_isWalled_10 : decode cX9_isWalled 10 = .ok (.aload_n 0, 1) := by decide +kernel
theorem dX9_isWalled_11 : decode cX9_isWalled 11 = .ok (.getfield 90, 3) := by decide +kernel
theorem dX9_isWalled_14 : decode cX9_isWalled 14 = .ok (.iload_n 1, 1) := by decide +kernel
theorem dX9_isWalled_15 : decode cX9_isWalled 15 = .ok (.bipush 24, 2) := by decide +kernel
theorem dX9_isWalled_17 : decode cX9_isWalled 17 = .ok (.imul, 1) := by decide +kernel
theorem dX9_isWalled_18 : decode cX9_isWalled 18 = .ok (.iload_n 3, 1) := by decide +kernel
theorem dX9_isWalled_19 : decode cX9_isWalled 19 = .ok (.iadd, 1) := by decide +kernel
theorem dX9_isWalled_20 : decode cX9_isWalled 20 = .ok (.iaload, 1) := by decide +kernel
theorem dX9_isWalled_21 : decode cX9_isWalled 21 = .ok (.ifCond .eq 45, 3) := by decide +kernel
theorem dX9_isWalled_24 : decode cX9_isWalled 24 = .ok (.aload_n 0, 1) := by decide +kernel
theorem dX9_isWalled_25 : decode cX9_isWalled 25 = .ok (.getfield 35, 3) := by decide +kernel
theorem dX9_isWalled_28 : decode cX9_isWalled 28 = .ok (.iload_n 2, 1) := by decide +kernel
theorem dX9_isWalled_29 : decode cX9_isWalled 29 = .ok (.iaload, 1) := by decide +kernel
theorem dX9_isWalled_30 : decode cX9_isWalled 30 = .ok (.iconst (-1), 1) := by decide +kernel
theorem dX9_isWalled_31 : decode cX9_isWalled 31 = .ok (.if_icmp .eq 35, 3) := by decide +kernel
theorem dX9_isWalled_34 : decode cX9_isWalled 34 = .ok (.aload_n 0, 1) := by decide +kernel
theorem dX9_isWalled_35 : decode cX9_isWalled 35 = .ok (.getfield 35, 3) := by decide +kernel
theorem dX9_isWalled_38 : decode cX9_isWalled 38 = .ok (.iload_n 3, 1) := by decide +kernel
theorem dX9_isWalled_39 : decode cX9_isWalled 39 = .ok (.iaload, 1) := by decide +kernel
theorem dX9_isWalled_40 : decode cX9_isWalled 40 = .ok (.aload_n 0, 1) := by decide +kernel
theorem dX9_isWalled_41 : decode cX9_isWalled 41 = .ok (.getfield 35, 3) := by decide +kernel
theorem dX9_isWalled_44 : decode cX9_isWalled 44 = .ok (.iload_n 2, 1) := by decide +kernel
theorem dX9_isWalled_45 : decode cX9_isWalled 45 = .ok (.iaload, 1) := by decide +kernel
theorem dX9_isWalled_46 : decode cX9_isWalled 46 = .ok (.if_icmp .ne 20, 3) := by decide +kernel
theorem dX9_isWalled_49 : decode cX9_isWalled 49 = .ok (.aload_n 0, 1) := by decide +kernel
theorem dX9_isWalled_50 : decode cX9_isWalled 50 = .ok (.getfield 38, 3) := by decide +kernel
theorem dX9_isWalled_53 : decode cX9_isWalled 53 = .ok (.iload_n 3, 1) := by decide +kernel
theorem dX9_isWalled_54 : decode cX9_isWalled 54 = .ok (.iaload, 1) := by decide +kernel
theorem dX9_isWalled_55 : decode cX9_isWalled 55 = .ok (.aload_n 0, 1) := by decide +kernel
theorem dX9_isWalled_56 : decode cX9_isWalled 56 = .ok (.getfield 38, 3) := by decide +kernel
theorem dX9_isWalled_59 : decode cX9_isWalled 59 = .ok (.iload_n 2, 1) := by decide +kernel
theorem dX9_isWalled_60 : decode cX9_isWalled 60 = .ok (.iaload, 1) := by decide +kernel
theorem dX9_isWalled_61 : decode cX9_isWalled 61 = .ok (.if_icmp .eq 5, 3) := by decide +kernel
theorem dX9_isWalled_64 : decode cX9_isWalled 64 = .ok (.iconst 1, 1) := by decide +kernel
theorem dX9_isWalled_65 : decode cX9_isWalled 65 = .ok (.ireturn, 1) := by decide +kernel
theorem dX9_isWalled_66 : decode cX9_isWalled 66 = .ok (.iinc 3 1, 3) := by decide +kernel
theorem dX9_isWalled_69 : decode cX9_isWalled 69 = .ok (.goto (-67), 3) := by decide +kernel
theorem dX9_isWalled_72 : decode cX9_isWalled 72 = .ok (.iconst 0, 1) := by decide +kernel
theorem dX9_isWalled_73 : decode cX9_isWalled 73 = .ok (.ireturn, 1) := by decide +kernel
theorem dX9_barred_0 : decode cX9_barred 0 = .ok (.iload_n 2, 1) := by decide +kernel
theorem dX9_barred_1 : decode cX9_barred 1 = .ok (.ifCond .ne 18, 3) := by decide +kernel
theorem dX9_barred_4 : decode cX9_barred 4 = .ok (.aload_n 0, 1) := by decide +kernel
theorem dX9_barred_5 : decode cX9_barred 5 = .ok (.getfield 32, 3) := by decide +kernel
theorem dX9_barred_8 : decode cX9_barred 8 = .ok (.iload_n 3, 1) := by decide +kernel
theorem dX9_barred_9 : decode cX9_barred 9 = .ok (.iaload, 1) := by decide +kernel
theorem dX9_barred_10 : decode cX9_barred 10 = .ok (.aload_n 0, 1) := by decide +kernel
theorem dX9_barred_11 : decode cX9_barred 11 = .ok (.getfield 13, 3) := by decide +kernel
theorem dX9_barred_14 : decode cX9_barred 14 = .ok (.iload_n 1, 1) := by decide +kernel
theorem dX9_barred_15 : decode cX9_barred 15 = .ok (.iaload, 1) := by decide +kernel
theorem dX9_barred_16 : decode cX9_barred 16 = .ok (.if_icmp .gt 27, 3) := by decide +kernel
theorem dX9_barred_19 : decode cX9_barred 19 = .ok (.iload_n 2, 1) := by decide +kernel
theorem dX9_barred_20 : decode cX9_barred 20 = .ok (.iconst 1, 1) := by decide +kernel
theorem dX9_barred_21 : decode cX9_barred 21 = .ok (.iconst 3, 1) := by decide +kernel
theorem dX9_barred_22 : decode cX9_barred 22 = .ok (.invokestatic 108, 3) := by decide +kernel
theorem dX9_barred_25 : decode cX9_barred 25 = .ok (.ifCond .eq 20, 3) := by decide +kernel
theorem dX9_barred_28 : decode cX9_barred 28 = .ok (.aload_n 0, 1) := by decide +kernel
theorem dX9_barred_29 : decode cX9_barred 29 = .ok (.getfield 32, 3) := by decide +kernel
theorem dX9_barred_32 : decode cX9_barred 32 = .ok (.iload_n 3, 1) := by decide +kernel
theorem dX9_barred_33 : decode cX9_barred 33 = .ok (.iaload, 1) := by decide +kernel
theorem dX9_barred_34 : decode cX9_barred 34 = .ok (.aload_n 0, 1) := by decide +kernel
theorem dX9_barred_35 : decode cX9_barred 35 = .ok (.getfield 13, 3) := by decide +kernel
theorem dX9_barred_38 : decode cX9_barred 38 = .ok (.iload_n 1, 1) := by decide +kernel
theorem dX9_barred_39 : decode cX9_barred 39 = .ok (.iaload, 1) := by decide +kernel
theorem dX9_barred_40 : decode cX9_barred 40 = .ok (.if_icmp .ge 5, 3) := by decide +kernel
theorem dX9_barred_43 : decode cX9_barred 43 = .ok (.iconst 4, 1) := by decide +kernel
theorem dX9_barred_44 : decode cX9_barred 44 = .ok (.ireturn, 1) := by decide +kernel
theorem dX9_barred_45 : decode cX9_barred 45 = .ok (.aload_n 0, 1) := by decide +kernel
theorem dX9_barred_46 : decode cX9_barred 46 = .ok (.iload_n 1, 1) := by decide +kernel
theorem dX9_barred_47 : decode cX9_barred 47 = .ok (.iload_n 3, 1) := by decide +kernel
theorem dX9_barred_48 : decode cX9_barred 48 = .ok (.invokevirtual 218, 3) := by decide +kernel
theorem dX9_barred_51 : decode cX9_barred 51 = .ok (.ifCond .eq 7, 3) := by decide +kernel
theorem dX9_barred_54 : decode cX9_barred 54 = .ok (.iconst 5, 1) := by decide +kernel
theorem dX9_barred_55 : decode cX9_barred 55 = .ok (.goto 4, 3) := by decide +kernel
theorem dX9_barred_58 : decode cX9_barred 58 = .ok (.iconst 0, 1) := by decide +kernel
theorem dX9_barred_59 : decode cX9_barred 59 = .ok (.ireturn, 1) := by decide +kernel
theorem dX9_byRules_0 : decode cX9_byRules 0 = .ok (.aload_n 0, 1) := by decide +kernel
theorem dX9_byRules_1 : decode cX9_byRules 1 = .ok (.iload_n 1, 1) := by decide +kernel
theorem dX9_byRules_2 : decode cX9_byRules 2 = .ok (.iload_n 3, 1) := by decide +kernel
theorem dX9_byRules_3 : decode cX9_byRules 3 = .ok (.iload 4, 2) := by decide +kernel
theorem dX9_byRules_5 : decode cX9_byRules 5 = .ok (.invokevirtual 222, 3) := by decide +kernel
theorem dX9_byRules_8 : decode cX9_byRules 8 = .ok (.istore 6, 2) := by decide +kernel
theorem dX9_byRules_10 : decode cX9_byRules 10 = .ok (.iload 6, 2) := by decide +kernel
theorem dX9_byRules_12 : decode cX9_byRules 12 = .ok (.ifCond .eq 6, 3) := by decide +kernel
theorem dX9_byRules_15 : decode cX9_byRules 15 = .ok (.iload 6, 2) := by decide +kernel
theorem dX9_byRules_17 : decode cX9_byRules 17 = .ok (.ireturn, 1) := by decide +kernel
theorem dX9_byRules_18 : decode cX9_byRules 18 = .ok (.aload_n 0, 1) := by decide +kernel
theorem dX9_byRules_19 : decode cX9_byRules 19 = .ok (.iload_n 1, 1) := by decide +kernel
theorem dX9_byRules_20 : decode cX9_byRules 20 = .ok (.aload_n 2, 1) := by decide +kernel
theorem dX9_byRules_21 : decode cX9_byRules 21 = .ok (.iload_n 3, 1) := by decide +kernel
theorem dX9_byRules_22 : decode cX9_byRules 22 = .ok (.iload 4, 2) := by decide +kernel
theorem dX9_byRules_24 : decode cX9_byRules 24 = .ok (.iload 5, 2) := by decide +kernel
theorem dX9_byRules_26 : decode cX9_byRules 26 = .ok (.invokevirtual 225, 3) := by decide +kernel
theorem dX9_byRules_29 : decode cX9_byRules 29 = .ok (.istore 7, 2) := by decide +kernel
theorem dX9_byRules_31 : decode cX9_byRules 31 = .ok (.iload 7, 2) := by decide +kernel
theorem dX9_byRules_33 : decode cX9_byRules 33 = .ok (.iconst (-1), 1) := by decide +kernel
theorem dX9_byRules_34 : decode cX9_byRules 34 = .ok (.if_icmp .ne 7, 3) := by decide +kernel
theorem dX9_byRules_37 : decode cX9_byRules 37 = .ok (.iconst 0, 1) := by decide +kernel
theorem dX9_byRules_38 : decode cX9_byRules 38 = .ok (.goto 18, 3) := by decide +kernel
theorem dX9_byRules_41 : decode cX9_byRules 41 = .ok (.aload_n 0, 1) := by decide +kernel
theorem dX9_byRules_42 : decode cX9_byRules 42 = .ok (.getfield 41, 3) := by decide +kernel
theorem dX9_byRules_45 : decode cX9_byRules 45 = .ok (.iload 7, 2) := by decide +kernel
theorem dX9_byRules_47 : decode cX9_byRules 47 = .ok (.baload, 1) := by decide +kernel
theorem dX9_byRules_48 : decode cX9_byRules 48 = .ok (.ifCond .eq 7, 3) := by decide +kernel
theorem dX9_byRules_51 : decode cX9_byRules 51 = .ok (.iconst 1, 1) := by decide +kernel
theorem dX9_byRules_52 : decode cX9_byRules 52 = .ok (.goto 4, 3) := by decide +kernel
theorem dX9_byRules_55 : decode cX9_byRules 55 = .ok (.iconst 2, 1) := by decide +kernel
theorem dX9_byRules_56 : decode cX9_byRules 56 = .ok (.ireturn, 1) := by decide +kernel
theorem dX9_allNears_0 : decode cX9_allNears 0 = .ok (.bipush 12, 2) := by decide +kernel
theorem dX9_allNears_2 : decode cX9_allNears 2 = .ok (.anewarray 229, 3) := by decide +kernel
theorem dX9_allNears_5 : decode cX9_allNears 5 = .ok (.astore_n 1, 1) := by decide +kernel
theorem dX9_allNears_6 : decode cX9_allNears 6 = .ok (.iconst 0, 1) := by decide +kernel
theorem dX9_allNears_7 : decode cX9_allNears 7 = .ok (.istore_n 2, 1) := by decide +kernel
theorem dX9_allNears_8 : decode cX9_allNears 8 = .ok (.iload_n 2, 1) := by decide +kernel
theorem dX9_allNears_9 : decode cX9_allNears 9 = .ok (.aload_n 0, 1) := by decide +kernel
theorem dX9_allNears_10 : decode cX9_allNears 10 = .ok (.getfield 105, 3) := by decide +kernel
theorem dX9_allNears_13 : decode cX9_allNears 13 = .ok (.if_icmp .ge 22, 3) := by decide +kernel
theorem dX9_allNears_16 : decode cX9_allNears 16 = .ok (.aload_n 1, 1) := by decide +kernel
theorem dX9_allNears_17 : decode cX9_allNears 17 = .ok (.iload_n 2, 1) := by decide +kernel
theorem dX9_allNears_18 : decode cX9_allNears 18 = .ok (.aload_n 0, 1) := by decide +kernel
theorem dX9_allNears_19 : decode cX9_allNears 19 = .ok (.aload_n 0, 1) := by decide +kernel
theorem dX9_allNears_20 : decode cX9_allNears 20 = .ok (.getfield 9, 3) := by decide +kernel
theorem dX9_allNears_23 : decode cX9_allNears 23 = .ok (.iload_n 2, 1) := by decide +kernel
theorem dX9_allNears_24 : decode cX9_allNears 24 = .ok (.iaload, 1) := by decide +kernel
theorem dX9_allNears_25 : decode cX9_allNears 25 = .ok (.invokevirtual 155, 3) := by decide +kernel
theorem dX9_allNears_28 : decode cX9_allNears 28 = .ok (.aastore, 1) := by decide +kernel
theorem dX9_allNears_29 : decode cX9_allNears 29 = .ok (.iinc 2 1, 3) := by decide +kernel
theorem dX9_allNears_32 : decode cX9_allNears 32 = .ok (.goto (-24), 3) := by decide +kernel
theorem dX9_allNears_35 : decode cX9_allNears 35 = .ok (.aload_n 1, 1) := by decide +kernel
theorem dX9_allNears_36 : decode cX9_allNears 36 = .ok (.areturn, 1) := by decide +kernel
theorem dX9_isByRules_0 : decode cX9_isByRules 0 = .ok (.aload_n 0, 1) := by decide +kernel
theorem dX9_isByRules_1 : decode cX9_isByRules 1 = .ok (.aload_n 0, 1) := by decide +kernel
theorem dX9_isByRules_2 : decode cX9_isByRules 2 = .ok (.getfield 69, 3) := by decide +kernel
theorem dX9_isByRules_5 : decode cX9_isByRules 5 = .ok (.iload_n 1, 1) := by decide +kernel
theorem dX9_isByRules_6 : decode cX9_isByRules 6 = .ok (.iaload, 1) := by decide +kernel
theorem dX9_isByRules_7 : decode cX9_isByRules 7 = .ok (.aload_n 2, 1) := by decide +kernel
theorem dX9_isByRules_8 : decode cX9_isByRules 8 = .ok (.aload_n 0, 1) := by decide +kernel
theorem dX9_isByRules_9 : decode cX9_isByRules 9 = .ok (.getfield 75, 3) := by decide +kernel
theorem dX9_isByRules_12 : decode cX9_isByRules 12 = .ok (.iload_n 1, 1) := by decide +kernel
theorem dX9_isByRules_13 : decode cX9_isByRules 13 = .ok (.iaload, 1) := by decide +kernel
theorem dX9_isByRules_14 : decode cX9_isByRules 14 = .ok (.aload_n 0, 1) := by decide +kernel
theorem dX9_isByRules_15 : decode cX9_isByRules 15 = .ok (.getfield 78, 3) := by decide +kernel
theorem dX9_isByRules_18 : decode cX9_isByRules 18 = .ok (.iload_n 1, 1) := by decide +kernel
theorem dX9_isByRules_19 : decode cX9_isByRules 19 = .ok (.iaload, 1) := by decide +kernel
theorem dX9_isByRules_20 : decode cX9_isByRules 20 = .ok (.iload_n 3, 1) := by decide +kernel
theorem dX9_isByRules_21 : decode cX9_isByRules 21 = .ok (.invokevirtual 230, 3) := by decide +kernel
theorem dX9_isByRules_24 : decode cX9_isByRules 24 = .ok (.iconst 1, 1) := by decide +kernel
theorem dX9_isByRules_25 : decode cX9_isByRules 25 = .ok (.if_icmp .ne 30, 3) := by decide +kernel
theorem dX9_isByRules_28 : decode cX9_isByRules 28 = .ok (.aload_n 0, 1) := by decide +kernel
theorem dX9_isByRules_29 : decode cX9_isByRules 29 = .ok (.aload_n 0, 1) := by decide +kernel
theorem dX9_isByRules_30 : decode cX9_isByRules 30 = .ok (.getfield 69, 3) := by decide +kernel
theorem dX9_isByRules_33 : decode cX9_isByRules 33 = .ok (.iload_n 1, 1) := by decide +kernel
theorem dX9_isByRules_34 : decode cX9_isByRules 34 = .ok (.iaload, 1) := by decide +kernel
theorem dX9_isByRules_35 : decode cX9_isByRules 35 = .ok (.aload_n 2, 1) := by decide +kernel
theorem dX9_isByRules_36 : decode cX9_isByRules 36 = .ok (.iconst 4, 1) := by decide +kernel
theorem dX9_isByRules_37 : decode cX9_isByRules 37 = .ok (.aload_n 0, 1) := by decide +kernel
theorem dX9_isByRules_38 : decode cX9_isByRules 38 = .ok (.getfield 78, 3) := by decide +kernel
theorem dX9_isByRules_41 : decode cX9_isByRules 41 = .ok (.iload_n 1, 1) := by decide +kernel
theorem dX9_isByRules_42 : decode cX9_isByRules 42 = .ok (.iaload, 1) := by decide +kernel
theorem dX9_isByRules_43 : decode cX9_isByRules 43 = .ok (.iload_n 3, 1) := by decide +kernel
theorem dX9_isByRules_44 : decode cX9_isByRules 44 = .ok (.invokevirtual 230, 3) := by decide +kernel
theorem dX9_isByRules_47 : decode cX9_isByRules 47 = .ok (.iconst 1, 1) := by decide +kernel
theorem dX9_isByRules_48 : decode cX9_isByRules 48 = .ok (.if_icmp .ne 7, 3) := by decide +kernel
theorem dX9_isByRules_51 : decode cX9_isByRules 51 = .ok (.iconst 1, 1) := by decide +kernel
theorem dX9_isByRules_52 : decode cX9_isByRules 52 = .ok (.goto 4, 3) := by decide +kernel
theorem dX9_isByRules_55 : decode cX9_isByRules 55 = .ok (.iconst 0, 1) := by decide +kernel
theorem dX9_isByRules_56 : decode cX9_isByRules 56 = .ok (.ireturn, 1) := by decide +kernel
theorem dX9_leaning_0 : decode cX9_leaning 0 = .ok (.iconst 0, 1) := by decide +kernel
theorem dX9_leaning_1 : decode cX9_leaning 1 = .ok (.istore_n 2, 1) := by decide +kernel
theorem dX9_leaning_2 : decode cX9_leaning 2 = .ok (.iconst 0, 1) := by decide +kernel
theorem dX9_leaning_3 : decode cX9_leaning 3 = .ok (.istore_n 3, 1) := by decide +kernel
theorem dX9_leaning_4 : decode cX9_leaning 4 = .ok (.iload_n 3, 1) := by decide +kernel
theorem dX9_leaning_5 : decode cX9_leaning 5 = .ok (.aload_n 0, 1) := by decide +kernel
theorem dX9_leaning_6 : decode cX9_leaning 6 = .ok (.getfield 233, 3) := by decide +kernel
theorem dX9_leaning_9 : decode cX9_leaning 9 = .ok (.if_icmp .ge 157, 3) := by decide +kernel
theorem dX9_leaning_12 : decode cX9_leaning 12 = .ok (.iload_n 1, 1) := by decide +kernel
theorem dX9_leaning_13 : decode cX9_leaning 13 = .ok (.iload_n 3, 1) := by decide +kernel
theorem dX9_leaning_14 : decode cX9_leaning 14 = .ok (.ishr, 1) := by decide +kernel
theorem dX9_leaning_15 : decode cX9_leaning 15 = .ok (.iconst 1, 1) := by decide +kernel
theorem dX9_leaning_16 : decode cX9_leaning 16 = .ok (.iand, 1) := by decide +kernel
theorem dX9_leaning_17 : decode cX9_leaning 17 = .ok (.ifCond .eq 7, 3) := by decide +kernel
theorem dX9_leaning_20 : decode cX9_leaning 20 = .ok (.iconst 1, 1) := by decide +kernel
theorem dX9_leaning_21 : decode cX9_leaning 21 = .ok (.goto 4, 3) := by decide +kernel
theorem dX9_leaning_24 : decode cX9_leaning 24 = .ok (.iconst 0, 1) := by decide +kernel
theorem dX9_leaning_25 : decode cX9_leaning 25 = .ok (.istore 4, 2) := by decide +kernel
theorem dX9_leaning_27 : decode cX9_leaning 27 = .ok (.iconst 0, 1) := by decide +kernel
theorem dX9_leaning_28 : decode cX9_leaning 28 = .ok (.istore 5, 2) := by decide +kernel
theorem dX9_leaning_30 : decode cX9_leaning 30 = .ok (.iload 5, 2) := by decide +kernel
theorem dX9_leaning_32 : decode cX9_leaning 32 = .ok (.iload_n 3, 1) := by decide +kernel
theorem dX9_leaning_33 : decode cX9_leaning 33 = .ok (.if_icmp .ge 99, 3) := by decide +kernel
theorem dX9_leaning_36 : decode cX9_leaning 36 = .ok (.iload 4, 2) := by decide +kernel
theorem dX9_leaning_38 : decode cX9_leaning 38 = .ok (.ifCond .ne 94, 3) := by decide +kernel
theorem dX9_leaning_41 : decode cX9_leaning 41 = .ok (.iload_n 2, 1) := by decide +kernel
theorem dX9_leaning_42 : decode cX9_leaning 42 = .ok (.iload 5, 2) := by decide +kernel
theorem dX9_leaning_44 : decode cX9_leaning 44 = .ok (.ishr, 1) := by decide +kernel
theorem dX9_leaning_45 : decode cX9_leaning 45 = .ok (.iconst 1, 1) := by decide +kernel
theorem dX9_leaning_46 : decode cX9_leaning 46 = .ok (.iand, 1) := by decide +kernel
theorem dX9_leaning_47 : decode cX9_leaning 47 = .ok (.ifCond .eq 76, 3) := by decide +kernel
theorem dX9_leaning_50 : decode cX9_leaning 50 = .ok (.aload_n 0, 1) := by decide +kernel
theorem dX9_leaning_51 : decode cX9_leaning 51 = .ok (.getfield 72, 3) := by decide +kernel
theorem dX9_leaning_54 : decode cX9_leaning 54 = .ok (.iload 5, 2) := by decide +kernel
theorem dX9_leaning_56 : decode cX9_leaning 56 = .ok (.iaload, 1) := by decide +kernel
theorem dX9_leaning_57 : decode cX9_leaning 57 = .ok (.aload_n 0, 1) := by decide +kernel
theorem dX9_leaning_58 : decode cX9_leaning 58 = .ok (.getfield 69, 3) := by decide +kernel
theorem dX9_leaning_61 : decode cX9_leaning 61 = .ok (.iload_n 3, 1) := by decide +kernel
theorem dX9_leaning_62 : decode cX9_leaning 62 = .ok (.iaload, 1) := by decide +kernel
theorem dX9_leaning_63 : decode cX9_leaning 63 = .ok (.if_icmp .ne 60, 3) := by decide +kernel
theorem dX9_leaning_66 : decode cX9_leaning 66 = .ok (.aload_n 0, 1) := by decide +kernel
theorem dX9_leaning_67 : decode cX9_leaning 67 = .ok (.getfield 75, 3) := by decide +kernel
theorem dX9_leaning_70 : decode cX9_leaning 70 = .ok (.iload 5, 2) := by decide +kernel
theorem dX9_leaning_72 : decode cX9_leaning 72 = .ok (.iaload, 1) := by decide +kernel
theorem dX9_leaning_73 : decode cX9_leaning 73 = .ok (.aload_n 0, 1) := by decide +kernel
theorem dX9_leaning_74 : decode cX9_leaning 74 = .ok (.getfield 75, 3) := by decide +kernel
theorem dX9_leaning_77 : decode cX9_leaning 77 = .ok (.iload_n 3, 1) := by decide +kernel
theorem dX9_leaning_78 : decode cX9_leaning 78 = .ok (.iaload, 1) := by decide +kernel
theorem dX9_leaning_79 : decode cX9_leaning 79 = .ok (.if_icmp .ne 44, 3) := by decide +kernel
theorem dX9_leaning_82 : decode cX9_leaning 82 = .ok (.aload_n 0, 1) := by decide +kernel
theorem dX9_leaning_83 : decode cX9_leaning 83 = .ok (.getfield 81, 3) := by decide +kernel
theorem dX9_leaning_86 : decode cX9_leaning 86 = .ok (.iload 5, 2) := by decide +kernel
theorem dX9_leaning_88 : decode cX9_leaning 88 = .ok (.iaload, 1) := by decide +kernel
theorem dX9_leaning_89 : decode cX9_leaning 89 = .ok (.aload_n 0, 1) := by decide +kernel
theorem dX9_leaning_90 : decode cX9_leaning 90 = .ok (.getfield 81, 3) := by decide +kernel
theorem dX9_leaning_93 : decode cX9_leaning 93 = .ok (.iload_n 3, 1) := by decide +kernel
theorem dX9_leaning_94 : decode cX9_leaning 94 = .ok (.iaload, 1) := by decide +kernel
theorem dX9_leaning_95 : decode cX9_leaning 95 = .ok (.if_icmp .le 28, 3) := by decide +kernel
theorem dX9_leaning_98 : decode cX9_leaning 98 = .ok (.aload_n 0, 1) := by decide +kernel
theorem dX9_leaning_99 : decode cX9_leaning 99 = .ok (.aload_n 0, 1) := by decide +kernel
theorem dX9_leaning_100 : decode cX9_leaning 100 = .ok (.getfield 78, 3) := by decide +kernel
theorem dX9_leaning_103 : decode cX9_leaning 103 = .ok (.iload_n 3, 1) := by decide +kernel
theorem dX9_leaning_104 : decode cX9_leaning 104 = .ok (.iaload, 1) := by decide +kernel
theorem dX9_leaning_105 : decode cX9_leaning 105 = .ok (.aload_n 0, 1) := by decide +kernel
theorem dX9_leaning_106 : decode cX9_leaning 106 = .ok (.getfield 78, 3) := by decide +kernel
theorem dX9_leaning_109 : decode cX9_leaning 109 = .ok (.iload 5, 2) := by decide +kernel
theorem dX9_leaning_111 : decode cX9_leaning 111 = .ok (.iaload, 1) := by decide +kernel
theorem dX9_leaning_112 : decode cX9_leaning 112 = .ok (.invokevirtual 161, 3) := by decide +kernel
theorem dX9_leaning_115 : decode cX9_leaning 115 = .ok (.iconst (-1), 1) := by decide +kernel
theorem dX9_leaning_116 : decode cX9_leaning 116 = .ok (.if_icmp .eq 7, 3) := by decide +kernel
theorem dX9_leaning_119 : decode cX9_leaning 119 = .ok (.iconst 1, 1) := by decide +kernel
theorem dX9_leaning_120 : decode cX9_leaning 120 = .ok (.goto 4, 3) := by decide +kernel
theorem dX9_leaning_123 : decode cX9_leaning 123 = .ok (.iconst 0, 1) := by decide +kernel
theorem dX9_leaning_124 : decode cX9_leaning 124 = .ok (.istore 4, 2) := by decide +kernel
theorem dX9_leaning_126 : decode cX9_leaning 126 = .ok (.iinc 5 1, 3) := by decide +kernel
theorem dX9_leaning_129 : decode cX9_leaning 129 = .ok (.goto (-99), 3) := by decide +kernel
theorem dX9_leaning_132 : decode cX9_leaning 132 = .ok (.iload_n 2, 1) := by decide +kernel
theorem dX9_leaning_133 : decode cX9_leaning 133 = .ok (.iload 4, 2) := by decide +kernel
theorem dX9_leaning_135 : decode cX9_leaning 135 = .ok (.ifCond .eq 22, 3) := by decide +kernel
theorem dX9_leaning_138 : decode cX9_leaning 138 = .ok (.aload_n 0, 1) := by decide +kernel
theorem dX9_leaning_139 : decode cX9_leaning 139 = .ok (.getfield 84, 3) := by decide +kernel
theorem dX9_leaning_142 : decode cX9_leaning 142 = .ok (.iload_n 3, 1) := by decide +kernel
theorem dX9_leaning_143 : decode cX9_leaning 143 = .ok (.iaload, 1) := by decide +kernel
theorem dX9_leaning_144 : decode cX9_leaning 144 = .ok (.aload_n 0, 1) := by decide +kernel
theorem dX9_leaning_145 : decode cX9_leaning 145 = .ok (.getfield 174, 3) := by decide +kernel
theorem dX9_leaning_148 : decode cX9_leaning 148 = .ok (.if_icmp .le 9, 3) := by decide +kernel
theorem dX9_leaning_151 : decode cX9_leaning 151 = .ok (.iconst 1, 1) := by decide +kernel
theorem dX9_leaning_152 : decode cX9_leaning 152 = .ok (.iload_n 3, 1) := by decide +kernel
theorem dX9_leaning_153 : decode cX9_leaning 153 = .ok (.ishl, 1) := by decide +kernel
theorem dX9_leaning_154 : decode cX9_leaning 154 = .ok (.goto 4, 3) := by decide +kernel
theorem dX9_leaning_157 : decode cX9_leaning 157 = .ok (.iconst 0, 1) := by decide +kernel
theorem dX9_leaning_158 : decode cX9_leaning 158 = .ok (.ior, 1) := by decide +kernel
theorem dX9_leaning_159 : decode cX9_leaning 159 = .ok (.istore_n 2, 1) := by decide +kernel
theorem dX9_leaning_160 : decode cX9_leaning 160 = .ok (.iinc 3 1, 3) := by decide +kernel
theorem dX9_leaning_163 : decode cX9_leaning 163 = .ok (.goto (-159), 3) := by decide +kernel
theorem dX9_leaning_166 : decode cX9_leaning 166 = .ok (.iload_n 2, 1) := by decide +kernel
theorem dX9_leaning_167 : decode cX9_leaning 167 = .ok (.ireturn, 1) := by decide +kernel
theorem dX9_good_0 : decode cX9_good 0 = .ok (.iconst 0, 1) := by decide +kernel
theorem dX9_good_1 : decode cX9_good 1 = .ok (.istore_n 3, 1) := by decide +kernel
theorem dX9_good_2 : decode cX9_good 2 = .ok (.iconst 0, 1) := by decide +kernel
theorem dX9_good_3 : decode cX9_good 3 = .ok (.istore 4, 2) := by decide +kernel
theorem dX9_good_5 : decode cX9_good 5 = .ok (.iload 4, 2) := by decide +kernel
theorem dX9_good_7 : decode cX9_good 7 = .ok (.aload_n 0, 1) := by decide +kernel
theorem dX9_good_8 : decode cX9_good 8 = .ok (.getfield 233, 3) := by decide +kernel
theorem dX9_good_11 : decode cX9_good 11 = .ok (.if_icmp .ge 53, 3) := by decide +kernel
theorem dX9_good_14 : decode cX9_good 14 = .ok (.iload_n 3, 1) := by decide +kernel
theorem dX9_good_15 : decode cX9_good 15 = .ok (.aload_n 0, 1) := by decide +kernel
theorem dX9_good_16 : decode cX9_good 16 = .ok (.getfield 84, 3) := by decide +kernel
theorem dX9_good_19 : decode cX9_good 19 = .ok (.iload 4, 2) := by decide +kernel
theorem dX9_good_21 : decode cX9_good 21 = .ok (.iaload, 1) := by decide +kernel
theorem dX9_good_22 : decode cX9_good 22 = .ok (.aload_n 0, 1) := by decide +kernel
theorem dX9_good_23 : decode cX9_good 23 = .ok (.getfield 174, 3) := by decide +kernel
theorem dX9_good_26 : decode cX9_good 26 = .ok (.if_icmp .le 29, 3) := by decide +kernel
theorem dX9_good_29 : decode cX9_good 29 = .ok (.aload_n 0, 1) := by decide +kernel
theorem dX9_good_30 : decode cX9_good 30 = .ok (.iload 4, 2) := by decide +kernel
theorem dX9_good_32 : decode cX9_good 32 = .ok (.aload_n 1, 1) := by decide +kernel
theorem dX9_good_33 : decode cX9_good 33 = .ok (.aload_n 0, 1) := by decide +kernel
theorem dX9_good_34 : decode cX9_good 34 = .ok (.getfield 69, 3) := by decide +kernel
theorem dX9_good_37 : decode cX9_good 37 = .ok (.iload 4, 2) := by decide +kernel
theorem dX9_good_39 : decode cX9_good 39 = .ok (.iaload, 1) := by decide +kernel
theorem dX9_good_40 : decode cX9_good 40 = .ok (.aaload, 1) := by decide +kernel
theorem dX9_good_41 : decode cX9_good 41 = .ok (.iload_n 2, 1) := by decide +kernel
theorem dX9_good_42 : decode cX9_good 42 = .ok (.invokevirtual 236, 3) := by decide +kernel
theorem dX9_good_45 : decode cX9_good 45 = .ok (.ifCond .eq 10, 3) := by decide +kernel
theorem dX9_good_48 : decode cX9_good 48 = .ok (.iconst 1, 1) := by decide +kernel
theorem dX9_good_49 : decode cX9_good 49 = .ok (.iload 4, 2) := by decide +kernel
theorem dX9_good_51 : decode cX9_good 51 = .ok (.ishl, 1) := by decide +kernel
theorem dX9_good_52 : decode cX9_good 52 = .ok (.goto 4, 3) := by decide +kernel
theorem dX9_good_55 : decode cX9_good 55 = .ok (.iconst 0, 1) := by decide +kernel
theorem dX9_good_56 : decode cX9_good 56 = .ok (.ior, 1) := by decide +kernel
theorem dX9_good_57 : decode cX9_good 57 = .ok (.istore_n 3, 1) := by decide +kernel
theorem dX9_good_58 : decode cX9_good 58 = .ok (.iinc 4 1, 3) := by decide +kernel
theorem dX9_good_61 : decode cX9_good 61 = .ok (.goto (-56), 3) := by decide +kernel
theorem dX9_good_64 : decode cX9_good 64 = .ok (.aload_n 0, 1) := by decide +kernel
theorem dX9_good_65 : decode cX9_good 65 = .ok (.iload_n 3, 1) := by decide +kernel
theorem dX9_good_66 : decode cX9_good 66 = .ok (.invokevirtual 240, 3) := by decide +kernel
theorem dX9_good_69 : decode cX9_good 69 = .ok (.ireturn, 1) := by decide +kernel
theorem dX9_granting_0 : decode cX9_granting 0 = .ok (.iconst 0, 1) := by decide +kernel
theorem dX9_granting_1 : decode cX9_granting 1 = .ok (.istore 5, 2) := by decide +kernel
theorem dX9_granting_3 : decode cX9_granting 3 = .ok (.iload 5, 2) := by decide +kernel
theorem dX9_granting_5 : decode cX9_granting 5 = .ok (.aload_n 0, 1) := by decide +kernel
theorem dX9_granting_6 : decode cX9_granting 6 = .ok (.getfield 233, 3) := by decide +kernel
theorem dX9_granting_9 : decode cX9_granting 9 = .ok (.if_icmp .ge 60, 3) := by decide +kernel
theorem dX9_granting_12 : decode cX9_granting 12 = .ok (.iload_n 1, 1) := by decide +kernel
theorem dX9_granting_13 : decode cX9_granting 13 = .ok (.iload 5, 2) := by decide +kernel
theorem dX9_granting_15 : decode cX9_granting 15 = .ok (.ishr, 1) := by decide +kernel
theorem dX9_granting_16 : decode cX9_granting 16 = .ok (.iconst 1, 1) := by decide +kernel
theorem dX9_granting_17 : decode cX9_granting 17 = .ok (.iand, 1) := by decide +kernel
theorem dX9_granting_18 : decode cX9_granting 18 = .ok (.ifCond .eq 45, 3) := by decide +kernel
theorem dX9_granting_21 : decode cX9_granting 21 = .ok (.aload_n 0, 1) := by decide +kernel
theorem dX9_granting_22 : decode cX9_granting 22 = .ok (.getfield 72, 3) := by decide +kernel
theorem dX9_granting_25 : decode cX9_granting 25 = .ok (.iload 5, 2) := by decide +kernel
theorem dX9_granting_27 : decode cX9_granting 27 = .ok (.iaload, 1) := by decide +kernel
theorem dX9_granting_28 : decode cX9_granting 28 = .ok (.iload_n 2, 1) := by decide +kernel
theorem dX9_granting_29 : decode cX9_granting 29 = .ok (.if_icmp .ne 34, 3) := by decide +kernel
theorem dX9_granting_32 : decode cX9_granting 32 = .ok (.aload_n 0, 1) := by decide +kernel
theorem dX9_granting_33 : decode cX9_granting 33 = .ok (.getfield 75, 3) := by decide +kernel
theorem dX9_granting_36 : decode cX9_granting 36 = .ok (.iload 5, 2) := by decide +kernel
theorem dX9_granting_38 : decode cX9_granting 38 = .ok (.iaload, 1) := by decide +kernel
theorem dX9_granting_39 : decode cX9_granting 39 = .ok (.iload_n 3, 1) := by decide +kernel
theorem dX9_granting_40 : decode cX9_granting 40 = .ok (.if_icmp .ne 23, 3) := by decide +kernel
theorem dX9_granting_43 : decode cX9_granting 43 = .ok (.aload_n 0, 1) := by decide +kernel
theorem dX9_granting_44 : decode cX9_granting 44 = .ok (.iload 4, 2) := by decide +kernel
theorem dX9_granting_46 : decode cX9_granting 46 = .ok (.aload_n 0, 1) := by decide +kernel
theorem dX9_granting_47 : decode cX9_granting 47 = .ok (.getfield 78, 3) := by decide +kernel
theorem dX9_granting_50 : decode cX9_granting 50 = .ok (.iload 5, 2) := by decide +kernel
theorem dX9_granting_52 : decode cX9_granting 52 = .ok (.iaload, 1) := by decide +kernel
theorem dX9_granting_53 : decode cX9_granting 53 = .ok (.invokevirtual 161, 3) := by decide +kernel
theorem dX9_granting_56 : decode cX9_granting 56 = .ok (.iconst (-1), 1) := by decide +kernel
theorem dX9_granting_57 : decode cX9_granting 57 = .ok (.if_icmp .eq 6, 3) := by decide +kernel
theorem dX9_granting_60 : decode cX9_granting 60 = .ok (.iload 5, 2) := by decide +kernel
theorem dX9_granting_62 : decode cX9_granting 62 = .ok (.ireturn, 1) := by decide +kernel
theorem dX9_granting_63 : decode cX9_granting 63 = .ok (.iinc 5 1, 3) := by decide +kernel
theorem dX9_granting_66 : decode cX9_granting 66 = .ok (.goto (-63), 3) := by decide +kernel
theorem dX9_granting_69 : decode cX9_granting 69 = .ok (.iconst (-1), 1) := by decide +kernel
theorem dX9_granting_70 : decode cX9_granting 70 = .ok (.ireturn, 1) := by decide +kernel
theorem dX9_decided_0 : decode cX9_decided 0 = .ok (.aload_n 0, 1) := by decide +kernel
theorem dX9_decided_1 : decode cX9_decided 1 = .ok (.iload_n 1, 1) := by decide +kernel
theorem dX9_decided_2 : decode cX9_decided 2 = .ok (.aload 4, 2) := by decide +kernel
theorem dX9_decided_4 : decode cX9_decided 4 = .ok (.iload_n 1, 1) := by decide +kernel
theorem dX9_decided_5 : decode cX9_decided 5 = .ok (.aaload, 1) := by decide +kernel
theorem dX9_decided_6 : decode cX9_decided 6 = .ok (.iload_n 2, 1) := by decide +kernel
theorem dX9_decided_7 : decode cX9_decided 7 = .ok (.iload_n 3, 1) := by decide +kernel
theorem dX9_decided_8 : decode cX9_decided 8 = .ok (.iload 6, 2) := by decide +kernel
theorem dX9_decided_10 : decode cX9_decided 10 = .ok (.invokevirtual 230, 3) := by decide +kernel
theorem dX9_decided_13 : decode cX9_decided 13 = .ok (.istore 7, 2) := by decide +kernel
theorem dX9_decided_15 : decode cX9_decided 15 = .ok (.iload 7, 2) := by decide +kernel
theorem dX9_decided_17 : decode cX9_decided 17 = .ok (.ifCond .ne 20, 3) := by decide +kernel
theorem dX9_decided_20 : decode cX9_decided 20 = .ok (.aload_n 0, 1) := by decide +kernel
theorem dX9_decided_21 : decode cX9_decided 21 = .ok (.iload 5, 2) := by decide +kernel
theorem dX9_decided_23 : decode cX9_decided 23 = .ok (.iload_n 1, 1) := by decide +kernel
theorem dX9_decided_24 : decode cX9_decided 24 = .ok (.iload_n 2, 1) := by decide +kernel
theorem dX9_decided_25 : decode cX9_decided 25 = .ok (.iload_n 3, 1) := by decide +kernel
theorem dX9_decided_26 : decode cX9_decided 26 = .ok (.invokevirtual 243, 3) := by decide +kernel
theorem dX9_decided_29 : decode cX9_decided 29 = .ok (.iconst (-1), 1) := by decide +kernel
theorem dX9_decided_30 : decode cX9_decided 30 = .ok (.if_icmp .eq 7, 3) := by decide +kernel
theorem dX9_decided_33 : decode cX9_decided 33 = .ok (.iconst 3, 1) := by decide +kernel
theorem dX9_decided_34 : decode cX9_decided 34 = .ok (.goto 5, 3) := by decide +kernel
theorem dX9_decided_37 : decode cX9_decided 37 = .ok (.iload 7, 2) := by decide +kernel
theorem dX9_decided_39 : decode cX9_decided 39 = .ok (.ireturn, 1) := by decide +kernel
theorem dX9_decideNow_0 : decode cX9_decideNow 0 = .ok (.aload_n 0, 1) := by decide +kernel
theorem dX9_decideNow_1 : decode cX9_decideNow 1 = .ok (.invokevirtual 247, 3) := by decide +kernel
theorem dX9_decideNow_4 : decode cX9_decideNow 4 = .ok (.astore 4, 2) := by decide +kernel
theorem dX9_decideNow_6 : decode cX9_decideNow 6 = .ok (.aload_n 0, 1) := by decide +kernel
theorem dX9_decideNow_7 : decode cX9_decideNow 7 = .ok (.iload_n 1, 1) := by decide +kernel
theorem dX9_decideNow_8 : decode cX9_decideNow 8 = .ok (.iload_n 2, 1) := by decide +kernel
theorem dX9_decideNow_9 : decode cX9_decideNow 9 = .ok (.iload_n 3, 1) := by decide +kernel
theorem dX9_decideNow_10 : decode cX9_decideNow 10 = .ok (.aload 4, 2) := by decide +kernel
theorem dX9_decideNow_12 : decode cX9_decideNow 12 = .ok (.aload_n 0, 1) := by decide +kernel
theorem dX9_decideNow_13 : decode cX9_decideNow 13 = .ok (.aload 4, 2) := by decide +kernel
theorem dX9_decideNow_15 : decode cX9_decideNow 15 = .ok (.aload_n 0, 1) := by decide +kernel
theorem dX9_decideNow_16 : decode cX9_decideNow 16 = .ok (.getfield 171, 3) := by decide +kernel
theorem dX9_decideNow_19 : decode cX9_decideNow 19 = .ok (.invokevirtual 251, 3) := by decide +kernel
theorem dX9_decideNow_22 : decode cX9_decideNow 22 = .ok (.aload_n 0, 1) := by decide +kernel
theorem dX9_decideNow_23 : decode cX9_decideNow 23 = .ok (.getfield 171, 3) := by decide +kernel
theorem dX9_decideNow_26 : decode cX9_decideNow 26 = .ok (.invokevirtual 255, 3) := by decide +kernel
theorem dX9_decideNow_29 : decode cX9_decideNow 29 = .ok (.ireturn, 1) := by decide +kernel
theorem dX9_isAllowed_0 : decode cX9_isAllowed 0 = .ok (.iload_n 0, 1) := by decide +kernel
theorem dX9_isAllowed_1 : decode cX9_isAllowed 1 = .ok (.iconst 1, 1) := by decide +kernel
theorem dX9_isAllowed_2 : decode cX9_isAllowed 2 = .ok (.if_icmp .eq 8, 3) := by decide +kernel
theorem dX9_isAllowed_5 : decode cX9_isAllowed 5 = .ok (.iload_n 0, 1) := by decide +kernel
theorem dX9_isAllowed_6 : decode cX9_isAllowed 6 = .ok (.iconst 3, 1) := by decide +kernel
theorem dX9_isAllowed_7 : decode cX9_isAllowed 7 = .ok (.if_icmp .ne 7, 3) := by decide +kernel
theorem dX9_isAllowed_10 : decode cX9_isAllowed 10 = .ok (.iconst 1, 1) := by decide +kernel
theorem dX9_isAllowed_11 : decode cX9_isAllowed 11 = .ok (.goto 4, 3) := by decide +kernel
theorem dX9_isAllowed_14 : decode cX9_isAllowed 14 = .ok (.iconst 0, 1) := by decide +kernel
theorem dX9_isAllowed_15 : decode cX9_isAllowed 15 = .ok (.ireturn, 1) := by decide +kernel
theorem dX9_table_0 : decode cX9_table 0 = .ok (.aload_n 0, 1) := by decide +kernel
theorem dX9_table_1 : decode cX9_table 1 = .ok (.getfield 105, 3) := by decide +kernel
theorem dX9_table_4 : decode cX9_table 4 = .ok (.iconst 5, 1) := by decide +kernel
theorem dX9_table_5 : decode cX9_table 5 = .ok (.imul, 1) := by decide +kernel
theorem dX9_table_6 : decode cX9_table 6 = .ok (.aload_n 0, 1) := by decide +kernel
theorem dX9_table_7 : decode cX9_table 7 = .ok (.getfield 25, 3) := by decide +kernel
theorem dX9_table_10 : decode cX9_table 10 = .ok (.imul, 1) := by decide +kernel
theorem dX9_table_11 : decode cX9_table 11 = .ok (.newarray .int, 2) := by decide +kernel
theorem dX9_table_13 : decode cX9_table 13 = .ok (.astore_n 3, 1) := by decide +kernel
theorem dX9_table_14 : decode cX9_table 14 = .ok (.aload_n 0, 1) := by decide +kernel
theorem dX9_table_15 : decode cX9_table 15 = .ok (.aload_n 1, 1) := by decide +kernel
theorem dX9_table_16 : decode cX9_table 16 = .ok (.iload_n 2, 1) := by decide +kernel
theorem dX9_table_17 : decode cX9_table 17 = .ok (.invokevirtual 251, 3) := by decide +kernel
theorem dX9_table_20 : decode cX9_table 20 = .ok (.istore 4, 2) := by decide +kernel
theorem dX9_table_22 : decode cX9_table 22 = .ok (.iconst 0, 1) := by decide +kernel
theorem dX9_table_23 : decode cX9_table 23 = .ok (.istore 5, 2) := by decide +kernel
theorem dX9_table_25 : decode cX9_table 25 = .ok (.iconst 0, 1) := by decide +kernel
theorem dX9_table_26 : decode cX9_table 26 = .ok (.istore 6, 2) := by decide +kernel
theorem dX9_table_28 : decode cX9_table 28 = .ok (.iload 6, 2) := by decide +kernel
theorem dX9_table_30 : decode cX9_table 30 = .ok (.aload_n 0, 1) := by decide +kernel
theorem dX9_table_31 : decode cX9_table 31 = .ok (.getfield 105, 3) := by decide +kernel
theorem dX9_table_34 : decode cX9_table 34 = .ok (.if_icmp .ge 63, 3) := by decide +kernel
theorem dX9_table_37 : decode cX9_table 37 = .ok (.iconst 0, 1) := by decide +kernel
theorem dX9_table_38 : decode cX9_table 38 = .ok (.istore 7, 2) := by decide +kernel
theorem dX9_table_40 : decode cX9_table 40 = .ok (.iload 7, 2) := by decide +kernel
theorem dX9_table_42 : decode cX9_table 42 = .ok (.iconst 5, 1) := by decide +kernel
theorem dX9_table_43 : decode cX9_table 43 = .ok (.if_icmp .ge 48, 3) := by decide +kernel
theorem dX9_table_46 : decode cX9_table 46 = .ok (.iconst 0, 1) := by decide +kernel
theorem dX9_table_47 : decode cX9_table 47 = .ok (.istore 8, 2) := by decide +kernel
theorem dX9_table_49 : decode cX9_table 49 = .ok (.iload 8, 2) := by decide +kernel
theorem dX9_table_51 : decode cX9_table 51 = .ok (.aload_n 0, 1) := by decide +kernel
theorem dX9_table_52 : decode cX9_table 52 = .ok (.getfield 25, 3) := by decide +kernel
theorem dX9_table_55 : decode cX9_table 55 = .ok (.if_icmp .ge 30, 3) := by decide +kernel
theorem dX9_table_58 : decode cX9_table 58 = .ok (.aload_n 3, 1) := by decide +kernel
theorem dX9_table_59 : decode cX9_table 59 = .ok (.iload 5, 2) := by decide +kernel
theorem dX9_table_61 : decode cX9_table 61 = .ok (.iinc 5 1, 3) := by decide +kernel
theorem dX9_table_64 : decode cX9_table 64 = .ok (.aload_n 0, 1) := by decide +kernel
theorem dX9_table_65 : decode cX9_table 65 = .ok (.iload 6, 2) := by decide +kernel
theorem dX9_table_67 : decode cX9_table 67 = .ok (.iload 7, 2) := by decide +kernel
theorem dX9_table_69 : decode cX9_table 69 = .ok (.iload 8, 2) := by decide +kernel
theorem dX9_table_71 : decode cX9_table 71 = .ok (.aload_n 1, 1) := by decide +kernel
theorem dX9_table_72 : decode cX9_table 72 = .ok (.iload 4, 2) := by decide +kernel
theorem dX9_table_74 : decode cX9_table 74 = .ok (.iload_n 2, 1) := by decide +kernel
theorem dX9_table_75 : decode cX9_table 75 = .ok (.invokevirtual 255, 3) := by decide +kernel
theorem dX9_table_78 : decode cX9_table 78 = .ok (.iastore, 1) := by decide +kernel
theorem dX9_table_79 : decode cX9_table 79 = .ok (.iinc 8 1, 3) := by decide +kernel
theorem dX9_table_82 : decode cX9_table 82 = .ok (.goto (-33), 3) := by decide +kernel
theorem dX9_table_85 : decode cX9_table 85 = .ok (.iinc 7 1, 3) := by decide +kernel
theorem dX9_table_88 : decode cX9_table 88 = .ok (.goto (-48), 3) := by decide +kernel
theorem dX9_table_91 : decode cX9_table 91 = .ok (.iinc 6 1, 3) := by decide +kernel
theorem dX9_table_94 : decode cX9_table 94 = .ok (.goto (-66), 3) := by decide +kernel
theorem dX9_table_97 : decode cX9_table 97 = .ok (.aload_n 3, 1) := by decide +kernel
theorem dX9_table_98 : decode cX9_table 98 = .ok (.areturn, 1) := by decide +kernel
theorem dX9_differences_0 : decode cX9_differences 0 = .ok (.iconst 0, 1) := by decide +kernel
theorem dX9_differences_1 : decode cX9_differences 1 = .ok (.istore_n 2, 1) := by decide +kernel
theorem dX9_differences_2 : decode cX9_differences 2 = .ok (.iconst 0, 1) := by decide +kernel
theorem dX9_differences_3 : decode cX9_differences 3 = .ok (.istore_n 3, 1) := by decide +kernel
theorem dX9_differences_4 : decode cX9_differences 4 = .ok (.iload_n 3, 1) := by decide +kernel
theorem dX9_differences_5 : decode cX9_differences 5 = .ok (.aload_n 0, 1) := by decide +kernel
theorem dX9_differences_6 : decode cX9_differences 6 = .ok (.arraylength, 1) := by decide +kernel
theorem dX9_differences_7 : decode cX9_differences 7 = .ok (.if_icmp .ge 26, 3) := by decide +kernel
theorem dX9_differences_10 : decode cX9_differences 10 = .ok (.iload_n 2, 1) := by decide +kernel
theorem dX9_differences_11 : decode cX9_differences 11 = .ok (.aload_n 0, 1) := by decide +kernel
theorem dX9_differences_12 : decode cX9_differences 12 = .ok (.iload_n 3, 1) := by decide +kernel
theorem dX9_differences_13 : decode cX9_differences 13 = .ok (.iaload, 1) := by decide +kernel
theorem dX9_differences_14 : decode cX9_differences 14 = .ok (.aload_n 1, 1) := by decide +kernel
theorem dX9_differences_15 : decode cX9_differences 15 = .ok (.iload_n 3, 1) := by decide +kernel
theorem dX9_differences_16 : decode cX9_differences 16 = .ok (.iaload, 1) := by decide +kernel
theorem dX9_differences_17 : decode cX9_differences 17 = .ok (.if_icmp .ne 7, 3) := by decide +kernel
theorem dX9_differences_20 : decode cX9_differences 20 = .ok (.iconst 0, 1) := by decide +kernel
theorem dX9_differences_21 : decode cX9_differences 21 = .ok (.goto 4, 3) := by decide +kernel
theorem dX9_differences_24 : decode cX9_differences 24 = .ok (.iconst 1, 1) := by decide +kernel
theorem dX9_differences_25 : decode cX9_differences 25 = .ok (.iadd, 1) := by decide +kernel
theorem dX9_differences_26 : decode cX9_differences 26 = .ok (.istore_n 2, 1) := by decide +kernel
theorem dX9_differences_27 : decode cX9_differences 27 = .ok (.iinc 3 1, 3) := by decide +kernel
theorem dX9_differences_30 : decode cX9_differences 30 = .ok (.goto (-26), 3) := by decide +kernel
theorem dX9_differences_33 : decode cX9_differences 33 = .ok (.iload_n 2, 1) := by decide +kernel
theorem dX9_differences_34 : decode cX9_differences 34 = .ok (.ireturn, 1) := by decide +kernel
theorem dX9_grant_0 : decode cX9_grant 0 = .ok (.aload_n 0, 1) := by decide +kernel
theorem dX9_grant_1 : decode cX9_grant 1 = .ok (.iconst 0, 1) := by decide +kernel
theorem dX9_grant_2 : decode cX9_grant 2 = .ok (.putfield 102, 3) := by decide +kernel
theorem dX9_grant_5 : decode cX9_grant 5 = .ok (.aload_n 0, 1) := by decide +kernel
theorem dX9_grant_6 : decode cX9_grant 6 = .ok (.iload_n 1, 1) := by decide +kernel
theorem dX9_grant_7 : decode cX9_grant 7 = .ok (.invokevirtual 115, 3) := by decide +kernel
theorem dX9_grant_10 : decode cX9_grant 10 = .ok (.ifCond .eq 27, 3) := by decide +kernel
theorem dX9_grant_13 : decode cX9_grant 13 = .ok (.aload_n 0, 1) := by decide +kernel
theorem dX9_grant_14 : decode cX9_grant 14 = .ok (.iload_n 2, 1) := by decide +kernel
theorem dX9_grant_15 : decode cX9_grant 15 = .ok (.invokevirtual 115, 3) := by decide +kernel
theorem dX9_grant_18 : decode cX9_grant 18 = .ok (.ifCond .eq 19, 3) := by decide +kernel
theorem dX9_grant_21 : decode cX9_grant 21 = .ok (.iload_n 3, 1) := by decide +kernel
theorem dX9_grant_22 : decode cX9_grant 22 = .ok (.invokestatic 119, 3) := by decide +kernel
theorem dX9_grant_25 : decode cX9_grant 25 = .ok (.ifCond .eq 12, 3) := by decide +kernel
theorem dX9_grant_28 : decode cX9_grant 28 = .ok (.aload_n 0, 1) := by decide +kernel
theorem dX9_grant_29 : decode cX9_grant 29 = .ok (.iload 4, 2) := by decide +kernel
theorem dX9_grant_31 : decode cX9_grant 31 = .ok (.invokevirtual 122, 3) := by decide +kernel
theorem dX9_grant_34 : decode cX9_grant 34 = .ok (.ifCond .ne 9, 3) := by decide +kernel
theorem dX9_grant_37 : decode cX9_grant 37 = .ok (.aload_n 0, 1) := by decide +kernel
theorem dX9_grant_38 : decode cX9_grant 38 = .ok (.iconst 1, 1) := by decide +kernel
theorem dX9_grant_39 : decode cX9_grant 39 = .ok (.invokevirtual 139, 3) := by decide +kernel
theorem dX9_grant_42 : decode cX9_grant 42 = .ok (.ireturn, 1) := by decide +kernel
theorem dX9_grant_43 : decode cX9_grant 43 = .ok (.iload_n 1, 1) := by decide +kernel
theorem dX9_grant_44 : decode cX9_grant 44 = .ok (.iload_n 2, 1) := by decide +kernel
theorem dX9_grant_45 : decode cX9_grant 45 = .ok (.if_icmp .eq 25, 3) := by decide +kernel
theorem dX9_grant_48 : decode cX9_grant 48 = .ok (.iload 5, 2) := by decide +kernel
theorem dX9_grant_50 : decode cX9_grant 50 = .ok (.iconst 0, 1) := by decide +kernel
theorem dX9_grant_51 : decode cX9_grant 51 = .ok (.iconst 3, 1) := by decide +kernel
theorem dX9_grant_52 : decode cX9_grant 52 = .ok (.invokestatic 108, 3) := by decide +kernel
theorem dX9_grant_55 : decode cX9_grant 55 = .ok (.ifCond .eq 15, 3) := by decide +kernel
theorem dX9_grant_58 : decode cX9_grant 58 = .ok (.iload 6, 2) := by decide +kernel
theorem dX9_grant_60 : decode cX9_grant 60 = .ok (.iconst 1, 1) := by decide +kernel
theorem dX9_grant_61 : decode cX9_grant 61 = .ok (.sipush 10000, 3) := by decide +kernel
theorem dX9_grant_64 : decode cX9_grant 64 = .ok (.invokestatic 108, 3) := by decide +kernel
theorem dX9_grant_67 : decode cX9_grant 67 = .ok (.ifCond .ne 9, 3) := by decide +kernel
theorem dX9_grant_70 : decode cX9_grant 70 = .ok (.aload_n 0, 1) := by decide +kernel
theorem dX9_grant_71 : decode cX9_grant 71 = .ok (.iconst 2, 1) := by decide +kernel
theorem dX9_grant_72 : decode cX9_grant 72 = .ok (.invokevirtual 139, 3) := by decide +kernel
theorem dX9_grant_75 : decode cX9_grant 75 = .ok (.ireturn, 1) := by decide +kernel
theorem dX9_grant_76 : decode cX9_grant 76 = .ok (.aload_n 0, 1) := by decide +kernel
theorem dX9_grant_77 : decode cX9_grant 77 = .ok (.getfield 233, 3) := by decide +kernel
theorem dX9_grant_80 : decode cX9_grant 80 = .ok (.bipush 30, 2) := by decide +kernel
theorem dX9_grant_82 : decode cX9_grant 82 = .ok (.if_icmp .ne 9, 3) := by decide +kernel
theorem dX9_grant_85 : decode cX9_grant 85 = .ok (.aload_n 0, 1) := by decide +kernel
theorem dX9_grant_86 : decode cX9_grant 86 = .ok (.iconst 3, 1) := by decide +kernel
theorem dX9_grant_87 : decode cX9_grant 87 = .ok (.invokevirtual 139, 3) := by decide +kernel
theorem dX9_grant_90 : decode cX9_grant 90 = .ok (.ireturn, 1) := by decide +kernel
theorem dX9_grant_91 : decode cX9_grant 91 = .ok (.aload_n 0, 1) := by decide +kernel
theorem dX9_grant_92 : decode cX9_grant 92 = .ok (.getfield 69, 3) := by decide +kernel
theorem dX9_grant_95 : decode cX9_grant 95 = .ok (.aload_n 0, 1) := by decide +kernel
theorem dX9_grant_96 : decode cX9_grant 96 = .ok (.getfield 233, 3) := by decide +kernel
theorem dX9_grant_99 : decode cX9_grant 99 = .ok (.iload_n 1, 1) := by decide +kernel
theorem dX9_grant_100 : decode cX9_grant 100 = .ok (.iastore, 1) := by decide +kernel
theorem dX9_grant_101 : decode cX9_grant 101 = .ok (.aload_n 0, 1) := by decide +kernel
theorem dX9_grant_102 : decode cX9_grant 102 = .ok (.getfield 72, 3) := by decide +kernel
theorem dX9_grant_105 : decode cX9_grant 105 = .ok (.aload_n 0, 1) := by decide +kernel
theorem dX9_grant_106 : decode cX9_grant 106 = .ok (.getfield 233, 3) := by decide +kernel
theorem dX9_grant_109 : decode cX9_grant 109 = .ok (.iload_n 2, 1) := by decide +kernel
theorem dX9_grant_110 : decode cX9_grant 110 = .ok (.iastore, 1) := by decide +kernel
theorem dX9_grant_111 : decode cX9_grant 111 = .ok (.aload_n 0, 1) := by decide +kernel
theorem dX9_grant_112 : decode cX9_grant 112 = .ok (.getfield 75, 3) := by decide +kernel
theorem dX9_grant_115 : decode cX9_grant 115 = .ok (.aload_n 0, 1) := by decide +kernel
theorem dX9_grant_116 : decode cX9_grant 116 = .ok (.getfield 233, 3) := by decide +kernel
theorem dX9_grant_119 : decode cX9_grant 119 = .ok (.iload_n 3, 1) := by decide +kernel
theorem dX9_grant_120 : decode cX9_grant 120 = .ok (.iastore, 1) := by decide +kernel
theorem dX9_grant_121 : decode cX9_grant 121 = .ok (.aload_n 0, 1) := by decide +kernel
theorem dX9_grant_122 : decode cX9_grant 122 = .ok (.getfield 78, 3) := by decide +kernel
theorem dX9_grant_125 : decode cX9_grant 125 = .ok (.aload_n 0, 1) := by decide +kernel
theorem dX9_grant_126 : decode cX9_grant 126 = .ok (.getfield 233, 3) := by decide +kernel
theorem dX9_grant_129 : decode cX9_grant 129 = .ok (.iload 4, 2) := by decide +kernel
theorem dX9_grant_131 : decode cX9_grant 131 = .ok (.iastore, 1) := by decide +kernel
theorem dX9_grant_132 : decode cX9_grant 132 = .ok (.aload_n 0, 1) := by decide +kernel
theorem dX9_grant_133 : decode cX9_grant 133 = .ok (.getfield 81, 3) := by decide +kernel
theorem dX9_grant_136 : decode cX9_grant 136 = .ok (.aload_n 0, 1) := by decide +kernel
theorem dX9_grant_137 : decode cX9_grant 137 = .ok (.getfield 233, 3) := by decide +kernel
theorem dX9_grant_140 : decode cX9_grant 140 = .ok (.iload 5, 2) := by decide +kernel
theorem dX9_grant_142 : decode cX9_grant 142 = .ok (.iastore, 1) := by decide +kernel
theorem dX9_grant_143 : decode cX9_grant 143 = .ok (.aload_n 0, 1) := by decide +kernel
theorem dX9_grant_144 : decode cX9_grant 144 = .ok (.getfield 84, 3) := by decide +kernel
theorem dX9_grant_147 : decode cX9_grant 147 = .ok (.aload_n 0, 1) := by decide +kernel
theorem dX9_grant_148 : decode cX9_grant 148 = .ok (.getfield 233, 3) := by decide +kernel
theorem dX9_grant_151 : decode cX9_grant 151 = .ok (.aload_n 0, 1) := by decide +kernel
theorem dX9_grant_152 : decode cX9_grant 152 = .ok (.getfield 174, 3) := by decide +kernel
theorem dX9_grant_155 : decode cX9_grant 155 = .ok (.iload 6, 2) := by decide +kernel
theorem dX9_grant_157 : decode cX9_grant 157 = .ok (.iadd, 1) := by decide +kernel
theorem dX9_grant_158 : decode cX9_grant 158 = .ok (.iastore, 1) := by decide +kernel
theorem dX9_grant_159 : decode cX9_grant 159 = .ok (.aload_n 0, 1) := by decide +kernel
theorem dX9_grant_160 : decode cX9_grant 160 = .ok (.dup, 1) := by decide +kernel
theorem dX9_grant_161 : decode cX9_grant 161 = .ok (.getfield 233, 3) := by decide +kernel
theorem dX9_grant_164 : decode cX9_grant 164 = .ok (.dup_x1, 1) := by decide +kernel
theorem dX9_grant_165 : decode cX9_grant 165 = .ok (.iconst 1, 1) := by decide +kernel
theorem dX9_grant_166 : decode cX9_grant 166 = .ok (.iadd, 1) := by decide +kernel
theorem dX9_grant_167 : decode cX9_grant 167 = .ok (.putfield 233, 3) := by decide +kernel
theorem dX9_grant_170 : decode cX9_grant 170 = .ok (.ireturn, 1) := by decide +kernel
theorem dX9_isGrant_0 : decode cX9_isGrant 0 = .ok (.iload_n 1, 1) := by decide +kernel
theorem dX9_isGrant_1 : decode cX9_isGrant 1 = .ok (.iconst 0, 1) := by decide +kernel
theorem dX9_isGrant_2 : decode cX9_isGrant 2 = .ok (.aload_n 0, 1) := by decide +kernel
theorem dX9_isGrant_3 : decode cX9_isGrant 3 = .ok (.getfield 233, 3) := by decide +kernel
theorem dX9_isGrant_6 : decode cX9_isGrant 6 = .ok (.iconst 1, 1) := by decide +kernel
theorem dX9_isGrant_7 : decode cX9_isGrant 7 = .ok (.isub, 1) := by decide +kernel
theorem dX9_isGrant_8 : decode cX9_isGrant 8 = .ok (.invokestatic 108, 3) := by decide +kernel
theorem dX9_isGrant_11 : decode cX9_isGrant 11 = .ok (.ireturn, 1) := by decide +kernel
theorem dX9_revoke_0 : decode cX9_revoke 0 = .ok (.aload_n 0, 1) := by decide +kernel
theorem dX9_revoke_1 : decode cX9_revoke 1 = .ok (.iconst 0, 1) := by decide +kernel
theorem dX9_revoke_2 : decode cX9_revoke 2 = .ok (.putfield 102, 3) := by decide +kernel
theorem dX9_revoke_5 : decode cX9_revoke 5 = .ok (.aload_n 0, 1) := by decide +kernel
theorem dX9_revoke_6 : decode cX9_revoke 6 = .ok (.iload_n 1, 1) := by decide +kernel
theorem dX9_revoke_7 : decode cX9_revoke 7 = .ok (.invokevirtual 259, 3) := by decide +kernel
theorem dX9_revoke_10 : decode cX9_revoke 10 = .ok (.ifCond .ne 9, 3) := by decide +kernel
theorem dX9_revoke_13 : decode cX9_revoke 13 = .ok (.aload_n 0, 1) := by decide +kernel
theorem dX9_revoke_14 : decode cX9_revoke 14 = .ok (.iconst 1, 1) := by decide +kernel
theorem dX9_revoke_15 : decode cX9_revoke 15 = .ok (.invokevirtual 145, 3) := by decide +kernel
theorem dX9_revoke_18 : decode cX9_revoke 18 = .ok (.ireturn, 1) := by decide +kernel
theorem dX9_revoke_19 : decode cX9_revoke 19 = .ok (.aload_n 0, 1) := by decide +kernel
theorem dX9_revoke_20 : decode cX9_revoke 20 = .ok (.getfield 84, 3) := by decide +kernel
theorem dX9_revoke_23 : decode cX9_revoke 23 = .ok (.iload_n 1, 1) := by decide +kernel
theorem dX9_revoke_24 : decode cX9_revoke 24 = .ok (.iaload, 1) := by decide +kernel
theorem dX9_revoke_25 : decode cX9_revoke 25 = .ok (.aload_n 0, 1) := by decide +kernel
theorem dX9_revoke_26 : decode cX9_revoke 26 = .ok (.getfield 174, 3) := by decide +kernel
theorem dX9_revoke_29 : decode cX9_revoke 29 = .ok (.if_icmp .le 7, 3) := by decide +kernel
theorem dX9_revoke_32 : decode cX9_revoke 32 = .ok (.iconst 1, 1) := by decide +kernel
theorem dX9_revoke_33 : decode cX9_revoke 33 = .ok (.goto 4, 3) := by decide +kernel
theorem dX9_revoke_36 : decode cX9_revoke 36 = .ok (.iconst 0, 1) := by decide +kernel
theorem dX9_revoke_37 : decode cX9_revoke 37 = .ok (.istore_n 2, 1) := by decide +kernel
theorem dX9_revoke_38 : decode cX9_revoke 38 = .ok (.iload_n 2, 1) := by decide +kernel
theorem dX9_revoke_39 : decode cX9_revoke 39 = .ok (.ifCond .eq 13, 3) := by decide +kernel
theorem dX9_revoke_42 : decode cX9_revoke 42 = .ok (.aload_n 0, 1) := by decide +kernel
theorem dX9_revoke_43 : decode cX9_revoke 43 = .ok (.getfield 84, 3) := by decide +kernel
theorem dX9_revoke_46 : decode cX9_revoke 46 = .ok (.iload_n 1, 1) := by decide +kernel
theorem dX9_revoke_47 : decode cX9_revoke 47 = .ok (.aload_n 0, 1) := by decide +kernel
theorem dX9_revoke_48 : decode cX9_revoke 48 = .ok (.getfield 174, 3) := by decide +kernel
theorem dX9_revoke_51 : decode cX9_revoke 51 = .ok (.iastore, 1) := by decide +kernel
theorem dX9_revoke_52 : decode cX9_revoke 52 = .ok (.iload_n 2, 1) := by decide +kernel
theorem dX9_revoke_53 : decode cX9_revoke 53 = .ok (.ireturn, 1) := by decide +kernel
theorem dX9_grants_0 : decode cX9_grants 0 = .ok (.aload_n 0, 1) := by decide +kernel
theorem dX9_grants_1 : decode cX9_grants 1 = .ok (.aload_n 0, 1) := by decide +kernel
theorem dX9_grants_2 : decode cX9_grants 2 = .ok (.getfield 233, 3) := by decide +kernel
theorem dX9_grants_5 : decode cX9_grants 5 = .ok (.invokevirtual 152, 3) := by decide +kernel
theorem dX9_grants_8 : decode cX9_grants 8 = .ok (.ireturn, 1) := by decide +kernel
theorem dX9_isGood_0 : decode cX9_isGood 0 = .ok (.aload_n 0, 1) := by decide +kernel
theorem dX9_isGood_1 : decode cX9_isGood 1 = .ok (.iconst 0, 1) := by decide +kernel
theorem dX9_isGood_2 : decode cX9_isGood 2 = .ok (.putfield 102, 3) := by decide +kernel
theorem dX9_isGood_5 : decode cX9_isGood 5 = .ok (.aload_n 0, 1) := by decide +kernel
theorem dX9_isGood_6 : decode cX9_isGood 6 = .ok (.iload_n 1, 1) := by decide +kernel
theorem dX9_isGood_7 : decode cX9_isGood 7 = .ok (.invokevirtual 259, 3) := by decide +kernel
theorem dX9_isGood_10 : decode cX9_isGood 10 = .ok (.ifCond .eq 30, 3) := by decide +kernel
theorem dX9_isGood_13 : decode cX9_isGood 13 = .ok (.aload_n 0, 1) := by decide +kernel
theorem dX9_isGood_14 : decode cX9_isGood 14 = .ok (.aload_n 0, 1) := by decide +kernel
theorem dX9_isGood_15 : decode cX9_isGood 15 = .ok (.invokevirtual 247, 3) := by decide +kernel
theorem dX9_isGood_18 : decode cX9_isGood 18 = .ok (.aload_n 0, 1) := by decide +kernel
theorem dX9_isGood_19 : decode cX9_isGood 19 = .ok (.getfield 171, 3) := by decide +kernel
theorem dX9_isGood_22 : decode cX9_isGood 22 = .ok (.invokevirtual 251, 3) := by decide +kernel
theorem dX9_isGood_25 : decode cX9_isGood 25 = .ok (.iload_n 1, 1) := by decide +kernel
theorem dX9_isGood_26 : decode cX9_isGood 26 = .ok (.ishr, 1) := by decide +kernel
theorem dX9_isGood_27 : decode cX9_isGood 27 = .ok (.iconst 1, 1) := by decide +kernel
theorem dX9_isGood_28 : decode cX9_isGood 28 = .ok (.iand, 1) := by decide +kernel
theorem dX9_isGood_29 : decode cX9_isGood 29 = .ok (.ifCond .eq 7, 3) := by decide +kernel
theorem dX9_isGood_32 : decode cX9_isGood 32 = .ok (.iconst 1, 1) := by decide +kernel
theorem dX9_isGood_33 : decode cX9_isGood 33 = .ok (.goto 12, 3) := by decide +kernel
theorem dX9_isGood_36 : decode cX9_isGood 36 = .ok (.iconst 0, 1) := by decide +kernel
theorem dX9_isGood_37 : decode cX9_isGood 37 = .ok (.goto 8, 3) := by decide +kernel
theorem dX9_isGood_40 : decode cX9_isGood 40 = .ok (.aload_n 0, 1) := by decide +kernel
theorem dX9_isGood_41 : decode cX9_isGood 41 = .ok (.iconst 1, 1) := by decide +kernel
theorem dX9_isGood_42 : decode cX9_isGood 42 = .ok (.invokevirtual 145, 3) := by decide +kernel
theorem dX9_isGood_45 : decode cX9_isGood 45 = .ok (.ireturn, 1) := by decide +kernel
theorem dX9_decide_0 : decode cX9_decide 0 = .ok (.aload_n 0, 1) := by decide +kernel
theorem dX9_decide_1 : decode cX9_decide 1 = .ok (.iconst 0, 1) := by decide +kernel
theorem dX9_decide_2 : decode cX9_decide 2 = .ok (.putfield 102, 3) := by decide +kernel
theorem dX9_decide_5 : decode cX9_decide 5 = .ok (.aload_n 0, 1) := by decide +kernel
theorem dX9_decide_6 : decode cX9_decide 6 = .ok (.iload_n 1, 1) := by decide +kernel
theorem dX9_decide_7 : decode cX9_decide 7 = .ok (.iload_n 2, 1) := by decide +kernel
theorem dX9_decide_8 : decode cX9_decide 8 = .ok (.iload_n 3, 1) := by decide +kernel
theorem dX9_decide_9 : decode cX9_decide 9 = .ok (.invokevirtual 196, 3) := by decide +kernel
theorem dX9_decide_12 : decode cX9_decide 12 = .ok (.ifCond .eq 13, 3) := by decide +kernel
theorem dX9_decide_15 : decode cX9_decide 15 = .ok (.aload_n 0, 1) := by decide +kernel
theorem dX9_decide_16 : decode cX9_decide 16 = .ok (.iload_n 1, 1) := by decide +kernel
theorem dX9_decide_17 : decode cX9_decide 17 = .ok (.iload_n 2, 1) := by decide +kernel
theorem dX9_decide_18 : decode cX9_decide 18 = .ok (.iload_n 3, 1) := by decide +kernel
theorem dX9_decide_19 : decode cX9_decide 19 = .ok (.invokevirtual 262, 3) := by decide +kernel
theorem dX9_decide_22 : decode cX9_decide 22 = .ok (.goto 8, 3) := by decide +kernel
theorem dX9_decide_25 : decode cX9_decide 25 = .ok (.aload_n 0, 1) := by decide +kernel
theorem dX9_decide_26 : decode cX9_decide 26 = .ok (.iconst 1, 1) := by decide +kernel
theorem dX9_decide_27 : decode cX9_decide 27 = .ok (.invokevirtual 139, 3) := by decide +kernel
theorem dX9_decide_30 : decode cX9_decide 30 = .ok (.ireturn, 1) := by decide +kernel
theorem dX9_whyNow_0 : decode cX9_whyNow 0 = .ok (.aload_n 0, 1) := by decide +kernel
theorem dX9_whyNow_1 : decode cX9_whyNow 1 = .ok (.iload_n 1, 1) := by decide +kernel
theorem dX9_whyNow_2 : decode cX9_whyNow 2 = .ok (.iload_n 2, 1) := by decide +kernel
theorem dX9_whyNow_3 : decode cX9_whyNow 3 = .ok (.iload_n 3, 1) := by decide +kernel
theorem dX9_whyNow_4 : decode cX9_whyNow 4 = .ok (.aload 4, 2) := by decide +kernel
theorem dX9_whyNow_6 : decode cX9_whyNow 6 = .ok (.iload 5, 2) := by decide +kernel
theorem dX9_whyNow_8 : decode cX9_whyNow 8 = .ok (.aload_n 0, 1) := by decide +kernel
theorem dX9_whyNow_9 : decode cX9_whyNow 9 = .ok (.getfield 171, 3) := by decide +kernel
theorem dX9_whyNow_12 : decode cX9_whyNow 12 = .ok (.invokevirtual 255, 3) := by decide +kernel
theorem dX9_whyNow_15 : decode cX9_whyNow 15 = .ok (.istore 6, 2) := by decide +kernel
theorem dX9_whyNow_17 : decode cX9_whyNow 17 = .ok (.iload 6, 2) := by decide +kernel
theorem dX9_whyNow_19 : decode cX9_whyNow 19 = .ok (.iconst 3, 1) := by decide +kernel
theorem dX9_whyNow_20 : decode cX9_whyNow 20 = .ok (.if_icmp .ne 13, 3) := by decide +kernel
theorem dX9_whyNow_23 : decode cX9_whyNow 23 = .ok (.aload_n 0, 1) := by decide +kernel
theorem dX9_whyNow_24 : decode cX9_whyNow 24 = .ok (.iload 5, 2) := by decide +kernel
theorem dX9_whyNow_26 : decode cX9_whyNow 26 = .ok (.iload_n 1, 1) := by decide +kernel
theorem dX9_whyNow_27 : decode cX9_whyNow 27 = .ok (.iload_n 2, 1) := by decide +kernel
theorem dX9_whyNow_28 : decode cX9_whyNow 28 = .ok (.iload_n 3, 1) := by decide +kernel
theorem dX9_whyNow_29 : decode cX9_whyNow 29 = .ok (.invokevirtual 243, 3) := by decide +kernel
theorem dX9_whyNow_32 : decode cX9_whyNow 32 = .ok (.ireturn, 1) := by decide +kernel
theorem dX9_whyNow_33 : decode cX9_whyNow 33 = .ok (.iload 6, 2) := by decide +kernel
theorem dX9_whyNow_35 : decode cX9_whyNow 35 = .ok (.iconst 1, 1) := by decide +kernel
theorem dX9_whyNow_36 : decode cX9_whyNow 36 = .ok (.if_icmp .eq 9, 3) := by decide +kernel
theorem dX9_whyNow_39 : decode cX9_whyNow 39 = .ok (.iload 6, 2) := by decide +kernel
theorem dX9_whyNow_41 : decode cX9_whyNow 41 = .ok (.iconst 2, 1) := by decide +kernel
theorem dX9_whyNow_42 : decode cX9_whyNow 42 = .ok (.if_icmp .ne 21, 3) := by decide +kernel
theorem dX9_whyNow_45 : decode cX9_whyNow 45 = .ok (.aload_n 0, 1) := by decide +kernel
theorem dX9_whyNow_46 : decode cX9_whyNow 46 = .ok (.iload_n 1, 1) := by decide +kernel
theorem dX9_whyNow_47 : decode cX9_whyNow 47 = .ok (.aload 4, 2) := by decide +kernel
theorem dX9_whyNow_49 : decode cX9_whyNow 49 = .ok (.iload_n 1, 1) := by decide +kernel
theorem dX9_whyNow_50 : decode cX9_whyNow 50 = .ok (.aaload, 1) := by decide +kernel
theorem dX9_whyNow_51 : decode cX9_whyNow 51 = .ok (.iload_n 2, 1) := by decide +kernel
theorem dX9_whyNow_52 : decode cX9_whyNow 52 = .ok (.iload_n 3, 1) := by decide +kernel
theorem dX9_whyNow_53 : decode cX9_whyNow 53 = .ok (.aload_n 0, 1) := by decide +kernel
theorem dX9_whyNow_54 : decode cX9_whyNow 54 = .ok (.getfield 171, 3) := by decide +kernel
theorem dX9_whyNow_57 : decode cX9_whyNow 57 = .ok (.invokevirtual 225, 3) := by decide +kernel
theorem dX9_whyNow_60 : decode cX9_whyNow 60 = .ok (.goto 4, 3) := by decide +kernel
theorem dX9_whyNow_63 : decode cX9_whyNow 63 = .ok (.iconst (-1), 1) := by decide +kernel
theorem dX9_whyNow_64 : decode cX9_whyNow 64 = .ok (.ireturn, 1) := by decide +kernel
theorem dX9_why_0 : decode cX9_why 0 = .ok (.aload_n 0, 1) := by decide +kernel
theorem dX9_why_1 : decode cX9_why 1 = .ok (.iconst 0, 1) := by decide +kernel
theorem dX9_why_2 : decode cX9_why 2 = .ok (.putfield 102, 3) := by decide +kernel
theorem dX9_why_5 : decode cX9_why 5 = .ok (.aload_n 0, 1) := by decide +kernel
theorem dX9_why_6 : decode cX9_why 6 = .ok (.iload_n 1, 1) := by decide +kernel
theorem dX9_why_7 : decode cX9_why 7 = .ok (.iload_n 2, 1) := by decide +kernel
theorem dX9_why_8 : decode cX9_why 8 = .ok (.iload_n 3, 1) := by decide +kernel
theorem dX9_why_9 : decode cX9_why 9 = .ok (.invokevirtual 196, 3) := by decide +kernel
theorem dX9_why_12 : decode cX9_why 12 = .ok (.ifCond .ne 9, 3) := by decide +kernel
theorem dX9_why_15 : decode cX9_why 15 = .ok (.aload_n 0, 1) := by decide +kernel
theorem dX9_why_16 : decode cX9_why 16 = .ok (.iconst 1, 1) := by decide +kernel
theorem dX9_why_17 : decode cX9_why 17 = .ok (.invokevirtual 139, 3) := by decide +kernel
theorem dX9_why_20 : decode cX9_why 20 = .ok (.ireturn, 1) := by decide +kernel
theorem dX9_why_21 : decode cX9_why 21 = .ok (.aload_n 0, 1) := by decide +kernel
theorem dX9_why_22 : decode cX9_why 22 = .ok (.invokevirtual 247, 3) := by decide +kernel
theorem dX9_why_25 : decode cX9_why 25 = .ok (.astore 4, 2) := by decide +kernel
theorem dX9_why_27 : decode cX9_why 27 = .ok (.aload_n 0, 1) := by decide +kernel
theorem dX9_why_28 : decode cX9_why 28 = .ok (.iload_n 1, 1) := by decide +kernel
theorem dX9_why_29 : decode cX9_why 29 = .ok (.iload_n 2, 1) := by decide +kernel
theorem dX9_why_30 : decode cX9_why 30 = .ok (.iload_n 3, 1) := by decide +kernel
theorem dX9_why_31 : decode cX9_why 31 = .ok (.aload 4, 2) := by decide +kernel
theorem dX9_why_33 : decode cX9_why 33 = .ok (.aload_n 0, 1) := by decide +kernel
theorem dX9_why_34 : decode cX9_why 34 = .ok (.aload 4, 2) := by decide +kernel
theorem dX9_why_36 : decode cX9_why 36 = .ok (.aload_n 0, 1) := by decide +kernel
theorem dX9_why_37 : decode cX9_why 37 = .ok (.getfield 171, 3) := by decide +kernel
theorem dX9_why_40 : decode cX9_why 40 = .ok (.invokevirtual 251, 3) := by decide +kernel
theorem dX9_why_43 : decode cX9_why 43 = .ok (.invokevirtual 265, 3) := by decide +kernel
theorem dX9_why_46 : decode cX9_why 46 = .ok (.ireturn, 1) := by decide +kernel
theorem dX9_access_0 : decode cX9_access 0 = .ok (.aload_n 0, 1) := by decide +kernel
theorem dX9_access_1 : decode cX9_access 1 = .ok (.iconst 0, 1) := by decide +kernel
theorem dX9_access_2 : decode cX9_access 2 = .ok (.putfield 102, 3) := by decide +kernel
theorem dX9_access_5 : decode cX9_access 5 = .ok (.aload_n 0, 1) := by decide +kernel
theorem dX9_access_6 : decode cX9_access 6 = .ok (.iload_n 1, 1) := by decide +kernel
theorem dX9_access_7 : decode cX9_access 7 = .ok (.iload_n 2, 1) := by decide +kernel
theorem dX9_access_8 : decode cX9_access 8 = .ok (.iload_n 3, 1) := by decide +kernel
theorem dX9_access_9 : decode cX9_access 9 = .ok (.invokevirtual 196, 3) := by decide +kernel
theorem dX9_access_12 : decode cX9_access 12 = .ok (.ifCond .ne 9, 3) := by decide +kernel
theorem dX9_access_15 : decode cX9_access 15 = .ok (.aload_n 0, 1) := by decide +kernel
theorem dX9_access_16 : decode cX9_access 16 = .ok (.iconst 1, 1) := by decide +kernel
theorem dX9_access_17 : decode cX9_access 17 = .ok (.invokevirtual 139, 3) := by decide +kernel
theorem dX9_access_20 : decode cX9_access 20 = .ok (.ireturn, 1) := by decide +kernel
theorem dX9_access_21 : decode cX9_access 21 = .ok (.aload_n 0, 1) := by decide +kernel
theorem dX9_access_22 : decode cX9_access 22 = .ok (.iload_n 1, 1) := by decide +kernel
theorem dX9_access_23 : decode cX9_access 23 = .ok (.iload_n 2, 1) := by decide +kernel
theorem dX9_access_24 : decode cX9_access 24 = .ok (.iload_n 3, 1) := by decide +kernel
theorem dX9_access_25 : decode cX9_access 25 = .ok (.invokevirtual 262, 3) := by decide +kernel
theorem dX9_access_28 : decode cX9_access 28 = .ok (.istore 4, 2) := by decide +kernel
theorem dX9_access_30 : decode cX9_access 30 = .ok (.aload_n 0, 1) := by decide +kernel
theorem dX9_access_31 : decode cX9_access 31 = .ok (.getfield 87, 3) := by decide +kernel
theorem dX9_access_34 : decode cX9_access 34 = .ok (.iload 4, 2) := by decide +kernel
theorem dX9_access_36 : decode cX9_access 36 = .ok (.dup2, 1) := by decide +kernel
theorem dX9_access_37 : decode cX9_access 37 = .ok (.iaload, 1) := by decide +kernel
theorem dX9_access_38 : decode cX9_access 38 = .ok (.iconst 1, 1) := by decide +kernel
theorem dX9_access_39 : decode cX9_access 39 = .ok (.iadd, 1) := by decide +kernel
theorem dX9_access_40 : decode cX9_access 40 = .ok (.iastore, 1) := by decide +kernel
theorem dX9_access_41 : decode cX9_access 41 = .ok (.iload 4, 2) := by decide +kernel
theorem dX9_access_43 : decode cX9_access 43 = .ok (.invokestatic 269, 3) := by decide +kernel
theorem dX9_access_46 : decode cX9_access 46 = .ok (.ifCond .eq 20, 3) := by decide +kernel
theorem dX9_access_49 : decode cX9_access 49 = .ok (.aload_n 0, 1) := by decide +kernel
theorem dX9_access_50 : decode cX9_access 50 = .ok (.getfield 90, 3) := by decide +kernel
theorem dX9_access_53 : decode cX9_access 53 = .ok (.iload_n 1, 1) := by decide +kernel
theorem dX9_access_54 : decode cX9_access 54 = .ok (.bipush 24, 2) := by decide +kernel
theorem dX9_access_56 : decode cX9_access 56 = .ok (.imul, 1) := by decide +kernel
theorem dX9_access_57 : decode cX9_access 57 = .ok (.iload_n 3, 1) := by decide +kernel
theorem dX9_access_58 : decode cX9_access 58 = .ok (.iadd, 1) := by decide +kernel
theorem dX9_access_59 : decode cX9_access 59 = .ok (.dup2, 1) := by decide +kernel
theorem dX9_access_60 : decode cX9_access 60 = .ok (.iaload, 1) := by decide +kernel
theorem dX9_access_61 : decode cX9_access 61 = .ok (.iconst 1, 1) := by decide +kernel
theorem dX9_access_62 : decode cX9_access 62 = .ok (.iload_n 2, 1) := by decide +kernel
theorem dX9_access_63 : decode cX9_access 63 = .ok (.ishl, 1) := by decide +kernel
theorem dX9_access_64 : decode cX9_access 64 = .ok (.ior, 1) := by decide +kernel
theorem dX9_access_65 : decode cX9_access 65 = .ok (.iastore, 1) := by decide +kernel
theorem dX9_access_66 : decode cX9_access 66 = .ok (.iload 4, 2) := by decide +kernel
theorem dX9_access_68 : decode cX9_access 68 = .ok (.ireturn, 1) := by decide +kernel
theorem dX9_counted_0 : decode cX9_counted 0 = .ok (.aload_n 0, 1) := by decide +kernel
theorem dX9_counted_1 : decode cX9_counted 1 = .ok (.iconst 0, 1) := by decide +kernel
theorem dX9_counted_2 : decode cX9_counted 2 = .ok (.putfield 102, 3) := by decide +kernel
theorem dX9_counted_5 : decode cX9_counted 5 = .ok (.iload_n 1, 1) := by decide +kernel
theorem dX9_counted_6 : decode cX9_counted 6 = .ok (.iconst 0, 1) := by decide +kernel
theorem dX9_counted_7 : decode cX9_counted 7 = .ok (.iconst 5, 1) := by decide +kernel
theorem dX9_counted_8 : decode cX9_counted 8 = .ok (.invokestatic 108, 3) := by decide +kernel
theorem dX9_counted_11 : decode cX9_counted 11 = .ok (.ifCond .eq 12, 3) := by decide +kernel
theorem dX9_counted_14 : decode cX9_counted 14 = .ok (.aload_n 0, 1) := by decide +kernel
theorem dX9_counted_15 : decode cX9_counted 15 = .ok (.getfield 87, 3) := by decide +kernel
theorem dX9_counted_18 : decode cX9_counted 18 = .ok (.iload_n 1, 1) := by decide +kernel
theorem dX9_counted_19 : decode cX9_counted 19 = .ok (.iaload, 1) := by decide +kernel
theorem dX9_counted_20 : decode cX9_counted 20 = .ok (.goto 8, 3) := by decide +kernel
theorem dX9_counted_23 : decode cX9_counted 23 = .ok (.aload_n 0, 1) := by decide +kernel
theorem dX9_counted_24 : decode cX9_counted 24 = .ok (.iconst 1, 1) := by decide +kernel
theorem dX9_counted_25 : decode cX9_counted 25 = .ok (.invokevirtual 139, 3) := by decide +kernel
theorem dX9_counted_28 : decode cX9_counted 28 = .ok (.ireturn, 1) := by decide +kernel
theorem dX9_done_0 : decode cX9_done 0 = .ok (.aload_n 0, 1) := by decide +kernel
theorem dX9_done_1 : decode cX9_done 1 = .ok (.iconst 0, 1) := by decide +kernel
theorem dX9_done_2 : decode cX9_done 2 = .ok (.putfield 102, 3) := by decide +kernel
theorem dX9_done_5 : decode cX9_done 5 = .ok (.aload_n 0, 1) := by decide +kernel
theorem dX9_done_6 : decode cX9_done 6 = .ok (.iload_n 1, 1) := by decide +kernel
theorem dX9_done_7 : decode cX9_done 7 = .ok (.invokevirtual 115, 3) := by decide +kernel
theorem dX9_done_10 : decode cX9_done 10 = .ok (.ifCond .eq 25, 3) := by decide +kernel
theorem dX9_done_13 : decode cX9_done 13 = .ok (.aload_n 0, 1) := by decide +kernel
theorem dX9_done_14 : decode cX9_done 14 = .ok (.iload_n 2, 1) := by decide +kernel
theorem dX9_done_15 : decode cX9_done 15 = .ok (.invokevirtual 122, 3) := by decide +kernel
theorem dX9_done_18 : decode cX9_done 18 = .ok (.ifCond .eq 17, 3) := by decide +kernel
theorem dX9_done_21 : decode cX9_done 21 = .ok (.aload_n 0, 1) := by decide +kernel
theorem dX9_done_22 : decode cX9_done 22 = .ok (.getfield 90, 3) := by decide +kernel
theorem dX9_done_25 : decode cX9_done 25 = .ok (.iload_n 1, 1) := by decide +kernel
theorem dX9_done_26 : decode cX9_done 26 = .ok (.bipush 24, 2) := by decide +kernel
theorem dX9_done_28 : decode cX9_done 28 = .ok (.imul, 1) := by decide +kernel
theorem dX9_done_29 : decode cX9_done 29 = .ok (.iload_n 2, 1) := by decide +kernel
theorem dX9_done_30 : decode cX9_done 30 = .ok (.iadd, 1) := by decide +kernel
theorem dX9_done_31 : decode cX9_done 31 = .ok (.iaload, 1) := by decide +kernel
theorem dX9_done_32 : decode cX9_done 32 = .ok (.goto 8, 3) := by decide +kernel
theorem dX9_done_35 : decode cX9_done 35 = .ok (.aload_n 0, 1) := by decide +kernel
theorem dX9_done_36 : decode cX9_done 36 = .ok (.iconst 1, 1) := by decide +kernel
theorem dX9_done_37 : decode cX9_done 37 = .ok (.invokevirtual 139, 3) := by decide +kernel
theorem dX9_done_40 : decode cX9_done 40 = .ok (.ireturn, 1) := by decide +kernel
theorem dX9_who_0 : decode cX9_who 0 = .ok (.aload_n 0, 1) := by decide +kernel
theorem dX9_who_1 : decode cX9_who 1 = .ok (.iconst 0, 1) := by decide +kernel
theorem dX9_who_2 : decode cX9_who 2 = .ok (.putfield 102, 3) := by decide +kernel
theorem dX9_who_5 : decode cX9_who 5 = .ok (.iload_n 1, 1) := by decide +kernel
theorem dX9_who_6 : decode cX9_who 6 = .ok (.invokestatic 119, 3) := by decide +kernel
theorem dX9_who_9 : decode cX9_who 9 = .ok (.ifCond .eq 11, 3) := by decide +kernel
theorem dX9_who_12 : decode cX9_who 12 = .ok (.aload_n 0, 1) := by decide +kernel
theorem dX9_who_13 : decode cX9_who 13 = .ok (.iload_n 2, 1) := by decide +kernel
theorem dX9_who_14 : decode cX9_who 14 = .ok (.invokevirtual 122, 3) := by decide +kernel
theorem dX9_who_17 : decode cX9_who 17 = .ok (.ifCond .ne 9, 3) := by decide +kernel
theorem dX9_who_20 : decode cX9_who 20 = .ok (.aload_n 0, 1) := by decide +kernel
theorem dX9_who_21 : decode cX9_who 21 = .ok (.iconst 1, 1) := by decide +kernel
theorem dX9_who_22 : decode cX9_who 22 = .ok (.invokevirtual 139, 3) := by decide +kernel
theorem dX9_who_25 : decode cX9_who 25 = .ok (.ireturn, 1) := by decide +kernel
theorem dX9_who_26 : decode cX9_who 26 = .ok (.aload_n 0, 1) := by decide +kernel
theorem dX9_who_27 : decode cX9_who 27 = .ok (.invokevirtual 247, 3) := by decide +kernel
theorem dX9_who_30 : decode cX9_who 30 = .ok (.astore_n 3, 1) := by decide +kernel
theorem dX9_who_31 : decode cX9_who 31 = .ok (.aload_n 0, 1) := by decide +kernel
theorem dX9_who_32 : decode cX9_who 32 = .ok (.aload_n 3, 1) := by decide +kernel
theorem dX9_who_33 : decode cX9_who 33 = .ok (.aload_n 0, 1) := by decide +kernel
theorem dX9_who_34 : decode cX9_who 34 = .ok (.getfield 171, 3) := by decide +kernel
theorem dX9_who_37 : decode cX9_who 37 = .ok (.invokevirtual 251, 3) := by decide +kernel
theorem dX9_who_40 : decode cX9_who 40 = .ok (.istore 4, 2) := by decide +kernel
theorem dX9_who_42 : decode cX9_who 42 = .ok (.iconst 0, 1) := by decide +kernel
theorem dX9_who_43 : decode cX9_who 43 = .ok (.istore 5, 2) := by decide +kernel
theorem dX9_who_45 : decode cX9_who 45 = .ok (.iconst 0, 1) := by decide +kernel
theorem dX9_who_46 : decode cX9_who 46 = .ok (.istore 6, 2) := by decide +kernel
theorem dX9_who_48 : decode cX9_who 48 = .ok (.iload 6, 2) := by decide +kernel
theorem dX9_who_50 : decode cX9_who 50 = .ok (.aload_n 0, 1) := by decide +kernel
theorem dX9_who_51 : decode cX9_who 51 = .ok (.getfield 105, 3) := by decide +kernel
theorem dX9_who_54 : decode cX9_who 54 = .ok (.if_icmp .ge 43, 3) := by decide +kernel
theorem dX9_who_57 : decode cX9_who 57 = .ok (.iload 5, 2) := by decide +kernel
theorem dX9_who_59 : decode cX9_who 59 = .ok (.aload_n 0, 1) := by decide +kernel
theorem dX9_who_60 : decode cX9_who 60 = .ok (.iload 6, 2) := by decide +kernel
theorem dX9_who_62 : decode cX9_who 62 = .ok (.iload_n 1, 1) := by decide +kernel
theorem dX9_who_63 : decode cX9_who 63 = .ok (.iload_n 2, 1) := by decide +kernel
theorem dX9_who_64 : decode cX9_who 64 = .ok (.aload_n 3, 1) := by decide +kernel
theorem dX9_who_65 : decode cX9_who 65 = .ok (.iload 4, 2) := by decide +kernel
theorem dX9_who_67 : decode cX9_who 67 = .ok (.aload_n 0, 1) := by decide +kernel
theorem dX9_who_68 : decode cX9_who 68 = .ok (.getfield 171, 3) := by decide +kernel
theorem dX9_who_71 : decode cX9_who 71 = .ok (.invokevirtual 255, 3) := by decide +kernel
theorem dX9_who_74 : decode cX9_who 74 = .ok (.invokestatic 269, 3) := by decide +kernel
theorem dX9_who_77 : decode cX9_who 77 = .ok (.ifCond .eq 10, 3) := by decide +kernel
theorem dX9_who_80 : decode cX9_who 80 = .ok (.iconst 1, 1) := by decide +kernel
theorem dX9_who_81 : decode cX9_who 81 = .ok (.iload 6, 2) := by decide +kernel
theorem dX9_who_83 : decode cX9_who 83 = .ok (.ishl, 1) := by decide +kernel
theorem dX9_who_84 : decode cX9_who 84 = .ok (.goto 4, 3) := by decide +kernel
theorem dX9_who_87 : decode cX9_who 87 = .ok (.iconst 0, 1) := by decide +kernel
theorem dX9_who_88 : decode cX9_who 88 = .ok (.ior, 1) := by decide +kernel
theorem dX9_who_89 : decode cX9_who 89 = .ok (.istore 5, 2) := by decide +kernel
theorem dX9_who_91 : decode cX9_who 91 = .ok (.iinc 6 1, 3) := by decide +kernel
theorem dX9_who_94 : decode cX9_who 94 = .ok (.goto (-46), 3) := by decide +kernel
theorem dX9_who_97 : decode cX9_who 97 = .ok (.iload 5, 2) := by decide +kernel
theorem dX9_who_99 : decode cX9_who 99 = .ok (.ireturn, 1) := by decide +kernel
theorem dX9_reach_0 : decode cX9_reach 0 = .ok (.aload_n 0, 1) := by decide +kernel
theorem dX9_reach_1 : decode cX9_reach 1 = .ok (.iconst 0, 1) := by decide +kernel
theorem dX9_reach_2 : decode cX9_reach 2 = .ok (.putfield 102, 3) := by decide +kernel
theorem dX9_reach_5 : decode cX9_reach 5 = .ok (.aload_n 0, 1) := by decide +kernel
theorem dX9_reach_6 : decode cX9_reach 6 = .ok (.iload_n 1, 1) := by decide +kernel
theorem dX9_reach_7 : decode cX9_reach 7 = .ok (.invokevirtual 115, 3) := by decide +kernel
theorem dX9_reach_10 : decode cX9_reach 10 = .ok (.ifCond .eq 10, 3) := by decide +kernel
theorem dX9_reach_13 : decode cX9_reach 13 = .ok (.iload_n 2, 1) := by decide +kernel
theorem dX9_reach_14 : decode cX9_reach 14 = .ok (.invokestatic 119, 3) := by decide +kernel
theorem dX9_reach_17 : decode cX9_reach 17 = .ok (.ifCond .ne 9, 3) := by decide +kernel
theorem dX9_reach_20 : decode cX9_reach 20 = .ok (.aload_n 0, 1) := by decide +kernel
theorem dX9_reach_21 : decode cX9_reach 21 = .ok (.iconst 1, 1) := by decide +kernel
theorem dX9_reach_22 : decode cX9_reach 22 = .ok (.invokevirtual 139, 3) := by decide +kernel
theorem dX9_reach_25 : decode cX9_reach 25 = .ok (.ireturn, 1) := by decide +kernel
theorem dX9_reach_26 : decode cX9_reach 26 = .ok (.aload_n 0, 1) := by decide +kernel
theorem dX9_reach_27 : decode cX9_reach 27 = .ok (.invokevirtual 247, 3) := by decide +kernel
theorem dX9_reach_30 : decode cX9_reach 30 = .ok (.astore_n 3, 1) := by decide +kernel
theorem dX9_reach_31 : decode cX9_reach 31 = .ok (.aload_n 0, 1) := by decide +kernel
theorem dX9_reach_32 : decode cX9_reach 32 = .ok (.aload_n 3, 1) := by decide +kernel
theorem dX9_reach_33 : decode cX9_reach 33 = .ok (.aload_n 0, 1) := by decide +kernel
theorem dX9_reach_34 : decode cX9_reach 34 = .ok (.getfield 171, 3) := by decide +kernel
theorem dX9_reach_37 : decode cX9_reach 37 = .ok (.invokevirtual 251, 3) := by decide +kernel
theorem dX9_reach_40 : decode cX9_reach 40 = .ok (.istore 4, 2) := by decide +kernel
theorem dX9_reach_42 : decode cX9_reach 42 = .ok (.iconst 0, 1) := by decide +kernel
theorem dX9_reach_43 : decode cX9_reach 43 = .ok (.istore 5, 2) := by decide +kernel
theorem dX9_reach_45 : decode cX9_reach 45 = .ok (.iconst 0, 1) := by decide +kernel
theorem dX9_reach_46 : decode cX9_reach 46 = .ok (.istore 6, 2) := by decide +kernel
theorem dX9_reach_48 : decode cX9_reach 48 = .ok (.iload 6, 2) := by decide +kernel
theorem dX9_reach_50 : decode cX9_reach 50 = .ok (.aload_n 0, 1) := by decide +kernel
theorem dX9_reach_51 : decode cX9_reach 51 = .ok (.getfield 25, 3) := by decide +kernel
theorem dX9_reach_54 : decode cX9_reach 54 = .ok (.if_icmp .ge 40, 3) := by decide +kernel
theorem dX9_reach_57 : decode cX9_reach 57 = .ok (.iload 5, 2) := by decide +kernel
theorem dX9_reach_59 : decode cX9_reach 59 = .ok (.aload_n 0, 1) := by decide +kernel
theorem dX9_reach_60 : decode cX9_reach 60 = .ok (.iload_n 1, 1) := by decide +kernel
theorem dX9_reach_61 : decode cX9_reach 61 = .ok (.iload_n 2, 1) := by decide +kernel
theorem dX9_reach_62 : decode cX9_reach 62 = .ok (.iload 6, 2) := by decide +kernel
theorem dX9_reach_64 : decode cX9_reach 64 = .ok (.aload_n 3, 1) := by decide +kernel
theorem dX9_reach_65 : decode cX9_reach 65 = .ok (.iload 4, 2) := by decide +kernel
theorem dX9_reach_67 : decode cX9_reach 67 = .ok (.aload_n 0, 1) := by decide +kernel
theorem dX9_reach_68 : decode cX9_reach 68 = .ok (.getfield 171, 3) := by decide +kernel
theorem dX9_reach_71 : decode cX9_reach 71 = .ok (.invokevirtual 255, 3) := by decide +kernel
theorem dX9_reach_74 : decode cX9_reach 74 = .ok (.invokestatic 269, 3) := by decide +kernel
theorem dX9_reach_77 : decode cX9_reach 77 = .ok (.ifCond .eq 7, 3) := by decide +kernel
theorem dX9_reach_80 : decode cX9_reach 80 = .ok (.iconst 1, 1) := by decide +kernel
theorem dX9_reach_81 : decode cX9_reach 81 = .ok (.goto 4, 3) := by decide +kernel
theorem dX9_reach_84 : decode cX9_reach 84 = .ok (.iconst 0, 1) := by decide +kernel
theorem dX9_reach_85 : decode cX9_reach 85 = .ok (.iadd, 1) := by decide +kernel
theorem dX9_reach_86 : decode cX9_reach 86 = .ok (.istore 5, 2) := by decide +kernel
theorem dX9_reach_88 : decode cX9_reach 88 = .ok (.iinc 6 1, 3) := by decide +kernel
theorem dX9_reach_91 : decode cX9_reach 91 = .ok (.goto (-43), 3) := by decide +kernel
theorem dX9_reach_94 : decode cX9_reach 94 = .ok (.iload 5, 2) := by decide +kernel
theorem dX9_reach_96 : decode cX9_reach 96 = .ok (.ireturn, 1) := by decide +kernel
theorem dX9_many_0 : decode cX9_many 0 = .ok (.iconst 0, 1) := by decide +kernel
theorem dX9_many_1 : decode cX9_many 1 = .ok (.istore_n 1, 1) := by decide +kernel
theorem dX9_many_2 : decode cX9_many 2 = .ok (.iconst 0, 1) := by decide +kernel
theorem dX9_many_3 : decode cX9_many 3 = .ok (.istore_n 2, 1) := by decide +kernel
theorem dX9_many_4 : decode cX9_many 4 = .ok (.iload_n 2, 1) := by decide +kernel
theorem dX9_many_5 : decode cX9_many 5 = .ok (.bipush 12, 2) := by decide +kernel
theorem dX9_many_7 : decode cX9_many 7 = .ok (.if_icmp .ge 17, 3) := by decide +kernel
theorem dX9_many_10 : decode cX9_many 10 = .ok (.iload_n 1, 1) := by decide +kernel
theorem dX9_many_11 : decode cX9_many 11 = .ok (.iload_n 0, 1) := by decide +kernel
theorem dX9_many_12 : decode cX9_many 12 = .ok (.iload_n 2, 1) := by decide +kernel
theorem dX9_many_13 : decode cX9_many 13 = .ok (.ishr, 1) := by decide +kernel
theorem dX9_many_14 : decode cX9_many 14 = .ok (.iconst 1, 1) := by decide +kernel
theorem dX9_many_15 : decode cX9_many 15 = .ok (.iand, 1) := by decide +kernel
theorem dX9_many_16 : decode cX9_many 16 = .ok (.iadd, 1) := by decide +kernel
theorem dX9_many_17 : decode cX9_many 17 = .ok (.istore_n 1, 1) := by decide +kernel
theorem dX9_many_18 : decode cX9_many 18 = .ok (.iinc 2 1, 3) := by decide +kernel
theorem dX9_many_21 : decode cX9_many 21 = .ok (.goto (-17), 3) := by decide +kernel
theorem dX9_many_24 : decode cX9_many 24 = .ok (.iload_n 1, 1) := by decide +kernel
theorem dX9_many_25 : decode cX9_many 25 = .ok (.ireturn, 1) := by decide +kernel
theorem dX9_rolesNeeded_0 : decode cX9_rolesNeeded 0 = .ok (.aload_n 0, 1) := by decide +kernel
theorem dX9_rolesNeeded_1 : decode cX9_rolesNeeded 1 = .ok (.iconst 0, 1) := by decide +kernel
theorem dX9_rolesNeeded_2 : decode cX9_rolesNeeded 2 = .ok (.putfield 102, 3) := by decide +kernel
theorem dX9_rolesNeeded_5 : decode cX9_rolesNeeded 5 = .ok (.aload_n 0, 1) := by decide +kernel
theorem dX9_rolesNeeded_6 : decode cX9_rolesNeeded 6 = .ok (.iload_n 1, 1) := by decide +kernel
theorem dX9_rolesNeeded_7 : decode cX9_rolesNeeded 7 = .ok (.iload_n 2, 1) := by decide +kernel
theorem dX9_rolesNeeded_8 : decode cX9_rolesNeeded 8 = .ok (.iload_n 3, 1) := by decide +kernel
theorem dX9_rolesNeeded_9 : decode cX9_rolesNeeded 9 = .ok (.invokevirtual 196, 3) := by decide +kernel
theorem dX9_rolesNeeded_12 : decode cX9_rolesNeeded 12 = .ok (.ifCond .ne 9, 3) := by decide +kernel
theorem dX9_rolesNeeded_15 : decode cX9_rolesNeeded 15 = .ok (.aload_n 0, 1) := by decide +kernel
theorem dX9_rolesNeeded_16 : decode cX9_rolesNeeded 16 = .ok (.iconst 1, 1) := by decide +kernel
theorem dX9_rolesNeeded_17 : decode cX9_rolesNeeded 17 = .ok (.invokevirtual 139, 3) := by decide +kernel
theorem dX9_rolesNeeded_20 : decode cX9_rolesNeeded 20 = .ok (.ireturn, 1) := by decide +kernel
theorem dX9_rolesNeeded_21 : decode cX9_rolesNeeded 21 = .ok (.aload_n 0, 1) := by decide +kernel
theorem dX9_rolesNeeded_22 : decode cX9_rolesNeeded 22 = .ok (.iload_n 1, 1) := by decide +kernel
theorem dX9_rolesNeeded_23 : decode cX9_rolesNeeded 23 = .ok (.iload_n 2, 1) := by decide +kernel
theorem dX9_rolesNeeded_24 : decode cX9_rolesNeeded 24 = .ok (.iload_n 3, 1) := by decide +kernel
theorem dX9_rolesNeeded_25 : decode cX9_rolesNeeded 25 = .ok (.invokevirtual 222, 3) := by decide +kernel
theorem dX9_rolesNeeded_28 : decode cX9_rolesNeeded 28 = .ok (.ifCond .eq 5, 3) := by decide +kernel
theorem dX9_rolesNeeded_31 : decode cX9_rolesNeeded 31 = .ok (.iconst (-1), 1) := by decide +kernel
theorem dX9_rolesNeeded_32 : decode cX9_rolesNeeded 32 = .ok (.ireturn, 1) := by decide +kernel
theorem dX9_rolesNeeded_33 : decode cX9_rolesNeeded 33 = .ok (.aload_n 0, 1) := by decide +kernel
theorem dX9_rolesNeeded_34 : decode cX9_rolesNeeded 34 = .ok (.invokevirtual 247, 3) := by decide +kernel
theorem dX9_rolesNeeded_37 : decode cX9_rolesNeeded 37 = .ok (.astore 4, 2) := by decide +kernel
theorem dX9_rolesNeeded_39 : decode cX9_rolesNeeded 39 = .ok (.iconst 0, 1) := by decide +kernel
theorem dX9_rolesNeeded_40 : decode cX9_rolesNeeded 40 = .ok (.istore 5, 2) := by decide +kernel
theorem dX9_rolesNeeded_42 : decode cX9_rolesNeeded 42 = .ok (.bipush 30, 2) := by decide +kernel
theorem dX9_rolesNeeded_44 : decode cX9_rolesNeeded 44 = .ok (.newarray .int, 2) := by decide +kernel
theorem dX9_rolesNeeded_46 : decode cX9_rolesNeeded 46 = .ok (.astore 6, 2) := by decide +kernel
theorem dX9_rolesNeeded_48 : decode cX9_rolesNeeded 48 = .ok (.bipush 30, 2) := by decide +kernel
theorem dX9_rolesNeeded_50 : decode cX9_rolesNeeded 50 = .ok (.newarray .int, 2) := by decide +kernel
theorem dX9_rolesNeeded_52 : decode cX9_rolesNeeded 52 = .ok (.astore 7, 2) := by decide +kernel
theorem dX9_rolesNeeded_54 : decode cX9_rolesNeeded 54 = .ok (.iconst 0, 1) := by decide +kernel
theorem dX9_rolesNeeded_55 : decode cX9_rolesNeeded 55 = .ok (.istore 8, 2) := by decide +kernel
theorem dX9_rolesNeeded_57 : decode cX9_rolesNeeded 57 = .ok (.iload 8, 2) := by decide +kernel
theorem dX9_rolesNeeded_59 : decode cX9_rolesNeeded 59 = .ok (.aload_n 0, 1) := by decide +kernel
theorem dX9_rolesNeeded_60 : decode cX9_rolesNeeded 60 = .ok (.getfield 233, 3) := by decide +kernel
theorem dX9_rolesNeeded_63 : decode cX9_rolesNeeded 63 = .ok (.if_icmp .ge 156, 3) := by decide +kernel
theorem dX9_rolesNeeded_66 : decode cX9_rolesNeeded 66 = .ok (.aload_n 0, 1) := by decide +kernel
theorem dX9_rolesNeeded_67 : decode cX9_rolesNeeded 67 = .ok (.getfield 84, 3) := by decide +kernel
theorem dX9_rolesNeeded_70 : decode cX9_rolesNeeded 70 = .ok (.iload 8, 2) := by decide +kernel
theorem dX9_rolesNeeded_72 : decode cX9_rolesNeeded 72 = .ok (.iaload, 1) := by decide +kernel
theorem dX9_rolesNeeded_73 : decode cX9_rolesNeeded 73 = .ok (.aload_n 0, 1) := by decide +kernel
theorem dX9_rolesNeeded_74 : decode cX9_rolesNeeded 74 = .ok (.getfield 174, 3) := by decide +kernel
theorem dX9_rolesNeeded_77 : decode cX9_rolesNeeded 77 = .ok (.if_icmp .gt 6, 3) := by decide +kernel
theorem dX9_rolesNeeded_80 : decode cX9_rolesNeeded 80 = .ok (.goto 133, 3) := by decide +kernel
theorem dX9_rolesNeeded_83 : decode cX9_rolesNeeded 83 = .ok (.aload_n 0, 1) := by decide +kernel
theorem dX9_rolesNeeded_84 : decode cX9_rolesNeeded 84 = .ok (.getfield 69, 3) := by decide +kernel
theorem dX9_rolesNeeded_87 : decode cX9_rolesNeeded 87 = .ok (.iload 8, 2) := by decide +kernel
theorem dX9_rolesNeeded_89 : decode cX9_rolesNeeded 89 = .ok (.iaload, 1) := by decide +kernel
theorem dX9_rolesNeeded_90 : decode cX9_rolesNeeded 90 = .ok (.iload_n 1, 1) := by decide +kernel
theorem dX9_rolesNeeded_91 : decode cX9_rolesNeeded 91 = .ok (.if_icmp .eq 42, 3) := by decide +kernel
theorem dX9_rolesNeeded_94 : decode cX9_rolesNeeded 94 = .ok (.iload 5, 2) := by decide +kernel
theorem dX9_rolesNeeded_96 : decode cX9_rolesNeeded 96 = .ok (.aload_n 0, 1) := by decide +kernel
theorem dX9_rolesNeeded_97 : decode cX9_rolesNeeded 97 = .ok (.iload 8, 2) := by decide +kernel
theorem dX9_rolesNeeded_99 : decode cX9_rolesNeeded 99 = .ok (.aload 4, 2) := by decide +kernel
theorem dX9_rolesNeeded_101 : decode cX9_rolesNeeded 101 = .ok (.aload_n 0, 1) := by decide +kernel
theorem dX9_rolesNeeded_102 : decode cX9_rolesNeeded 102 = .ok (.getfield 69, 3) := by decide +kernel
theorem dX9_rolesNeeded_105 : decode cX9_rolesNeeded 105 = .ok (.iload 8, 2) := by decide +kernel
theorem dX9_rolesNeeded_107 : decode cX9_rolesNeeded 107 = .ok (.iaload, 1) := by decide +kernel
theorem dX9_rolesNeeded_108 : decode cX9_rolesNeeded 108 = .ok (.aaload, 1) := by decide +kernel
theorem dX9_rolesNeeded_109 : decode cX9_rolesNeeded 109 = .ok (.aload_n 0, 1) := by decide +kernel
theorem dX9_rolesNeeded_110 : decode cX9_rolesNeeded 110 = .ok (.getfield 171, 3) := by decide +kernel
theorem dX9_rolesNeeded_113 : decode cX9_rolesNeeded 113 = .ok (.invokevirtual 236, 3) := by decide +kernel
theorem dX9_rolesNeeded_116 : decode cX9_rolesNeeded 116 = .ok (.ifCond .eq 10, 3) := by decide +kernel
theorem dX9_rolesNeeded_119 : decode cX9_rolesNeeded 119 = .ok (.iconst 1, 1) := by decide +kernel
theorem dX9_rolesNeeded_120 : decode cX9_rolesNeeded 120 = .ok (.iload 8, 2) := by decide +kernel
theorem dX9_rolesNeeded_122 : decode cX9_rolesNeeded 122 = .ok (.ishl, 1) := by decide +kernel
theorem dX9_rolesNeeded_123 : decode cX9_rolesNeeded 123 = .ok (.goto 4, 3) := by decide +kernel
theorem dX9_rolesNeeded_126 : decode cX9_rolesNeeded 126 = .ok (.iconst 0, 1) := by decide +kernel
theorem dX9_rolesNeeded_127 : decode cX9_rolesNeeded 127 = .ok (.ior, 1) := by decide +kernel
theorem dX9_rolesNeeded_128 : decode cX9_rolesNeeded 128 = .ok (.istore 5, 2) := by decide +kernel
theorem dX9_rolesNeeded_130 : decode cX9_rolesNeeded 130 = .ok (.goto 83, 3) := by decide +kernel
theorem dX9_rolesNeeded_133 : decode cX9_rolesNeeded 133 = .ok (.aload_n 0, 1) := by decide +kernel
theorem dX9_rolesNeeded_134 : decode cX9_rolesNeeded 134 = .ok (.iload_n 1, 1) := by decide +kernel
theorem dX9_rolesNeeded_135 : decode cX9_rolesNeeded 135 = .ok (.aload_n 0, 1) := by decide +kernel
theorem dX9_rolesNeeded_136 : decode cX9_rolesNeeded 136 = .ok (.getfield 75, 3) := by decide +kernel
theorem dX9_rolesNeeded_139 : decode cX9_rolesNeeded 139 = .ok (.iload 8, 2) := by decide +kernel
theorem dX9_rolesNeeded_141 : decode cX9_rolesNeeded 141 = .ok (.iaload, 1) := by decide +kernel
theorem dX9_rolesNeeded_142 : decode cX9_rolesNeeded 142 = .ok (.aload_n 0, 1) := by decide +kernel
theorem dX9_rolesNeeded_143 : decode cX9_rolesNeeded 143 = .ok (.getfield 78, 3) := by decide +kernel
theorem dX9_rolesNeeded_146 : decode cX9_rolesNeeded 146 = .ok (.iload 8, 2) := by decide +kernel
theorem dX9_rolesNeeded_148 : decode cX9_rolesNeeded 148 = .ok (.iaload, 1) := by decide +kernel
theorem dX9_rolesNeeded_149 : decode cX9_rolesNeeded 149 = .ok (.invokevirtual 222, 3) := by decide +kernel
theorem dX9_rolesNeeded_152 : decode cX9_rolesNeeded 152 = .ok (.ifCond .ne 61, 3) := by decide +kernel
theorem dX9_rolesNeeded_155 : decode cX9_rolesNeeded 155 = .ok (.aload_n 0, 1) := by decide +kernel
theorem dX9_rolesNeeded_156 : decode cX9_rolesNeeded 156 = .ok (.iload_n 1, 1) := by decide +kernel
theorem dX9_rolesNeeded_157 : decode cX9_rolesNeeded 157 = .ok (.iconst 4, 1) := by decide +kernel
theorem dX9_rolesNeeded_158 : decode cX9_rolesNeeded 158 = .ok (.aload_n 0, 1) := by decide +kernel
theorem dX9_rolesNeeded_159 : decode cX9_rolesNeeded 159 = .ok (.getfield 78, 3) := by decide +kernel
theorem dX9_rolesNeeded_162 : decode cX9_rolesNeeded 162 = .ok (.iload 8, 2) := by decide +kernel
theorem dX9_rolesNeeded_164 : decode cX9_rolesNeeded 164 = .ok (.iaload, 1) := by decide +kernel
theorem dX9_rolesNeeded_165 : decode cX9_rolesNeeded 165 = .ok (.invokevirtual 222, 3) := by decide +kernel
theorem dX9_rolesNeeded_168 : decode cX9_rolesNeeded 168 = .ok (.ifCond .ne 45, 3) := by decide +kernel
theorem dX9_rolesNeeded_171 : decode cX9_rolesNeeded 171 = .ok (.aload 6, 2) := by decide +kernel
theorem dX9_rolesNeeded_173 : decode cX9_rolesNeeded 173 = .ok (.iload 8, 2) := by decide +kernel
theorem dX9_rolesNeeded_175 : decode cX9_rolesNeeded 175 = .ok (.aload_n 0, 1) := by decide +kernel
theorem dX9_rolesNeeded_176 : decode cX9_rolesNeeded 176 = .ok (.iload_n 1, 1) := by decide +kernel
theorem dX9_rolesNeeded_177 : decode cX9_rolesNeeded 177 = .ok (.aload_n 0, 1) := by decide +kernel
theorem dX9_rolesNeeded_178 : decode cX9_rolesNeeded 178 = .ok (.getfield 75, 3) := by decide +kernel
theorem dX9_rolesNeeded_181 : decode cX9_rolesNeeded 181 = .ok (.iload 8, 2) := by decide +kernel
theorem dX9_rolesNeeded_183 : decode cX9_rolesNeeded 183 = .ok (.iaload, 1) := by decide +kernel
theorem dX9_rolesNeeded_184 : decode cX9_rolesNeeded 184 = .ok (.aload_n 0, 1) := by decide +kernel
theorem dX9_rolesNeeded_185 : decode cX9_rolesNeeded 185 = .ok (.getfield 78, 3) := by decide +kernel
theorem dX9_rolesNeeded_188 : decode cX9_rolesNeeded 188 = .ok (.iload 8, 2) := by decide +kernel
theorem dX9_rolesNeeded_190 : decode cX9_rolesNeeded 190 = .ok (.iaload, 1) := by decide +kernel
theorem dX9_rolesNeeded_191 : decode cX9_rolesNeeded 191 = .ok (.invokevirtual 188, 3) := by decide +kernel
theorem dX9_rolesNeeded_194 : decode cX9_rolesNeeded 194 = .ok (.iastore, 1) := by decide +kernel
theorem dX9_rolesNeeded_195 : decode cX9_rolesNeeded 195 = .ok (.aload 7, 2) := by decide +kernel
theorem dX9_rolesNeeded_197 : decode cX9_rolesNeeded 197 = .ok (.iload 8, 2) := by decide +kernel
theorem dX9_rolesNeeded_199 : decode cX9_rolesNeeded 199 = .ok (.aload_n 0, 1) := by decide +kernel
theorem dX9_rolesNeeded_200 : decode cX9_rolesNeeded 200 = .ok (.iload_n 1, 1) := by decide +kernel
theorem dX9_rolesNeeded_201 : decode cX9_rolesNeeded 201 = .ok (.iconst 4, 1) := by decide +kernel
theorem dX9_rolesNeeded_202 : decode cX9_rolesNeeded 202 = .ok (.aload_n 0, 1) := by decide +kernel
theorem dX9_rolesNeeded_203 : decode cX9_rolesNeeded 203 = .ok (.getfield 78, 3) := by decide +kernel
theorem dX9_rolesNeeded_206 : decode cX9_rolesNeeded 206 = .ok (.iload 8, 2) := by decide +kernel
theorem dX9_rolesNeeded_208 : decode cX9_rolesNeeded 208 = .ok (.iaload, 1) := by decide +kernel
theorem dX9_rolesNeeded_209 : decode cX9_rolesNeeded 209 = .ok (.invokevirtual 188, 3) := by decide +kernel
theorem dX9_rolesNeeded_212 : decode cX9_rolesNeeded 212 = .ok (.iastore, 1) := by decide +kernel
theorem dX9_rolesNeeded_213 : decode cX9_rolesNeeded 213 = .ok (.iinc 8 1, 3) := by decide +kernel
theorem dX9_rolesNeeded_216 : decode cX9_rolesNeeded 216 = .ok (.goto (-159), 3) := by decide +kernel
theorem dX9_rolesNeeded_219 : decode cX9_rolesNeeded 219 = .ok (.aload_n 0, 1) := by decide +kernel
theorem dX9_rolesNeeded_220 : decode cX9_rolesNeeded 220 = .ok (.iload_n 1, 1) := by decide +kernel
theorem dX9_rolesNeeded_221 : decode cX9_rolesNeeded 221 = .ok (.iload_n 2, 1) := by decide +kernel
theorem dX9_rolesNeeded_222 : decode cX9_rolesNeeded 222 = .ok (.iload_n 3, 1) := by decide +kernel
theorem dX9_rolesNeeded_223 : decode cX9_rolesNeeded 223 = .ok (.invokevirtual 188, 3) := by decide +kernel
theorem dX9_rolesNeeded_226 : decode cX9_rolesNeeded 226 = .ok (.istore 8, 2) := by decide +kernel
theorem dX9_rolesNeeded_228 : decode cX9_rolesNeeded 228 = .ok (.iconst (-1), 1) := by decide +kernel
theorem dX9_rolesNeeded_229 : decode cX9_rolesNeeded 229 = .ok (.istore 9, 2) := by decide +kernel
theorem dX9_rolesNeeded_231 : decode cX9_rolesNeeded 231 = .ok (.bipush 12, 2) := by decide +kernel
theorem dX9_rolesNeeded_233 : decode cX9_rolesNeeded 233 = .ok (.newarray .int, 2) := by decide +kernel
theorem dX9_rolesNeeded_235 : decode cX9_rolesNeeded 235 = .ok (.astore 10, 2) := by decide +kernel
theorem dX9_rolesNeeded_237 : decode cX9_rolesNeeded 237 = .ok (.iconst 0, 1) := by decide +kernel
theorem dX9_rolesNeeded_238 : decode cX9_rolesNeeded 238 = .ok (.istore 11, 2) := by decide +kernel
theorem dX9_rolesNeeded_240 : decode cX9_rolesNeeded 240 = .ok (.iload 11, 2) := by decide +kernel
theorem dX9_rolesNeeded_242 : decode cX9_rolesNeeded 242 = .ok (.iconst 1, 1) := by decide +kernel
theorem dX9_rolesNeeded_243 : decode cX9_rolesNeeded 243 = .ok (.aload_n 0, 1) := by decide +kernel
theorem dX9_rolesNeeded_244 : decode cX9_rolesNeeded 244 = .ok (.getfield 112, 3) := by decide +kernel
theorem dX9_rolesNeeded_247 : decode cX9_rolesNeeded 247 = .ok (.ishl, 1) := by decide +kernel
theorem dX9_rolesNeeded_248 : decode cX9_rolesNeeded 248 = .ok (.if_icmp .ge 138, 3) := by decide +kernel
theorem dX9_rolesNeeded_251 : decode cX9_rolesNeeded 251 = .ok (.iload 11, 2) := by decide +kernel
theorem dX9_rolesNeeded_253 : decode cX9_rolesNeeded 253 = .ok (.aload_n 0, 1) := by decide +kernel
theorem dX9_rolesNeeded_254 : decode cX9_rolesNeeded 254 = .ok (.getfield 9, 3) := by decide +kernel
theorem dX9_rolesNeeded_257 : decode cX9_rolesNeeded 257 = .ok (.iload_n 1, 1) := by decide +kernel
theorem dX9_rolesNeeded_258 : decode cX9_rolesNeeded 258 = .ok (.iaload, 1) := by decide +kernel
theorem dX9_rolesNeeded_259 : decode cX9_rolesNeeded 259 = .ok (.iand, 1) := by decide +kernel
theorem dX9_rolesNeeded_260 : decode cX9_rolesNeeded 260 = .ok (.ifCond .ne 120, 3) := by decide +kernel
theorem dX9_rolesNeeded_263 : decode cX9_rolesNeeded 263 = .ok (.iload 9, 2) := by decide +kernel
theorem dX9_rolesNeeded_265 : decode cX9_rolesNeeded 265 = .ok (.iconst (-1), 1) := by decide +kernel
theorem dX9_rolesNeeded_266 : decode cX9_rolesNeeded 266 = .ok (.if_icmp .eq 13, 3) := by decide +kernel
theorem dX9_rolesNeeded_269 : decode cX9_rolesNeeded 269 = .ok (.iload 11, 2) := by decide +kernel
theorem dX9_rolesNeeded_271 : decode cX9_rolesNeeded 271 = .ok (.invokestatic 272, 3) := by decide +kernel
theorem dX9_rolesNeeded_274 : decode cX9_rolesNeeded 274 = .ok (.iload 9, 2) := by decide +kernel
theorem dX9_rolesNeeded_276 : decode cX9_rolesNeeded 276 = .ok (.if_icmp .ge 104, 3) := by decide +kernel
theorem dX9_rolesNeeded_279 : decode cX9_rolesNeeded 279 = .ok (.aload_n 0, 1) := by decide +kernel
theorem dX9_rolesNeeded_280 : decode cX9_rolesNeeded 280 = .ok (.aload_n 0, 1) := by decide +kernel
theorem dX9_rolesNeeded_281 : decode cX9_rolesNeeded 281 = .ok (.getfield 9, 3) := by decide +kernel
theorem dX9_rolesNeeded_284 : decode cX9_rolesNeeded 284 = .ok (.iload_n 1, 1) := by decide +kernel
theorem dX9_rolesNeeded_285 : decode cX9_rolesNeeded 285 = .ok (.iaload, 1) := by decide +kernel
theorem dX9_rolesNeeded_286 : decode cX9_rolesNeeded 286 = .ok (.iload 11, 2) := by decide +kernel
theorem dX9_rolesNeeded_288 : decode cX9_rolesNeeded 288 = .ok (.ior, 1) := by decide +kernel
theorem dX9_rolesNeeded_289 : decode cX9_rolesNeeded 289 = .ok (.invokevirtual 136, 3) := by decide +kernel
theorem dX9_rolesNeeded_292 : decode cX9_rolesNeeded 292 = .ok (.ifCond .eq 6, 3) := by decide +kernel
theorem dX9_rolesNeeded_295 : decode cX9_rolesNeeded 295 = .ok (.goto 85, 3) := by decide +kernel
theorem dX9_rolesNeeded_298 : decode cX9_rolesNeeded 298 = .ok (.aload_n 0, 1) := by decide +kernel
theorem dX9_rolesNeeded_299 : decode cX9_rolesNeeded 299 = .ok (.aload_n 0, 1) := by decide +kernel
theorem dX9_rolesNeeded_300 : decode cX9_rolesNeeded 300 = .ok (.getfield 9, 3) := by decide +kernel
theorem dX9_rolesNeeded_303 : decode cX9_rolesNeeded 303 = .ok (.iload_n 1, 1) := by decide +kernel
theorem dX9_rolesNeeded_304 : decode cX9_rolesNeeded 304 = .ok (.iaload, 1) := by decide +kernel
theorem dX9_rolesNeeded_305 : decode cX9_rolesNeeded 305 = .ok (.iload 11, 2) := by decide +kernel
theorem dX9_rolesNeeded_307 : decode cX9_rolesNeeded 307 = .ok (.ior, 1) := by decide +kernel
theorem dX9_rolesNeeded_308 : decode cX9_rolesNeeded 308 = .ok (.aload 10, 2) := by decide +kernel
theorem dX9_rolesNeeded_310 : decode cX9_rolesNeeded 310 = .ok (.invokevirtual 125, 3) := by decide +kernel
theorem dX9_rolesNeeded_313 : decode cX9_rolesNeeded 313 = .ok (.pop, 1) := by decide +kernel
theorem dX9_rolesNeeded_314 : decode cX9_rolesNeeded 314 = .ok (.aload_n 0, 1) := by decide +kernel
theorem dX9_rolesNeeded_315 : decode cX9_rolesNeeded 315 = .ok (.aload_n 0, 1) := by decide +kernel
theorem dX9_rolesNeeded_316 : decode cX9_rolesNeeded 316 = .ok (.iload 8, 2) := by decide +kernel
theorem dX9_rolesNeeded_318 : decode cX9_rolesNeeded 318 = .ok (.iload_n 1, 1) := by decide +kernel
theorem dX9_rolesNeeded_319 : decode cX9_rolesNeeded 319 = .ok (.aload 10, 2) := by decide +kernel
theorem dX9_rolesNeeded_321 : decode cX9_rolesNeeded 321 = .ok (.invokevirtual 192, 3) := by decide +kernel
theorem dX9_rolesNeeded_324 : decode cX9_rolesNeeded 324 = .ok (.aload 10, 2) := by decide +kernel
theorem dX9_rolesNeeded_326 : decode cX9_rolesNeeded 326 = .ok (.iload_n 3, 1) := by decide +kernel
theorem dX9_rolesNeeded_327 : decode cX9_rolesNeeded 327 = .ok (.aload_n 0, 1) := by decide +kernel
theorem dX9_rolesNeeded_328 : decode cX9_rolesNeeded 328 = .ok (.getfield 171, 3) := by decide +kernel
theorem dX9_rolesNeeded_331 : decode cX9_rolesNeeded 331 = .ok (.invokevirtual 215, 3) := by decide +kernel
theorem dX9_rolesNeeded_334 : decode cX9_rolesNeeded 334 = .ok (.istore 12, 2) := by decide +kernel
theorem dX9_rolesNeeded_336 : decode cX9_rolesNeeded 336 = .ok (.iload 12, 2) := by decide +kernel
theorem dX9_rolesNeeded_338 : decode cX9_rolesNeeded 338 = .ok (.iconst (-1), 1) := by decide +kernel
theorem dX9_rolesNeeded_339 : decode cX9_rolesNeeded 339 = .ok (.if_icmp .eq 16, 3) := by decide +kernel
theorem dX9_rolesNeeded_342 : decode cX9_rolesNeeded 342 = .ok (.aload_n 0, 1) := by decide +kernel
theorem dX9_rolesNeeded_343 : decode cX9_rolesNeeded 343 = .ok (.getfield 41, 3) := by decide +kernel
theorem dX9_rolesNeeded_346 : decode cX9_rolesNeeded 346 = .ok (.iload 12, 2) := by decide +kernel
theorem dX9_rolesNeeded_348 : decode cX9_rolesNeeded 348 = .ok (.baload, 1) := by decide +kernel
theorem dX9_rolesNeeded_349 : decode cX9_rolesNeeded 349 = .ok (.ifCond .eq 31, 3) := by decide +kernel
theorem dX9_rolesNeeded_352 : decode cX9_rolesNeeded 352 = .ok (.goto 21, 3) := by decide +kernel
theorem dX9_rolesNeeded_355 : decode cX9_rolesNeeded 355 = .ok (.aload_n 0, 1) := by decide +kernel
theorem dX9_rolesNeeded_356 : decode cX9_rolesNeeded 356 = .ok (.iload_n 1, 1) := by decide +kernel
theorem dX9_rolesNeeded_357 : decode cX9_rolesNeeded 357 = .ok (.iload_n 2, 1) := by decide +kernel
theorem dX9_rolesNeeded_358 : decode cX9_rolesNeeded 358 = .ok (.iload_n 3, 1) := by decide +kernel
theorem dX9_rolesNeeded_359 : decode cX9_rolesNeeded 359 = .ok (.iload 5, 2) := by decide +kernel
theorem dX9_rolesNeeded_361 : decode cX9_rolesNeeded 361 = .ok (.aload 6, 2) := by decide +kernel
theorem dX9_rolesNeeded_363 : decode cX9_rolesNeeded 363 = .ok (.aload 7, 2) := by decide +kernel
theorem dX9_rolesNeeded_365 : decode cX9_rolesNeeded 365 = .ok (.aload 10, 2) := by decide +kernel
theorem dX9_rolesNeeded_367 : decode cX9_rolesNeeded 367 = .ok (.invokevirtual 275, 3) := by decide +kernel
theorem dX9_rolesNeeded_370 : decode cX9_rolesNeeded 370 = .ok (.ifCond .eq 10, 3) := by decide +kernel
theorem dX9_rolesNeeded_373 : decode cX9_rolesNeeded 373 = .ok (.iload 11, 2) := by decide +kernel
theorem dX9_rolesNeeded_375 : decode cX9_rolesNeeded 375 = .ok (.invokestatic 272, 3) := by decide +kernel
theorem dX9_rolesNeeded_378 : decode cX9_rolesNeeded 378 = .ok (.istore 9, 2) := by decide +kernel
theorem dX9_rolesNeeded_380 : decode cX9_rolesNeeded 380 = .ok (.iinc 11 1, 3) := by decide +kernel
theorem dX9_rolesNeeded_383 : decode cX9_rolesNeeded 383 = .ok (.goto (-143), 3) := by decide +kernel
theorem dX9_rolesNeeded_386 : decode cX9_rolesNeeded 386 = .ok (.iload 9, 2) := by decide +kernel
theorem dX9_rolesNeeded_388 : decode cX9_rolesNeeded 388 = .ok (.ireturn, 1) := by decide +kernel
theorem dX9_isGranted_0 : decode cX9_isGranted 0 = .ok (.iload 4, 2) := by decide +kernel
theorem dX9_isGranted_2 : decode cX9_isGranted 2 = .ok (.istore 8, 2) := by decide +kernel
theorem dX9_isGranted_4 : decode cX9_isGranted 4 = .ok (.iconst 0, 1) := by decide +kernel
theorem dX9_isGranted_5 : decode cX9_isGranted 5 = .ok (.istore 9, 2) := by decide +kernel
theorem dX9_isGranted_7 : decode cX9_isGranted 7 = .ok (.iload 9, 2) := by decide +kernel
theorem dX9_isGranted_9 : decode cX9_isGranted 9 = .ok (.aload_n 0, 1) := by decide +kernel
theorem dX9_isGranted_10 : decode cX9_isGranted 10 = .ok (.getfield 233, 3) := by decide +kernel
theorem dX9_isGranted_13 : decode cX9_isGranted 13 = .ok (.if_icmp .ge 78, 3) := by decide +kernel
theorem dX9_isGranted_16 : decode cX9_isGranted 16 = .ok (.aload 5, 2) := by decide +kernel
theorem dX9_isGranted_18 : decode cX9_isGranted 18 = .ok (.iload 9, 2) := by decide +kernel
theorem dX9_isGranted_20 : decode cX9_isGranted 20 = .ok (.iaload, 1) := by decide +kernel
theorem dX9_isGranted_21 : decode cX9_isGranted 21 = .ok (.ifCond .eq 64, 3) := by decide +kernel
theorem dX9_isGranted_24 : decode cX9_isGranted 24 = .ok (.aload 6, 2) := by decide +kernel
theorem dX9_isGranted_26 : decode cX9_isGranted 26 = .ok (.iload 9, 2) := by decide +kernel
theorem dX9_isGranted_28 : decode cX9_isGranted 28 = .ok (.iaload, 1) := by decide +kernel
theorem dX9_isGranted_29 : decode cX9_isGranted 29 = .ok (.ifCond .eq 56, 3) := by decide +kernel
theorem dX9_isGranted_32 : decode cX9_isGranted 32 = .ok (.aload_n 0, 1) := by decide +kernel
theorem dX9_isGranted_33 : decode cX9_isGranted 33 = .ok (.aload 5, 2) := by decide +kernel
theorem dX9_isGranted_35 : decode cX9_isGranted 35 = .ok (.iload 9, 2) := by decide +kernel
theorem dX9_isGranted_37 : decode cX9_isGranted 37 = .ok (.iaload, 1) := by decide +kernel
theorem dX9_isGranted_38 : decode cX9_isGranted 38 = .ok (.iload_n 1, 1) := by decide +kernel
theorem dX9_isGranted_39 : decode cX9_isGranted 39 = .ok (.aload 7, 2) := by decide +kernel
theorem dX9_isGranted_41 : decode cX9_isGranted 41 = .ok (.aload_n 0, 1) := by decide +kernel
theorem dX9_isGranted_42 : decode cX9_isGranted 42 = .ok (.getfield 78, 3) := by decide +kernel
theorem dX9_isGranted_45 : decode cX9_isGranted 45 = .ok (.iload 9, 2) := by decide +kernel
theorem dX9_isGranted_47 : decode cX9_isGranted 47 = .ok (.iaload, 1) := by decide +kernel
theorem dX9_isGranted_48 : decode cX9_isGranted 48 = .ok (.invokevirtual 279, 3) := by decide +kernel
theorem dX9_isGranted_51 : decode cX9_isGranted 51 = .ok (.ifCond .eq 34, 3) := by decide +kernel
theorem dX9_isGranted_54 : decode cX9_isGranted 54 = .ok (.aload_n 0, 1) := by decide +kernel
theorem dX9_isGranted_55 : decode cX9_isGranted 55 = .ok (.aload 6, 2) := by decide +kernel
theorem dX9_isGranted_57 : decode cX9_isGranted 57 = .ok (.iload 9, 2) := by decide +kernel
theorem dX9_isGranted_59 : decode cX9_isGranted 59 = .ok (.iaload, 1) := by decide +kernel
theorem dX9_isGranted_60 : decode cX9_isGranted 60 = .ok (.iload_n 1, 1) := by decide +kernel
theorem dX9_isGranted_61 : decode cX9_isGranted 61 = .ok (.aload 7, 2) := by decide +kernel
theorem dX9_isGranted_63 : decode cX9_isGranted 63 = .ok (.aload_n 0, 1) := by decide +kernel
theorem dX9_isGranted_64 : decode cX9_isGranted 64 = .ok (.getfield 78, 3) := by decide +kernel
theorem dX9_isGranted_67 : decode cX9_isGranted 67 = .ok (.iload 9, 2) := by decide +kernel
theorem dX9_isGranted_69 : decode cX9_isGranted 69 = .ok (.iaload, 1) := by decide +kernel
theorem dX9_isGranted_70 : decode cX9_isGranted 70 = .ok (.invokevirtual 279, 3) := by decide +kernel
theorem dX9_isGranted_73 : decode cX9_isGranted 73 = .ok (.ifCond .eq 12, 3) := by decide +kernel
theorem dX9_isGranted_76 : decode cX9_isGranted 76 = .ok (.iload 8, 2) := by decide +kernel
theorem dX9_isGranted_78 : decode cX9_isGranted 78 = .ok (.iconst 1, 1) := by decide +kernel
theorem dX9_isGranted_79 : decode cX9_isGranted 79 = .ok (.iload 9, 2) := by decide +kernel
theorem dX9_isGranted_81 : decode cX9_isGranted 81 = .ok (.ishl, 1) := by decide +kernel
theorem dX9_isGranted_82 : decode cX9_isGranted 82 = .ok (.ior, 1) := by decide +kernel
theorem dX9_isGranted_83 : decode cX9_isGranted 83 = .ok (.istore 8, 2) := by decide +kernel
theorem dX9_isGranted_85 : decode cX9_isGranted 85 = .ok (.iinc 9 1, 3) := by decide +kernel
theorem dX9_isGranted_88 : decode cX9_isGranted 88 = .ok (.goto (-81), 3) := by decide +kernel
theorem dX9_isGranted_91 : decode cX9_isGranted 91 = .ok (.aload_n 0, 1) := by decide +kernel
theorem dX9_isGranted_92 : decode cX9_isGranted 92 = .ok (.aload_n 0, 1) := by decide +kernel
theorem dX9_isGranted_93 : decode cX9_isGranted 93 = .ok (.iload 8, 2) := by decide +kernel
theorem dX9_isGranted_95 : decode cX9_isGranted 95 = .ok (.invokevirtual 240, 3) := by decide +kernel
theorem dX9_isGranted_98 : decode cX9_isGranted 98 = .ok (.iload_n 1, 1) := by decide +kernel
theorem dX9_isGranted_99 : decode cX9_isGranted 99 = .ok (.iload_n 2, 1) := by decide +kernel
theorem dX9_isGranted_100 : decode cX9_isGranted 100 = .ok (.iload_n 3, 1) := by decide +kernel
theorem dX9_isGranted_101 : decode cX9_isGranted 101 = .ok (.invokevirtual 243, 3) := by decide +kernel
theorem dX9_isGranted_104 : decode cX9_isGranted 104 = .ok (.iconst (-1), 1) := by decide +kernel
theorem dX9_isGranted_105 : decode cX9_isGranted 105 = .ok (.if_icmp .eq 7, 3) := by decide +kernel
theorem dX9_isGranted_108 : decode cX9_isGranted 108 = .ok (.iconst 1, 1) := by decide +kernel
theorem dX9_isGranted_109 : decode cX9_isGranted 109 = .ok (.goto 4, 3) := by decide +kernel
theorem dX9_isGranted_112 : decode cX9_isGranted 112 = .ok (.iconst 0, 1) := by decide +kernel
theorem dX9_isGranted_113 : decode cX9_isGranted 113 = .ok (.ireturn, 1) := by decide +kernel
theorem dX9_isAllowing_0 : decode cX9_isAllowing 0 = .ok (.aload_n 0, 1) := by decide +kernel
theorem dX9_isAllowing_1 : decode cX9_isAllowing 1 = .ok (.aload_n 0, 1) := by decide +kernel
theorem dX9_isAllowing_2 : decode cX9_isAllowing 2 = .ok (.iload_n 1, 1) := by decide +kernel
theorem dX9_isAllowing_3 : decode cX9_isAllowing 3 = .ok (.iload_n 2, 1) := by decide +kernel
theorem dX9_isAllowing_4 : decode cX9_isAllowing 4 = .ok (.aload_n 3, 1) := by decide +kernel
theorem dX9_isAllowing_5 : decode cX9_isAllowing 5 = .ok (.invokevirtual 192, 3) := by decide +kernel
theorem dX9_isAllowing_8 : decode cX9_isAllowing 8 = .ok (.aload_n 3, 1) := by decide +kernel
theorem dX9_isAllowing_9 : decode cX9_isAllowing 9 = .ok (.iload 4, 2) := by decide +kernel
theorem dX9_isAllowing_11 : decode cX9_isAllowing 11 = .ok (.aload_n 0, 1) := by decide +kernel
theorem dX9_isAllowing_12 : decode cX9_isAllowing 12 = .ok (.getfield 171, 3) := by decide +kernel
theorem dX9_isAllowing_15 : decode cX9_isAllowing 15 = .ok (.invokevirtual 215, 3) := by decide +kernel
theorem dX9_isAllowing_18 : decode cX9_isAllowing 18 = .ok (.istore 5, 2) := by decide +kernel
theorem dX9_isAllowing_20 : decode cX9_isAllowing 20 = .ok (.iload 5, 2) := by decide +kernel
theorem dX9_isAllowing_22 : decode cX9_isAllowing 22 = .ok (.iconst (-1), 1) := by decide +kernel
theorem dX9_isAllowing_23 : decode cX9_isAllowing 23 = .ok (.if_icmp .eq 17, 3) := by decide +kernel
theorem dX9_isAllowing_26 : decode cX9_isAllowing 26 = .ok (.aload_n 0, 1) := by decide +kernel
theorem dX9_isAllowing_27 : decode cX9_isAllowing 27 = .ok (.getfield 41, 3) := by decide +kernel
theorem dX9_isAllowing_30 : decode cX9_isAllowing 30 = .ok (.iload 5, 2) := by decide +kernel
theorem dX9_isAllowing_32 : decode cX9_isAllowing 32 = .ok (.baload, 1) := by decide +kernel
theorem dX9_isAllowing_33 : decode cX9_isAllowing 33 = .ok (.ifCond .eq 7, 3) := by decide +kernel
theorem dX9_isAllowing_36 : decode cX9_isAllowing 36 = .ok (.iconst 1, 1) := by decide +kernel
theorem dX9_isAllowing_37 : decode cX9_isAllowing 37 = .ok (.goto 4, 3) := by decide +kernel
theorem dX9_isAllowing_40 : decode cX9_isAllowing 40 = .ok (.iconst 0, 1) := by decide +kernel
theorem dX9_isAllowing_41 : decode cX9_isAllowing 41 = .ok (.ireturn, 1) := by decide +kernel
theorem dX9_contradictionsNow_0 : decode cX9_contradictionsNow 0 = .ok (.bipush 30, 2) := by decide +kernel
theorem dX9_contradictionsNow_2 : decode cX9_contradictionsNow 2 = .ok (.newarray .int, 2) := by decide +kernel
theorem dX9_contradictionsNow_4 : decode cX9_contradictionsNow 4 = .ok (.astore_n 1, 1) := by decide +kernel
theorem dX9_contradictionsNow_5 : decode cX9_contradictionsNow 5 = .ok (.aload_n 0, 1) := by decide +kernel
theorem dX9_contradictionsNow_6 : decode cX9_contradictionsNow 6 = .ok (.invokevirtual 247, 3) := by decide +kernel
theorem dX9_contradictionsNow_9 : decode cX9_contradictionsNow 9 = .ok (.astore_n 2, 1) := by decide +kernel
theorem dX9_contradictionsNow_10 : decode cX9_contradictionsNow 10 = .ok (.iconst 0, 1) := by decide +kernel
theorem dX9_contradictionsNow_11 : decode cX9_contradictionsNow 11 = .ok (.istore_n 3, 1) := by decide +kernel
theorem dX9_contradictionsNow_12 : decode cX9_contradictionsNow 12 = .ok (.iload_n 3, 1) := by decide +kernel
theorem dX9_contradictionsNow_13 : decode cX9_contradictionsNow 13 = .ok (.aload_n 0, 1) := by decide +kernel
theorem dX9_contradictionsNow_14 : decode cX9_contradictionsNow 14 = .ok (.getfield 105, 3) := by decide +kernel
theorem dX9_contradictionsNow_17 : decode cX9_contradictionsNow 17 = .ok (.if_icmp .ge 93, 3) := by decide +kernel
theorem dX9_contradictionsNow_20 : decode cX9_contradictionsNow 20 = .ok (.iconst 0, 1) := by decide +kernel
theorem dX9_contradictionsNow_21 : decode cX9_contradictionsNow 21 = .ok (.istore 4, 2) := by decide +kernel
theorem dX9_contradictionsNow_23 : decode cX9_contradictionsNow 23 = .ok (.iload 4, 2) := by decide +kernel
theorem dX9_contradictionsNow_25 : decode cX9_contradictionsNow 25 = .ok (.iconst 5, 1) := by decide +kernel
theorem dX9_contradictionsNow_26 : decode cX9_contradictionsNow 26 = .ok (.if_icmp .ge 78, 3) := by decide +kernel
theorem dX9_contradictionsNow_29 : decode cX9_contradictionsNow 29 = .ok (.iconst 0, 1) := by decide +kernel
theorem dX9_contradictionsNow_30 : decode cX9_contradictionsNow 30 = .ok (.istore 5, 2) := by decide +kernel
theorem dX9_contradictionsNow_32 : decode cX9_contradictionsNow 32 = .ok (.iload 5, 2) := by decide +kernel
theorem dX9_contradictionsNow_34 : decode cX9_contradictionsNow 34 = .ok (.aload_n 0, 1) := by decide +kernel
theorem dX9_contradictionsNow_35 : decode cX9_contradictionsNow 35 = .ok (.getfield 25, 3) := by decide +kernel
theorem dX9_contradictionsNow_38 : decode cX9_contradictionsNow 38 = .ok (.if_icmp .ge 60, 3) := by decide +kernel
theorem dX9_contradictionsNow_41 : decode cX9_contradictionsNow 41 = .ok (.aload_n 0, 1) := by decide +kernel
theorem dX9_contradictionsNow_42 : decode cX9_contradictionsNow 42 = .ok (.iload_n 3, 1) := by decide +kernel
theorem dX9_contradictionsNow_43 : decode cX9_contradictionsNow 43 = .ok (.aload_n 2, 1) := by decide +kernel
theorem dX9_contradictionsNow_44 : decode cX9_contradictionsNow 44 = .ok (.iload_n 3, 1) := by decide +kernel
theorem dX9_contradictionsNow_45 : decode cX9_contradictionsNow 45 = .ok (.aaload, 1) := by decide +kernel
theorem dX9_contradictionsNow_46 : decode cX9_contradictionsNow 46 = .ok (.iload 4, 2) := by decide +kernel
theorem dX9_contradictionsNow_48 : decode cX9_contradictionsNow 48 = .ok (.iload 5, 2) := by decide +kernel
theorem dX9_contradictionsNow_50 : decode cX9_contradictionsNow 50 = .ok (.invokevirtual 199, 3) := by decide +kernel
theorem dX9_contradictionsNow_53 : decode cX9_contradictionsNow 53 = .ok (.istore 6, 2) := by decide +kernel
theorem dX9_contradictionsNow_55 : decode cX9_contradictionsNow 55 = .ok (.iconst 0, 1) := by decide +kernel
theorem dX9_contradictionsNow_56 : decode cX9_contradictionsNow 56 = .ok (.istore 7, 2) := by decide +kernel
theorem dX9_contradictionsNow_58 : decode cX9_contradictionsNow 58 = .ok (.iload 7, 2) := by decide +kernel
theorem dX9_contradictionsNow_60 : decode cX9_contradictionsNow 60 = .ok (.aload_n 0, 1) := by decide +kernel
theorem dX9_contradictionsNow_61 : decode cX9_contradictionsNow 61 = .ok (.getfield 165, 3) := by decide +kernel
theorem dX9_contradictionsNow_64 : decode cX9_contradictionsNow 64 = .ok (.if_icmp .ge 28, 3) := by decide +kernel
theorem dX9_contradictionsNow_67 : decode cX9_contradictionsNow 67 = .ok (.iload 6, 2) := by decide +kernel
theorem dX9_contradictionsNow_69 : decode cX9_contradictionsNow 69 = .ok (.iload 7, 2) := by decide +kernel
theorem dX9_contradictionsNow_71 : decode cX9_contradictionsNow 71 = .ok (.ishr, 1) := by decide +kernel
theorem dX9_contradictionsNow_72 : decode cX9_contradictionsNow 72 = .ok (.iconst 1, 1) := by decide +kernel
theorem dX9_contradictionsNow_73 : decode cX9_contradictionsNow 73 = .ok (.iand, 1) := by decide +kernel
theorem dX9_contradictionsNow_74 : decode cX9_contradictionsNow 74 = .ok (.ifCond .eq 12, 3) := by decide +kernel
theorem dX9_contradictionsNow_77 : decode cX9_contradictionsNow 77 = .ok (.aload_n 1, 1) := by decide +kernel
theorem dX9_contradictionsNow_78 : decode cX9_contradictionsNow 78 = .ok (.iload 7, 2) := by decide +kernel
theorem dX9_contradictionsNow_80 : decode cX9_contradictionsNow 80 = .ok (.dup2, 1) := by decide +kernel
theorem dX9_contradictionsNow_81 : decode cX9_contradictionsNow 81 = .ok (.iaload, 1) := by decide +kernel
theorem dX9_contradictionsNow_82 : decode cX9_contradictionsNow 82 = .ok (.iload 6, 2) := by decide +kernel
theorem dX9_contradictionsNow_84 : decode cX9_contradictionsNow 84 = .ok (.ior, 1) := by decide +kernel
theorem dX9_contradictionsNow_85 : decode cX9_contradictionsNow 85 = .ok (.iastore, 1) := by decide +kernel
theorem dX9_contradictionsNow_86 : decode cX9_contradictionsNow 86 = .ok (.iinc 7 1, 3) := by decide +kernel
theorem dX9_contradictionsNow_89 : decode cX9_contradictionsNow 89 = .ok (.goto (-31), 3) := by decide +kernel
theorem dX9_contradictionsNow_92 : decode cX9_contradictionsNow 92 = .ok (.iinc 5 1, 3) := by decide +kernel
theorem dX9_contradictionsNow_95 : decode cX9_contradictionsNow 95 = .ok (.goto (-63), 3) := by decide +kernel
theorem dX9_contradictionsNow_98 : decode cX9_contradictionsNow 98 = .ok (.iinc 4 1, 3) := by decide +kernel
theorem dX9_contradictionsNow_101 : decode cX9_contradictionsNow 101 = .ok (.goto (-78), 3) := by decide +kernel
theorem dX9_contradictionsNow_104 : decode cX9_contradictionsNow 104 = .ok (.iinc 3 1, 3) := by decide +kernel
theorem dX9_contradictionsNow_107 : decode cX9_contradictionsNow 107 = .ok (.goto (-95), 3) := by decide +kernel
theorem dX9_contradictionsNow_110 : decode cX9_contradictionsNow 110 = .ok (.iconst 0, 1) := by decide +kernel
theorem dX9_contradictionsNow_111 : decode cX9_contradictionsNow 111 = .ok (.istore_n 3, 1) := by decide +kernel
theorem dX9_contradictionsNow_112 : decode cX9_contradictionsNow 112 = .ok (.iconst 0, 1) := by decide +kernel
theorem dX9_contradictionsNow_113 : decode cX9_contradictionsNow 113 = .ok (.istore 4, 2) := by decide +kernel
theorem dX9_contradictionsNow_115 : decode cX9_contradictionsNow 115 = .ok (.iload 4, 2) := by decide +kernel
theorem dX9_contradictionsNow_117 : decode cX9_contradictionsNow 117 = .ok (.aload_n 0, 1) := by decide +kernel
theorem dX9_contradictionsNow_118 : decode cX9_contradictionsNow 118 = .ok (.getfield 165, 3) := by decide +kernel
theorem dX9_contradictionsNow_121 : decode cX9_contradictionsNow 121 = .ok (.if_icmp .ge 63, 3) := by decide +kernel
theorem dX9_contradictionsNow_124 : decode cX9_contradictionsNow 124 = .ok (.iconst 0, 1) := by decide +kernel
theorem dX9_contradictionsNow_125 : decode cX9_contradictionsNow 125 = .ok (.istore 5, 2) := by decide +kernel
theorem dX9_contradictionsNow_127 : decode cX9_contradictionsNow 127 = .ok (.iload 5, 2) := by decide +kernel
theorem dX9_contradictionsNow_129 : decode cX9_contradictionsNow 129 = .ok (.aload_n 0, 1) := by decide +kernel
theorem dX9_contradictionsNow_130 : decode cX9_contradictionsNow 130 = .ok (.getfield 165, 3) := by decide +kernel
theorem dX9_contradictionsNow_133 : decode cX9_contradictionsNow 133 = .ok (.if_icmp .ge 45, 3) := by decide +kernel
theorem dX9_contradictionsNow_136 : decode cX9_contradictionsNow 136 = .ok (.iload_n 3, 1) := by decide +kernel
theorem dX9_contradictionsNow_137 : decode cX9_contradictionsNow 137 = .ok (.aload_n 0, 1) := by decide +kernel
theorem dX9_contradictionsNow_138 : decode cX9_contradictionsNow 138 = .ok (.getfield 41, 3) := by decide +kernel
theorem dX9_contradictionsNow_141 : decode cX9_contradictionsNow 141 = .ok (.iload 4, 2) := by decide +kernel
theorem dX9_contradictionsNow_143 : decode cX9_contradictionsNow 143 = .ok (.baload, 1) := by decide +kernel
theorem dX9_contradictionsNow_144 : decode cX9_contradictionsNow 144 = .ok (.ifCond .eq 25, 3) := by decide +kernel
theorem dX9_contradictionsNow_147 : decode cX9_contradictionsNow 147 = .ok (.aload_n 0, 1) := by decide +kernel
theorem dX9_contradictionsNow_148 : decode cX9_contradictionsNow 148 = .ok (.getfield 41, 3) := by decide +kernel
theorem dX9_contradictionsNow_151 : decode cX9_contradictionsNow 151 = .ok (.iload 5, 2) := by decide +kernel
theorem dX9_contradictionsNow_153 : decode cX9_contradictionsNow 153 = .ok (.baload, 1) := by decide +kernel
theorem dX9_contradictionsNow_154 : decode cX9_contradictionsNow 154 = .ok (.ifCond .ne 15, 3) := by decide +kernel
theorem dX9_contradictionsNow_157 : decode cX9_contradictionsNow 157 = .ok (.aload_n 1, 1) := by decide +kernel
theorem dX9_contradictionsNow_158 : decode cX9_contradictionsNow 158 = .ok (.iload 4, 2) := by decide +kernel
theorem dX9_contradictionsNow_160 : decode cX9_contradictionsNow 160 = .ok (.iaload, 1) := by decide +kernel
theorem dX9_contradictionsNow_161 : decode cX9_contradictionsNow 161 = .ok (.iload 5, 2) := by decide +kernel
theorem dX9_contradictionsNow_163 : decode cX9_contradictionsNow 163 = .ok (.ishr, 1) := by decide +kernel
theorem dX9_contradictionsNow_164 : decode cX9_contradictionsNow 164 = .ok (.iconst 1, 1) := by decide +kernel
theorem dX9_contradictionsNow_165 : decode cX9_contradictionsNow 165 = .ok (.iand, 1) := by decide +kernel
theorem dX9_contradictionsNow_166 : decode cX9_contradictionsNow 166 = .ok (.goto 4, 3) := by decide +kernel
theorem dX9_contradictionsNow_169 : decode cX9_contradictionsNow 169 = .ok (.iconst 0, 1) := by decide +kernel
theorem dX9_contradictionsNow_170 : decode cX9_contradictionsNow 170 = .ok (.iadd, 1) := by decide +kernel
theorem dX9_contradictionsNow_171 : decode cX9_contradictionsNow 171 = .ok (.istore_n 3, 1) := by decide +kernel
theorem dX9_contradictionsNow_172 : decode cX9_contradictionsNow 172 = .ok (.iinc 5 1, 3) := by decide +kernel
theorem dX9_contradictionsNow_175 : decode cX9_contradictionsNow 175 = .ok (.goto (-48), 3) := by decide +kernel
theorem dX9_contradictionsNow_178 : decode cX9_contradictionsNow 178 = .ok (.iinc 4 1, 3) := by decide +kernel
theorem dX9_contradictionsNow_181 : decode cX9_contradictionsNow 181 = .ok (.goto (-66), 3) := by decide +kernel
theorem dX9_contradictionsNow_184 : decode cX9_contradictionsNow 184 = .ok (.iload_n 3, 1) := by decide +kernel
theorem dX9_contradictionsNow_185 : decode cX9_contradictionsNow 185 = .ok (.ireturn, 1) := by decide +kernel
theorem dX9_contradictions_0 : decode cX9_contradictions 0 = .ok (.aload_n 0, 1) := by decide +kernel
theorem dX9_contradictions_1 : decode cX9_contradictions 1 = .ok (.aload_n 0, 1) := by decide +kernel
theorem dX9_contradictions_2 : decode cX9_contradictions 2 = .ok (.invokevirtual 283, 3) := by decide +kernel
theorem dX9_contradictions_5 : decode cX9_contradictions 5 = .ok (.invokevirtual 152, 3) := by decide +kernel
theorem dX9_contradictions_8 : decode cX9_contradictions 8 = .ok (.ireturn, 1) := by decide +kernel
theorem dX9_isIdle_0 : decode cX9_isIdle 0 = .ok (.aload_n 0, 1) := by decide +kernel
theorem dX9_isIdle_1 : decode cX9_isIdle 1 = .ok (.iconst 0, 1) := by decide +kernel
theorem dX9_isIdle_2 : decode cX9_isIdle 2 = .ok (.putfield 102, 3) := by decide +kernel
theorem dX9_isIdle_5 : decode cX9_isIdle 5 = .ok (.aload_n 0, 1) := by decide +kernel
theorem dX9_isIdle_6 : decode cX9_isIdle 6 = .ok (.iload_n 1, 1) := by decide +kernel
theorem dX9_isIdle_7 : decode cX9_isIdle 7 = .ok (.invokevirtual 168, 3) := by decide +kernel
theorem dX9_isIdle_10 : decode cX9_isIdle 10 = .ok (.ifCond .ne 9, 3) := by decide +kernel
theorem dX9_isIdle_13 : decode cX9_isIdle 13 = .ok (.aload_n 0, 1) := by decide +kernel
theorem dX9_isIdle_14 : decode cX9_isIdle 14 = .ok (.iconst 1, 1) := by decide +kernel
theorem dX9_isIdle_15 : decode cX9_isIdle 15 = .ok (.invokevirtual 145, 3) := by decide +kernel
theorem dX9_isIdle_18 : decode cX9_isIdle 18 = .ok (.ireturn, 1) := by decide +kernel
theorem dX9_isIdle_19 : decode cX9_isIdle 19 = .ok (.aload_n 0, 1) := by decide +kernel
theorem dX9_isIdle_20 : decode cX9_isIdle 20 = .ok (.invokevirtual 247, 3) := by decide +kernel
theorem dX9_isIdle_23 : decode cX9_isIdle 23 = .ok (.astore_n 2, 1) := by decide +kernel
theorem dX9_isIdle_24 : decode cX9_isIdle 24 = .ok (.aload_n 0, 1) := by decide +kernel
theorem dX9_isIdle_25 : decode cX9_isIdle 25 = .ok (.aload_n 2, 1) := by decide +kernel
theorem dX9_isIdle_26 : decode cX9_isIdle 26 = .ok (.aload_n 0, 1) := by decide +kernel
theorem dX9_isIdle_27 : decode cX9_isIdle 27 = .ok (.getfield 171, 3) := by decide +kernel
theorem dX9_isIdle_30 : decode cX9_isIdle 30 = .ok (.invokevirtual 286, 3) := by decide +kernel
theorem dX9_isIdle_33 : decode cX9_isIdle 33 = .ok (.astore_n 3, 1) := by decide +kernel
theorem dX9_isIdle_34 : decode cX9_isIdle 34 = .ok (.aload_n 0, 1) := by decide +kernel
theorem dX9_isIdle_35 : decode cX9_isIdle 35 = .ok (.iload_n 1, 1) := by decide +kernel
theorem dX9_isIdle_36 : decode cX9_isIdle 36 = .ok (.putfield 93, 3) := by decide +kernel
theorem dX9_isIdle_39 : decode cX9_isIdle 39 = .ok (.aload_n 3, 1) := by decide +kernel
theorem dX9_isIdle_40 : decode cX9_isIdle 40 = .ok (.aload_n 0, 1) := by decide +kernel
theorem dX9_isIdle_41 : decode cX9_isIdle 41 = .ok (.aload_n 2, 1) := by decide +kernel
theorem dX9_isIdle_42 : decode cX9_isIdle 42 = .ok (.aload_n 0, 1) := by decide +kernel
theorem dX9_isIdle_43 : decode cX9_isIdle 43 = .ok (.getfield 171, 3) := by decide +kernel
theorem dX9_isIdle_46 : decode cX9_isIdle 46 = .ok (.invokevirtual 286, 3) := by decide +kernel
theorem dX9_isIdle_49 : decode cX9_isIdle 49 = .ok (.invokestatic 290, 3) := by decide +kernel
theorem dX9_isIdle_52 : decode cX9_isIdle 52 = .ok (.istore 4, 2) := by decide +kernel
theorem dX9_isIdle_54 : decode cX9_isIdle 54 = .ok (.aload_n 0, 1) := by decide +kernel
theorem dX9_isIdle_55 : decode cX9_isIdle 55 = .ok (.iconst (-1), 1) := by decide +kernel
theorem dX9_isIdle_56 : decode cX9_isIdle 56 = .ok (.putfield 93, 3) := by decide +kernel
theorem dX9_isIdle_59 : decode cX9_isIdle 59 = .ok (.iload 4, 2) := by decide +kernel
theorem dX9_isIdle_61 : decode cX9_isIdle 61 = .ok (.ifCond .ne 7, 3) := by decide +kernel
theorem dX9_isIdle_64 : decode cX9_isIdle 64 = .ok (.iconst 1, 1) := by decide +kernel
theorem dX9_isIdle_65 : decode cX9_isIdle 65 = .ok (.goto 4, 3) := by decide +kernel
theorem dX9_isIdle_68 : decode cX9_isIdle 68 = .ok (.iconst 0, 1) := by decide +kernel
theorem dX9_isIdle_69 : decode cX9_isIdle 69 = .ok (.ireturn, 1) := by decide +kernel
theorem dX9_wouldDiffer_0 : decode cX9_wouldDiffer 0 = .ok (.aload_n 0, 1) := by decide +kernel
theorem dX9_wouldDiffer_1 : decode cX9_wouldDiffer 1 = .ok (.iconst 0, 1) := by decide +kernel
theorem dX9_wouldDiffer_2 : decode cX9_wouldDiffer 2 = .ok (.putfield 102, 3) := by decide +kernel
theorem dX9_wouldDiffer_5 : decode cX9_wouldDiffer 5 = .ok (.iload_n 1, 1) := by decide +kernel
theorem dX9_wouldDiffer_6 : decode cX9_wouldDiffer 6 = .ok (.iconst 0, 1) := by decide +kernel
theorem dX9_wouldDiffer_7 : decode cX9_wouldDiffer 7 = .ok (.iconst 3, 1) := by decide +kernel
theorem dX9_wouldDiffer_8 : decode cX9_wouldDiffer 8 = .ok (.invokestatic 108, 3) := by decide +kernel
theorem dX9_wouldDiffer_11 : decode cX9_wouldDiffer 11 = .ok (.ifCond .ne 9, 3) := by decide +kernel
theorem dX9_wouldDiffer_14 : decode cX9_wouldDiffer 14 = .ok (.aload_n 0, 1) := by decide +kernel
theorem dX9_wouldDiffer_15 : decode cX9_wouldDiffer 15 = .ok (.iconst 1, 1) := by decide +kernel
theorem dX9_wouldDiffer_16 : decode cX9_wouldDiffer 16 = .ok (.invokevirtual 139, 3) := by decide +kernel
theorem dX9_wouldDiffer_19 : decode cX9_wouldDiffer 19 = .ok (.ireturn, 1) := by decide +kernel
theorem dX9_wouldDiffer_20 : decode cX9_wouldDiffer 20 = .ok (.aload_n 0, 1) := by decide +kernel
theorem dX9_wouldDiffer_21 : decode cX9_wouldDiffer 21 = .ok (.invokevirtual 247, 3) := by decide +kernel
theorem dX9_wouldDiffer_24 : decode cX9_wouldDiffer 24 = .ok (.astore_n 2, 1) := by decide +kernel
theorem dX9_wouldDiffer_25 : decode cX9_wouldDiffer 25 = .ok (.aload_n 0, 1) := by decide +kernel
theorem dX9_wouldDiffer_26 : decode cX9_wouldDiffer 26 = .ok (.aload_n 2, 1) := by decide +kernel
theorem dX9_wouldDiffer_27 : decode cX9_wouldDiffer 27 = .ok (.aload_n 0, 1) := by decide +kernel
theorem dX9_wouldDiffer_28 : decode cX9_wouldDiffer 28 = .ok (.getfield 171, 3) := by decide +kernel
theorem dX9_wouldDiffer_31 : decode cX9_wouldDiffer 31 = .ok (.invokevirtual 286, 3) := by decide +kernel
theorem dX9_wouldDiffer_34 : decode cX9_wouldDiffer 34 = .ok (.aload_n 0, 1) := by decide +kernel
theorem dX9_wouldDiffer_35 : decode cX9_wouldDiffer 35 = .ok (.aload_n 2, 1) := by decide +kernel
theorem dX9_wouldDiffer_36 : decode cX9_wouldDiffer 36 = .ok (.iload_n 1, 1) := by decide +kernel
theorem dX9_wouldDiffer_37 : decode cX9_wouldDiffer 37 = .ok (.invokevirtual 286, 3) := by decide +kernel
theorem dX9_wouldDiffer_40 : decode cX9_wouldDiffer 40 = .ok (.invokestatic 290, 3) := by decide +kernel
theorem dX9_wouldDiffer_43 : decode cX9_wouldDiffer 43 = .ok (.ireturn, 1) := by decide +kernel
theorem dX9_wouldGain_0 : decode cX9_wouldGain 0 = .ok (.aload_n 0, 1) := by decide +kernel
theorem dX9_wouldGain_1 : decode cX9_wouldGain 1 = .ok (.iconst 0, 1) := by decide +kernel
theorem dX9_wouldGain_2 : decode cX9_wouldGain 2 = .ok (.putfield 102, 3) := by decide +kernel
theorem dX9_wouldGain_5 : decode cX9_wouldGain 5 = .ok (.aload_n 0, 1) := by decide +kernel
theorem dX9_wouldGain_6 : decode cX9_wouldGain 6 = .ok (.iload_n 1, 1) := by decide +kernel
theorem dX9_wouldGain_7 : decode cX9_wouldGain 7 = .ok (.invokevirtual 115, 3) := by decide +kernel
theorem dX9_wouldGain_10 : decode cX9_wouldGain 10 = .ok (.ifCond .eq 11, 3) := by decide +kernel
theorem dX9_wouldGain_13 : decode cX9_wouldGain 13 = .ok (.aload_n 0, 1) := by decide +kernel
theorem dX9_wouldGain_14 : decode cX9_wouldGain 14 = .ok (.iload_n 2, 1) := by decide +kernel
theorem dX9_wouldGain_15 : decode cX9_wouldGain 15 = .ok (.invokevirtual 142, 3) := by decide +kernel
theorem dX9_wouldGain_18 : decode cX9_wouldGain 18 = .ok (.ifCond .ne 9, 3) := by decide +kernel
theorem dX9_wouldGain_21 : decode cX9_wouldGain 21 = .ok (.aload_n 0, 1) := by decide +kernel
theorem dX9_wouldGain_22 : decode cX9_wouldGain 22 = .ok (.iconst 1, 1) := by decide +kernel
theorem dX9_wouldGain_23 : decode cX9_wouldGain 23 = .ok (.invokevirtual 139, 3) := by decide +kernel
theorem dX9_wouldGain_26 : decode cX9_wouldGain 26 = .ok (.ireturn, 1) := by decide +kernel
theorem dX9_wouldGain_27 : decode cX9_wouldGain 27 = .ok (.aload_n 0, 1) := by decide +kernel
theorem dX9_wouldGain_28 : decode cX9_wouldGain 28 = .ok (.invokevirtual 247, 3) := by decide +kernel
theorem dX9_wouldGain_31 : decode cX9_wouldGain 31 = .ok (.astore_n 3, 1) := by decide +kernel
theorem dX9_wouldGain_32 : decode cX9_wouldGain 32 = .ok (.aload_n 0, 1) := by decide +kernel
theorem dX9_wouldGain_33 : decode cX9_wouldGain 33 = .ok (.aload_n 3, 1) := by decide +kernel
theorem dX9_wouldGain_34 : decode cX9_wouldGain 34 = .ok (.aload_n 0, 1) := by decide +kernel
theorem dX9_wouldGain_35 : decode cX9_wouldGain 35 = .ok (.getfield 171, 3) := by decide +kernel
theorem dX9_wouldGain_38 : decode cX9_wouldGain 38 = .ok (.invokevirtual 286, 3) := by decide +kernel
theorem dX9_wouldGain_41 : decode cX9_wouldGain 41 = .ok (.astore 4, 2) := by decide +kernel
theorem dX9_wouldGain_43 : decode cX9_wouldGain 43 = .ok (.aload_n 3, 1) := by decide +kernel
theorem dX9_wouldGain_44 : decode cX9_wouldGain 44 = .ok (.iload_n 1, 1) := by decide +kernel
theorem dX9_wouldGain_45 : decode cX9_wouldGain 45 = .ok (.aload_n 0, 1) := by decide +kernel
theorem dX9_wouldGain_46 : decode cX9_wouldGain 46 = .ok (.aload_n 0, 1) := by decide +kernel
theorem dX9_wouldGain_47 : decode cX9_wouldGain 47 = .ok (.getfield 9, 3) := by decide +kernel
theorem dX9_wouldGain_50 : decode cX9_wouldGain 50 = .ok (.iload_n 1, 1) := by decide +kernel
theorem dX9_wouldGain_51 : decode cX9_wouldGain 51 = .ok (.iaload, 1) := by decide +kernel
theorem dX9_wouldGain_52 : decode cX9_wouldGain 52 = .ok (.iconst 1, 1) := by decide +kernel
theorem dX9_wouldGain_53 : decode cX9_wouldGain 53 = .ok (.iload_n 2, 1) := by decide +kernel
theorem dX9_wouldGain_54 : decode cX9_wouldGain 54 = .ok (.ishl, 1) := by decide +kernel
theorem dX9_wouldGain_55 : decode cX9_wouldGain 55 = .ok (.ior, 1) := by decide +kernel
theorem dX9_wouldGain_56 : decode cX9_wouldGain 56 = .ok (.invokevirtual 155, 3) := by decide +kernel
theorem dX9_wouldGain_59 : decode cX9_wouldGain 59 = .ok (.aastore, 1) := by decide +kernel
theorem dX9_wouldGain_60 : decode cX9_wouldGain 60 = .ok (.aload_n 0, 1) := by decide +kernel
theorem dX9_wouldGain_61 : decode cX9_wouldGain 61 = .ok (.aload_n 3, 1) := by decide +kernel
theorem dX9_wouldGain_62 : decode cX9_wouldGain 62 = .ok (.aload_n 0, 1) := by decide +kernel
theorem dX9_wouldGain_63 : decode cX9_wouldGain 63 = .ok (.getfield 171, 3) := by decide +kernel
theorem dX9_wouldGain_66 : decode cX9_wouldGain 66 = .ok (.invokevirtual 286, 3) := by decide +kernel
theorem dX9_wouldGain_69 : decode cX9_wouldGain 69 = .ok (.astore 5, 2) := by decide +kernel
theorem dX9_wouldGain_71 : decode cX9_wouldGain 71 = .ok (.iconst 0, 1) := by decide +kernel
theorem dX9_wouldGain_72 : decode cX9_wouldGain 72 = .ok (.istore 6, 2) := by decide +kernel
theorem dX9_wouldGain_74 : decode cX9_wouldGain 74 = .ok (.iload_n 1, 1) := by decide +kernel
theorem dX9_wouldGain_75 : decode cX9_wouldGain 75 = .ok (.iconst 5, 1) := by decide +kernel
theorem dX9_wouldGain_76 : decode cX9_wouldGain 76 = .ok (.imul, 1) := by decide +kernel
theorem dX9_wouldGain_77 : decode cX9_wouldGain 77 = .ok (.aload_n 0, 1) := by decide +kernel
theorem dX9_wouldGain_78 : decode cX9_wouldGain 78 = .ok (.getfield 25, 3) := by decide +kernel
theorem dX9_wouldGain_81 : decode cX9_wouldGain 81 = .ok (.imul, 1) := by decide +kernel
theorem dX9_wouldGain_82 : decode cX9_wouldGain 82 = .ok (.istore 7, 2) := by decide +kernel
theorem dX9_wouldGain_84 : decode cX9_wouldGain 84 = .ok (.iload 7, 2) := by decide +kernel
theorem dX9_wouldGain_86 : decode cX9_wouldGain 86 = .ok (.iload_n 1, 1) := by decide +kernel
theorem dX9_wouldGain_87 : decode cX9_wouldGain 87 = .ok (.iconst 1, 1) := by decide +kernel
theorem dX9_wouldGain_88 : decode cX9_wouldGain 88 = .ok (.iadd, 1) := by decide +kernel
theorem dX9_wouldGain_89 : decode cX9_wouldGain 89 = .ok (.iconst 5, 1) := by decide +kernel
theorem dX9_wouldGain_90 : decode cX9_wouldGain 90 = .ok (.imul, 1) := by decide +kernel
theorem dX9_wouldGain_91 : decode cX9_wouldGain 91 = .ok (.aload_n 0, 1) := by decide +kernel
theorem dX9_wouldGain_92 : decode cX9_wouldGain 92 = .ok (.getfield 25, 3) := by decide +kernel
theorem dX9_wouldGain_95 : decode cX9_wouldGain 95 = .ok (.imul, 1) := by decide +kernel
theorem dX9_wouldGain_96 : decode cX9_wouldGain 96 = .ok (.if_icmp .ge 41, 3) := by decide +kernel
theorem dX9_wouldGain_99 : decode cX9_wouldGain 99 = .ok (.iload 6, 2) := by decide +kernel
theorem dX9_wouldGain_101 : decode cX9_wouldGain 101 = .ok (.aload 5, 2) := by decide +kernel
theorem dX9_wouldGain_103 : decode cX9_wouldGain 103 = .ok (.iload 7, 2) := by decide +kernel
theorem dX9_wouldGain_105 : decode cX9_wouldGain 105 = .ok (.iaload, 1) := by decide +kernel
theorem dX9_wouldGain_106 : decode cX9_wouldGain 106 = .ok (.invokestatic 269, 3) := by decide +kernel
theorem dX9_wouldGain_109 : decode cX9_wouldGain 109 = .ok (.ifCond .eq 18, 3) := by decide +kernel
theorem dX9_wouldGain_112 : decode cX9_wouldGain 112 = .ok (.aload 4, 2) := by decide +kernel
theorem dX9_wouldGain_114 : decode cX9_wouldGain 114 = .ok (.iload 7, 2) := by decide +kernel
theorem dX9_wouldGain_116 : decode cX9_wouldGain 116 = .ok (.iaload, 1) := by decide +kernel
theorem dX9_wouldGain_117 : decode cX9_wouldGain 117 = .ok (.invokestatic 269, 3) := by decide +kernel
theorem dX9_wouldGain_120 : decode cX9_wouldGain 120 = .ok (.ifCond .ne 7, 3) := by decide +kernel
theorem dX9_wouldGain_123 : decode cX9_wouldGain 123 = .ok (.iconst 1, 1) := by decide +kernel
theorem dX9_wouldGain_124 : decode cX9_wouldGain 124 = .ok (.goto 4, 3) := by decide +kernel
theorem dX9_wouldGain_127 : decode cX9_wouldGain 127 = .ok (.iconst 0, 1) := by decide +kernel
theorem dX9_wouldGain_128 : decode cX9_wouldGain 128 = .ok (.iadd, 1) := by decide +kernel
theorem dX9_wouldGain_129 : decode cX9_wouldGain 129 = .ok (.istore 6, 2) := by decide +kernel
theorem dX9_wouldGain_131 : decode cX9_wouldGain 131 = .ok (.iinc 7 1, 3) := by decide +kernel
theorem dX9_wouldGain_134 : decode cX9_wouldGain 134 = .ok (.goto (-50), 3) := by decide +kernel
theorem dX9_wouldGain_137 : decode cX9_wouldGain 137 = .ok (.iload 6, 2) := by decide +kernel
theorem dX9_wouldGain_139 : decode cX9_wouldGain 139 = .ok (.ireturn, 1) := by decide +kernel
theorem dX9_openness_0 : decode cX9_openness 0 = .ok (.aload_n 0, 1) := by decide +kernel
theorem dX9_openness_1 : decode cX9_openness 1 = .ok (.iconst 0, 1) := by decide +kernel
theorem dX9_openness_2 : decode cX9_openness 2 = .ok (.putfield 102, 3) := by decide +kernel
theorem dX9_openness_5 : decode cX9_openness 5 = .ok (.aload_n 0, 1) := by decide +kernel
theorem dX9_openness_6 : decode cX9_openness 6 = .ok (.aload_n 0, 1) := by decide +kernel
theorem dX9_openness_7 : decode cX9_openness 7 = .ok (.invokevirtual 247, 3) := by decide +kernel
theorem dX9_openness_10 : decode cX9_openness 10 = .ok (.aload_n 0, 1) := by decide +kernel
theorem dX9_openness_11 : decode cX9_openness 11 = .ok (.getfield 171, 3) := by decide +kernel
theorem dX9_openness_14 : decode cX9_openness 14 = .ok (.invokevirtual 286, 3) := by decide +kernel
theorem dX9_openness_17 : decode cX9_openness 17 = .ok (.astore_n 1, 1) := by decide +kernel
theorem dX9_openness_18 : decode cX9_openness 18 = .ok (.iconst 0, 1) := by decide +kernel
theorem dX9_openness_19 : decode cX9_openness 19 = .ok (.istore_n 2, 1) := by decide +kernel
theorem dX9_openness_20 : decode cX9_openness 20 = .ok (.aload_n 1, 1) := by decide +kernel
theorem dX9_openness_21 : decode cX9_openness 21 = .ok (.astore_n 3, 1) := by decide +kernel
theorem dX9_openness_22 : decode cX9_openness 22 = .ok (.aload_n 3, 1) := by decide +kernel
theorem dX9_openness_23 : decode cX9_openness 23 = .ok (.arraylength, 1) := by decide +kernel
theorem dX9_openness_24 : decode cX9_openness 24 = .ok (.istore 4, 2) := by decide +kernel
theorem dX9_openness_26 : decode cX9_openness 26 = .ok (.iconst 0, 1) := by decide +kernel
theorem dX9_openness_27 : decode cX9_openness 27 = .ok (.istore 5, 2) := by decide +kernel
theorem dX9_openness_29 : decode cX9_openness 29 = .ok (.iload 5, 2) := by decide +kernel
theorem dX9_openness_31 : decode cX9_openness 31 = .ok (.iload 4, 2) := by decide +kernel
theorem dX9_openness_33 : decode cX9_openness 33 = .ok (.if_icmp .ge 31, 3) := by decide +kernel
theorem dX9_openness_36 : decode cX9_openness 36 = .ok (.aload_n 3, 1) := by decide +kernel
theorem dX9_openness_37 : decode cX9_openness 37 = .ok (.iload 5, 2) := by decide +kernel
theorem dX9_openness_39 : decode cX9_openness 39 = .ok (.iaload, 1) := by decide +kernel
theorem dX9_openness_40 : decode cX9_openness 40 = .ok (.istore 6, 2) := by decide +kernel
theorem dX9_openness_42 : decode cX9_openness 42 = .ok (.iload_n 2, 1) := by decide +kernel
theorem dX9_openness_43 : decode cX9_openness 43 = .ok (.iload 6, 2) := by decide +kernel
theorem dX9_openness_45 : decode cX9_openness 45 = .ok (.invokestatic 269, 3) := by decide +kernel
theorem dX9_openness_48 : decode cX9_openness 48 = .ok (.ifCond .eq 7, 3) := by decide +kernel
theorem dX9_openness_51 : decode cX9_openness 51 = .ok (.iconst 1, 1) := by decide +kernel
theorem dX9_openness_52 : decode cX9_openness 52 = .ok (.goto 4, 3) := by decide +kernel
theorem dX9_openness_55 : decode cX9_openness 55 = .ok (.iconst 0, 1) := by decide +kernel
theorem dX9_openness_56 : decode cX9_openness 56 = .ok (.iadd, 1) := by decide +kernel
theorem dX9_openness_57 : decode cX9_openness 57 = .ok (.istore_n 2, 1) := by decide +kernel
theorem dX9_openness_58 : decode cX9_openness 58 = .ok (.iinc 5 1, 3) := by decide +kernel
theorem dX9_openness_61 : decode cX9_openness 61 = .ok (.goto (-32), 3) := by decide +kernel
theorem dX9_openness_64 : decode cX9_openness 64 = .ok (.aload_n 1, 1) := by decide +kernel
theorem dX9_openness_65 : decode cX9_openness 65 = .ok (.arraylength, 1) := by decide +kernel
theorem dX9_openness_66 : decode cX9_openness 66 = .ok (.ifCond .ne 7, 3) := by decide +kernel
theorem dX9_openness_69 : decode cX9_openness 69 = .ok (.dconst 0, 1) := by decide +kernel
theorem dX9_openness_70 : decode cX9_openness 70 = .ok (.goto 9, 3) := by decide +kernel
theorem dX9_openness_73 : decode cX9_openness 73 = .ok (.iload_n 2, 1) := by decide +kernel
theorem dX9_openness_74 : decode cX9_openness 74 = .ok (.i2d, 1) := by decide +kernel
theorem dX9_openness_75 : decode cX9_openness 75 = .ok (.aload_n 1, 1) := by decide +kernel
theorem dX9_openness_76 : decode cX9_openness 76 = .ok (.arraylength, 1) := by decide +kernel
theorem dX9_openness_77 : decode cX9_openness 77 = .ok (.i2d, 1) := by decide +kernel
theorem dX9_openness_78 : decode cX9_openness 78 = .ok (.ddiv, 1) := by decide +kernel
theorem dX9_openness_79 : decode cX9_openness 79 = .ok (.dreturn, 1) := by decide +kernel
theorem dX9_digest_0 : decode cX9_digest 0 = .ok (.aload_n 0, 1) := by decide +kernel
theorem dX9_digest_1 : decode cX9_digest 1 = .ok (.iconst 0, 1) := by decide +kernel
theorem dX9_digest_2 : decode cX9_digest 2 = .ok (.putfield 102, 3) := by decide +kernel
theorem dX9_digest_5 : decode cX9_digest 5 = .ok (.ldc2_w 294, 3) := by decide +kernel
theorem dX9_digest_8 : decode cX9_digest 8 = .ok (.aload_n 0, 1) := by decide +kernel
theorem dX9_digest_9 : decode cX9_digest 9 = .ok (.getfield 105, 3) := by decide +kernel
theorem dX9_digest_12 : decode cX9_digest 12 = .ok (.i2l, 1) := by decide +kernel
theorem dX9_digest_13 : decode cX9_digest 13 = .ok (.ladd, 1) := by decide +kernel
theorem dX9_digest_14 : decode cX9_digest 14 = .ok (.ldc2_w 296, 3) := by decide +kernel
theorem dX9_digest_17 : decode cX9_digest 17 = .ok (.lmul, 1) := by decide +kernel
theorem dX9_digest_18 : decode cX9_digest 18 = .ok (.aload_n 0, 1) := by decide +kernel
theorem dX9_digest_19 : decode cX9_digest 19 = .ok (.getfield 112, 3) := by decide +kernel
theorem dX9_digest_22 : decode cX9_digest 22 = .ok (.i2l, 1) := by decide +kernel
theorem dX9_digest_23 : decode cX9_digest 23 = .ok (.ladd, 1) := by decide +kernel
theorem dX9_digest_24 : decode cX9_digest 24 = .ok (.ldc2_w 296, 3) := by decide +kernel
theorem dX9_digest_27 : decode cX9_digest 27 = .ok (.lmul, 1) := by decide +kernel
theorem dX9_digest_28 : decode cX9_digest 28 = .ok (.aload_n 0, 1) := by decide +kernel
theorem dX9_digest_29 : decode cX9_digest 29 = .ok (.getfield 25, 3) := by decide +kernel
theorem dX9_digest_32 : decode cX9_digest 32 = .ok (.i2l, 1) := by decide +kernel
theorem dX9_digest_33 : decode cX9_digest 33 = .ok (.ladd, 1) := by decide +kernel
theorem dX9_digest_34 : decode cX9_digest 34 = .ok (.ldc2_w 296, 3) := by decide +kernel
theorem dX9_digest_37 : decode cX9_digest 37 = .ok (.lmul, 1) := by decide +kernel
theorem dX9_digest_38 : decode cX9_digest 38 = .ok (.aload_n 0, 1) := by decide +kernel
theorem dX9_digest_39 : decode cX9_digest 39 = .ok (.getfield 165, 3) := by decide +kernel
theorem dX9_digest_42 : decode cX9_digest 42 = .ok (.i2l, 1) := by decide +kernel
theorem dX9_digest_43 : decode cX9_digest 43 = .ok (.ladd, 1) := by decide +kernel
theorem dX9_digest_44 : decode cX9_digest 44 = .ok (.ldc2_w 296, 3) := by decide +kernel
theorem dX9_digest_47 : decode cX9_digest 47 = .ok (.lmul, 1) := by decide +kernel
theorem dX9_digest_48 : decode cX9_digest 48 = .ok (.aload_n 0, 1) := by decide +kernel
theorem dX9_digest_49 : decode cX9_digest 49 = .ok (.getfield 233, 3) := by decide +kernel
theorem dX9_digest_52 : decode cX9_digest 52 = .ok (.i2l, 1) := by decide +kernel
theorem dX9_digest_53 : decode cX9_digest 53 = .ok (.ladd, 1) := by decide +kernel
theorem dX9_digest_54 : decode cX9_digest 54 = .ok (.lstore_n 1, 1) := by decide +kernel
theorem dX9_digest_55 : decode cX9_digest 55 = .ok (.lload_n 1, 1) := by decide +kernel
theorem dX9_digest_56 : decode cX9_digest 56 = .ok (.ldc2_w 296, 3) := by decide +kernel
theorem dX9_digest_59 : decode cX9_digest 59 = .ok (.lmul, 1) := by decide +kernel
theorem dX9_digest_60 : decode cX9_digest 60 = .ok (.aload_n 0, 1) := by decide +kernel
theorem dX9_digest_61 : decode cX9_digest 61 = .ok (.getfield 174, 3) := by decide +kernel
theorem dX9_digest_64 : decode cX9_digest 64 = .ok (.i2l, 1) := by decide +kernel
theorem dX9_digest_65 : decode cX9_digest 65 = .ok (.ladd, 1) := by decide +kernel
theorem dX9_digest_66 : decode cX9_digest 66 = .ok (.lstore_n 1, 1) := by decide +kernel
theorem dX9_digest_67 : decode cX9_digest 67 = .ok (.aload_n 0, 1) := by decide +kernel
theorem dX9_digest_68 : decode cX9_digest 68 = .ok (.invokevirtual 247, 3) := by decide +kernel
theorem dX9_digest_71 : decode cX9_digest 71 = .ok (.astore_n 3, 1) := by decide +kernel
theorem dX9_digest_72 : decode cX9_digest 72 = .ok (.aload_n 0, 1) := by decide +kernel
theorem dX9_digest_73 : decode cX9_digest 73 = .ok (.aload_n 3, 1) := by decide +kernel
theorem dX9_digest_74 : decode cX9_digest 74 = .ok (.aload_n 0, 1) := by decide +kernel
theorem dX9_digest_75 : decode cX9_digest 75 = .ok (.getfield 171, 3) := by decide +kernel
theorem dX9_digest_78 : decode cX9_digest 78 = .ok (.invokevirtual 251, 3) := by decide +kernel
theorem dX9_digest_81 : decode cX9_digest 81 = .ok (.istore 4, 2) := by decide +kernel
theorem dX9_digest_83 : decode cX9_digest 83 = .ok (.iconst 0, 1) := by decide +kernel
theorem dX9_digest_84 : decode cX9_digest 84 = .ok (.istore 5, 2) := by decide +kernel
theorem dX9_digest_86 : decode cX9_digest 86 = .ok (.iload 5, 2) := by decide +kernel
theorem dX9_digest_88 : decode cX9_digest 88 = .ok (.aload_n 0, 1) := by decide +kernel
theorem dX9_digest_89 : decode cX9_digest 89 = .ok (.getfield 105, 3) := by decide +kernel
theorem dX9_digest_92 : decode cX9_digest 92 = .ok (.if_icmp .ge 45, 3) := by decide +kernel
theorem dX9_digest_95 : decode cX9_digest 95 = .ok (.iconst 0, 1) := by decide +kernel
theorem dX9_digest_96 : decode cX9_digest 96 = .ok (.istore 6, 2) := by decide +kernel
theorem dX9_digest_98 : decode cX9_digest 98 = .ok (.iload 6, 2) := by decide +kernel
theorem dX9_digest_100 : decode cX9_digest 100 = .ok (.aload_n 0, 1) := by decide +kernel
theorem dX9_digest_101 : decode cX9_digest 101 = .ok (.getfield 112, 3) := by decide +kernel
theorem dX9_digest_104 : decode cX9_digest 104 = .ok (.if_icmp .ge 27, 3) := by decide +kernel
theorem dX9_digest_107 : decode cX9_digest 107 = .ok (.lload_n 1, 1) := by decide +kernel
theorem dX9_digest_108 : decode cX9_digest 108 = .ok (.ldc2_w 296, 3) := by decide +kernel
theorem dX9_digest_111 : decode cX9_digest 111 = .ok (.lmul, 1) := by decide +kernel
theorem dX9_digest_112 : decode cX9_digest 112 = .ok (.aload_n 3, 1) := by decide +kernel
theorem dX9_digest_113 : decode cX9_digest 113 = .ok (.iload 5, 2) := by decide +kernel
theorem dX9_digest_115 : decode cX9_digest 115 = .ok (.aaload, 1) := by decide +kernel
theorem dX9_digest_116 : decode cX9_digest 116 = .ok (.iload 6, 2) := by decide +kernel
theorem dX9_digest_118 : decode cX9_digest 118 = .ok (.iaload, 1) := by decide +kernel
theorem dX9_digest_119 : decode cX9_digest 119 = .ok (.invokestatic 158, 3) := by decide +kernel
theorem dX9_digest_122 : decode cX9_digest 122 = .ok (.i2l, 1) := by decide +kernel
theorem dX9_digest_123 : decode cX9_digest 123 = .ok (.ladd, 1) := by decide +kernel
theorem dX9_digest_124 : decode cX9_digest 124 = .ok (.lstore_n 1, 1) := by decide +kernel
theorem dX9_digest_125 : decode cX9_digest 125 = .ok (.iinc 6 1, 3) := by decide +kernel
theorem dX9_digest_128 : decode cX9_digest 128 = .ok (.goto (-30), 3) := by decide +kernel
theorem dX9_digest_131 : decode cX9_digest 131 = .ok (.iinc 5 1, 3) := by decide +kernel
theorem dX9_digest_134 : decode cX9_digest 134 = .ok (.goto (-48), 3) := by decide +kernel
theorem dX9_digest_137 : decode cX9_digest 137 = .ok (.iconst 0, 1) := by decide +kernel
theorem dX9_digest_138 : decode cX9_digest 138 = .ok (.istore 5, 2) := by decide +kernel
theorem dX9_digest_140 : decode cX9_digest 140 = .ok (.iload 5, 2) := by decide +kernel
theorem dX9_digest_142 : decode cX9_digest 142 = .ok (.aload_n 0, 1) := by decide +kernel
theorem dX9_digest_143 : decode cX9_digest 143 = .ok (.getfield 25, 3) := by decide +kernel
theorem dX9_digest_146 : decode cX9_digest 146 = .ok (.if_icmp .ge 24, 3) := by decide +kernel
theorem dX9_digest_149 : decode cX9_digest 149 = .ok (.lload_n 1, 1) := by decide +kernel
theorem dX9_digest_150 : decode cX9_digest 150 = .ok (.ldc2_w 296, 3) := by decide +kernel
theorem dX9_digest_153 : decode cX9_digest 153 = .ok (.lmul, 1) := by decide +kernel
theorem dX9_digest_154 : decode cX9_digest 154 = .ok (.aload_n 0, 1) := by decide +kernel
theorem dX9_digest_155 : decode cX9_digest 155 = .ok (.iload 5, 2) := by decide +kernel
theorem dX9_digest_157 : decode cX9_digest 157 = .ok (.iconst 0, 1) := by decide +kernel
theorem dX9_digest_158 : decode cX9_digest 158 = .ok (.invokevirtual 161, 3) := by decide +kernel
theorem dX9_digest_161 : decode cX9_digest 161 = .ok (.i2l, 1) := by decide +kernel
theorem dX9_digest_162 : decode cX9_digest 162 = .ok (.ladd, 1) := by decide +kernel
theorem dX9_digest_163 : decode cX9_digest 163 = .ok (.lstore_n 1, 1) := by decide +kernel
theorem dX9_digest_164 : decode cX9_digest 164 = .ok (.iinc 5 1, 3) := by decide +kernel
theorem dX9_digest_167 : decode cX9_digest 167 = .ok (.goto (-27), 3) := by decide +kernel
theorem dX9_digest_170 : decode cX9_digest 170 = .ok (.iconst 0, 1) := by decide +kernel
theorem dX9_digest_171 : decode cX9_digest 171 = .ok (.istore 5, 2) := by decide +kernel
theorem dX9_digest_173 : decode cX9_digest 173 = .ok (.iload 5, 2) := by decide +kernel
theorem dX9_digest_175 : decode cX9_digest 175 = .ok (.aload_n 0, 1) := by decide +kernel
theorem dX9_digest_176 : decode cX9_digest 176 = .ok (.getfield 233, 3) := by decide +kernel
theorem dX9_digest_179 : decode cX9_digest 179 = .ok (.if_icmp .ge 24, 3) := by decide +kernel
theorem dX9_digest_182 : decode cX9_digest 182 = .ok (.lload_n 1, 1) := by decide +kernel
theorem dX9_digest_183 : decode cX9_digest 183 = .ok (.ldc2_w 296, 3) := by decide +kernel
theorem dX9_digest_186 : decode cX9_digest 186 = .ok (.lmul, 1) := by decide +kernel
theorem dX9_digest_187 : decode cX9_digest 187 = .ok (.iload 4, 2) := by decide +kernel
theorem dX9_digest_189 : decode cX9_digest 189 = .ok (.iload 5, 2) := by decide +kernel
theorem dX9_digest_191 : decode cX9_digest 191 = .ok (.ishr, 1) := by decide +kernel
theorem dX9_digest_192 : decode cX9_digest 192 = .ok (.iconst 1, 1) := by decide +kernel
theorem dX9_digest_193 : decode cX9_digest 193 = .ok (.iand, 1) := by decide +kernel
theorem dX9_digest_194 : decode cX9_digest 194 = .ok (.i2l, 1) := by decide +kernel
theorem dX9_digest_195 : decode cX9_digest 195 = .ok (.ladd, 1) := by decide +kernel
theorem dX9_digest_196 : decode cX9_digest 196 = .ok (.lstore_n 1, 1) := by decide +kernel
theorem dX9_digest_197 : decode cX9_digest 197 = .ok (.iinc 5 1, 3) := by decide +kernel
theorem dX9_digest_200 : decode cX9_digest 200 = .ok (.goto (-27), 3) := by decide +kernel
theorem dX9_digest_203 : decode cX9_digest 203 = .ok (.aload_n 0, 1) := by decide +kernel
theorem dX9_digest_204 : decode cX9_digest 204 = .ok (.aload_n 3, 1) := by decide +kernel
theorem dX9_digest_205 : decode cX9_digest 205 = .ok (.aload_n 0, 1) := by decide +kernel
theorem dX9_digest_206 : decode cX9_digest 206 = .ok (.getfield 171, 3) := by decide +kernel
theorem dX9_digest_209 : decode cX9_digest 209 = .ok (.invokevirtual 286, 3) := by decide +kernel
theorem dX9_digest_212 : decode cX9_digest 212 = .ok (.astore 5, 2) := by decide +kernel
theorem dX9_digest_214 : decode cX9_digest 214 = .ok (.aload 5, 2) := by decide +kernel
theorem dX9_digest_216 : decode cX9_digest 216 = .ok (.astore 6, 2) := by decide +kernel
theorem dX9_digest_218 : decode cX9_digest 218 = .ok (.aload 6, 2) := by decide +kernel
theorem dX9_digest_220 : decode cX9_digest 220 = .ok (.arraylength, 1) := by decide +kernel
theorem dX9_digest_221 : decode cX9_digest 221 = .ok (.istore 7, 2) := by decide +kernel
theorem dX9_digest_223 : decode cX9_digest 223 = .ok (.iconst 0, 1) := by decide +kernel
theorem dX9_digest_224 : decode cX9_digest 224 = .ok (.istore 8, 2) := by decide +kernel
theorem dX9_digest_226 : decode cX9_digest 226 = .ok (.iload 8, 2) := by decide +kernel
theorem dX9_digest_228 : decode cX9_digest 228 = .ok (.iload 7, 2) := by decide +kernel
theorem dX9_digest_230 : decode cX9_digest 230 = .ok (.if_icmp .ge 26, 3) := by decide +kernel
theorem dX9_digest_233 : decode cX9_digest 233 = .ok (.aload 6, 2) := by decide +kernel
theorem dX9_digest_235 : decode cX9_digest 235 = .ok (.iload 8, 2) := by decide +kernel
theorem dX9_digest_237 : decode cX9_digest 237 = .ok (.iaload, 1) := by decide +kernel
theorem dX9_digest_238 : decode cX9_digest 238 = .ok (.istore 9, 2) := by decide +kernel
theorem dX9_digest_240 : decode cX9_digest 240 = .ok (.lload_n 1, 1) := by decide +kernel
theorem dX9_digest_241 : decode cX9_digest 241 = .ok (.ldc2_w 296, 3) := by decide +kernel
theorem dX9_digest_244 : decode cX9_digest 244 = .ok (.lmul, 1) := by decide +kernel
theorem dX9_digest_245 : decode cX9_digest 245 = .ok (.iload 9, 2) := by decide +kernel
theorem dX9_digest_247 : decode cX9_digest 247 = .ok (.i2l, 1) := by decide +kernel
theorem dX9_digest_248 : decode cX9_digest 248 = .ok (.ladd, 1) := by decide +kernel
theorem dX9_digest_249 : decode cX9_digest 249 = .ok (.lstore_n 1, 1) := by decide +kernel
theorem dX9_digest_250 : decode cX9_digest 250 = .ok (.iinc 8 1, 3) := by decide +kernel
theorem dX9_digest_253 : decode cX9_digest 253 = .ok (.goto (-27), 3) := by decide +kernel
theorem dX9_digest_256 : decode cX9_digest 256 = .ok (.iconst 0, 1) := by decide +kernel
theorem dX9_digest_257 : decode cX9_digest 257 = .ok (.istore 6, 2) := by decide +kernel
theorem dX9_digest_259 : decode cX9_digest 259 = .ok (.iload 6, 2) := by decide +kernel
theorem dX9_digest_261 : decode cX9_digest 261 = .ok (.aload_n 0, 1) := by decide +kernel
theorem dX9_digest_262 : decode cX9_digest 262 = .ok (.getfield 105, 3) := by decide +kernel
theorem dX9_digest_265 : decode cX9_digest 265 = .ok (.if_icmp .ge 63, 3) := by decide +kernel
theorem dX9_digest_268 : decode cX9_digest 268 = .ok (.iconst 0, 1) := by decide +kernel
theorem dX9_digest_269 : decode cX9_digest 269 = .ok (.istore 7, 2) := by decide +kernel
theorem dX9_digest_271 : decode cX9_digest 271 = .ok (.iload 7, 2) := by decide +kernel
theorem dX9_digest_273 : decode cX9_digest 273 = .ok (.iconst 5, 1) := by decide +kernel
theorem dX9_digest_274 : decode cX9_digest 274 = .ok (.if_icmp .ge 48, 3) := by decide +kernel
theorem dX9_digest_277 : decode cX9_digest 277 = .ok (.iconst 0, 1) := by decide +kernel
theorem dX9_digest_278 : decode cX9_digest 278 = .ok (.istore 8, 2) := by decide +kernel
theorem dX9_digest_280 : decode cX9_digest 280 = .ok (.iload 8, 2) := by decide +kernel
theorem dX9_digest_282 : decode cX9_digest 282 = .ok (.aload_n 0, 1) := by decide +kernel
theorem dX9_digest_283 : decode cX9_digest 283 = .ok (.getfield 25, 3) := by decide +kernel
theorem dX9_digest_286 : decode cX9_digest 286 = .ok (.if_icmp .ge 30, 3) := by decide +kernel
theorem dX9_digest_289 : decode cX9_digest 289 = .ok (.lload_n 1, 1) := by decide +kernel
theorem dX9_digest_290 : decode cX9_digest 290 = .ok (.ldc2_w 296, 3) := by decide +kernel
theorem dX9_digest_293 : decode cX9_digest 293 = .ok (.lmul, 1) := by decide +kernel
theorem dX9_digest_294 : decode cX9_digest 294 = .ok (.aload_n 0, 1) := by decide +kernel
theorem dX9_digest_295 : decode cX9_digest 295 = .ok (.iload 6, 2) := by decide +kernel
theorem dX9_digest_297 : decode cX9_digest 297 = .ok (.iload 7, 2) := by decide +kernel
theorem dX9_digest_299 : decode cX9_digest 299 = .ok (.iload 8, 2) := by decide +kernel
theorem dX9_digest_301 : decode cX9_digest 301 = .ok (.aload_n 3, 1) := by decide +kernel
theorem dX9_digest_302 : decode cX9_digest 302 = .ok (.iload 4, 2) := by decide +kernel
theorem dX9_digest_304 : decode cX9_digest 304 = .ok (.invokevirtual 265, 3) := by decide +kernel
theorem dX9_digest_307 : decode cX9_digest 307 = .ok (.i2l, 1) := by decide +kernel
theorem dX9_digest_308 : decode cX9_digest 308 = .ok (.ladd, 1) := by decide +kernel
theorem dX9_digest_309 : decode cX9_digest 309 = .ok (.lstore_n 1, 1) := by decide +kernel
theorem dX9_digest_310 : decode cX9_digest 310 = .ok (.iinc 8 1, 3) := by decide +kernel
theorem dX9_digest_313 : decode cX9_digest 313 = .ok (.goto (-33), 3) := by decide +kernel
theorem dX9_digest_316 : decode cX9_digest 316 = .ok (.iinc 7 1, 3) := by decide +kernel
theorem dX9_digest_319 : decode cX9_digest 319 = .ok (.goto (-48), 3) := by decide +kernel
theorem dX9_digest_322 : decode cX9_digest 322 = .ok (.iinc 6 1, 3) := by decide +kernel
theorem dX9_digest_325 : decode cX9_digest 325 = .ok (.goto (-66), 3) := by decide +kernel
theorem dX9_digest_328 : decode cX9_digest 328 = .ok (.aload_n 0, 1) := by decide +kernel
theorem dX9_digest_329 : decode cX9_digest 329 = .ok (.getfield 87, 3) := by decide +kernel
theorem dX9_digest_332 : decode cX9_digest 332 = .ok (.astore 6, 2) := by decide +kernel
theorem dX9_digest_334 : decode cX9_digest 334 = .ok (.aload 6, 2) := by decide +kernel
theorem dX9_digest_336 : decode cX9_digest 336 = .ok (.arraylength, 1) := by decide +kernel
theorem dX9_digest_337 : decode cX9_digest 337 = .ok (.istore 7, 2) := by decide +kernel
theorem dX9_digest_339 : decode cX9_digest 339 = .ok (.iconst 0, 1) := by decide +kernel
theorem dX9_digest_340 : decode cX9_digest 340 = .ok (.istore 8, 2) := by decide +kernel
theorem dX9_digest_342 : decode cX9_digest 342 = .ok (.iload 8, 2) := by decide +kernel
theorem dX9_digest_344 : decode cX9_digest 344 = .ok (.iload 7, 2) := by decide +kernel
theorem dX9_digest_346 : decode cX9_digest 346 = .ok (.if_icmp .ge 26, 3) := by decide +kernel
theorem dX9_digest_349 : decode cX9_digest 349 = .ok (.aload 6, 2) := by decide +kernel
theorem dX9_digest_351 : decode cX9_digest 351 = .ok (.iload 8, 2) := by decide +kernel
theorem dX9_digest_353 : decode cX9_digest 353 = .ok (.iaload, 1) := by decide +kernel
theorem dX9_digest_354 : decode cX9_digest 354 = .ok (.istore 9, 2) := by decide +kernel
theorem dX9_digest_356 : decode cX9_digest 356 = .ok (.lload_n 1, 1) := by decide +kernel
theorem dX9_digest_357 : decode cX9_digest 357 = .ok (.ldc2_w 296, 3) := by decide +kernel
theorem dX9_digest_360 : decode cX9_digest 360 = .ok (.lmul, 1) := by decide +kernel
theorem dX9_digest_361 : decode cX9_digest 361 = .ok (.iload 9, 2) := by decide +kernel
theorem dX9_digest_363 : decode cX9_digest 363 = .ok (.i2l, 1) := by decide +kernel
theorem dX9_digest_364 : decode cX9_digest 364 = .ok (.ladd, 1) := by decide +kernel
theorem dX9_digest_365 : decode cX9_digest 365 = .ok (.lstore_n 1, 1) := by decide +kernel
theorem dX9_digest_366 : decode cX9_digest 366 = .ok (.iinc 8 1, 3) := by decide +kernel
theorem dX9_digest_369 : decode cX9_digest 369 = .ok (.goto (-27), 3) := by decide +kernel
theorem dX9_digest_372 : decode cX9_digest 372 = .ok (.iconst 0, 1) := by decide +kernel
theorem dX9_digest_373 : decode cX9_digest 373 = .ok (.istore 6, 2) := by decide +kernel
theorem dX9_digest_375 : decode cX9_digest 375 = .ok (.iload 6, 2) := by decide +kernel
theorem dX9_digest_377 : decode cX9_digest 377 = .ok (.aload_n 0, 1) := by decide +kernel
theorem dX9_digest_378 : decode cX9_digest 378 = .ok (.getfield 105, 3) := by decide +kernel
theorem dX9_digest_381 : decode cX9_digest 381 = .ok (.if_icmp .ge 48, 3) := by decide +kernel
theorem dX9_digest_384 : decode cX9_digest 384 = .ok (.iconst 0, 1) := by decide +kernel
theorem dX9_digest_385 : decode cX9_digest 385 = .ok (.istore 7, 2) := by decide +kernel
theorem dX9_digest_387 : decode cX9_digest 387 = .ok (.iload 7, 2) := by decide +kernel
theorem dX9_digest_389 : decode cX9_digest 389 = .ok (.aload_n 0, 1) := by decide +kernel
theorem dX9_digest_390 : decode cX9_digest 390 = .ok (.getfield 25, 3) := by decide +kernel
theorem dX9_digest_393 : decode cX9_digest 393 = .ok (.if_icmp .ge 30, 3) := by decide +kernel
theorem dX9_digest_396 : decode cX9_digest 396 = .ok (.lload_n 1, 1) := by decide +kernel
theorem dX9_digest_397 : decode cX9_digest 397 = .ok (.ldc2_w 296, 3) := by decide +kernel
theorem dX9_digest_400 : decode cX9_digest 400 = .ok (.lmul, 1) := by decide +kernel
theorem dX9_digest_401 : decode cX9_digest 401 = .ok (.aload_n 0, 1) := by decide +kernel
theorem dX9_digest_402 : decode cX9_digest 402 = .ok (.getfield 90, 3) := by decide +kernel
theorem dX9_digest_405 : decode cX9_digest 405 = .ok (.iload 6, 2) := by decide +kernel
theorem dX9_digest_407 : decode cX9_digest 407 = .ok (.bipush 24, 2) := by decide +kernel
theorem dX9_digest_409 : decode cX9_digest 409 = .ok (.imul, 1) := by decide +kernel
theorem dX9_digest_410 : decode cX9_digest 410 = .ok (.iload 7, 2) := by decide +kernel
theorem dX9_digest_412 : decode cX9_digest 412 = .ok (.iadd, 1) := by decide +kernel
theorem dX9_digest_413 : decode cX9_digest 413 = .ok (.iaload, 1) := by decide +kernel
theorem dX9_digest_414 : decode cX9_digest 414 = .ok (.i2l, 1) := by decide +kernel
theorem dX9_digest_415 : decode cX9_digest 415 = .ok (.ladd, 1) := by decide +kernel
theorem dX9_digest_416 : decode cX9_digest 416 = .ok (.lstore_n 1, 1) := by decide +kernel
theorem dX9_digest_417 : decode cX9_digest 417 = .ok (.iinc 7 1, 3) := by decide +kernel
theorem dX9_digest_420 : decode cX9_digest 420 = .ok (.goto (-33), 3) := by decide +kernel
theorem dX9_digest_423 : decode cX9_digest 423 = .ok (.iinc 6 1, 3) := by decide +kernel
theorem dX9_digest_426 : decode cX9_digest 426 = .ok (.goto (-51), 3) := by decide +kernel
theorem dX9_digest_429 : decode cX9_digest 429 = .ok (.lload_n 1, 1) := by decide +kernel
theorem dX9_digest_430 : decode cX9_digest 430 = .ok (.ldc2_w 296, 3) := by decide +kernel
theorem dX9_digest_433 : decode cX9_digest 433 = .ok (.lmul, 1) := by decide +kernel
theorem dX9_digest_434 : decode cX9_digest 434 = .ok (.aload_n 0, 1) := by decide +kernel
theorem dX9_digest_435 : decode cX9_digest 435 = .ok (.invokevirtual 283, 3) := by decide +kernel
theorem dX9_digest_438 : decode cX9_digest 438 = .ok (.i2l, 1) := by decide +kernel
theorem dX9_digest_439 : decode cX9_digest 439 = .ok (.ladd, 1) := by decide +kernel
theorem dX9_digest_440 : decode cX9_digest 440 = .ok (.lreturn, 1) := by decide +kernel
