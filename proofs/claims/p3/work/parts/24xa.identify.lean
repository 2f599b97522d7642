theorem d_DiscMakerModel_identify_0 : decode b_DiscMakerModel_identify 0 = .ok (.iconst (-1), 1) := by decide +kernel
theorem d_DiscMakerModel_identify_1 : decode b_DiscMakerModel_identify 1 = .ok (.istore_n 2, 1) := by decide +kernel
theorem d_DiscMakerModel_identify_2 : decode b_DiscMakerModel_identify 2 = .ok (.iconst 1, 1) := by decide +kernel
theorem d_DiscMakerModel_identify_3 : decode b_DiscMakerModel_identify 3 = .ok (.istore_n 3, 1) := by decide +kernel
theorem d_DiscMakerModel_identify_4 : decode b_DiscMakerModel_identify 4 = .ok (.iload_n 3, 1) := by decide +kernel
theorem d_DiscMakerModel_identify_5 : decode b_DiscMakerModel_identify 5 = .ok (.aload_n 0, 1) := by decide +kernel
theorem d_DiscMakerModel_identify_6 : decode b_DiscMakerModel_identify 6 = .ok (.getfield 38, 3) := by decide +kernel
theorem d_DiscMakerModel_identify_9 : decode b_DiscMakerModel_identify 9 = .ok (.iload_n 1, 1) := by decide +kernel
theorem d_DiscMakerModel_identify_10 : decode b_DiscMakerModel_identify 10 = .ok (.iaload, 1) := by decide +kernel
theorem d_DiscMakerModel_identify_11 : decode b_DiscMakerModel_identify 11 = .ok (.if_icmp .ge 35, 3) := by decide +kernel
theorem d_DiscMakerModel_identify_14 : decode b_DiscMakerModel_identify 14 = .ok (.aload_n 0, 1) := by decide +kernel
theorem d_DiscMakerModel_identify_15 : decode b_DiscMakerModel_identify 15 = .ok (.getfield 13, 3) := by decide +kernel
theorem d_DiscMakerModel_identify_18 : decode b_DiscMakerModel_identify 18 = .ok (.iload_n 1, 1) := by decide +kernel
theorem d_DiscMakerModel_identify_19 : decode b_DiscMakerModel_identify 19 = .ok (.iaload, 1) := by decide +kernel
theorem d_DiscMakerModel_identify_20 : decode b_DiscMakerModel_identify 20 = .ok (.ifCond .le 26, 3) := by decide +kernel
theorem d_DiscMakerModel_identify_23 : decode b_DiscMakerModel_identify 23 = .ok (.aload_n 0, 1) := by decide +kernel
theorem d_DiscMakerModel_identify_24 : decode b_DiscMakerModel_identify 24 = .ok (.iload_n 1, 1) := by decide +kernel
theorem d_DiscMakerModel_identify_25 : decode b_DiscMakerModel_identify 25 = .ok (.iload_n 3, 1) := by decide +kernel
theorem d_DiscMakerModel_identify_26 : decode b_DiscMakerModel_identify 26 = .ok (.invokevirtual 131, 3) := by decide +kernel
theorem d_DiscMakerModel_identify_29 : decode b_DiscMakerModel_identify 29 = .ok (.bipush 46, 2) := by decide +kernel
theorem d_DiscMakerModel_identify_31 : decode b_DiscMakerModel_identify 31 = .ok (.if_icmp .ne 7, 3) := by decide +kernel
theorem d_DiscMakerModel_identify_34 : decode b_DiscMakerModel_identify 34 = .ok (.iload_n 3, 1) := by decide +kernel
theorem d_DiscMakerModel_identify_35 : decode b_DiscMakerModel_identify 35 = .ok (.goto 4, 3) := by decide +kernel
theorem d_DiscMakerModel_identify_38 : decode b_DiscMakerModel_identify 38 = .ok (.iload_n 2, 1) := by decide +kernel
theorem d_DiscMakerModel_identify_39 : decode b_DiscMakerModel_identify 39 = .ok (.istore_n 2, 1) := by decide +kernel
theorem d_DiscMakerModel_identify_40 : decode b_DiscMakerModel_identify 40 = .ok (.iinc 3 1, 3) := by decide +kernel
theorem d_DiscMakerModel_identify_43 : decode b_DiscMakerModel_identify 43 = .ok (.goto (-39), 3) := by decide +kernel
theorem d_DiscMakerModel_identify_46 : decode b_DiscMakerModel_identify 46 = .ok (.iload_n 2, 1) := by decide +kernel
theorem d_DiscMakerModel_identify_47 : decode b_DiscMakerModel_identify 47 = .ok (.ifCond .ge 12, 3) := by decide +kernel
theorem d_DiscMakerModel_identify_50 : decode b_DiscMakerModel_identify 50 = .ok (.aload_n 0, 1) := by decide +kernel
theorem d_DiscMakerModel_identify_51 : decode b_DiscMakerModel_identify 51 = .ok (.getfield 38, 3) := by decide +kernel
theorem d_DiscMakerModel_identify_54 : decode b_DiscMakerModel_identify 54 = .ok (.iload_n 1, 1) := by decide +kernel
theorem d_DiscMakerModel_identify_55 : decode b_DiscMakerModel_identify 55 = .ok (.iaload, 1) := by decide +kernel
theorem d_DiscMakerModel_identify_56 : decode b_DiscMakerModel_identify 56 = .ok (.goto 4, 3) := by decide +kernel
theorem d_DiscMakerModel_identify_59 : decode b_DiscMakerModel_identify 59 = .ok (.iload_n 2, 1) := by decide +kernel
theorem d_DiscMakerModel_identify_60 : decode b_DiscMakerModel_identify 60 = .ok (.istore_n 3, 1) := by decide +kernel
theorem d_DiscMakerModel_identify_61 : decode b_DiscMakerModel_identify 61 = .ok (.aload_n 0, 1) := by decide +kernel
theorem d_DiscMakerModel_identify_62 : decode b_DiscMakerModel_identify 62 = .ok (.getfield 50, 3) := by decide +kernel
theorem d_DiscMakerModel_identify_65 : decode b_DiscMakerModel_identify 65 = .ok (.iload_n 1, 1) := by decide +kernel
theorem d_DiscMakerModel_identify_66 : decode b_DiscMakerModel_identify 66 = .ok (.iload_n 3, 1) := by decide +kernel
theorem d_DiscMakerModel_identify_67 : decode b_DiscMakerModel_identify 67 = .ok (.bipush 8, 2) := by decide +kernel
theorem d_DiscMakerModel_identify_69 : decode b_DiscMakerModel_identify 69 = .ok (.if_icmp .ge 7, 3) := by decide +kernel
theorem d_DiscMakerModel_identify_72 : decode b_DiscMakerModel_identify 72 = .ok (.iload_n 3, 1) := by decide +kernel
theorem d_DiscMakerModel_identify_73 : decode b_DiscMakerModel_identify 73 = .ok (.goto 5, 3) := by decide +kernel
theorem d_DiscMakerModel_identify_76 : decode b_DiscMakerModel_identify 76 = .ok (.bipush 8, 2) := by decide +kernel
theorem d_DiscMakerModel_identify_78 : decode b_DiscMakerModel_identify 78 = .ok (.iastore, 1) := by decide +kernel
theorem d_DiscMakerModel_identify_79 : decode b_DiscMakerModel_identify 79 = .ok (.iconst 0, 1) := by decide +kernel
theorem d_DiscMakerModel_identify_80 : decode b_DiscMakerModel_identify 80 = .ok (.istore 4, 2) := by decide +kernel
theorem d_DiscMakerModel_identify_82 : decode b_DiscMakerModel_identify 82 = .ok (.iload 4, 2) := by decide +kernel
theorem d_DiscMakerModel_identify_84 : decode b_DiscMakerModel_identify 84 = .ok (.aload_n 0, 1) := by decide +kernel
theorem d_DiscMakerModel_identify_85 : decode b_DiscMakerModel_identify 85 = .ok (.getfield 50, 3) := by decide +kernel
theorem d_DiscMakerModel_identify_88 : decode b_DiscMakerModel_identify 88 = .ok (.iload_n 1, 1) := by decide +kernel
theorem d_DiscMakerModel_identify_89 : decode b_DiscMakerModel_identify 89 = .ok (.iaload, 1) := by decide +kernel
theorem d_DiscMakerModel_identify_90 : decode b_DiscMakerModel_identify 90 = .ok (.if_icmp .ge 32, 3) := by decide +kernel
theorem d_DiscMakerModel_identify_93 : decode b_DiscMakerModel_identify 93 = .ok (.aload_n 0, 1) := by decide +kernel
theorem d_DiscMakerModel_identify_94 : decode b_DiscMakerModel_identify 94 = .ok (.getfield 47, 3) := by decide +kernel
theorem d_DiscMakerModel_identify_97 : decode b_DiscMakerModel_identify 97 = .ok (.bipush 8, 2) := by decide +kernel
theorem d_DiscMakerModel_identify_99 : decode b_DiscMakerModel_identify 99 = .ok (.iload_n 1, 1) := by decide +kernel
theorem d_DiscMakerModel_identify_100 : decode b_DiscMakerModel_identify 100 = .ok (.imul, 1) := by decide +kernel
theorem d_DiscMakerModel_identify_101 : decode b_DiscMakerModel_identify 101 = .ok (.iload 4, 2) := by decide +kernel
theorem d_DiscMakerModel_identify_103 : decode b_DiscMakerModel_identify 103 = .ok (.iadd, 1) := by decide +kernel
theorem d_DiscMakerModel_identify_104 : decode b_DiscMakerModel_identify 104 = .ok (.aload_n 0, 1) := by decide +kernel
theorem d_DiscMakerModel_identify_105 : decode b_DiscMakerModel_identify 105 = .ok (.iload_n 1, 1) := by decide +kernel
theorem d_DiscMakerModel_identify_106 : decode b_DiscMakerModel_identify 106 = .ok (.iload 4, 2) := by decide +kernel
theorem d_DiscMakerModel_identify_108 : decode b_DiscMakerModel_identify 108 = .ok (.invokevirtual 131, 3) := by decide +kernel
theorem d_DiscMakerModel_identify_111 : decode b_DiscMakerModel_identify 111 = .ok (.invokestatic 172, 3) := by decide +kernel
theorem d_DiscMakerModel_identify_114 : decode b_DiscMakerModel_identify 114 = .ok (.i2b, 1) := by decide +kernel
theorem d_DiscMakerModel_identify_115 : decode b_DiscMakerModel_identify 115 = .ok (.bastore, 1) := by decide +kernel
theorem d_DiscMakerModel_identify_116 : decode b_DiscMakerModel_identify 116 = .ok (.iinc 4 1, 3) := by decide +kernel
theorem d_DiscMakerModel_identify_119 : decode b_DiscMakerModel_identify 119 = .ok (.goto (-37), 3) := by decide +kernel
theorem d_DiscMakerModel_identify_122 : decode b_DiscMakerModel_identify 122 = .ok (.iload_n 2, 1) := by decide +kernel
theorem d_DiscMakerModel_identify_123 : decode b_DiscMakerModel_identify 123 = .ok (.ifCond .ge 7, 3) := by decide +kernel
theorem d_DiscMakerModel_identify_126 : decode b_DiscMakerModel_identify 126 = .ok (.iconst 0, 1) := by decide +kernel
theorem d_DiscMakerModel_identify_127 : decode b_DiscMakerModel_identify 127 = .ok (.goto 13, 3) := by decide +kernel
theorem d_DiscMakerModel_identify_130 : decode b_DiscMakerModel_identify 130 = .ok (.aload_n 0, 1) := by decide +kernel
theorem d_DiscMakerModel_identify_131 : decode b_DiscMakerModel_identify 131 = .ok (.getfield 38, 3) := by decide +kernel
theorem d_DiscMakerModel_identify_134 : decode b_DiscMakerModel_identify 134 = .ok (.iload_n 1, 1) := by decide +kernel
theorem d_DiscMakerModel_identify_135 : decode b_DiscMakerModel_identify 135 = .ok (.iaload, 1) := by decide +kernel
theorem d_DiscMakerModel_identify_136 : decode b_DiscMakerModel_identify 136 = .ok (.iload_n 2, 1) := by decide +kernel
theorem d_DiscMakerModel_identify_137 : decode b_DiscMakerModel_identify 137 = .ok (.isub, 1) := by decide +kernel
theorem d_DiscMakerModel_identify_138 : decode b_DiscMakerModel_identify 138 = .ok (.iconst 1, 1) := by decide +kernel
theorem d_DiscMakerModel_identify_139 : decode b_DiscMakerModel_identify 139 = .ok (.isub, 1) := by decide +kernel
theorem d_DiscMakerModel_identify_140 : decode b_DiscMakerModel_identify 140 = .ok (.istore 4, 2) := by decide +kernel
theorem d_DiscMakerModel_identify_142 : decode b_DiscMakerModel_identify 142 = .ok (.aload_n 0, 1) := by decide +kernel
theorem d_DiscMakerModel_identify_143 : decode b_DiscMakerModel_identify 143 = .ok (.getfield 56, 3) := by decide +kernel
theorem d_DiscMakerModel_identify_146 : decode b_DiscMakerModel_identify 146 = .ok (.iload_n 1, 1) := by decide +kernel
theorem d_DiscMakerModel_identify_147 : decode b_DiscMakerModel_identify 147 = .ok (.iload 4, 2) := by decide +kernel
theorem d_DiscMakerModel_identify_149 : decode b_DiscMakerModel_identify 149 = .ok (.iconst 3, 1) := by decide +kernel
theorem d_DiscMakerModel_identify_150 : decode b_DiscMakerModel_identify 150 = .ok (.if_icmp .ge 8, 3) := by decide +kernel
theorem d_DiscMakerModel_identify_153 : decode b_DiscMakerModel_identify 153 = .ok (.iload 4, 2) := by decide +kernel
theorem d_DiscMakerModel_identify_155 : decode b_DiscMakerModel_identify 155 = .ok (.goto 4, 3) := by decide +kernel
theorem d_DiscMakerModel_identify_158 : decode b_DiscMakerModel_identify 158 = .ok (.iconst 3, 1) := by decide +kernel
theorem d_DiscMakerModel_identify_159 : decode b_DiscMakerModel_identify 159 = .ok (.iastore, 1) := by decide +kernel
theorem d_DiscMakerModel_identify_160 : decode b_DiscMakerModel_identify 160 = .ok (.iconst 0, 1) := by decide +kernel
theorem d_DiscMakerModel_identify_161 : decode b_DiscMakerModel_identify 161 = .ok (.istore 5, 2) := by decide +kernel
theorem d_DiscMakerModel_identify_163 : decode b_DiscMakerModel_identify 163 = .ok (.iload 5, 2) := by decide +kernel
theorem d_DiscMakerModel_identify_165 : decode b_DiscMakerModel_identify 165 = .ok (.aload_n 0, 1) := by decide +kernel
theorem d_DiscMakerModel_identify_166 : decode b_DiscMakerModel_identify 166 = .ok (.getfield 56, 3) := by decide +kernel
theorem d_DiscMakerModel_identify_169 : decode b_DiscMakerModel_identify 169 = .ok (.iload_n 1, 1) := by decide +kernel
theorem d_DiscMakerModel_identify_170 : decode b_DiscMakerModel_identify 170 = .ok (.iaload, 1) := by decide +kernel
theorem d_DiscMakerModel_identify_171 : decode b_DiscMakerModel_identify 171 = .ok (.if_icmp .ge 35, 3) := by decide +kernel
theorem d_DiscMakerModel_identify_174 : decode b_DiscMakerModel_identify 174 = .ok (.aload_n 0, 1) := by decide +kernel
theorem d_DiscMakerModel_identify_175 : decode b_DiscMakerModel_identify 175 = .ok (.getfield 53, 3) := by decide +kernel
theorem d_DiscMakerModel_identify_178 : decode b_DiscMakerModel_identify 178 = .ok (.iconst 3, 1) := by decide +kernel
theorem d_DiscMakerModel_identify_179 : decode b_DiscMakerModel_identify 179 = .ok (.iload_n 1, 1) := by decide +kernel
theorem d_DiscMakerModel_identify_180 : decode b_DiscMakerModel_identify 180 = .ok (.imul, 1) := by decide +kernel
theorem d_DiscMakerModel_identify_181 : decode b_DiscMakerModel_identify 181 = .ok (.iload 5, 2) := by decide +kernel
theorem d_DiscMakerModel_identify_183 : decode b_DiscMakerModel_identify 183 = .ok (.iadd, 1) := by decide +kernel
theorem d_DiscMakerModel_identify_184 : decode b_DiscMakerModel_identify 184 = .ok (.aload_n 0, 1) := by decide +kernel
theorem d_DiscMakerModel_identify_185 : decode b_DiscMakerModel_identify 185 = .ok (.iload_n 1, 1) := by decide +kernel
theorem d_DiscMakerModel_identify_186 : decode b_DiscMakerModel_identify 186 = .ok (.iload_n 2, 1) := by decide +kernel
theorem d_DiscMakerModel_identify_187 : decode b_DiscMakerModel_identify 187 = .ok (.iconst 1, 1) := by decide +kernel
theorem d_DiscMakerModel_identify_188 : decode b_DiscMakerModel_identify 188 = .ok (.iadd, 1) := by decide +kernel
theorem d_DiscMakerModel_identify_189 : decode b_DiscMakerModel_identify 189 = .ok (.iload 5, 2) := by decide +kernel
theorem d_DiscMakerModel_identify_191 : decode b_DiscMakerModel_identify 191 = .ok (.iadd, 1) := by decide +kernel
theorem d_DiscMakerModel_identify_192 : decode b_DiscMakerModel_identify 192 = .ok (.invokevirtual 131, 3) := by decide +kernel
theorem d_DiscMakerModel_identify_195 : decode b_DiscMakerModel_identify 195 = .ok (.invokestatic 172, 3) := by decide +kernel
theorem d_DiscMakerModel_identify_198 : decode b_DiscMakerModel_identify 198 = .ok (.i2b, 1) := by decide +kernel
theorem d_DiscMakerModel_identify_199 : decode b_DiscMakerModel_identify 199 = .ok (.bastore, 1) := by decide +kernel
theorem d_DiscMakerModel_identify_200 : decode b_DiscMakerModel_identify 200 = .ok (.iinc 5 1, 3) := by decide +kernel
theorem d_DiscMakerModel_identify_203 : decode b_DiscMakerModel_identify 203 = .ok (.goto (-40), 3) := by decide +kernel
theorem d_DiscMakerModel_identify_206 : decode b_DiscMakerModel_identify 206 = .ok (.aload_n 0, 1) := by decide +kernel
theorem d_DiscMakerModel_identify_207 : decode b_DiscMakerModel_identify 207 = .ok (.iload_n 1, 1) := by decide +kernel
theorem d_DiscMakerModel_identify_208 : decode b_DiscMakerModel_identify 208 = .ok (.invokevirtual 175, 3) := by decide +kernel
theorem d_DiscMakerModel_identify_211 : decode b_DiscMakerModel_identify 211 = .ok (.ifCond .ne 4, 3) := by decide +kernel
theorem d_DiscMakerModel_identify_214 : decode b_DiscMakerModel_identify 214 = .ok (.return_, 1) := by decide +kernel
theorem d_DiscMakerModel_identify_215 : decode b_DiscMakerModel_identify 215 = .ok (.aload_n 0, 1) := by decide +kernel
theorem d_DiscMakerModel_identify_216 : decode b_DiscMakerModel_identify 216 = .ok (.getfield 50, 3) := by decide +kernel
theorem d_DiscMakerModel_identify_219 : decode b_DiscMakerModel_identify 219 = .ok (.iload_n 1, 1) := by decide +kernel
theorem d_DiscMakerModel_identify_220 : decode b_DiscMakerModel_identify 220 = .ok (.iaload, 1) := by decide +kernel
theorem d_DiscMakerModel_identify_221 : decode b_DiscMakerModel_identify 221 = .ok (.iconst 5, 1) := by decide +kernel
theorem d_DiscMakerModel_identify_222 : decode b_DiscMakerModel_identify 222 = .ok (.if_icmp .ge 12, 3) := by decide +kernel
theorem d_DiscMakerModel_identify_225 : decode b_DiscMakerModel_identify 225 = .ok (.aload_n 0, 1) := by decide +kernel
theorem d_DiscMakerModel_identify_226 : decode b_DiscMakerModel_identify 226 = .ok (.getfield 50, 3) := by decide +kernel
theorem d_DiscMakerModel_identify_229 : decode b_DiscMakerModel_identify 229 = .ok (.iload_n 1, 1) := by decide +kernel
theorem d_DiscMakerModel_identify_230 : decode b_DiscMakerModel_identify 230 = .ok (.iaload, 1) := by decide +kernel
theorem d_DiscMakerModel_identify_231 : decode b_DiscMakerModel_identify 231 = .ok (.goto 4, 3) := by decide +kernel
theorem d_DiscMakerModel_identify_234 : decode b_DiscMakerModel_identify 234 = .ok (.iconst 5, 1) := by decide +kernel
theorem d_DiscMakerModel_identify_235 : decode b_DiscMakerModel_identify 235 = .ok (.istore 5, 2) := by decide +kernel
theorem d_DiscMakerModel_identify_237 : decode b_DiscMakerModel_identify 237 = .ok (.aload_n 0, 1) := by decide +kernel
theorem d_DiscMakerModel_identify_238 : decode b_DiscMakerModel_identify 238 = .ok (.getfield 50, 3) := by decide +kernel
theorem d_DiscMakerModel_identify_241 : decode b_DiscMakerModel_identify 241 = .ok (.iload_n 1, 1) := by decide +kernel
theorem d_DiscMakerModel_identify_242 : decode b_DiscMakerModel_identify 242 = .ok (.iload 5, 2) := by decide +kernel
theorem d_DiscMakerModel_identify_244 : decode b_DiscMakerModel_identify 244 = .ok (.iconst 3, 1) := by decide +kernel
theorem d_DiscMakerModel_identify_245 : decode b_DiscMakerModel_identify 245 = .ok (.iadd, 1) := by decide +kernel
theorem d_DiscMakerModel_identify_246 : decode b_DiscMakerModel_identify 246 = .ok (.iastore, 1) := by decide +kernel
theorem d_DiscMakerModel_identify_247 : decode b_DiscMakerModel_identify 247 = .ok (.iconst 0, 1) := by decide +kernel
theorem d_DiscMakerModel_identify_248 : decode b_DiscMakerModel_identify 248 = .ok (.istore 6, 2) := by decide +kernel
theorem d_DiscMakerModel_identify_250 : decode b_DiscMakerModel_identify 250 = .ok (.aload_n 0, 1) := by decide +kernel
theorem d_DiscMakerModel_identify_251 : decode b_DiscMakerModel_identify 251 = .ok (.getfield 47, 3) := by decide +kernel
theorem d_DiscMakerModel_identify_254 : decode b_DiscMakerModel_identify 254 = .ok (.bipush 8, 2) := by decide +kernel
theorem d_DiscMakerModel_identify_256 : decode b_DiscMakerModel_identify 256 = .ok (.iload_n 1, 1) := by decide +kernel
theorem d_DiscMakerModel_identify_257 : decode b_DiscMakerModel_identify 257 = .ok (.imul, 1) := by decide +kernel
theorem d_DiscMakerModel_identify_258 : decode b_DiscMakerModel_identify 258 = .ok (.iload 5, 2) := by decide +kernel
theorem d_DiscMakerModel_identify_260 : decode b_DiscMakerModel_identify 260 = .ok (.iadd, 1) := by decide +kernel
theorem d_DiscMakerModel_identify_261 : decode b_DiscMakerModel_identify 261 = .ok (.bipush 48, 2) := by decide +kernel
theorem d_DiscMakerModel_identify_263 : decode b_DiscMakerModel_identify 263 = .ok (.iload 6, 2) := by decide +kernel
theorem d_DiscMakerModel_identify_265 : decode b_DiscMakerModel_identify 265 = .ok (.bipush 100, 2) := by decide +kernel
theorem d_DiscMakerModel_identify_267 : decode b_DiscMakerModel_identify 267 = .ok (.idiv, 1) := by decide +kernel
theorem d_DiscMakerModel_identify_268 : decode b_DiscMakerModel_identify 268 = .ok (.iadd, 1) := by decide +kernel
theorem d_DiscMakerModel_identify_269 : decode b_DiscMakerModel_identify 269 = .ok (.i2b, 1) := by decide +kernel
theorem d_DiscMakerModel_identify_270 : decode b_DiscMakerModel_identify 270 = .ok (.bastore, 1) := by decide +kernel
theorem d_DiscMakerModel_identify_271 : decode b_DiscMakerModel_identify 271 = .ok (.aload_n 0, 1) := by decide +kernel
theorem d_DiscMakerModel_identify_272 : decode b_DiscMakerModel_identify 272 = .ok (.getfield 47, 3) := by decide +kernel
theorem d_DiscMakerModel_identify_275 : decode b_DiscMakerModel_identify 275 = .ok (.bipush 8, 2) := by decide +kernel
theorem d_DiscMakerModel_identify_277 : decode b_DiscMakerModel_identify 277 = .ok (.iload_n 1, 1) := by decide +kernel
theorem d_DiscMakerModel_identify_278 : decode b_DiscMakerModel_identify 278 = .ok (.imul, 1) := by decide +kernel
theorem d_DiscMakerModel_identify_279 : decode b_DiscMakerModel_identify 279 = .ok (.iload 5, 2) := by decide +kernel
theorem d_DiscMakerModel_identify_281 : decode b_DiscMakerModel_identify 281 = .ok (.iadd, 1) := by decide +kernel
theorem d_DiscMakerModel_identify_282 : decode b_DiscMakerModel_identify 282 = .ok (.iconst 1, 1) := by decide +kernel
theorem d_DiscMakerModel_identify_283 : decode b_DiscMakerModel_identify 283 = .ok (.iadd, 1) := by decide +kernel
theorem d_DiscMakerModel_identify_284 : decode b_DiscMakerModel_identify 284 = .ok (.bipush 48, 2) := by decide +kernel
theorem d_DiscMakerModel_identify_286 : decode b_DiscMakerModel_identify 286 = .ok (.iload 6, 2) := by decide +kernel
theorem d_DiscMakerModel_identify_288 : decode b_DiscMakerModel_identify 288 = .ok (.bipush 10, 2) := by decide +kernel
theorem d_DiscMakerModel_identify_290 : decode b_DiscMakerModel_identify 290 = .ok (.idiv, 1) := by decide +kernel
theorem d_DiscMakerModel_identify_291 : decode b_DiscMakerModel_identify 291 = .ok (.bipush 10, 2) := by decide +kernel
theorem d_DiscMakerModel_identify_293 : decode b_DiscMakerModel_identify 293 = .ok (.irem, 1) := by decide +kernel
theorem d_DiscMakerModel_identify_294 : decode b_DiscMakerModel_identify 294 = .ok (.iadd, 1) := by decide +kernel
theorem d_DiscMakerModel_identify_295 : decode b_DiscMakerModel_identify 295 = .ok (.i2b, 1) := by decide +kernel
theorem d_DiscMakerModel_identify_296 : decode b_DiscMakerModel_identify 296 = .ok (.bastore, 1) := by decide +kernel
theorem d_DiscMakerModel_identify_297 : decode b_DiscMakerModel_identify 297 = .ok (.aload_n 0, 1) := by decide +kernel
theorem d_DiscMakerModel_identify_298 : decode b_DiscMakerModel_identify 298 = .ok (.getfield 47, 3) := by decide +kernel
theorem d_DiscMakerModel_identify_301 : decode b_DiscMakerModel_identify 301 = .ok (.bipush 8, 2) := by decide +kernel
theorem d_DiscMakerModel_identify_303 : decode b_DiscMakerModel_identify 303 = .ok (.iload_n 1, 1) := by decide +kernel
theorem d_DiscMakerModel_identify_304 : decode b_DiscMakerModel_identify 304 = .ok (.imul, 1) := by decide +kernel
theorem d_DiscMakerModel_identify_305 : decode b_DiscMakerModel_identify 305 = .ok (.iload 5, 2) := by decide +kernel
theorem d_DiscMakerModel_identify_307 : decode b_DiscMakerModel_identify 307 = .ok (.iadd, 1) := by decide +kernel
theorem d_DiscMakerModel_identify_308 : decode b_DiscMakerModel_identify 308 = .ok (.iconst 2, 1) := by decide +kernel
theorem d_DiscMakerModel_identify_309 : decode b_DiscMakerModel_identify 309 = .ok (.iadd, 1) := by decide +kernel
theorem d_DiscMakerModel_identify_310 : decode b_DiscMakerModel_identify 310 = .ok (.bipush 48, 2) := by decide +kernel
theorem d_DiscMakerModel_identify_312 : decode b_DiscMakerModel_identify 312 = .ok (.iload 6, 2) := by decide +kernel
theorem d_DiscMakerModel_identify_314 : decode b_DiscMakerModel_identify 314 = .ok (.bipush 10, 2) := by decide +kernel
theorem d_DiscMakerModel_identify_316 : decode b_DiscMakerModel_identify 316 = .ok (.irem, 1) := by decide +kernel
theorem d_DiscMakerModel_identify_317 : decode b_DiscMakerModel_identify 317 = .ok (.iadd, 1) := by decide +kernel
theorem d_DiscMakerModel_identify_318 : decode b_DiscMakerModel_identify 318 = .ok (.i2b, 1) := by decide +kernel
theorem d_DiscMakerModel_identify_319 : decode b_DiscMakerModel_identify 319 = .ok (.bastore, 1) := by decide +kernel
theorem d_DiscMakerModel_identify_320 : decode b_DiscMakerModel_identify 320 = .ok (.iinc 6 1, 3) := by decide +kernel
theorem d_DiscMakerModel_identify_323 : decode b_DiscMakerModel_identify 323 = .ok (.aload_n 0, 1) := by decide +kernel
theorem d_DiscMakerModel_identify_324 : decode b_DiscMakerModel_identify 324 = .ok (.iload_n 1, 1) := by decide +kernel
theorem d_DiscMakerModel_identify_325 : decode b_DiscMakerModel_identify 325 = .ok (.invokevirtual 175, 3) := by decide +kernel
theorem d_DiscMakerModel_identify_328 : decode b_DiscMakerModel_identify 328 = .ok (.ifCond .ne (-78), 3) := by decide +kernel
theorem d_DiscMakerModel_identify_331 : decode b_DiscMakerModel_identify 331 = .ok (.return_, 1) := by decide +kernel
set_option maxHeartbeats 4000000 in
set_option maxRecDepth 100000 in
theorem m_identify (l : Launch) (D : va_G) (cB cI cJ cZ cN cF : ClassId) (sz : Nat) (h0 : Nat) (ma : Nat → Nat) (sv_thrown sv_length sv_nodes sv_many sv_directories sv_runsFrom sv_runs sv_read sv_wrong sv_isNamed sv_goes sv_goesSize sv_goesAt sv_targetParts sv_isRoot : Int32) (fK : Nat → Int32) (fP : Nat → Int32) (fN : Nat → Int32) (fNS : Nat → Int32) (fBa : Nat → Int32) (fBs : Nat → Int32) (fEx : Nat → Int32) (fEs : Nat → Int32) (x : Int32) (hx0 : 1 ≤ x.toInt ∧ x.toInt < 40) (hKi : Rg 0 2 40 fK) (hNS : Rg 0 30 40 fNS) (hfBa : Rg (-128) 127 320 fBa) (hfBs : Rg 0 8 40 fBs) (hfEx : Rg (-128) 127 120 fEx) (hfEs : Rg 0 3 40 fEs) : Met l y_DiscMakerModel_identify w_DiscMakerModel_identify ({ frames := 3, cells := 0, slots := 0, locals := 69 }) (va_Pc [.ref h0, .int x] (fun U => U.heap.size = sz ∧ va_P D CL [(h0, .inr (11, MO ma sv_thrown sv_length sv_nodes sv_many sv_directories sv_runsFrom sv_runs sv_read sv_wrong sv_isNamed sv_goes sv_goesSize sv_goesAt sv_targetParts sv_isRoot)), ((ma 1), .inl (cI, 40, .inl fK)), ((ma 2), .inl (cI, 40, .inl fP)), ((ma 8), .inl (cB, 1200, .inl fN)), ((ma 9), .inl (cI, 40, .inl fNS)), ((ma 12), .inl (cB, 320, .inl fBa)), ((ma 13), .inl (cI, 40, .inl fBs)), ((ma 14), .inl (cB, 120, .inl fEx)), ((ma 15), .inl (cI, 40, .inl fEs))] U.heap ∧ va_K D CL (TY cB cI cJ cZ cN cF) U ∧ NN U ∧ va_D (fun _ => True) [(h0, .inr (11, MO ma sv_thrown sv_length sv_nodes sv_many sv_directories sv_runsFrom sv_runs sv_read sv_wrong sv_isNamed sv_goes sv_goesSize sv_goesAt sv_targetParts sv_isRoot)), ((ma 1), .inl (cI, 40, .inl fK)), ((ma 2), .inl (cI, 40, .inl fP)), ((ma 8), .inl (cB, 1200, .inl fN)), ((ma 9), .inl (cI, 40, .inl fNS)), ((ma 12), .inl (cB, 320, .inl fBa)), ((ma 13), .inl (cI, 40, .inl fBs)), ((ma 14), .inl (cB, 120, .inl fEx)), ((ma 15), .inl (cI, 40, .inl fEs))])) (va_Qv (fun (u : (Nat → Int32) × (Nat → Int32) × (Nat → Int32) × (Nat → Int32)) => match u with | (gBa, gBs, gEx, gEs) => (Rg (-128) 127 320 gBa) ∧ (Rg 0 8 40 gBs) ∧ (Rg (-128) 127 120 gEx) ∧ (Rg 0 3 40 gEs) ∧ (∀ q : Nat, q < 8 * x.toNatClampNeg ∨ 8 * x.toNatClampNeg + 8 ≤ q → gBa q = fBa q) ∧ (∀ q : Nat, q < 3 * x.toNatClampNeg ∨ 3 * x.toNatClampNeg + 3 ≤ q → gEx q = fEx q) ∧ (∀ q : Nat, q ≠ x.toNatClampNeg → gBs q = fBs q) ∧ (∀ q : Nat, q ≠ x.toNatClampNeg → gEs q = fEs q) ∧ (∀ q : Nat, 1 ≤ q → (q : Int) < x.toInt → fP q = fP x.toNatClampNeg → ¬ ∀ j, j < 11 → kyF gBa gBs gEx gEs q j = kyF gBa gBs gEx gEs x.toNatClampNeg j)) (fun (u : (Nat → Int32) × (Nat → Int32) × (Nat → Int32) × (Nat → Int32)) (t : State) => match u with | (gBa, gBs, gEx, gEs) => va_P D CL [(h0, .inr (11, MO ma sv_thrown sv_length sv_nodes sv_many sv_directories sv_runsFrom sv_runs sv_read sv_wrong sv_isNamed sv_goes sv_goesSize sv_goesAt sv_targetParts sv_isRoot)), ((ma 1), .inl (cI, 40, .inl fK)), ((ma 2), .inl (cI, 40, .inl fP)), ((ma 8), .inl (cB, 1200, .inl fN)), ((ma 9), .inl (cI, 40, .inl fNS)), ((ma 12), .inl (cB, 320, .inl gBa)), ((ma 13), .inl (cI, 40, .inl gBs)), ((ma 14), .inl (cB, 120, .inl gEx)), ((ma 15), .inl (cI, 40, .inl gEs))] t.heap ∧ va_D (va_A [(h0, .inr (11, MO ma sv_thrown sv_length sv_nodes sv_many sv_directories sv_runsFrom sv_runs sv_read sv_wrong sv_isNamed sv_goes sv_goesSize sv_goesAt sv_targetParts sv_isRoot)), ((ma 1), .inl (cI, 40, .inl fK)), ((ma 2), .inl (cI, 40, .inl fP)), ((ma 8), .inl (cB, 1200, .inl fN)), ((ma 9), .inl (cI, 40, .inl fNS)), ((ma 12), .inl (cB, 320, .inl fBa)), ((ma 13), .inl (cI, 40, .inl fBs)), ((ma 14), .inl (cB, 120, .inl fEx)), ((ma 15), .inl (cI, 40, .inl fEs))] sz) [(h0, .inr (11, MO ma sv_thrown sv_length sv_nodes sv_many sv_directories sv_runsFrom sv_runs sv_read sv_wrong sv_isNamed sv_goes sv_goesSize sv_goesAt sv_targetParts sv_isRoot)), ((ma 1), .inl (cI, 40, .inl fK)), ((ma 2), .inl (cI, 40, .inl fP)), ((ma 8), .inl (cB, 1200, .inl fN)), ((ma 9), .inl (cI, 40, .inl fNS)), ((ma 12), .inl (cB, 320, .inl gBa)), ((ma 13), .inl (cI, 40, .inl gBs)), ((ma 14), .inl (cB, 120, .inl gEx)), ((ma 15), .inl (cI, 40, .inl gEs))]) (va_A [(h0, .inr (11, MO ma sv_thrown sv_length sv_nodes sv_many sv_directories sv_runsFrom sv_runs sv_read sv_wrong sv_isNamed sv_goes sv_goesSize sv_goesAt sv_targetParts sv_isRoot)), ((ma 1), .inl (cI, 40, .inl fK)), ((ma 2), .inl (cI, 40, .inl fP)), ((ma 8), .inl (cB, 1200, .inl fN)), ((ma 9), .inl (cI, 40, .inl fNS)), ((ma 12), .inl (cB, 320, .inl fBa)), ((ma 13), .inl (cI, 40, .inl fBs)), ((ma 14), .inl (cB, 120, .inl fEx)), ((ma 15), .inl (cI, 40, .inl fEs))] sz)) 0 0 (va_A [(h0, .inr (11, MO ma sv_thrown sv_length sv_nodes sv_many sv_directories sv_runsFrom sv_runs sv_read sv_wrong sv_isNamed sv_goes sv_goesSize sv_goesAt sv_targetParts sv_isRoot)), ((ma 1), .inl (cI, 40, .inl fK)), ((ma 2), .inl (cI, 40, .inl fP)), ((ma 8), .inl (cB, 1200, .inl fN)), ((ma 9), .inl (cI, 40, .inl fNS)), ((ma 12), .inl (cB, 320, .inl fBa)), ((ma 13), .inl (cI, 40, .inl fBs)), ((ma 14), .inl (cB, 120, .inl fEx)), ((ma 15), .inl (cI, 40, .inl fEs))] sz) := by
  refine Met.ofW (cc := b_DiscMakerModel_identify) (maxL := 7) (ret := none) (by decide) rfl ?_
  intro p e s m args below meth c s₁ B hml hv
  obtain ⟨rfl, hsz, hP, hK, hN, hD0⟩ := hv
  have hx := B.exec
  have hb := B.bytes
  have hr := B.returns
  have hts := atoms_spec (ws := w_DiscMakerModel_identify) B.pre
  have ht9 := fun (w : Cond) (h : w ∈ lw_g) => hts w (List.mem_cons_of_mem _ h)
  have hown : s.vm.findClass "DiscMakerModel" = some m.cls := findClass_of_methodNamed B.named
  have hlocks := B.notSynchronized
  subst hsz
  have hD := hD0.self (sz := s.heap.size)
  generalize hAe : va_A [(h0, .inr (11, MO ma sv_thrown sv_length sv_nodes sv_many sv_directories sv_runsFrom sv_runs sv_read sv_wrong sv_isNamed sv_goes sv_goesSize sv_goesAt sv_targetParts sv_isRoot)), ((ma 1), .inl (cI, 40, .inl fK)), ((ma 2), .inl (cI, 40, .inl fP)), ((ma 8), .inl (cB, 1200, .inl fN)), ((ma 9), .inl (cI, 40, .inl fNS)), ((ma 12), .inl (cB, 320, .inl fBa)), ((ma 13), .inl (cI, 40, .inl fBs)), ((ma 14), .inl (cB, 120, .inl fEx)), ((ma 15), .inl (cI, 40, .inl fEs))] s.heap.size = A at hD ⊢
  have hA : ∀ q : Nat, s.heap.size ≤ q → A q := fun q h => by rw [← hAe]; exact Or.inr h
  have hS : va_S A s.heap s.heap [] := va_S.rf
  have hP : va_P D CL [(h0, .inr (11, MO ma sv_thrown sv_length sv_nodes sv_many sv_directories sv_runsFrom sv_runs sv_read sv_wrong sv_isNamed sv_goes sv_goesSize sv_goesAt sv_targetParts sv_isRoot)), ((ma 1), .inl (cI, 40, .inl fK)), ((ma 2), .inl (cI, 40, .inl fP)), ((ma 8), .inl (cB, 1200, .inl fN)), ((ma 9), .inl (cI, 40, .inl fNS)), ((ma 12), .inl (cB, 320, .inl fBa)), ((ma 13), .inl (cI, 40, .inl fBs)), ((ma 14), .inl (cB, 120, .inl fEx)), ((ma 15), .inl (cI, 40, .inl fEs))] s.heap := hP
  have hl := lv_entry [.ref h0, .int x] (n := 7) (Nat.le_of_ble_eq_true rfl)
  rw [lg_entry_eq]
  generalize (lg_sl [.ref h0, .int x] ++ List.replicate (7 - (lg_sl [.ref h0, .int x]).length) Slot.unset).toArray = ls at hl ⊢
  have hl : lv_has ls 7 [(0, .ref h0), (1, .int x)] := hl
  have L_m1 : ((-1) : Int32).toInt = (-1) := by decide
  have L_0 : (0 : Int32).toInt = 0 := by decide
  have L_1 : (1 : Int32).toInt = 1 := by decide
  have L_2 : (2 : Int32).toInt = 2 := by decide
  have L_3 : (3 : Int32).toInt = 3 := by decide
  have L_5 : (5 : Int32).toInt = 5 := by decide
  have L_8 : (8 : Int32).toInt = 8 := by decide
  have L_10 : (10 : Int32).toInt = 10 := by decide
  have L_46 : (46 : Int32).toInt = 46 := by decide
  have L_48 : (48 : Int32).toInt = 48 := by decide
  have L_100 : (100 : Int32).toInt = 100 := by decide
  have hxc := i_cl (a := x) (by omega)
  have hns := hNS x.toNatClampNeg (by omega)
  refine lv_iconst (v := (-1)) hx hb d_DiscMakerModel_identify_0 (by decide) ?_
  refine lv_istore_n hx hb d_DiscMakerModel_identify_1 rfl hl (by decide) rfl (fun ls hl => ?_)
  have hl : lv_has ls 7 [(2, .int (-1)), (0, .ref h0), (1, .int x)] := hl
  refine lv_iconst (v := 1) hx hb d_DiscMakerModel_identify_2 (by decide) ?_
  refine lv_istore_n hx hb d_DiscMakerModel_identify_3 rfl hl (by decide) rfl (fun ls hl => ?_)
  have hl : lv_has ls 7 [(3, .int 1), (2, .int (-1)), (0, .ref h0), (1, .int x)] := hl
  refine zz_labM (B := fun (lk : Nat) (K : Heap → List Loc → Array Slot → List Value → Prop) => ∀ (do_ : Int32) (ki : Int32) (H : Heap) (locs : List Loc) (ls : Array Slot), lk = (31 - ki.toInt).toNat → (1 ≤ ki.toInt ∧ ki.toInt ≤ 31) → (do_.toInt = -1 ∨ (1 ≤ do_.toInt ∧ do_.toInt < (fNS x.toNatClampNeg).toInt)) → va_P D CL [(h0, .inr (11, MO ma sv_thrown sv_length sv_nodes sv_many sv_directories sv_runsFrom sv_runs sv_read sv_wrong sv_isNamed sv_goes sv_goesSize sv_goesAt sv_targetParts sv_isRoot)), ((ma 1), .inl (cI, 40, .inl fK)), ((ma 2), .inl (cI, 40, .inl fP)), ((ma 8), .inl (cB, 1200, .inl fN)), ((ma 9), .inl (cI, 40, .inl fNS)), ((ma 12), .inl (cB, 320, .inl fBa)), ((ma 13), .inl (cI, 40, .inl fBs)), ((ma 14), .inl (cB, 120, .inl fEx)), ((ma 15), .inl (cI, 40, .inl fEs))] H → va_D A [(h0, .inr (11, MO ma sv_thrown sv_length sv_nodes sv_many sv_directories sv_runsFrom sv_runs sv_read sv_wrong sv_isNamed sv_goes sv_goesSize sv_goesAt sv_targetParts sv_isRoot)), ((ma 1), .inl (cI, 40, .inl fK)), ((ma 2), .inl (cI, 40, .inl fP)), ((ma 8), .inl (cB, 1200, .inl fN)), ((ma 9), .inl (cI, 40, .inl fNS)), ((ma 12), .inl (cB, 320, .inl fBa)), ((ma 13), .inl (cI, 40, .inl fBs)), ((ma 14), .inl (cB, 120, .inl fEx)), ((ma 15), .inl (cI, 40, .inl fEs))] → va_S A s.heap H locs → lv_has ls 7 [(0, .ref h0), (1, .int x), (2, .int do_), (3, .int ki)] → K H locs ls []) 4 ?_ ?_
  · skip
    intro lk ih4 do_ ki H locs ls hm4 y1 y2 hP hD hS hl
    refine lv_iload_n hx hb d_DiscMakerModel_identify_4 rfl (lv_at hl 3 rfl) ?_
    refine lv_aload_n hx hb d_DiscMakerModel_identify_5 rfl (lv_at hl 0 rfl) ?_
    refine va_get (D := D) (ci := 11) (v := .ref (ma 9)) (C := "DiscMakerModel") (T := F_DiscMakerModel) (N := 48) hx hb ht9 in_DiscMakerModel hown hK hP 0 rfl rfl 12 (by decide) (ht9 _ k1443) (fun _ h9 => h9) rfl d_DiscMakerModel_identify_6 ?_
    refine lv_iload_n hx hb d_DiscMakerModel_identify_9 rfl (lv_at hl 1 rfl) ?_
    refine va_iald hx hb hK hP 4 1 rfl rfl (vp_in_iff.mpr ⟨by omega, by omega⟩) d_DiscMakerModel_identify_10 ?_
    refine lv_topi (fun v1 e_v1 => ?_)
    have t_v1 : 0 ≤ v1.toInt ∧ v1.toInt ≤ 30 := by
      rw [e_v1]; exact hNS _ (by have := i_cl (a := x) (by omega); omega)
    have qv1 : v1.toInt = (fNS x.toNatClampNeg).toInt := by rw [e_v1]
    refine lv_icmp_ge (tgt := 46) hx hb d_DiscMakerModel_identify_11 (by decide) (fun h_9 => ?_) (fun h_9 => ?_)
    · skip
      have g11_10 : v1.toInt ≤ ki.toInt := (i_le rfl rfl).mp h_9
      refine zz_labM (B := fun (lk : Nat) (K : Heap → List Loc → Array Slot → List Value → Prop) => ∀ (en : Int32) (H : Heap) (locs : List Loc) (ls : Array Slot), lk = 0 → (0 ≤ en.toInt ∧ en.toInt ≤ 30) → va_P D CL [(h0, .inr (11, MO ma sv_thrown sv_length sv_nodes sv_many sv_directories sv_runsFrom sv_runs sv_read sv_wrong sv_isNamed sv_goes sv_goesSize sv_goesAt sv_targetParts sv_isRoot)), ((ma 1), .inl (cI, 40, .inl fK)), ((ma 2), .inl (cI, 40, .inl fP)), ((ma 8), .inl (cB, 1200, .inl fN)), ((ma 9), .inl (cI, 40, .inl fNS)), ((ma 12), .inl (cB, 320, .inl fBa)), ((ma 13), .inl (cI, 40, .inl fBs)), ((ma 14), .inl (cB, 120, .inl fEx)), ((ma 15), .inl (cI, 40, .inl fEs))] H → va_D A [(h0, .inr (11, MO ma sv_thrown sv_length sv_nodes sv_many sv_directories sv_runsFrom sv_runs sv_read sv_wrong sv_isNamed sv_goes sv_goesSize sv_goesAt sv_targetParts sv_isRoot)), ((ma 1), .inl (cI, 40, .inl fK)), ((ma 2), .inl (cI, 40, .inl fP)), ((ma 8), .inl (cB, 1200, .inl fN)), ((ma 9), .inl (cI, 40, .inl fNS)), ((ma 12), .inl (cB, 320, .inl fBa)), ((ma 13), .inl (cI, 40, .inl fBs)), ((ma 14), .inl (cB, 120, .inl fEx)), ((ma 15), .inl (cI, 40, .inl fEs))] → va_S A s.heap H locs → lv_has ls 7 [(0, .ref h0), (1, .int x), (2, .int do_)] → K H locs ls [.int en]) 60 ?_ ?_
      · skip
        intro lk ih60 en H locs ls hm60 y3 hP hD hS hl
        refine lv_istore_n hx hb d_DiscMakerModel_identify_60 rfl hl (by decide) rfl (fun ls hl => ?_)
        have hl : lv_has ls 7 [(3, .int en), (0, .ref h0), (1, .int x), (2, .int do_)] := hl
        refine lv_aload_n hx hb d_DiscMakerModel_identify_61 rfl (lv_at hl 1 rfl) ?_
        refine va_get (D := D) (ci := 11) (v := .ref (ma 13)) (C := "DiscMakerModel") (T := F_DiscMakerModel) (N := 48) hx hb ht9 in_DiscMakerModel hown hK hP 0 rfl rfl 16 (by decide) (ht9 _ k1447) (fun _ h9 => h9) rfl d_DiscMakerModel_identify_62 ?_
        refine lv_iload_n hx hb d_DiscMakerModel_identify_65 rfl (lv_at hl 2 rfl) ?_
        refine zz_labM (B := fun (lk : Nat) (K : Heap → List Loc → Array Slot → List Value → Prop) => ∀ (bs : Int32) (H : Heap) (locs : List Loc) (ls : Array Slot), lk = 0 → (0 ≤ bs.toInt ∧ bs.toInt ≤ 8) → va_P D CL [(h0, .inr (11, MO ma sv_thrown sv_length sv_nodes sv_many sv_directories sv_runsFrom sv_runs sv_read sv_wrong sv_isNamed sv_goes sv_goesSize sv_goesAt sv_targetParts sv_isRoot)), ((ma 1), .inl (cI, 40, .inl fK)), ((ma 2), .inl (cI, 40, .inl fP)), ((ma 8), .inl (cB, 1200, .inl fN)), ((ma 9), .inl (cI, 40, .inl fNS)), ((ma 12), .inl (cB, 320, .inl fBa)), ((ma 13), .inl (cI, 40, .inl fBs)), ((ma 14), .inl (cB, 120, .inl fEx)), ((ma 15), .inl (cI, 40, .inl fEs))] H → va_D A [(h0, .inr (11, MO ma sv_thrown sv_length sv_nodes sv_many sv_directories sv_runsFrom sv_runs sv_read sv_wrong sv_isNamed sv_goes sv_goesSize sv_goesAt sv_targetParts sv_isRoot)), ((ma 1), .inl (cI, 40, .inl fK)), ((ma 2), .inl (cI, 40, .inl fP)), ((ma 8), .inl (cB, 1200, .inl fN)), ((ma 9), .inl (cI, 40, .inl fNS)), ((ma 12), .inl (cB, 320, .inl fBa)), ((ma 13), .inl (cI, 40, .inl fBs)), ((ma 14), .inl (cB, 120, .inl fEx)), ((ma 15), .inl (cI, 40, .inl fEs))] → va_S A s.heap H locs → lv_has ls 7 [(0, .ref h0), (1, .int x), (2, .int do_), (3, .int en)] → K H locs ls [.int bs, .int x, .ref (ma 13)]) 78 ?_ ?_
        · skip
          intro lk ih78 bs H locs ls hm78 y5 hP hD hS hl
          refine zq_iast hx hb hK hP hD hS 6 1 rfl rfl (vp_in_iff.mpr ⟨by omega, by omega⟩) d_DiscMakerModel_identify_78 (fun f2 e_f2 H locs hP hD hS => ?_)
          have hP : va_P D CL [(h0, .inr (11, MO ma sv_thrown sv_length sv_nodes sv_many sv_directories sv_runsFrom sv_runs sv_read sv_wrong sv_isNamed sv_goes sv_goesSize sv_goesAt sv_targetParts sv_isRoot)), ((ma 1), .inl (cI, 40, .inl fK)), ((ma 2), .inl (cI, 40, .inl fP)), ((ma 8), .inl (cB, 1200, .inl fN)), ((ma 9), .inl (cI, 40, .inl fNS)), ((ma 12), .inl (cB, 320, .inl fBa)), ((ma 13), .inl (cI, 40, .inl f2)), ((ma 14), .inl (cB, 120, .inl fEx)), ((ma 15), .inl (cI, 40, .inl fEs))] H := hP
          have hD : va_D A [(h0, .inr (11, MO ma sv_thrown sv_length sv_nodes sv_many sv_directories sv_runsFrom sv_runs sv_read sv_wrong sv_isNamed sv_goes sv_goesSize sv_goesAt sv_targetParts sv_isRoot)), ((ma 1), .inl (cI, 40, .inl fK)), ((ma 2), .inl (cI, 40, .inl fP)), ((ma 8), .inl (cB, 1200, .inl fN)), ((ma 9), .inl (cI, 40, .inl fNS)), ((ma 12), .inl (cB, 320, .inl fBa)), ((ma 13), .inl (cI, 40, .inl f2)), ((ma 14), .inl (cB, 120, .inl fEx)), ((ma 15), .inl (cI, 40, .inl fEs))] := hD
          have R_f2 : Rg 0 8 40 f2 := Rg_upd e_f2 hfBs (by omega) (by omega)
          have s_f2 : f2 x.toNatClampNeg = bs := by rw [e_f2]; unfold upd; rw [if_pos (by first | rfl | decide)]
          have l_f2 : ∀ q : Nat, q ≠ x.toNatClampNeg → f2 q = fBs q := fun q hq => by rw [e_f2]; unfold upd; rw [if_neg hq]
          refine lv_iconst (v := 0) hx hb d_DiscMakerModel_identify_79 (by decide) ?_
          refine lv_istore hx hb d_DiscMakerModel_identify_80 hl (by decide) rfl (fun ls hl => ?_)
          have hl : lv_has ls 7 [(4, .int 0), (0, .ref h0), (1, .int x), (2, .int do_), (3, .int en)] := hl
          refine zz_labM (B := fun (lk : Nat) (K : Heap → List Loc → Array Slot → List Value → Prop) => ∀ (k4 : Int32) (lBa : Nat → Int32) (H : Heap) (locs : List Loc) (ls : Array Slot), lk = (8 - k4.toInt).toNat → (0 ≤ k4.toInt ∧ k4.toInt ≤ 8) → (∀ q : Nat, q < 8 * x.toNatClampNeg ∨ 8 * x.toNatClampNeg + 8 ≤ q → lBa q = fBa q) → (Rg (-128) 127 320 lBa) → va_P D CL [(h0, .inr (11, MO ma sv_thrown sv_length sv_nodes sv_many sv_directories sv_runsFrom sv_runs sv_read sv_wrong sv_isNamed sv_goes sv_goesSize sv_goesAt sv_targetParts sv_isRoot)), ((ma 1), .inl (cI, 40, .inl fK)), ((ma 2), .inl (cI, 40, .inl fP)), ((ma 8), .inl (cB, 1200, .inl fN)), ((ma 9), .inl (cI, 40, .inl fNS)), ((ma 12), .inl (cB, 320, .inl lBa)), ((ma 13), .inl (cI, 40, .inl f2)), ((ma 14), .inl (cB, 120, .inl fEx)), ((ma 15), .inl (cI, 40, .inl fEs))] H → va_D A [(h0, .inr (11, MO ma sv_thrown sv_length sv_nodes sv_many sv_directories sv_runsFrom sv_runs sv_read sv_wrong sv_isNamed sv_goes sv_goesSize sv_goesAt sv_targetParts sv_isRoot)), ((ma 1), .inl (cI, 40, .inl fK)), ((ma 2), .inl (cI, 40, .inl fP)), ((ma 8), .inl (cB, 1200, .inl fN)), ((ma 9), .inl (cI, 40, .inl fNS)), ((ma 12), .inl (cB, 320, .inl lBa)), ((ma 13), .inl (cI, 40, .inl f2)), ((ma 14), .inl (cB, 120, .inl fEx)), ((ma 15), .inl (cI, 40, .inl fEs))] → va_S A s.heap H locs → lv_has ls 7 [(0, .ref h0), (1, .int x), (2, .int do_), (3, .int en), (4, .int k4)] → K H locs ls []) 82 ?_ ?_
          · skip
            intro lk ih82 k4 lBa H locs ls hm82 y7 y4 hlBa hP hD hS hl
            refine lv_iload hx hb d_DiscMakerModel_identify_82 (lv_at hl 4 rfl) ?_
            refine lv_aload_n hx hb d_DiscMakerModel_identify_84 rfl (lv_at hl 0 rfl) ?_
            refine va_get (D := D) (ci := 11) (v := .ref (ma 13)) (C := "DiscMakerModel") (T := F_DiscMakerModel) (N := 48) hx hb ht9 in_DiscMakerModel hown hK hP 0 rfl rfl 16 (by decide) (ht9 _ k1447) (fun _ h9 => h9) rfl d_DiscMakerModel_identify_85 ?_
            refine lv_iload_n hx hb d_DiscMakerModel_identify_88 rfl (lv_at hl 1 rfl) ?_
            refine va_iald hx hb hK hP 6 1 rfl rfl (vp_in_iff.mpr ⟨by omega, by omega⟩) d_DiscMakerModel_identify_89 ?_
            refine lv_topi (fun v3 e_v3 => ?_)
            have t_v3 : 0 ≤ v3.toInt ∧ v3.toInt ≤ 8 := by
              rw [e_v3]; exact R_f2 _ (by have := i_cl (a := x) (by omega); omega)
            have q_v3 : v3.toInt = bs.toInt := by rw [e_v3, s_f2]; try decide
            refine lv_icmp_ge (tgt := 122) hx hb d_DiscMakerModel_identify_90 (by decide) (fun h_9 => ?_) (fun h_9 => ?_)
            · skip
              have g90_23 : v3.toInt ≤ k4.toInt := (i_le rfl rfl).mp h_9
              refine zz_labM (B := fun (lk : Nat) (K : Heap → List Loc → Array Slot → List Value → Prop) => ∀ (lf : Int32) (H : Heap) (locs : List Loc) (ls : Array Slot), lk = 0 → (0 ≤ lf.toInt ∧ lf.toInt ≤ 30) → va_P D CL [(h0, .inr (11, MO ma sv_thrown sv_length sv_nodes sv_many sv_directories sv_runsFrom sv_runs sv_read sv_wrong sv_isNamed sv_goes sv_goesSize sv_goesAt sv_targetParts sv_isRoot)), ((ma 1), .inl (cI, 40, .inl fK)), ((ma 2), .inl (cI, 40, .inl fP)), ((ma 8), .inl (cB, 1200, .inl fN)), ((ma 9), .inl (cI, 40, .inl fNS)), ((ma 12), .inl (cB, 320, .inl lBa)), ((ma 13), .inl (cI, 40, .inl f2)), ((ma 14), .inl (cB, 120, .inl fEx)), ((ma 15), .inl (cI, 40, .inl fEs))] H → va_D A [(h0, .inr (11, MO ma sv_thrown sv_length sv_nodes sv_many sv_directories sv_runsFrom sv_runs sv_read sv_wrong sv_isNamed sv_goes sv_goesSize sv_goesAt sv_targetParts sv_isRoot)), ((ma 1), .inl (cI, 40, .inl fK)), ((ma 2), .inl (cI, 40, .inl fP)), ((ma 8), .inl (cB, 1200, .inl fN)), ((ma 9), .inl (cI, 40, .inl fNS)), ((ma 12), .inl (cB, 320, .inl lBa)), ((ma 13), .inl (cI, 40, .inl f2)), ((ma 14), .inl (cB, 120, .inl fEx)), ((ma 15), .inl (cI, 40, .inl fEs))] → va_S A s.heap H locs → lv_has ls 7 [(0, .ref h0), (1, .int x), (2, .int do_), (3, .int en)] → K H locs ls [.int lf]) 140 ?_ ?_
              · skip
                intro lk ih140 lf H locs ls hm140 y11 hP hD hS hl
                refine lv_istore hx hb d_DiscMakerModel_identify_140 hl (by decide) rfl (fun ls hl => ?_)
                have hl : lv_has ls 7 [(4, .int lf), (0, .ref h0), (1, .int x), (2, .int do_), (3, .int en)] := hl
                refine lv_aload_n hx hb d_DiscMakerModel_identify_142 rfl (lv_at hl 1 rfl) ?_
                refine va_get (D := D) (ci := 11) (v := .ref (ma 15)) (C := "DiscMakerModel") (T := F_DiscMakerModel) (N := 48) hx hb ht9 in_DiscMakerModel hown hK hP 0 rfl rfl 18 (by decide) (ht9 _ k1449) (fun _ h9 => h9) rfl d_DiscMakerModel_identify_143 ?_
                refine lv_iload_n hx hb d_DiscMakerModel_identify_146 rfl (lv_at hl 2 rfl) ?_
                refine zz_labM (B := fun (lk : Nat) (K : Heap → List Loc → Array Slot → List Value → Prop) => ∀ (es : Int32) (H : Heap) (locs : List Loc) (ls : Array Slot), lk = 0 → (0 ≤ es.toInt ∧ es.toInt ≤ 3) → va_P D CL [(h0, .inr (11, MO ma sv_thrown sv_length sv_nodes sv_many sv_directories sv_runsFrom sv_runs sv_read sv_wrong sv_isNamed sv_goes sv_goesSize sv_goesAt sv_targetParts sv_isRoot)), ((ma 1), .inl (cI, 40, .inl fK)), ((ma 2), .inl (cI, 40, .inl fP)), ((ma 8), .inl (cB, 1200, .inl fN)), ((ma 9), .inl (cI, 40, .inl fNS)), ((ma 12), .inl (cB, 320, .inl lBa)), ((ma 13), .inl (cI, 40, .inl f2)), ((ma 14), .inl (cB, 120, .inl fEx)), ((ma 15), .inl (cI, 40, .inl fEs))] H → va_D A [(h0, .inr (11, MO ma sv_thrown sv_length sv_nodes sv_many sv_directories sv_runsFrom sv_runs sv_read sv_wrong sv_isNamed sv_goes sv_goesSize sv_goesAt sv_targetParts sv_isRoot)), ((ma 1), .inl (cI, 40, .inl fK)), ((ma 2), .inl (cI, 40, .inl fP)), ((ma 8), .inl (cB, 1200, .inl fN)), ((ma 9), .inl (cI, 40, .inl fNS)), ((ma 12), .inl (cB, 320, .inl lBa)), ((ma 13), .inl (cI, 40, .inl f2)), ((ma 14), .inl (cB, 120, .inl fEx)), ((ma 15), .inl (cI, 40, .inl fEs))] → va_S A s.heap H locs → lv_has ls 7 [(0, .ref h0), (1, .int x), (2, .int do_), (3, .int en), (4, .int lf)] → K H locs ls [.int es, .int x, .ref (ma 15)]) 159 ?_ ?_
                · skip
                  intro lk ih159 es H locs ls hm159 y12 hP hD hS hl
                  refine zq_iast hx hb hK hP hD hS 8 1 rfl rfl (vp_in_iff.mpr ⟨by omega, by omega⟩) d_DiscMakerModel_identify_159 (fun f4 e_f4 H locs hP hD hS => ?_)
                  have hP : va_P D CL [(h0, .inr (11, MO ma sv_thrown sv_length sv_nodes sv_many sv_directories sv_runsFrom sv_runs sv_read sv_wrong sv_isNamed sv_goes sv_goesSize sv_goesAt sv_targetParts sv_isRoot)), ((ma 1), .inl (cI, 40, .inl fK)), ((ma 2), .inl (cI, 40, .inl fP)), ((ma 8), .inl (cB, 1200, .inl fN)), ((ma 9), .inl (cI, 40, .inl fNS)), ((ma 12), .inl (cB, 320, .inl lBa)), ((ma 13), .inl (cI, 40, .inl f2)), ((ma 14), .inl (cB, 120, .inl fEx)), ((ma 15), .inl (cI, 40, .inl f4))] H := hP
                  have hD : va_D A [(h0, .inr (11, MO ma sv_thrown sv_length sv_nodes sv_many sv_directories sv_runsFrom sv_runs sv_read sv_wrong sv_isNamed sv_goes sv_goesSize sv_goesAt sv_targetParts sv_isRoot)), ((ma 1), .inl (cI, 40, .inl fK)), ((ma 2), .inl (cI, 40, .inl fP)), ((ma 8), .inl (cB, 1200, .inl fN)), ((ma 9), .inl (cI, 40, .inl fNS)), ((ma 12), .inl (cB, 320, .inl lBa)), ((ma 13), .inl (cI, 40, .inl f2)), ((ma 14), .inl (cB, 120, .inl fEx)), ((ma 15), .inl (cI, 40, .inl f4))] := hD
                  have R_f4 : Rg 0 3 40 f4 := Rg_upd e_f4 hfEs (by omega) (by omega)
                  have s_f4 : f4 x.toNatClampNeg = es := by rw [e_f4]; unfold upd; rw [if_pos (by first | rfl | decide)]
                  have l_f4 : ∀ q : Nat, q ≠ x.toNatClampNeg → f4 q = fEs q := fun q hq => by rw [e_f4]; unfold upd; rw [if_neg hq]
                  refine lv_iconst (v := 0) hx hb d_DiscMakerModel_identify_160 (by decide) ?_
                  refine lv_istore hx hb d_DiscMakerModel_identify_161 hl (by decide) rfl (fun ls hl => ?_)
                  have hl : lv_has ls 7 [(5, .int 0), (0, .ref h0), (1, .int x), (2, .int do_), (3, .int en), (4, .int lf)] := hl
                  refine zz_labM (B := fun (lk : Nat) (K : Heap → List Loc → Array Slot → List Value → Prop) => ∀ (k5 : Int32) (lEx : Nat → Int32) (H : Heap) (locs : List Loc) (ls : Array Slot), lk = (3 - k5.toInt).toNat → (0 ≤ k5.toInt ∧ k5.toInt ≤ 3) → (∀ q : Nat, q < 3 * x.toNatClampNeg ∨ 3 * x.toNatClampNeg + 3 ≤ q → lEx q = fEx q) → (Rg (-128) 127 120 lEx) → va_P D CL [(h0, .inr (11, MO ma sv_thrown sv_length sv_nodes sv_many sv_directories sv_runsFrom sv_runs sv_read sv_wrong sv_isNamed sv_goes sv_goesSize sv_goesAt sv_targetParts sv_isRoot)), ((ma 1), .inl (cI, 40, .inl fK)), ((ma 2), .inl (cI, 40, .inl fP)), ((ma 8), .inl (cB, 1200, .inl fN)), ((ma 9), .inl (cI, 40, .inl fNS)), ((ma 12), .inl (cB, 320, .inl lBa)), ((ma 13), .inl (cI, 40, .inl f2)), ((ma 14), .inl (cB, 120, .inl lEx)), ((ma 15), .inl (cI, 40, .inl f4))] H → va_D A [(h0, .inr (11, MO ma sv_thrown sv_length sv_nodes sv_many sv_directories sv_runsFrom sv_runs sv_read sv_wrong sv_isNamed sv_goes sv_goesSize sv_goesAt sv_targetParts sv_isRoot)), ((ma 1), .inl (cI, 40, .inl fK)), ((ma 2), .inl (cI, 40, .inl fP)), ((ma 8), .inl (cB, 1200, .inl fN)), ((ma 9), .inl (cI, 40, .inl fNS)), ((ma 12), .inl (cB, 320, .inl lBa)), ((ma 13), .inl (cI, 40, .inl f2)), ((ma 14), .inl (cB, 120, .inl lEx)), ((ma 15), .inl (cI, 40, .inl f4))] → va_S A s.heap H locs → lv_has ls 7 [(0, .ref h0), (1, .int x), (2, .int do_), (3, .int en), (4, .int lf), (5, .int k5)] → K H locs ls []) 163 ?_ ?_
                  · skip
                    intro lk ih163 k5 lEx H locs ls hm163 y13 y6 hlEx hP hD hS hl
                    refine lv_iload hx hb d_DiscMakerModel_identify_163 (lv_at hl 5 rfl) ?_
                    refine lv_aload_n hx hb d_DiscMakerModel_identify_165 rfl (lv_at hl 0 rfl) ?_
                    refine va_get (D := D) (ci := 11) (v := .ref (ma 15)) (C := "DiscMakerModel") (T := F_DiscMakerModel) (N := 48) hx hb ht9 in_DiscMakerModel hown hK hP 0 rfl rfl 18 (by decide) (ht9 _ k1449) (fun _ h9 => h9) rfl d_DiscMakerModel_identify_166 ?_
                    refine lv_iload_n hx hb d_DiscMakerModel_identify_169 rfl (lv_at hl 1 rfl) ?_
                    refine va_iald hx hb hK hP 8 1 rfl rfl (vp_in_iff.mpr ⟨by omega, by omega⟩) d_DiscMakerModel_identify_170 ?_
                    refine lv_topi (fun v5 e_v5 => ?_)
                    have t_v5 : 0 ≤ v5.toInt ∧ v5.toInt ≤ 3 := by
                      rw [e_v5]; exact R_f4 _ (by have := i_cl (a := x) (by omega); omega)
                    have q_v5 : v5.toInt = es.toInt := by rw [e_v5, s_f4]; try decide
                    refine lv_icmp_ge (tgt := 206) hx hb d_DiscMakerModel_identify_171 (by decide) (fun h_9 => ?_) (fun h_9 => ?_)
                    · skip
                      have g171_36 : v5.toInt ≤ k5.toInt := (i_le rfl rfl).mp h_9
                      refine lv_aload_n hx hb d_DiscMakerModel_identify_206 rfl (lv_at hl 0 rfl) ?_
                      refine lv_iload_n hx hb d_DiscMakerModel_identify_207 rfl (lv_at hl 1 rfl) ?_
                      have hPc := hP.sub (ws' := [(h0, .inr (11, MO ma sv_thrown sv_length sv_nodes sv_many sv_directories sv_runsFrom sv_runs sv_read sv_wrong sv_isNamed sv_goes sv_goesSize sv_goesAt sv_targetParts sv_isRoot)), ((ma 2), .inl (cI, 40, .inl fP)), ((ma 12), .inl (cB, 320, .inl lBa)), ((ma 13), .inl (cI, 40, .inl f2)), ((ma 14), .inl (cB, 120, .inl lEx)), ((ma 15), .inl (cI, 40, .inl f4))]) [0, 2, 5, 6, 7, 8] rfl
                      have hDc := hD.sub (ws' := [(h0, .inr (11, MO ma sv_thrown sv_length sv_nodes sv_many sv_directories sv_runsFrom sv_runs sv_read sv_wrong sv_isNamed sv_goes sv_goesSize sv_goesAt sv_targetParts sv_isRoot)), ((ma 2), .inl (cI, 40, .inl fP)), ((ma 12), .inl (cB, 320, .inl lBa)), ((ma 13), .inl (cI, 40, .inl f2)), ((ma 14), .inl (cB, 120, .inl lEx)), ((ma 15), .inl (cI, 40, .inl f4))]) [0, 2, 5, 6, 7, 8] (by decide +kernel) rfl
                      have hFc := va_free (wc := [(h0, .inr (11, MO ma sv_thrown sv_length sv_nodes sv_many sv_directories sv_runsFrom sv_runs sv_read sv_wrong sv_isNamed sv_goes sv_goesSize sv_goesAt sv_targetParts sv_isRoot)), ((ma 2), .inl (cI, 40, .inl fP)), ((ma 12), .inl (cB, 320, .inl lBa)), ((ma 13), .inl (cI, 40, .inl f2)), ((ma 14), .inl (cB, 120, .inl lEx)), ((ma 15), .inl (cI, 40, .inl f4))]) hD hS hA [0, 2, 5, 6, 7, 8] rfl
                      have hkc : 0 ≤ 0 := by decide
                      have hks : 0 ≤ 0 := by decide
                      refine va_calli (va_runV (C := "DiscMakerModel") (As := [.int x]) (rest := []) ⟨hx, hb, hml, hown, hts⟩ (m_isTaken l D cB cI cJ cZ cN cF H.size h0 ma sv_thrown sv_length sv_nodes sv_many sv_directories sv_runsFrom sv_runs sv_read sv_wrong sv_isNamed sv_goes sv_goesSize sv_goesAt sv_targetParts sv_isRoot fP lBa f2 lEx f4 x (by (try dsimp only); first | assumption | omega | trivial) (by (try dsimp only); first | assumption | omega | trivial) (by (try dsimp only); first | assumption | omega | trivial) (by (try dsimp only); first | assumption | omega | trivial) (by (try dsimp only); first | assumption | omega | trivial)) (cwV 1 hts (lg_goodV k1655 k1657 k61 k125 kc_DiscMakerModel_isTaken) rfl rfl rfl (by decide +kernel) ⟨Nat.le_of_ble_eq_true rfl, Nat.le_of_ble_eq_true rfl⟩) ⟨fun a U g mk q => by obtain ⟨q0, q1, qP, qK, qN, qD⟩ := q; exact ⟨q0, q1, qP, va_K.moved (u := U) (U := U.calling g mk a) (Vm.Alike.refl U.vm) qK, qN.calling, qD⟩, va_recv hK hP (ci := 11) (q0 := 0) rfl rfl, fun U hU hW => ⟨rfl, by rw [hU], by rw [hU]; exact hPc, va_K.moved hW.alike hK, NN.warm hW hN, hDc.weaken (fun _ _ _ _ => trivial)⟩⟩ rfl rfl hl.1 rfl (lv_room (Nat.le_of_ble_eq_true rfl)) d_DiscMakerModel_identify_208 ⟨hkc, hks⟩) hS (fun q _ h => hFc q h) hFc (fun r6 u t H1 locs ht hvm hp_r6 hB hz1 hk1 hS => ?_)
                      obtain ⟨hP1, hD1⟩ := hB
                      rw [ht] at hP1
                      obtain ⟨hP, hD⟩ := va_join (wr := [((ma 1), .inl (cI, 40, .inl fK)), ((ma 8), .inl (cB, 1200, .inl fN)), ((ma 9), .inl (cI, 40, .inl fNS))]) (w1 := [(h0, .inr (11, MO ma sv_thrown sv_length sv_nodes sv_many sv_directories sv_runsFrom sv_runs sv_read sv_wrong sv_isNamed sv_goes sv_goesSize sv_goesAt sv_targetParts sv_isRoot)), ((ma 2), .inl (cI, 40, .inl fP)), ((ma 12), .inl (cB, 320, .inl lBa)), ((ma 13), .inl (cI, 40, .inl f2)), ((ma 14), .inl (cB, 120, .inl lEx)), ((ma 15), .inl (cI, 40, .inl f4))]) hP hD [0, 2, 5, 6, 7, 8] [1, 3, 4] rfl rfl (by decide +kernel) (by decide +kernel) hk1 hFc hP1 hD1
                      clear hPc hDc hFc hP1 hD1 hk1 hz1 hkc hks
                      generalize H1 = H at hP hS ⊢
                      have hP : va_P D CL [((ma 1), .inl (cI, 40, .inl fK)), ((ma 8), .inl (cB, 1200, .inl fN)), ((ma 9), .inl (cI, 40, .inl fNS)), (h0, .inr (11, MO ma sv_thrown sv_length sv_nodes sv_many sv_directories sv_runsFrom sv_runs sv_read sv_wrong sv_isNamed sv_goes sv_goesSize sv_goesAt sv_targetParts sv_isRoot)), ((ma 2), .inl (cI, 40, .inl fP)), ((ma 12), .inl (cB, 320, .inl lBa)), ((ma 13), .inl (cI, 40, .inl f2)), ((ma 14), .inl (cB, 120, .inl lEx)), ((ma 15), .inl (cI, 40, .inl f4))] H := hP
                      have hD : va_D A [((ma 1), .inl (cI, 40, .inl fK)), ((ma 8), .inl (cB, 1200, .inl fN)), ((ma 9), .inl (cI, 40, .inl fNS)), (h0, .inr (11, MO ma sv_thrown sv_length sv_nodes sv_many sv_directories sv_runsFrom sv_runs sv_read sv_wrong sv_isNamed sv_goes sv_goesSize sv_goesAt sv_targetParts sv_isRoot)), ((ma 2), .inl (cI, 40, .inl fP)), ((ma 12), .inl (cB, 320, .inl lBa)), ((ma 13), .inl (cI, 40, .inl f2)), ((ma 14), .inl (cB, 120, .inl lEx)), ((ma 15), .inl (cI, 40, .inl f4))] := hD
                      try dsimp only at hp_r6
                      obtain ⟨hr_7, hq_8, hq0_9⟩ := hp_r6
                      refine lv_if_ne (tgt := 215) hx hb d_DiscMakerModel_identify_211 (by decide) (fun h_9 => ?_) (fun h_9 => ?_)
                      · skip
                        have g211_40 : ¬ r6.toInt = 0 := fun h8 => h_9 ((i_eq rfl (by decide)).mpr h8)
                        refine zz_labM (B := fun (lk : Nat) (K : Heap → List Loc → Array Slot → List Value → Prop) => ∀ (nn : Int32) (H : Heap) (locs : List Loc) (ls : Array Slot), lk = 0 → (0 ≤ nn.toInt ∧ nn.toInt ≤ 5) → va_P D CL [((ma 1), .inl (cI, 40, .inl fK)), ((ma 8), .inl (cB, 1200, .inl fN)), ((ma 9), .inl (cI, 40, .inl fNS)), (h0, .inr (11, MO ma sv_thrown sv_length sv_nodes sv_many sv_directories sv_runsFrom sv_runs sv_read sv_wrong sv_isNamed sv_goes sv_goesSize sv_goesAt sv_targetParts sv_isRoot)), ((ma 2), .inl (cI, 40, .inl fP)), ((ma 12), .inl (cB, 320, .inl lBa)), ((ma 13), .inl (cI, 40, .inl f2)), ((ma 14), .inl (cB, 120, .inl lEx)), ((ma 15), .inl (cI, 40, .inl f4))] H → va_D A [((ma 1), .inl (cI, 40, .inl fK)), ((ma 8), .inl (cB, 1200, .inl fN)), ((ma 9), .inl (cI, 40, .inl fNS)), (h0, .inr (11, MO ma sv_thrown sv_length sv_nodes sv_many sv_directories sv_runsFrom sv_runs sv_read sv_wrong sv_isNamed sv_goes sv_goesSize sv_goesAt sv_targetParts sv_isRoot)), ((ma 2), .inl (cI, 40, .inl fP)), ((ma 12), .inl (cB, 320, .inl lBa)), ((ma 13), .inl (cI, 40, .inl f2)), ((ma 14), .inl (cB, 120, .inl lEx)), ((ma 15), .inl (cI, 40, .inl f4))] → va_S A s.heap H locs → lv_has ls 7 [(0, .ref h0), (1, .int x), (2, .int do_), (3, .int en), (4, .int lf), (5, .int k5)] → K H locs ls [.int nn]) 235 ?_ ?_
                        · skip
                          intro lk ih235 nn H locs ls hm235 y14 hP hD hS hl
                          refine lv_istore hx hb d_DiscMakerModel_identify_235 hl (by decide) rfl (fun ls hl => ?_)
                          have hl : lv_has ls 7 [(5, .int nn), (0, .ref h0), (1, .int x), (2, .int do_), (3, .int en), (4, .int lf)] := hl
                          refine lv_aload_n hx hb d_DiscMakerModel_identify_237 rfl (lv_at hl 1 rfl) ?_
                          refine va_get (D := D) (ci := 11) (v := .ref (ma 13)) (C := "DiscMakerModel") (T := F_DiscMakerModel) (N := 48) hx hb ht9 in_DiscMakerModel hown hK hP 3 rfl rfl 16 (by decide) (ht9 _ k1447) (fun _ h9 => h9) rfl d_DiscMakerModel_identify_238 ?_
                          refine lv_iload_n hx hb d_DiscMakerModel_identify_241 rfl (lv_at hl 2 rfl) ?_
                          refine lv_iload hx hb d_DiscMakerModel_identify_242 (lv_at hl 0 rfl) ?_
                          refine lv_iconst (v := 3) hx hb d_DiscMakerModel_identify_244 (by decide) ?_
                          refine lv_iadd hx hb d_DiscMakerModel_identify_245 ?_
                          refine lv_topi (fun v10 e_v10 => ?_)
                          have t_v10 : v10.toInt = nn.toInt + 3 := by rw [e_v10]; exact i_add rfl (by decide) (by omega) (by omega)
                          refine zq_iast hx hb hK hP hD hS 6 1 rfl rfl (vp_in_iff.mpr ⟨by omega, by omega⟩) d_DiscMakerModel_identify_246 (fun f11 e_f11 H locs hP hD hS => ?_)
                          have hP : va_P D CL [((ma 1), .inl (cI, 40, .inl fK)), ((ma 8), .inl (cB, 1200, .inl fN)), ((ma 9), .inl (cI, 40, .inl fNS)), (h0, .inr (11, MO ma sv_thrown sv_length sv_nodes sv_many sv_directories sv_runsFrom sv_runs sv_read sv_wrong sv_isNamed sv_goes sv_goesSize sv_goesAt sv_targetParts sv_isRoot)), ((ma 2), .inl (cI, 40, .inl fP)), ((ma 12), .inl (cB, 320, .inl lBa)), ((ma 13), .inl (cI, 40, .inl f11)), ((ma 14), .inl (cB, 120, .inl lEx)), ((ma 15), .inl (cI, 40, .inl f4))] H := hP
                          have hD : va_D A [((ma 1), .inl (cI, 40, .inl fK)), ((ma 8), .inl (cB, 1200, .inl fN)), ((ma 9), .inl (cI, 40, .inl fNS)), (h0, .inr (11, MO ma sv_thrown sv_length sv_nodes sv_many sv_directories sv_runsFrom sv_runs sv_read sv_wrong sv_isNamed sv_goes sv_goesSize sv_goesAt sv_targetParts sv_isRoot)), ((ma 2), .inl (cI, 40, .inl fP)), ((ma 12), .inl (cB, 320, .inl lBa)), ((ma 13), .inl (cI, 40, .inl f11)), ((ma 14), .inl (cB, 120, .inl lEx)), ((ma 15), .inl (cI, 40, .inl f4))] := hD
                          have R_f11 : Rg 0 8 40 f11 := Rg_upd e_f11 R_f2 (by omega) (by omega)
                          have s_f11 : f11 x.toNatClampNeg = v10 := by rw [e_f11]; unfold upd; rw [if_pos (by first | rfl | decide)]
                          have l_f11 : ∀ q : Nat, q ≠ x.toNatClampNeg → f11 q = fBs q := fun q hq => by rw [e_f11]; unfold upd; rw [if_neg hq]; exact l_f2 q hq
                          refine lv_iconst (v := 0) hx hb d_DiscMakerModel_identify_247 (by decide) ?_
                          refine lv_istore hx hb d_DiscMakerModel_identify_248 hl (by decide) rfl (fun ls hl => ?_)
                          have hl : lv_has ls 7 [(6, .int 0), (5, .int nn), (0, .ref h0), (1, .int x), (2, .int do_), (3, .int en), (4, .int lf)] := hl
                          refine zz_labM (B := fun (lk : Nat) (K : Heap → List Loc → Array Slot → List Value → Prop) => ∀ (lv : Int32) (nBa : Nat → Int32) (H : Heap) (locs : List Loc) (ls : Array Slot), lk = (100 - lv.toInt).toNat → (∀ q : Nat, q < 8 * x.toNatClampNeg ∨ 8 * x.toNatClampNeg + 8 ≤ q → nBa q = fBa q) → (Rg (-128) 127 320 nBa) → (0 ≤ lv.toInt ∧ lv.toInt ≤ 100) → (DG (kyF nBa f11 lEx f4) nn.toNatClampNeg x.toNatClampNeg lv.toNatClampNeg) → va_P D CL [((ma 1), .inl (cI, 40, .inl fK)), ((ma 8), .inl (cB, 1200, .inl fN)), ((ma 9), .inl (cI, 40, .inl fNS)), (h0, .inr (11, MO ma sv_thrown sv_length sv_nodes sv_many sv_directories sv_runsFrom sv_runs sv_read sv_wrong sv_isNamed sv_goes sv_goesSize sv_goesAt sv_targetParts sv_isRoot)), ((ma 2), .inl (cI, 40, .inl fP)), ((ma 12), .inl (cB, 320, .inl nBa)), ((ma 13), .inl (cI, 40, .inl f11)), ((ma 14), .inl (cB, 120, .inl lEx)), ((ma 15), .inl (cI, 40, .inl f4))] H → va_D A [((ma 1), .inl (cI, 40, .inl fK)), ((ma 8), .inl (cB, 1200, .inl fN)), ((ma 9), .inl (cI, 40, .inl fNS)), (h0, .inr (11, MO ma sv_thrown sv_length sv_nodes sv_many sv_directories sv_runsFrom sv_runs sv_read sv_wrong sv_isNamed sv_goes sv_goesSize sv_goesAt sv_targetParts sv_isRoot)), ((ma 2), .inl (cI, 40, .inl fP)), ((ma 12), .inl (cB, 320, .inl nBa)), ((ma 13), .inl (cI, 40, .inl f11)), ((ma 14), .inl (cB, 120, .inl lEx)), ((ma 15), .inl (cI, 40, .inl f4))] → va_S A s.heap H locs → lv_has ls 7 [(0, .ref h0), (1, .int x), (2, .int do_), (3, .int en), (4, .int lf), (5, .int nn), (6, .int lv)] → K H locs ls []) 250 ?_ ?_
                          · skip
                            intro lk ih250 lv nBa H locs ls hm250 y9 hnBa y8 y10 hP hD hS hl
                            have hdg := DG_le y10 (by have := i_cl (a := lv) (by omega); omega) (by omega)
                            have hlvc := i_cl (a := lv) (by omega)
                            refine lv_aload_n hx hb d_DiscMakerModel_identify_250 rfl (lv_at hl 0 rfl) ?_
                            refine va_get (D := D) (ci := 11) (v := .ref (ma 12)) (C := "DiscMakerModel") (T := F_DiscMakerModel) (N := 48) hx hb ht9 in_DiscMakerModel hown hK hP 3 rfl rfl 15 (by decide) (ht9 _ k1446) (fun _ h9 => h9) rfl d_DiscMakerModel_identify_251 ?_
                            refine lv_bipush (v := 8) hx hb d_DiscMakerModel_identify_254 (by decide) ?_
                            refine lv_iload_n hx hb d_DiscMakerModel_identify_256 rfl (lv_at hl 1 rfl) ?_
                            refine lv_imul hx hb d_DiscMakerModel_identify_257 ?_
                            refine lv_topi (fun v12 e_v12 => ?_)
                            have t_v12 : v12.toInt = 8 * x.toInt := by rw [e_v12]; exact i_mul (by decide) rfl (by omega) (by omega)
                            refine lv_iload hx hb d_DiscMakerModel_identify_258 (lv_at hl 5 rfl) ?_
                            refine lv_iadd hx hb d_DiscMakerModel_identify_260 ?_
                            refine lv_topi (fun v13 e_v13 => ?_)
                            have t_v13 : v13.toInt = v12.toInt + nn.toInt := by rw [e_v13]; exact i_add rfl rfl (by omega) (by omega)
                            refine lv_bipush (v := 48) hx hb d_DiscMakerModel_identify_261 (by decide) ?_
                            refine lv_iload hx hb d_DiscMakerModel_identify_263 (lv_at hl 6 rfl) ?_
                            refine lv_bipush (v := 100) hx hb d_DiscMakerModel_identify_265 (by decide) ?_
                            refine lv_idiv hx hb d_DiscMakerModel_identify_267 (by decide) ?_
                            refine lv_topi (fun v14 e_v14 => ?_)
                            have t_v14 : v14.toInt = lv.toInt / 100 := by rw [e_v14]; exact i_div rfl (by decide) (by omega) (by omega)
                            refine lv_iadd hx hb d_DiscMakerModel_identify_268 ?_
                            refine lv_topi (fun v15 e_v15 => ?_)
                            have t_v15 : v15.toInt = 48 + v14.toInt := by rw [e_v15]; exact i_add (by decide) rfl (by omega) (by omega)
                            refine lv_i2b hx hb d_DiscMakerModel_identify_269 rfl ?_
                            refine lv_topi (fun v16 e_v16 => ?_)
                            have t_v16 : (-128) ≤ v16.toInt ∧ v16.toInt ≤ 127 := by rw [e_v16]; exact i_b _
                            refine zq_bast hx hb hK hP hD hS 5 0 rfl rfl (vp_in_iff.mpr ⟨by omega, by omega⟩) d_DiscMakerModel_identify_270 (fun f17 e_f17 H locs hP hD hS => ?_)
                            have hP : va_P D CL [((ma 1), .inl (cI, 40, .inl fK)), ((ma 8), .inl (cB, 1200, .inl fN)), ((ma 9), .inl (cI, 40, .inl fNS)), (h0, .inr (11, MO ma sv_thrown sv_length sv_nodes sv_many sv_directories sv_runsFrom sv_runs sv_read sv_wrong sv_isNamed sv_goes sv_goesSize sv_goesAt sv_targetParts sv_isRoot)), ((ma 2), .inl (cI, 40, .inl fP)), ((ma 12), .inl (cB, 320, .inl f17)), ((ma 13), .inl (cI, 40, .inl f11)), ((ma 14), .inl (cB, 120, .inl lEx)), ((ma 15), .inl (cI, 40, .inl f4))] H := hP
                            have hD : va_D A [((ma 1), .inl (cI, 40, .inl fK)), ((ma 8), .inl (cB, 1200, .inl fN)), ((ma 9), .inl (cI, 40, .inl fNS)), (h0, .inr (11, MO ma sv_thrown sv_length sv_nodes sv_many sv_directories sv_runsFrom sv_runs sv_read sv_wrong sv_isNamed sv_goes sv_goesSize sv_goesAt sv_targetParts sv_isRoot)), ((ma 2), .inl (cI, 40, .inl fP)), ((ma 12), .inl (cB, 320, .inl f17)), ((ma 13), .inl (cI, 40, .inl f11)), ((ma 14), .inl (cB, 120, .inl lEx)), ((ma 15), .inl (cI, 40, .inl f4))] := hD
                            have R_f17 : Rg (-128) 127 320 f17 := Rg_updB e_f17 hnBa (by decide) (by decide)
                            have l_f17 : ∀ q : Nat, q < 8 * x.toNatClampNeg ∨ 8 * x.toNatClampNeg + 8 ≤ q → f17 q = fBa q := fun q hq => by rw [e_f17]; unfold upd; rw [if_neg (by have := i_cl (a := v13) (by omega); omega)]; exact y9 q hq
                            have e2x_f17 : f17 = upd nBa (8 * x.toNatClampNeg + nn.toNatClampNeg) (vp_nar .byte v16) := by rw [e_f17, show v13.toNatClampNeg = 8 * x.toNatClampNeg + nn.toNatClampNeg by (have := i_cl (a := v13) (by omega); have := i_cl (a := nn) (by omega); omega)]
                            have vb_f17 : (vp_nar .byte v16).toInt = 48 + lv.toInt / 100 := by rw [show vp_nar .byte v16 = v16.toInt8.toInt32 from rfl, e_v16, i_bsmall (w := v15) (by omega), i_bsmall (by omega)]; omega
                            refine lv_aload_n hx hb d_DiscMakerModel_identify_271 rfl (lv_at hl 0 rfl) ?_
                            refine va_get (D := D) (ci := 11) (v := .ref (ma 12)) (C := "DiscMakerModel") (T := F_DiscMakerModel) (N := 48) hx hb ht9 in_DiscMakerModel hown hK hP 3 rfl rfl 15 (by decide) (ht9 _ k1446) (fun _ h9 => h9) rfl d_DiscMakerModel_identify_272 ?_
                            refine lv_bipush (v := 8) hx hb d_DiscMakerModel_identify_275 (by decide) ?_
                            refine lv_iload_n hx hb d_DiscMakerModel_identify_277 rfl (lv_at hl 1 rfl) ?_
                            refine lv_imul hx hb d_DiscMakerModel_identify_278 ?_
                            refine lv_topi (fun v18 e_v18 => ?_)
                            have t_v18 : v18.toInt = 8 * x.toInt := by rw [e_v18]; exact i_mul (by decide) rfl (by omega) (by omega)
                            refine lv_iload hx hb d_DiscMakerModel_identify_279 (lv_at hl 5 rfl) ?_
                            refine lv_iadd hx hb d_DiscMakerModel_identify_281 ?_
                            refine lv_topi (fun v19 e_v19 => ?_)
                            have t_v19 : v19.toInt = v18.toInt + nn.toInt := by rw [e_v19]; exact i_add rfl rfl (by omega) (by omega)
                            refine lv_iconst (v := 1) hx hb d_DiscMakerModel_identify_282 (by decide) ?_
                            refine lv_iadd hx hb d_DiscMakerModel_identify_283 ?_
                            refine lv_topi (fun v20 e_v20 => ?_)
                            have t_v20 : v20.toInt = v19.toInt + 1 := by rw [e_v20]; exact i_add rfl (by decide) (by omega) (by omega)
                            refine lv_bipush (v := 48) hx hb d_DiscMakerModel_identify_284 (by decide) ?_
                            refine lv_iload hx hb d_DiscMakerModel_identify_286 (lv_at hl 6 rfl) ?_
                            refine lv_bipush (v := 10) hx hb d_DiscMakerModel_identify_288 (by decide) ?_
                            refine lv_idiv hx hb d_DiscMakerModel_identify_290 (by decide) ?_
                            refine lv_topi (fun v21 e_v21 => ?_)
                            have t_v21 : v21.toInt = lv.toInt / 10 := by rw [e_v21]; exact i_div rfl (by decide) (by omega) (by omega)
                            refine lv_bipush (v := 10) hx hb d_DiscMakerModel_identify_291 (by decide) ?_
                            refine lv_irem hx hb d_DiscMakerModel_identify_293 (by decide) ?_
                            refine lv_topi (fun v22 e_v22 => ?_)
                            have t_v22 : v22.toInt = v21.toInt % 10 := by rw [e_v22]; exact i_rem rfl (by decide) (by omega) (by omega)
                            refine lv_iadd hx hb d_DiscMakerModel_identify_294 ?_
                            refine lv_topi (fun v23 e_v23 => ?_)
                            have t_v23 : v23.toInt = 48 + v22.toInt := by rw [e_v23]; exact i_add (by decide) rfl (by omega) (by omega)
                            refine lv_i2b hx hb d_DiscMakerModel_identify_295 rfl ?_
                            refine lv_topi (fun v24 e_v24 => ?_)
                            have t_v24 : (-128) ≤ v24.toInt ∧ v24.toInt ≤ 127 := by rw [e_v24]; exact i_b _
                            refine zq_bast hx hb hK hP hD hS 5 0 rfl rfl (vp_in_iff.mpr ⟨by omega, by omega⟩) d_DiscMakerModel_identify_296 (fun f25 e_f25 H locs hP hD hS => ?_)
                            have hP : va_P D CL [((ma 1), .inl (cI, 40, .inl fK)), ((ma 8), .inl (cB, 1200, .inl fN)), ((ma 9), .inl (cI, 40, .inl fNS)), (h0, .inr (11, MO ma sv_thrown sv_length sv_nodes sv_many sv_directories sv_runsFrom sv_runs sv_read sv_wrong sv_isNamed sv_goes sv_goesSize sv_goesAt sv_targetParts sv_isRoot)), ((ma 2), .inl (cI, 40, .inl fP)), ((ma 12), .inl (cB, 320, .inl f25)), ((ma 13), .inl (cI, 40, .inl f11)), ((ma 14), .inl (cB, 120, .inl lEx)), ((ma 15), .inl (cI, 40, .inl f4))] H := hP
                            have hD : va_D A [((ma 1), .inl (cI, 40, .inl fK)), ((ma 8), .inl (cB, 1200, .inl fN)), ((ma 9), .inl (cI, 40, .inl fNS)), (h0, .inr (11, MO ma sv_thrown sv_length sv_nodes sv_many sv_directories sv_runsFrom sv_runs sv_read sv_wrong sv_isNamed sv_goes sv_goesSize sv_goesAt sv_targetParts sv_isRoot)), ((ma 2), .inl (cI, 40, .inl fP)), ((ma 12), .inl (cB, 320, .inl f25)), ((ma 13), .inl (cI, 40, .inl f11)), ((ma 14), .inl (cB, 120, .inl lEx)), ((ma 15), .inl (cI, 40, .inl f4))] := hD
                            have R_f25 : Rg (-128) 127 320 f25 := Rg_updB e_f25 R_f17 (by decide) (by decide)
                            have l_f25 : ∀ q : Nat, q < 8 * x.toNatClampNeg ∨ 8 * x.toNatClampNeg + 8 ≤ q → f25 q = fBa q := fun q hq => by rw [e_f25]; unfold upd; rw [if_neg (by have := i_cl (a := v20) (by omega); omega)]; exact l_f17 q hq
                            have e2x_f25 : f25 = upd f17 (8 * x.toNatClampNeg + nn.toNatClampNeg + 1) (vp_nar .byte v24) := by rw [e_f25, show v20.toNatClampNeg = 8 * x.toNatClampNeg + nn.toNatClampNeg + 1 by (have := i_cl (a := v20) (by omega); have := i_cl (a := nn) (by omega); omega)]
                            have vb_f25 : (vp_nar .byte v24).toInt = 48 + lv.toInt / 10 % 10 := by rw [show vp_nar .byte v24 = v24.toInt8.toInt32 from rfl, e_v24, i_bsmall (w := v23) (by omega), i_bsmall (by omega)]; omega
                            refine lv_aload_n hx hb d_DiscMakerModel_identify_297 rfl (lv_at hl 0 rfl) ?_
                            refine va_get (D := D) (ci := 11) (v := .ref (ma 12)) (C := "DiscMakerModel") (T := F_DiscMakerModel) (N := 48) hx hb ht9 in_DiscMakerModel hown hK hP 3 rfl rfl 15 (by decide) (ht9 _ k1446) (fun _ h9 => h9) rfl d_DiscMakerModel_identify_298 ?_
                            refine lv_bipush (v := 8) hx hb d_DiscMakerModel_identify_301 (by decide) ?_
                            refine lv_iload_n hx hb d_DiscMakerModel_identify_303 rfl (lv_at hl 1 rfl) ?_
                            refine lv_imul hx hb d_DiscMakerModel_identify_304 ?_
                            refine lv_topi (fun v26 e_v26 => ?_)
                            have t_v26 : v26.toInt = 8 * x.toInt := by rw [e_v26]; exact i_mul (by decide) rfl (by omega) (by omega)
                            refine lv_iload hx hb d_DiscMakerModel_identify_305 (lv_at hl 5 rfl) ?_
                            refine lv_iadd hx hb d_DiscMakerModel_identify_307 ?_
                            refine lv_topi (fun v27 e_v27 => ?_)
                            have t_v27 : v27.toInt = v26.toInt + nn.toInt := by rw [e_v27]; exact i_add rfl rfl (by omega) (by omega)
                            refine lv_iconst (v := 2) hx hb d_DiscMakerModel_identify_308 (by decide) ?_
                            refine lv_iadd hx hb d_DiscMakerModel_identify_309 ?_
                            refine lv_topi (fun v28 e_v28 => ?_)
                            have t_v28 : v28.toInt = v27.toInt + 2 := by rw [e_v28]; exact i_add rfl (by decide) (by omega) (by omega)
                            refine lv_bipush (v := 48) hx hb d_DiscMakerModel_identify_310 (by decide) ?_
                            refine lv_iload hx hb d_DiscMakerModel_identify_312 (lv_at hl 6 rfl) ?_
                            refine lv_bipush (v := 10) hx hb d_DiscMakerModel_identify_314 (by decide) ?_
                            refine lv_irem hx hb d_DiscMakerModel_identify_316 (by decide) ?_
                            refine lv_topi (fun v29 e_v29 => ?_)
                            have t_v29 : v29.toInt = lv.toInt % 10 := by rw [e_v29]; exact i_rem rfl (by decide) (by omega) (by omega)
                            refine lv_iadd hx hb d_DiscMakerModel_identify_317 ?_
                            refine lv_topi (fun v30 e_v30 => ?_)
                            have t_v30 : v30.toInt = 48 + v29.toInt := by rw [e_v30]; exact i_add (by decide) rfl (by omega) (by omega)
                            refine lv_i2b hx hb d_DiscMakerModel_identify_318 rfl ?_
                            refine lv_topi (fun v31 e_v31 => ?_)
                            have t_v31 : (-128) ≤ v31.toInt ∧ v31.toInt ≤ 127 := by rw [e_v31]; exact i_b _
                            refine zq_bast hx hb hK hP hD hS 5 0 rfl rfl (vp_in_iff.mpr ⟨by omega, by omega⟩) d_DiscMakerModel_identify_319 (fun f32 e_f32 H locs hP hD hS => ?_)
                            have hP : va_P D CL [((ma 1), .inl (cI, 40, .inl fK)), ((ma 8), .inl (cB, 1200, .inl fN)), ((ma 9), .inl (cI, 40, .inl fNS)), (h0, .inr (11, MO ma sv_thrown sv_length sv_nodes sv_many sv_directories sv_runsFrom sv_runs sv_read sv_wrong sv_isNamed sv_goes sv_goesSize sv_goesAt sv_targetParts sv_isRoot)), ((ma 2), .inl (cI, 40, .inl fP)), ((ma 12), .inl (cB, 320, .inl f32)), ((ma 13), .inl (cI, 40, .inl f11)), ((ma 14), .inl (cB, 120, .inl lEx)), ((ma 15), .inl (cI, 40, .inl f4))] H := hP
                            have hD : va_D A [((ma 1), .inl (cI, 40, .inl fK)), ((ma 8), .inl (cB, 1200, .inl fN)), ((ma 9), .inl (cI, 40, .inl fNS)), (h0, .inr (11, MO ma sv_thrown sv_length sv_nodes sv_many sv_directories sv_runsFrom sv_runs sv_read sv_wrong sv_isNamed sv_goes sv_goesSize sv_goesAt sv_targetParts sv_isRoot)), ((ma 2), .inl (cI, 40, .inl fP)), ((ma 12), .inl (cB, 320, .inl f32)), ((ma 13), .inl (cI, 40, .inl f11)), ((ma 14), .inl (cB, 120, .inl lEx)), ((ma 15), .inl (cI, 40, .inl f4))] := hD
                            have R_f32 : Rg (-128) 127 320 f32 := Rg_updB e_f32 R_f25 (by decide) (by decide)
                            have l_f32 : ∀ q : Nat, q < 8 * x.toNatClampNeg ∨ 8 * x.toNatClampNeg + 8 ≤ q → f32 q = fBa q := fun q hq => by rw [e_f32]; unfold upd; rw [if_neg (by have := i_cl (a := v28) (by omega); omega)]; exact l_f25 q hq
                            have e2x_f32 : f32 = upd f25 (8 * x.toNatClampNeg + nn.toNatClampNeg + 2) (vp_nar .byte v31) := by rw [e_f32, show v28.toNatClampNeg = 8 * x.toNatClampNeg + nn.toNatClampNeg + 2 by (have := i_cl (a := v28) (by omega); have := i_cl (a := nn) (by omega); omega)]
                            have vb_f32 : (vp_nar .byte v31).toInt = 48 + lv.toInt % 10 := by rw [show vp_nar .byte v31 = v31.toInt8.toInt32 from rfl, e_v31, i_bsmall (w := v30) (by omega), i_bsmall (by omega)]; omega
                            obtain ⟨v33, e_v33⟩ : ∃ z : Int32, z = lv + 1 := ⟨_, rfl⟩
                            refine lv_iinc (v := v33) hx hb d_DiscMakerModel_identify_320 hl (k := 6) rfl e_v33.symm (by decide +kernel) rfl (fun ls hl => ?_)
                            have t_v33 : v33.toInt = lv.toInt + 1 := by rw [e_v33]; exact i_add rfl (by decide) (by omega) (by omega)
                            have hl : lv_has ls 7 [(6, .int v33), (0, .ref h0), (1, .int x), (2, .int do_), (3, .int en), (4, .int lf), (5, .int nn)] := hl
                            refine lv_aload_n hx hb d_DiscMakerModel_identify_323 rfl (lv_at hl 1 rfl) ?_
                            refine lv_iload_n hx hb d_DiscMakerModel_identify_324 rfl (lv_at hl 2 rfl) ?_
                            have hPc := hP.sub (ws' := [(h0, .inr (11, MO ma sv_thrown sv_length sv_nodes sv_many sv_directories sv_runsFrom sv_runs sv_read sv_wrong sv_isNamed sv_goes sv_goesSize sv_goesAt sv_targetParts sv_isRoot)), ((ma 2), .inl (cI, 40, .inl fP)), ((ma 12), .inl (cB, 320, .inl f32)), ((ma 13), .inl (cI, 40, .inl f11)), ((ma 14), .inl (cB, 120, .inl lEx)), ((ma 15), .inl (cI, 40, .inl f4))]) [3, 4, 5, 6, 7, 8] rfl
                            have hDc := hD.sub (ws' := [(h0, .inr (11, MO ma sv_thrown sv_length sv_nodes sv_many sv_directories sv_runsFrom sv_runs sv_read sv_wrong sv_isNamed sv_goes sv_goesSize sv_goesAt sv_targetParts sv_isRoot)), ((ma 2), .inl (cI, 40, .inl fP)), ((ma 12), .inl (cB, 320, .inl f32)), ((ma 13), .inl (cI, 40, .inl f11)), ((ma 14), .inl (cB, 120, .inl lEx)), ((ma 15), .inl (cI, 40, .inl f4))]) [3, 4, 5, 6, 7, 8] (by decide +kernel) rfl
                            have hFc := va_free (wc := [(h0, .inr (11, MO ma sv_thrown sv_length sv_nodes sv_many sv_directories sv_runsFrom sv_runs sv_read sv_wrong sv_isNamed sv_goes sv_goesSize sv_goesAt sv_targetParts sv_isRoot)), ((ma 2), .inl (cI, 40, .inl fP)), ((ma 12), .inl (cB, 320, .inl f32)), ((ma 13), .inl (cI, 40, .inl f11)), ((ma 14), .inl (cB, 120, .inl lEx)), ((ma 15), .inl (cI, 40, .inl f4))]) hD hS hA [3, 4, 5, 6, 7, 8] rfl
                            have hkc : 0 ≤ 0 := by decide
                            have hks : 0 ≤ 0 := by decide
                            refine va_calli (va_runV (C := "DiscMakerModel") (As := [.int x]) (rest := []) ⟨hx, hb, hml, hown, hts⟩ (m_isTaken l D cB cI cJ cZ cN cF H.size h0 ma sv_thrown sv_length sv_nodes sv_many sv_directories sv_runsFrom sv_runs sv_read sv_wrong sv_isNamed sv_goes sv_goesSize sv_goesAt sv_targetParts sv_isRoot fP f32 f11 lEx f4 x (by (try dsimp only); first | assumption | omega | trivial) (by (try dsimp only); first | assumption | omega | trivial) (by (try dsimp only); first | assumption | omega | trivial) (by (try dsimp only); first | assumption | omega | trivial) (by (try dsimp only); first | assumption | omega | trivial)) (cwV 1 hts (lg_goodV k1655 k1657 k61 k125 kc_DiscMakerModel_isTaken) rfl rfl rfl (by decide +kernel) ⟨Nat.le_of_ble_eq_true rfl, Nat.le_of_ble_eq_true rfl⟩) ⟨fun a U g mk q => by obtain ⟨q0, q1, qP, qK, qN, qD⟩ := q; exact ⟨q0, q1, qP, va_K.moved (u := U) (U := U.calling g mk a) (Vm.Alike.refl U.vm) qK, qN.calling, qD⟩, va_recv hK hP (ci := 11) (q0 := 3) rfl rfl, fun U hU hW => ⟨rfl, by rw [hU], by rw [hU]; exact hPc, va_K.moved hW.alike hK, NN.warm hW hN, hDc.weaken (fun _ _ _ _ => trivial)⟩⟩ rfl rfl hl.1 rfl (lv_room (Nat.le_of_ble_eq_true rfl)) d_DiscMakerModel_identify_325 ⟨hkc, hks⟩) hS (fun q _ h => hFc q h) hFc (fun r34 u t H1 locs ht hvm hp_r34 hB hz1 hk1 hS => ?_)
                            obtain ⟨hP1, hD1⟩ := hB
                            rw [ht] at hP1
                            obtain ⟨hP, hD⟩ := va_join (wr := [((ma 1), .inl (cI, 40, .inl fK)), ((ma 8), .inl (cB, 1200, .inl fN)), ((ma 9), .inl (cI, 40, .inl fNS))]) (w1 := [(h0, .inr (11, MO ma sv_thrown sv_length sv_nodes sv_many sv_directories sv_runsFrom sv_runs sv_read sv_wrong sv_isNamed sv_goes sv_goesSize sv_goesAt sv_targetParts sv_isRoot)), ((ma 2), .inl (cI, 40, .inl fP)), ((ma 12), .inl (cB, 320, .inl f32)), ((ma 13), .inl (cI, 40, .inl f11)), ((ma 14), .inl (cB, 120, .inl lEx)), ((ma 15), .inl (cI, 40, .inl f4))]) hP hD [3, 4, 5, 6, 7, 8] [0, 1, 2] rfl rfl (by decide +kernel) (by decide +kernel) hk1 hFc hP1 hD1
                            clear hPc hDc hFc hP1 hD1 hk1 hz1 hkc hks
                            generalize H1 = H at hP hS ⊢
                            have hP : va_P D CL [((ma 1), .inl (cI, 40, .inl fK)), ((ma 8), .inl (cB, 1200, .inl fN)), ((ma 9), .inl (cI, 40, .inl fNS)), (h0, .inr (11, MO ma sv_thrown sv_length sv_nodes sv_many sv_directories sv_runsFrom sv_runs sv_read sv_wrong sv_isNamed sv_goes sv_goesSize sv_goesAt sv_targetParts sv_isRoot)), ((ma 2), .inl (cI, 40, .inl fP)), ((ma 12), .inl (cB, 320, .inl f32)), ((ma 13), .inl (cI, 40, .inl f11)), ((ma 14), .inl (cB, 120, .inl lEx)), ((ma 15), .inl (cI, 40, .inl f4))] H := hP
                            have hD : va_D A [((ma 1), .inl (cI, 40, .inl fK)), ((ma 8), .inl (cB, 1200, .inl fN)), ((ma 9), .inl (cI, 40, .inl fNS)), (h0, .inr (11, MO ma sv_thrown sv_length sv_nodes sv_many sv_directories sv_runsFrom sv_runs sv_read sv_wrong sv_isNamed sv_goes sv_goesSize sv_goesAt sv_targetParts sv_isRoot)), ((ma 2), .inl (cI, 40, .inl fP)), ((ma 12), .inl (cB, 320, .inl f32)), ((ma 13), .inl (cI, 40, .inl f11)), ((ma 14), .inl (cB, 120, .inl lEx)), ((ma 15), .inl (cI, 40, .inl f4))] := hD
                            try dsimp only at hp_r34
                            obtain ⟨hr_35, hq_36, hq0_37⟩ := hp_r34
                            refine lv_if_ne (tgt := 250) hx hb d_DiscMakerModel_identify_328 (by decide) (fun h_9 => ?_) (fun h_9 => ?_)
                            · skip
                              have g328_103 : ¬ r34.toInt = 0 := fun h8 => h_9 ((i_eq rfl (by decide)).mpr h8)
                              have hP := hP.sub (ws' := [((ma 1), .inl (cI, 40, .inl fK)), ((ma 8), .inl (cB, 1200, .inl fN)), ((ma 9), .inl (cI, 40, .inl fNS)), (h0, .inr (11, MO ma sv_thrown sv_length sv_nodes sv_many sv_directories sv_runsFrom sv_runs sv_read sv_wrong sv_isNamed sv_goes sv_goesSize sv_goesAt sv_targetParts sv_isRoot)), ((ma 2), .inl (cI, 40, .inl fP)), ((ma 12), .inl (cB, 320, .inl f32)), ((ma 13), .inl (cI, 40, .inl f11)), ((ma 14), .inl (cB, 120, .inl lEx)), ((ma 15), .inl (cI, 40, .inl f4))]) [0, 1, 2, 3, 4, 5, 6, 7, 8] rfl
                              have hD := hD.sub (ws' := [((ma 1), .inl (cI, 40, .inl fK)), ((ma 8), .inl (cB, 1200, .inl fN)), ((ma 9), .inl (cI, 40, .inl fNS)), (h0, .inr (11, MO ma sv_thrown sv_length sv_nodes sv_many sv_directories sv_runsFrom sv_runs sv_read sv_wrong sv_isNamed sv_goes sv_goesSize sv_goesAt sv_targetParts sv_isRoot)), ((ma 2), .inl (cI, 40, .inl fP)), ((ma 12), .inl (cB, 320, .inl f32)), ((ma 13), .inl (cI, 40, .inl f11)), ((ma 14), .inl (cB, 120, .inl lEx)), ((ma 15), .inl (cI, 40, .inl f4))]) [0, 1, 2, 3, 4, 5, 6, 7, 8] (by decide +kernel) rfl
                              have hl := lv_sub hl [1, 2, 3, 4, 5, 6, 0] rfl
                              exact ih250 _ (by clear hq_36 hq0_37; omega) v33 f32 _ _ _ rfl (l_f32) (R_f32) ((by (try dsimp only); first | assumption | omega | trivial)) ((by obtain ⟨q, q1, q2, q3⟩ := hq_36 (by omega); have h1 := i_cl (a := lv) (by omega); have h2 := i_cl (a := v33) (by omega); have h3 := i_cl (a := nn) (by omega); rw [show v33.toNatClampNeg = lv.toNatClampNeg + 1 by omega]; exact idy e2x_f17 e2x_f25 e2x_f32 (by rw [s_f11]; omega) (by omega) (by rw [vb_f17]; omega) (by rw [vb_f25]; omega) (by rw [vb_f32]; omega) y10 q1 (by omega) q3)) hP hD hS hl
                            · skip
                              have g328_103 : r34.toInt = 0 := (i_eq rfl (by decide)).mp h_9
                              have hP9 := hP.sub (ws' := [(h0, .inr (11, MO ma sv_thrown sv_length sv_nodes sv_many sv_directories sv_runsFrom sv_runs sv_read sv_wrong sv_isNamed sv_goes sv_goesSize sv_goesAt sv_targetParts sv_isRoot)), ((ma 1), .inl (cI, 40, .inl fK)), ((ma 2), .inl (cI, 40, .inl fP)), ((ma 8), .inl (cB, 1200, .inl fN)), ((ma 9), .inl (cI, 40, .inl fNS)), ((ma 12), .inl (cB, 320, .inl f32)), ((ma 13), .inl (cI, 40, .inl f11)), ((ma 14), .inl (cB, 120, .inl lEx)), ((ma 15), .inl (cI, 40, .inl f4))]) [3, 0, 4, 1, 2, 5, 6, 7, 8] rfl
                              have hD9 := hD.sub (ws' := [(h0, .inr (11, MO ma sv_thrown sv_length sv_nodes sv_many sv_directories sv_runsFrom sv_runs sv_read sv_wrong sv_isNamed sv_goes sv_goesSize sv_goesAt sv_targetParts sv_isRoot)), ((ma 1), .inl (cI, 40, .inl fK)), ((ma 2), .inl (cI, 40, .inl fP)), ((ma 8), .inl (cB, 1200, .inl fN)), ((ma 9), .inl (cI, 40, .inl fNS)), ((ma 12), .inl (cB, 320, .inl f32)), ((ma 13), .inl (cI, 40, .inl f11)), ((ma 14), .inl (cB, 120, .inl lEx)), ((ma 15), .inl (cI, 40, .inl f4))]) [3, 0, 4, 1, 2, 5, 6, 7, 8] (by decide +kernel) rfl
                              exact W.vret hx hb hr (fun t ht hW => ⟨⟨(f32, f11, lEx, f4), rfl, ⟨R_f32, R_f11, hlEx, R_f4, l_f32, y6, l_f11, l_f4, (hq0_37 (by omega))⟩, by rw [ht]; exact hP9, hD9⟩, hS.F ht⟩) hS.2.2 d_DiscMakerModel_identify_331
                          · skip
                            intro kk250
                            have hP := hP.sub (ws' := [((ma 1), .inl (cI, 40, .inl fK)), ((ma 8), .inl (cB, 1200, .inl fN)), ((ma 9), .inl (cI, 40, .inl fNS)), (h0, .inr (11, MO ma sv_thrown sv_length sv_nodes sv_many sv_directories sv_runsFrom sv_runs sv_read sv_wrong sv_isNamed sv_goes sv_goesSize sv_goesAt sv_targetParts sv_isRoot)), ((ma 2), .inl (cI, 40, .inl fP)), ((ma 12), .inl (cB, 320, .inl lBa)), ((ma 13), .inl (cI, 40, .inl f11)), ((ma 14), .inl (cB, 120, .inl lEx)), ((ma 15), .inl (cI, 40, .inl f4))]) [0, 1, 2, 3, 4, 5, 6, 7, 8] rfl
                            have hD := hD.sub (ws' := [((ma 1), .inl (cI, 40, .inl fK)), ((ma 8), .inl (cB, 1200, .inl fN)), ((ma 9), .inl (cI, 40, .inl fNS)), (h0, .inr (11, MO ma sv_thrown sv_length sv_nodes sv_many sv_directories sv_runsFrom sv_runs sv_read sv_wrong sv_isNamed sv_goes sv_goesSize sv_goesAt sv_targetParts sv_isRoot)), ((ma 2), .inl (cI, 40, .inl fP)), ((ma 12), .inl (cB, 320, .inl lBa)), ((ma 13), .inl (cI, 40, .inl f11)), ((ma 14), .inl (cB, 120, .inl lEx)), ((ma 15), .inl (cI, 40, .inl f4))]) [0, 1, 2, 3, 4, 5, 6, 7, 8] (by decide +kernel) rfl
                            have hl := lv_sub hl [2, 3, 4, 5, 6, 1, 0] rfl
                            exact kk250 _ 0 lBa _ _ _ rfl (y4) (hlBa) ((by (try dsimp only); first | assumption | omega | trivial)) ((by rw [show (0 : Int32).toNatClampNeg = 0 by decide]; exact DG_0)) hP hD hS hl
                        · skip
                          intro kk235
                          refine lv_aload_n hx hb d_DiscMakerModel_identify_215 rfl (lv_at hl 0 rfl) ?_
                          refine va_get (D := D) (ci := 11) (v := .ref (ma 13)) (C := "DiscMakerModel") (T := F_DiscMakerModel) (N := 48) hx hb ht9 in_DiscMakerModel hown hK hP 3 rfl rfl 16 (by decide) (ht9 _ k1447) (fun _ h9 => h9) rfl d_DiscMakerModel_identify_216 ?_
                          refine lv_iload_n hx hb d_DiscMakerModel_identify_219 rfl (lv_at hl 1 rfl) ?_
                          refine va_iald hx hb hK hP 6 1 rfl rfl (vp_in_iff.mpr ⟨by omega, by omega⟩) d_DiscMakerModel_identify_220 ?_
                          refine lv_topi (fun v38 e_v38 => ?_)
                          have t_v38 : 0 ≤ v38.toInt ∧ v38.toInt ≤ 8 := by
                            rw [e_v38]; exact R_f2 _ (by have := i_cl (a := x) (by omega); omega)
                          have q_v38 : v38.toInt = bs.toInt := by rw [e_v38, s_f2]; try decide
                          refine lv_iconst (v := 5) hx hb d_DiscMakerModel_identify_221 (by decide) ?_
                          refine lv_icmp_ge (tgt := 234) hx hb d_DiscMakerModel_identify_222 (by decide) (fun h_9 => ?_) (fun h_9 => ?_)
                          · skip
                            have g222_111 : 5 ≤ v38.toInt := (i_le (by decide) rfl).mp h_9
                            refine lv_iconst (v := 5) hx hb d_DiscMakerModel_identify_234 (by decide) ?_
                            have hP := hP.sub (ws' := [((ma 1), .inl (cI, 40, .inl fK)), ((ma 8), .inl (cB, 1200, .inl fN)), ((ma 9), .inl (cI, 40, .inl fNS)), (h0, .inr (11, MO ma sv_thrown sv_length sv_nodes sv_many sv_directories sv_runsFrom sv_runs sv_read sv_wrong sv_isNamed sv_goes sv_goesSize sv_goesAt sv_targetParts sv_isRoot)), ((ma 2), .inl (cI, 40, .inl fP)), ((ma 12), .inl (cB, 320, .inl lBa)), ((ma 13), .inl (cI, 40, .inl f2)), ((ma 14), .inl (cB, 120, .inl lEx)), ((ma 15), .inl (cI, 40, .inl f4))]) [0, 1, 2, 3, 4, 5, 6, 7, 8] rfl
                            have hD := hD.sub (ws' := [((ma 1), .inl (cI, 40, .inl fK)), ((ma 8), .inl (cB, 1200, .inl fN)), ((ma 9), .inl (cI, 40, .inl fNS)), (h0, .inr (11, MO ma sv_thrown sv_length sv_nodes sv_many sv_directories sv_runsFrom sv_runs sv_read sv_wrong sv_isNamed sv_goes sv_goesSize sv_goesAt sv_targetParts sv_isRoot)), ((ma 2), .inl (cI, 40, .inl fP)), ((ma 12), .inl (cB, 320, .inl lBa)), ((ma 13), .inl (cI, 40, .inl f2)), ((ma 14), .inl (cB, 120, .inl lEx)), ((ma 15), .inl (cI, 40, .inl f4))]) [0, 1, 2, 3, 4, 5, 6, 7, 8] (by decide +kernel) rfl
                            have hl := lv_sub hl [0, 1, 2, 3, 4, 5] rfl
                            exact kk235 _ 5 _ _ _ rfl ((by (try dsimp only); first | assumption | omega | trivial)) hP hD hS hl
                          · skip
                            have g222_111 : ¬ 5 ≤ v38.toInt := fun h8 => h_9 ((i_le (by decide) rfl).mpr h8)
                            refine lv_aload_n hx hb d_DiscMakerModel_identify_225 rfl (lv_at hl 0 rfl) ?_
                            refine va_get (D := D) (ci := 11) (v := .ref (ma 13)) (C := "DiscMakerModel") (T := F_DiscMakerModel) (N := 48) hx hb ht9 in_DiscMakerModel hown hK hP 3 rfl rfl 16 (by decide) (ht9 _ k1447) (fun _ h9 => h9) rfl d_DiscMakerModel_identify_226 ?_
                            refine lv_iload_n hx hb d_DiscMakerModel_identify_229 rfl (lv_at hl 1 rfl) ?_
                            refine va_iald hx hb hK hP 6 1 rfl rfl (vp_in_iff.mpr ⟨by omega, by omega⟩) d_DiscMakerModel_identify_230 ?_
                            refine lv_topi (fun v39 e_v39 => ?_)
                            have t_v39 : 0 ≤ v39.toInt ∧ v39.toInt ≤ 8 := by
                              rw [e_v39]; exact R_f2 _ (by have := i_cl (a := x) (by omega); omega)
                            have q_v39 : v39.toInt = bs.toInt := by rw [e_v39, s_f2]; try decide
                            refine lv_goto (tgt := 235) hx hb d_DiscMakerModel_identify_231 (by decide) ?_
                            have hP := hP.sub (ws' := [((ma 1), .inl (cI, 40, .inl fK)), ((ma 8), .inl (cB, 1200, .inl fN)), ((ma 9), .inl (cI, 40, .inl fNS)), (h0, .inr (11, MO ma sv_thrown sv_length sv_nodes sv_many sv_directories sv_runsFrom sv_runs sv_read sv_wrong sv_isNamed sv_goes sv_goesSize sv_goesAt sv_targetParts sv_isRoot)), ((ma 2), .inl (cI, 40, .inl fP)), ((ma 12), .inl (cB, 320, .inl lBa)), ((ma 13), .inl (cI, 40, .inl f2)), ((ma 14), .inl (cB, 120, .inl lEx)), ((ma 15), .inl (cI, 40, .inl f4))]) [0, 1, 2, 3, 4, 5, 6, 7, 8] rfl
                            have hD := hD.sub (ws' := [((ma 1), .inl (cI, 40, .inl fK)), ((ma 8), .inl (cB, 1200, .inl fN)), ((ma 9), .inl (cI, 40, .inl fNS)), (h0, .inr (11, MO ma sv_thrown sv_length sv_nodes sv_many sv_directories sv_runsFrom sv_runs sv_read sv_wrong sv_isNamed sv_goes sv_goesSize sv_goesAt sv_targetParts sv_isRoot)), ((ma 2), .inl (cI, 40, .inl fP)), ((ma 12), .inl (cB, 320, .inl lBa)), ((ma 13), .inl (cI, 40, .inl f2)), ((ma 14), .inl (cB, 120, .inl lEx)), ((ma 15), .inl (cI, 40, .inl f4))]) [0, 1, 2, 3, 4, 5, 6, 7, 8] (by decide +kernel) rfl
                            have hl := lv_sub hl [0, 1, 2, 3, 4, 5] rfl
                            exact kk235 _ v39 _ _ _ rfl ((by (try dsimp only); first | assumption | omega | trivial)) hP hD hS hl
                      · skip
                        have g211_40 : r6.toInt = 0 := (i_eq rfl (by decide)).mp h_9
                        have hP9 := hP.sub (ws' := [(h0, .inr (11, MO ma sv_thrown sv_length sv_nodes sv_many sv_directories sv_runsFrom sv_runs sv_read sv_wrong sv_isNamed sv_goes sv_goesSize sv_goesAt sv_targetParts sv_isRoot)), ((ma 1), .inl (cI, 40, .inl fK)), ((ma 2), .inl (cI, 40, .inl fP)), ((ma 8), .inl (cB, 1200, .inl fN)), ((ma 9), .inl (cI, 40, .inl fNS)), ((ma 12), .inl (cB, 320, .inl lBa)), ((ma 13), .inl (cI, 40, .inl f2)), ((ma 14), .inl (cB, 120, .inl lEx)), ((ma 15), .inl (cI, 40, .inl f4))]) [3, 0, 4, 1, 2, 5, 6, 7, 8] rfl
                        have hD9 := hD.sub (ws' := [(h0, .inr (11, MO ma sv_thrown sv_length sv_nodes sv_many sv_directories sv_runsFrom sv_runs sv_read sv_wrong sv_isNamed sv_goes sv_goesSize sv_goesAt sv_targetParts sv_isRoot)), ((ma 1), .inl (cI, 40, .inl fK)), ((ma 2), .inl (cI, 40, .inl fP)), ((ma 8), .inl (cB, 1200, .inl fN)), ((ma 9), .inl (cI, 40, .inl fNS)), ((ma 12), .inl (cB, 320, .inl lBa)), ((ma 13), .inl (cI, 40, .inl f2)), ((ma 14), .inl (cB, 120, .inl lEx)), ((ma 15), .inl (cI, 40, .inl f4))]) [3, 0, 4, 1, 2, 5, 6, 7, 8] (by decide +kernel) rfl
                        exact W.vret hx hb hr (fun t ht hW => ⟨⟨(lBa, f2, lEx, f4), rfl, ⟨hlBa, R_f2, hlEx, R_f4, y4, y6, l_f2, l_f4, (hq0_9 (by omega))⟩, by rw [ht]; exact hP9, hD9⟩, hS.F ht⟩) hS.2.2 d_DiscMakerModel_identify_214
                    · skip
                      have g171_36 : ¬ v5.toInt ≤ k5.toInt := fun h8 => h_9 ((i_le rfl rfl).mpr h8)
                      refine lv_aload_n hx hb d_DiscMakerModel_identify_174 rfl (lv_at hl 0 rfl) ?_
                      refine va_get (D := D) (ci := 11) (v := .ref (ma 14)) (C := "DiscMakerModel") (T := F_DiscMakerModel) (N := 48) hx hb ht9 in_DiscMakerModel hown hK hP 0 rfl rfl 17 (by decide) (ht9 _ k1448) (fun _ h9 => h9) rfl d_DiscMakerModel_identify_175 ?_
                      refine lv_iconst (v := 3) hx hb d_DiscMakerModel_identify_178 (by decide) ?_
                      refine lv_iload_n hx hb d_DiscMakerModel_identify_179 rfl (lv_at hl 1 rfl) ?_
                      refine lv_imul hx hb d_DiscMakerModel_identify_180 ?_
                      refine lv_topi (fun v40 e_v40 => ?_)
                      have t_v40 : v40.toInt = 3 * x.toInt := by rw [e_v40]; exact i_mul (by decide) rfl (by omega) (by omega)
                      refine lv_iload hx hb d_DiscMakerModel_identify_181 (lv_at hl 5 rfl) ?_
                      refine lv_iadd hx hb d_DiscMakerModel_identify_183 ?_
                      refine lv_topi (fun v41 e_v41 => ?_)
                      have t_v41 : v41.toInt = v40.toInt + k5.toInt := by rw [e_v41]; exact i_add rfl rfl (by omega) (by omega)
                      refine lv_aload_n hx hb d_DiscMakerModel_identify_184 rfl (lv_at hl 0 rfl) ?_
                      refine lv_iload_n hx hb d_DiscMakerModel_identify_185 rfl (lv_at hl 1 rfl) ?_
                      refine lv_iload_n hx hb d_DiscMakerModel_identify_186 rfl (lv_at hl 2 rfl) ?_
                      refine lv_iconst (v := 1) hx hb d_DiscMakerModel_identify_187 (by decide) ?_
                      refine lv_iadd hx hb d_DiscMakerModel_identify_188 ?_
                      refine lv_topi (fun v42 e_v42 => ?_)
                      have t_v42 : v42.toInt = do_.toInt + 1 := by rw [e_v42]; exact i_add rfl (by decide) (by omega) (by omega)
                      refine lv_iload hx hb d_DiscMakerModel_identify_189 (lv_at hl 5 rfl) ?_
                      refine lv_iadd hx hb d_DiscMakerModel_identify_191 ?_
                      refine lv_topi (fun v43 e_v43 => ?_)
                      have t_v43 : v43.toInt = v42.toInt + k5.toInt := by rw [e_v43]; exact i_add rfl rfl (by omega) (by omega)
                      have hPc := hP.sub (ws' := [(h0, .inr (11, MO ma sv_thrown sv_length sv_nodes sv_many sv_directories sv_runsFrom sv_runs sv_read sv_wrong sv_isNamed sv_goes sv_goesSize sv_goesAt sv_targetParts sv_isRoot)), ((ma 8), .inl (cB, 1200, .inl fN)), ((ma 9), .inl (cI, 40, .inl fNS))]) [0, 3, 4] rfl
                      have hDc := hD.sub (ws' := [(h0, .inr (11, MO ma sv_thrown sv_length sv_nodes sv_many sv_directories sv_runsFrom sv_runs sv_read sv_wrong sv_isNamed sv_goes sv_goesSize sv_goesAt sv_targetParts sv_isRoot)), ((ma 8), .inl (cB, 1200, .inl fN)), ((ma 9), .inl (cI, 40, .inl fNS))]) [0, 3, 4] (by decide +kernel) rfl
                      have hFc := va_free (wc := [(h0, .inr (11, MO ma sv_thrown sv_length sv_nodes sv_many sv_directories sv_runsFrom sv_runs sv_read sv_wrong sv_isNamed sv_goes sv_goesSize sv_goesAt sv_targetParts sv_isRoot)), ((ma 8), .inl (cB, 1200, .inl fN)), ((ma 9), .inl (cI, 40, .inl fNS))]) hD hS hA [0, 3, 4] rfl
                      have hkc : 0 ≤ 0 := by decide
                      have hks : 0 ≤ 0 := by decide
                      refine va_calli (va_runV (C := "DiscMakerModel") (As := [.int x, .int v43]) (rest := [.int v41, .ref (ma 14)]) ⟨hx, hb, hml, hown, hts⟩ (m_nameOf l D cB cI cJ cZ cN cF H.size h0 ma sv_thrown sv_length sv_nodes sv_many sv_directories sv_runsFrom sv_runs sv_read sv_wrong sv_isNamed sv_goes sv_goesSize sv_goesAt sv_targetParts sv_isRoot fN fNS x v43 (by (try dsimp only); first | assumption | omega | trivial) (by (try dsimp only); first | assumption | omega | trivial) (by (try dsimp only); first | assumption | omega | trivial)) (cwV 2 hts (lg_goodV k1616 k1618 k56 k125 kc_DiscMakerModel_nameOf) rfl rfl rfl (by decide +kernel) ⟨Nat.le_of_ble_eq_true rfl, Nat.le_of_ble_eq_true rfl⟩) ⟨fun a U g mk q => by obtain ⟨q0, q1, qP, qK, qN, qD⟩ := q; exact ⟨q0, q1, qP, va_K.moved (u := U) (U := U.calling g mk a) (Vm.Alike.refl U.vm) qK, qN.calling, qD⟩, va_recv hK hP (ci := 11) (q0 := 0) rfl rfl, fun U hU hW => ⟨rfl, by rw [hU], by rw [hU]; exact hPc, va_K.moved hW.alike hK, NN.warm hW hN, hDc.weaken (fun _ _ _ _ => trivial)⟩⟩ rfl rfl hl.1 rfl (lv_room (Nat.le_of_ble_eq_true rfl)) d_DiscMakerModel_identify_192 ⟨hkc, hks⟩) hS (fun q _ h => hFc q h) hFc (fun r44 u t H1 locs ht hvm hp_r44 hB hz1 hk1 hS => ?_)
                      obtain ⟨hP1, hD1⟩ := hB
                      rw [ht] at hP1
                      obtain ⟨hP, hD⟩ := va_join (wr := [((ma 1), .inl (cI, 40, .inl fK)), ((ma 2), .inl (cI, 40, .inl fP)), ((ma 12), .inl (cB, 320, .inl lBa)), ((ma 13), .inl (cI, 40, .inl f2)), ((ma 14), .inl (cB, 120, .inl lEx)), ((ma 15), .inl (cI, 40, .inl f4))]) (w1 := [(h0, .inr (11, MO ma sv_thrown sv_length sv_nodes sv_many sv_directories sv_runsFrom sv_runs sv_read sv_wrong sv_isNamed sv_goes sv_goesSize sv_goesAt sv_targetParts sv_isRoot)), ((ma 8), .inl (cB, 1200, .inl fN)), ((ma 9), .inl (cI, 40, .inl fNS))]) hP hD [0, 3, 4] [1, 2, 5, 6, 7, 8] rfl rfl (by decide +kernel) (by decide +kernel) hk1 hFc hP1 hD1
                      clear hPc hDc hFc hP1 hD1 hk1 hz1 hkc hks
                      generalize H1 = H at hP hS ⊢
                      have hP : va_P D CL [((ma 1), .inl (cI, 40, .inl fK)), ((ma 2), .inl (cI, 40, .inl fP)), ((ma 12), .inl (cB, 320, .inl lBa)), ((ma 13), .inl (cI, 40, .inl f2)), ((ma 14), .inl (cB, 120, .inl lEx)), ((ma 15), .inl (cI, 40, .inl f4)), (h0, .inr (11, MO ma sv_thrown sv_length sv_nodes sv_many sv_directories sv_runsFrom sv_runs sv_read sv_wrong sv_isNamed sv_goes sv_goesSize sv_goesAt sv_targetParts sv_isRoot)), ((ma 8), .inl (cB, 1200, .inl fN)), ((ma 9), .inl (cI, 40, .inl fNS))] H := hP
                      have hD : va_D A [((ma 1), .inl (cI, 40, .inl fK)), ((ma 2), .inl (cI, 40, .inl fP)), ((ma 12), .inl (cB, 320, .inl lBa)), ((ma 13), .inl (cI, 40, .inl f2)), ((ma 14), .inl (cB, 120, .inl lEx)), ((ma 15), .inl (cI, 40, .inl f4)), (h0, .inr (11, MO ma sv_thrown sv_length sv_nodes sv_many sv_directories sv_runsFrom sv_runs sv_read sv_wrong sv_isNamed sv_goes sv_goesSize sv_goesAt sv_targetParts sv_isRoot)), ((ma 8), .inl (cB, 1200, .inl fN)), ((ma 9), .inl (cI, 40, .inl fNS))] := hD
                      try dsimp only at hp_r44
                      obtain ⟨hr_45, hv_46⟩ := hp_r44
                      have hPc := hP.sub (ws' := []) [] rfl
                      have hDc := hD.sub (ws' := []) [] (by decide +kernel) rfl
                      have hFc := va_free (wc := []) hD hS hA [] rfl
                      have hkc : 0 ≤ 0 := by decide
                      have hks : 0 ≤ 0 := by decide
                      refine va_calli (va_runS (As := [.int r44]) (rest := [.int v41, .ref (ma 14)]) ⟨hx, hb, hml, hown, hts⟩ (m_capital l D cB cI cJ cZ cN cF H.size r44 (by (try dsimp only); first | assumption | omega | trivial)) (cwS 1 hts (lg_goodS k1652 k1653 k125 kc_DiscMakerModel_capital) rfl rfl rfl (by decide +kernel) ⟨Nat.le_of_ble_eq_true rfl, Nat.le_of_ble_eq_true rfl⟩) ⟨fun a U g mk q => by obtain ⟨q0, q1, qP, qK, qN, qD⟩ := q; exact ⟨q0, q1, qP, va_K.moved (u := U) (U := U.calling g mk a) (Vm.Alike.refl U.vm) qK, qN.calling, qD⟩, fun U hU hW => ⟨rfl, by rw [hU], by rw [hU]; exact hPc, va_K.moved hW.alike hK, NN.warm hW hN, hDc.weaken (fun _ _ _ _ => trivial)⟩⟩ rfl rfl hl.1 rfl (lv_room (Nat.le_of_ble_eq_true rfl)) d_DiscMakerModel_identify_195 ⟨hkc, hks⟩) hS (fun q _ h => hFc q h) hFc (fun r47 u t H1 locs ht hvm hp_r47 hB hz1 hk1 hS => ?_)
                      obtain ⟨hP1, hD1⟩ := hB
                      rw [ht] at hP1
                      obtain ⟨hP, hD⟩ := va_join (wr := [((ma 1), .inl (cI, 40, .inl fK)), ((ma 2), .inl (cI, 40, .inl fP)), ((ma 12), .inl (cB, 320, .inl lBa)), ((ma 13), .inl (cI, 40, .inl f2)), ((ma 14), .inl (cB, 120, .inl lEx)), ((ma 15), .inl (cI, 40, .inl f4)), (h0, .inr (11, MO ma sv_thrown sv_length sv_nodes sv_many sv_directories sv_runsFrom sv_runs sv_read sv_wrong sv_isNamed sv_goes sv_goesSize sv_goesAt sv_targetParts sv_isRoot)), ((ma 8), .inl (cB, 1200, .inl fN)), ((ma 9), .inl (cI, 40, .inl fNS))]) (w1 := []) hP hD [] [0, 1, 2, 3, 4, 5, 6, 7, 8] rfl rfl (by decide +kernel) (by decide +kernel) hk1 hFc hP1 hD1
                      clear hPc hDc hFc hP1 hD1 hk1 hz1 hkc hks
                      generalize H1 = H at hP hS ⊢
                      have hP : va_P D CL [((ma 1), .inl (cI, 40, .inl fK)), ((ma 2), .inl (cI, 40, .inl fP)), ((ma 12), .inl (cB, 320, .inl lBa)), ((ma 13), .inl (cI, 40, .inl f2)), ((ma 14), .inl (cB, 120, .inl lEx)), ((ma 15), .inl (cI, 40, .inl f4)), (h0, .inr (11, MO ma sv_thrown sv_length sv_nodes sv_many sv_directories sv_runsFrom sv_runs sv_read sv_wrong sv_isNamed sv_goes sv_goesSize sv_goesAt sv_targetParts sv_isRoot)), ((ma 8), .inl (cB, 1200, .inl fN)), ((ma 9), .inl (cI, 40, .inl fNS))] H := hP
                      have hD : va_D A [((ma 1), .inl (cI, 40, .inl fK)), ((ma 2), .inl (cI, 40, .inl fP)), ((ma 12), .inl (cB, 320, .inl lBa)), ((ma 13), .inl (cI, 40, .inl f2)), ((ma 14), .inl (cB, 120, .inl lEx)), ((ma 15), .inl (cI, 40, .inl f4)), (h0, .inr (11, MO ma sv_thrown sv_length sv_nodes sv_many sv_directories sv_runsFrom sv_runs sv_read sv_wrong sv_isNamed sv_goes sv_goesSize sv_goesAt sv_targetParts sv_isRoot)), ((ma 8), .inl (cB, 1200, .inl fN)), ((ma 9), .inl (cI, 40, .inl fNS))] := hD
                      refine lv_i2b hx hb d_DiscMakerModel_identify_198 rfl ?_
                      refine lv_topi (fun v48 e_v48 => ?_)
                      have t_v48 : (-128) ≤ v48.toInt ∧ v48.toInt ≤ 127 := by rw [e_v48]; exact i_b _
                      refine zq_bast hx hb hK hP hD hS 4 0 rfl rfl (vp_in_iff.mpr ⟨by omega, by omega⟩) d_DiscMakerModel_identify_199 (fun f49 e_f49 H locs hP hD hS => ?_)
                      have hP : va_P D CL [((ma 1), .inl (cI, 40, .inl fK)), ((ma 2), .inl (cI, 40, .inl fP)), ((ma 12), .inl (cB, 320, .inl lBa)), ((ma 13), .inl (cI, 40, .inl f2)), ((ma 14), .inl (cB, 120, .inl f49)), ((ma 15), .inl (cI, 40, .inl f4)), (h0, .inr (11, MO ma sv_thrown sv_length sv_nodes sv_many sv_directories sv_runsFrom sv_runs sv_read sv_wrong sv_isNamed sv_goes sv_goesSize sv_goesAt sv_targetParts sv_isRoot)), ((ma 8), .inl (cB, 1200, .inl fN)), ((ma 9), .inl (cI, 40, .inl fNS))] H := hP
                      have hD : va_D A [((ma 1), .inl (cI, 40, .inl fK)), ((ma 2), .inl (cI, 40, .inl fP)), ((ma 12), .inl (cB, 320, .inl lBa)), ((ma 13), .inl (cI, 40, .inl f2)), ((ma 14), .inl (cB, 120, .inl f49)), ((ma 15), .inl (cI, 40, .inl f4)), (h0, .inr (11, MO ma sv_thrown sv_length sv_nodes sv_many sv_directories sv_runsFrom sv_runs sv_read sv_wrong sv_isNamed sv_goes sv_goesSize sv_goesAt sv_targetParts sv_isRoot)), ((ma 8), .inl (cB, 1200, .inl fN)), ((ma 9), .inl (cI, 40, .inl fNS))] := hD
                      have R_f49 : Rg (-128) 127 120 f49 := Rg_updB e_f49 hlEx (by decide) (by decide)
                      have l_f49 : ∀ q : Nat, q < 3 * x.toNatClampNeg ∨ 3 * x.toNatClampNeg + 3 ≤ q → f49 q = fEx q := fun q hq => by rw [e_f49]; unfold upd; rw [if_neg (by have := i_cl (a := v41) (by omega); omega)]; exact y6 q hq
                      obtain ⟨v50, e_v50⟩ : ∃ z : Int32, z = k5 + 1 := ⟨_, rfl⟩
                      refine lv_iinc (v := v50) hx hb d_DiscMakerModel_identify_200 hl (k := 5) rfl e_v50.symm (by decide +kernel) rfl (fun ls hl => ?_)
                      have t_v50 : v50.toInt = k5.toInt + 1 := by rw [e_v50]; exact i_add rfl (by decide) (by omega) (by omega)
                      have hl : lv_has ls 7 [(5, .int v50), (0, .ref h0), (1, .int x), (2, .int do_), (3, .int en), (4, .int lf)] := hl
                      refine lv_goto (tgt := 163) hx hb d_DiscMakerModel_identify_203 (by decide) ?_
                      have hP := hP.sub (ws' := [(h0, .inr (11, MO ma sv_thrown sv_length sv_nodes sv_many sv_directories sv_runsFrom sv_runs sv_read sv_wrong sv_isNamed sv_goes sv_goesSize sv_goesAt sv_targetParts sv_isRoot)), ((ma 1), .inl (cI, 40, .inl fK)), ((ma 2), .inl (cI, 40, .inl fP)), ((ma 8), .inl (cB, 1200, .inl fN)), ((ma 9), .inl (cI, 40, .inl fNS)), ((ma 12), .inl (cB, 320, .inl lBa)), ((ma 13), .inl (cI, 40, .inl f2)), ((ma 14), .inl (cB, 120, .inl f49)), ((ma 15), .inl (cI, 40, .inl f4))]) [6, 0, 1, 7, 8, 2, 3, 4, 5] rfl
                      have hD := hD.sub (ws' := [(h0, .inr (11, MO ma sv_thrown sv_length sv_nodes sv_many sv_directories sv_runsFrom sv_runs sv_read sv_wrong sv_isNamed sv_goes sv_goesSize sv_goesAt sv_targetParts sv_isRoot)), ((ma 1), .inl (cI, 40, .inl fK)), ((ma 2), .inl (cI, 40, .inl fP)), ((ma 8), .inl (cB, 1200, .inl fN)), ((ma 9), .inl (cI, 40, .inl fNS)), ((ma 12), .inl (cB, 320, .inl lBa)), ((ma 13), .inl (cI, 40, .inl f2)), ((ma 14), .inl (cB, 120, .inl f49)), ((ma 15), .inl (cI, 40, .inl f4))]) [6, 0, 1, 7, 8, 2, 3, 4, 5] (by decide +kernel) rfl
                      have hl := lv_sub hl [1, 2, 3, 4, 5, 0] rfl
                      exact ih163 _ (by first | omega | (dsimp only; omega)) v50 f49 _ _ _ rfl ((by (try dsimp only); first | assumption | omega | trivial)) (l_f49) (R_f49) hP hD hS hl
                  · skip
                    intro kk163
                    have hP := hP.sub (ws' := [(h0, .inr (11, MO ma sv_thrown sv_length sv_nodes sv_many sv_directories sv_runsFrom sv_runs sv_read sv_wrong sv_isNamed sv_goes sv_goesSize sv_goesAt sv_targetParts sv_isRoot)), ((ma 1), .inl (cI, 40, .inl fK)), ((ma 2), .inl (cI, 40, .inl fP)), ((ma 8), .inl (cB, 1200, .inl fN)), ((ma 9), .inl (cI, 40, .inl fNS)), ((ma 12), .inl (cB, 320, .inl lBa)), ((ma 13), .inl (cI, 40, .inl f2)), ((ma 14), .inl (cB, 120, .inl fEx)), ((ma 15), .inl (cI, 40, .inl f4))]) [0, 1, 2, 3, 4, 5, 6, 7, 8] rfl
                    have hD := hD.sub (ws' := [(h0, .inr (11, MO ma sv_thrown sv_length sv_nodes sv_many sv_directories sv_runsFrom sv_runs sv_read sv_wrong sv_isNamed sv_goes sv_goesSize sv_goesAt sv_targetParts sv_isRoot)), ((ma 1), .inl (cI, 40, .inl fK)), ((ma 2), .inl (cI, 40, .inl fP)), ((ma 8), .inl (cB, 1200, .inl fN)), ((ma 9), .inl (cI, 40, .inl fNS)), ((ma 12), .inl (cB, 320, .inl lBa)), ((ma 13), .inl (cI, 40, .inl f2)), ((ma 14), .inl (cB, 120, .inl fEx)), ((ma 15), .inl (cI, 40, .inl f4))]) [0, 1, 2, 3, 4, 5, 6, 7, 8] (by decide +kernel) rfl
                    have hl := lv_sub hl [1, 2, 3, 4, 5, 0] rfl
                    exact kk163 _ 0 fEx _ _ _ rfl ((by (try dsimp only); first | assumption | omega | trivial)) ((fun _ _ => rfl)) (hfEx) hP hD hS hl
                · skip
                  intro kk159
                  refine lv_iload hx hb d_DiscMakerModel_identify_147 (lv_at hl 0 rfl) ?_
                  refine lv_iconst (v := 3) hx hb d_DiscMakerModel_identify_149 (by decide) ?_
                  refine lv_icmp_ge (tgt := 158) hx hb d_DiscMakerModel_identify_150 (by decide) (fun h_9 => ?_) (fun h_9 => ?_)
                  · skip
                    have g150_144 : 3 ≤ lf.toInt := (i_le (by decide) rfl).mp h_9
                    refine lv_iconst (v := 3) hx hb d_DiscMakerModel_identify_158 (by decide) ?_
                    have hP := hP.sub (ws' := [(h0, .inr (11, MO ma sv_thrown sv_length sv_nodes sv_many sv_directories sv_runsFrom sv_runs sv_read sv_wrong sv_isNamed sv_goes sv_goesSize sv_goesAt sv_targetParts sv_isRoot)), ((ma 1), .inl (cI, 40, .inl fK)), ((ma 2), .inl (cI, 40, .inl fP)), ((ma 8), .inl (cB, 1200, .inl fN)), ((ma 9), .inl (cI, 40, .inl fNS)), ((ma 12), .inl (cB, 320, .inl lBa)), ((ma 13), .inl (cI, 40, .inl f2)), ((ma 14), .inl (cB, 120, .inl fEx)), ((ma 15), .inl (cI, 40, .inl fEs))]) [0, 1, 2, 3, 4, 5, 6, 7, 8] rfl
                    have hD := hD.sub (ws' := [(h0, .inr (11, MO ma sv_thrown sv_length sv_nodes sv_many sv_directories sv_runsFrom sv_runs sv_read sv_wrong sv_isNamed sv_goes sv_goesSize sv_goesAt sv_targetParts sv_isRoot)), ((ma 1), .inl (cI, 40, .inl fK)), ((ma 2), .inl (cI, 40, .inl fP)), ((ma 8), .inl (cB, 1200, .inl fN)), ((ma 9), .inl (cI, 40, .inl fNS)), ((ma 12), .inl (cB, 320, .inl lBa)), ((ma 13), .inl (cI, 40, .inl f2)), ((ma 14), .inl (cB, 120, .inl fEx)), ((ma 15), .inl (cI, 40, .inl fEs))]) [0, 1, 2, 3, 4, 5, 6, 7, 8] (by decide +kernel) rfl
                    have hl := lv_sub hl [1, 2, 3, 4, 0] rfl
                    exact kk159 _ 3 _ _ _ rfl ((by (try dsimp only); first | assumption | omega | trivial)) hP hD hS hl
                  · skip
                    have g150_144 : ¬ 3 ≤ lf.toInt := fun h8 => h_9 ((i_le (by decide) rfl).mpr h8)
                    refine lv_iload hx hb d_DiscMakerModel_identify_153 (lv_at hl 0 rfl) ?_
                    refine lv_goto (tgt := 159) hx hb d_DiscMakerModel_identify_155 (by decide) ?_
                    have hP := hP.sub (ws' := [(h0, .inr (11, MO ma sv_thrown sv_length sv_nodes sv_many sv_directories sv_runsFrom sv_runs sv_read sv_wrong sv_isNamed sv_goes sv_goesSize sv_goesAt sv_targetParts sv_isRoot)), ((ma 1), .inl (cI, 40, .inl fK)), ((ma 2), .inl (cI, 40, .inl fP)), ((ma 8), .inl (cB, 1200, .inl fN)), ((ma 9), .inl (cI, 40, .inl fNS)), ((ma 12), .inl (cB, 320, .inl lBa)), ((ma 13), .inl (cI, 40, .inl f2)), ((ma 14), .inl (cB, 120, .inl fEx)), ((ma 15), .inl (cI, 40, .inl fEs))]) [0, 1, 2, 3, 4, 5, 6, 7, 8] rfl
                    have hD := hD.sub (ws' := [(h0, .inr (11, MO ma sv_thrown sv_length sv_nodes sv_many sv_directories sv_runsFrom sv_runs sv_read sv_wrong sv_isNamed sv_goes sv_goesSize sv_goesAt sv_targetParts sv_isRoot)), ((ma 1), .inl (cI, 40, .inl fK)), ((ma 2), .inl (cI, 40, .inl fP)), ((ma 8), .inl (cB, 1200, .inl fN)), ((ma 9), .inl (cI, 40, .inl fNS)), ((ma 12), .inl (cB, 320, .inl lBa)), ((ma 13), .inl (cI, 40, .inl f2)), ((ma 14), .inl (cB, 120, .inl fEx)), ((ma 15), .inl (cI, 40, .inl fEs))]) [0, 1, 2, 3, 4, 5, 6, 7, 8] (by decide +kernel) rfl
                    have hl := lv_sub hl [1, 2, 3, 4, 0] rfl
                    exact kk159 _ lf _ _ _ rfl ((by (try dsimp only); first | assumption | omega | trivial)) hP hD hS hl
              · skip
                intro kk140
                refine lv_iload_n hx hb d_DiscMakerModel_identify_122 rfl (lv_at hl 2 rfl) ?_
                refine lv_if_ge (tgt := 130) hx hb d_DiscMakerModel_identify_123 (by decide) (fun h_9 => ?_) (fun h_9 => ?_)
                · skip
                  have g123_151 : 0 ≤ do_.toInt := (i_le (by decide) rfl).mp h_9
                  refine lv_aload_n hx hb d_DiscMakerModel_identify_130 rfl (lv_at hl 0 rfl) ?_
                  refine va_get (D := D) (ci := 11) (v := .ref (ma 9)) (C := "DiscMakerModel") (T := F_DiscMakerModel) (N := 48) hx hb ht9 in_DiscMakerModel hown hK hP 0 rfl rfl 12 (by decide) (ht9 _ k1443) (fun _ h9 => h9) rfl d_DiscMakerModel_identify_131 ?_
                  refine lv_iload_n hx hb d_DiscMakerModel_identify_134 rfl (lv_at hl 1 rfl) ?_
                  refine va_iald hx hb hK hP 4 1 rfl rfl (vp_in_iff.mpr ⟨by omega, by omega⟩) d_DiscMakerModel_identify_135 ?_
                  refine lv_topi (fun v51 e_v51 => ?_)
                  have t_v51 : 0 ≤ v51.toInt ∧ v51.toInt ≤ 30 := by
                    rw [e_v51]; exact hNS _ (by have := i_cl (a := x) (by omega); omega)
                  have q_v51 : v51.toInt = v1.toInt := by rw [e_v51, e_v1]
                  have qv51 : v51.toInt = (fNS x.toNatClampNeg).toInt := by rw [e_v51]
                  refine lv_iload_n hx hb d_DiscMakerModel_identify_136 rfl (lv_at hl 2 rfl) ?_
                  refine lv_isub hx hb d_DiscMakerModel_identify_137 ?_
                  refine lv_topi (fun v52 e_v52 => ?_)
                  have t_v52 : v52.toInt = v51.toInt - do_.toInt := by rw [e_v52]; exact i_sub rfl rfl (by omega) (by omega)
                  refine lv_iconst (v := 1) hx hb d_DiscMakerModel_identify_138 (by decide) ?_
                  refine lv_isub hx hb d_DiscMakerModel_identify_139 ?_
                  refine lv_topi (fun v53 e_v53 => ?_)
                  have t_v53 : v53.toInt = v52.toInt - 1 := by rw [e_v53]; exact i_sub rfl (by decide) (by omega) (by omega)
                  have hP := hP.sub (ws' := [(h0, .inr (11, MO ma sv_thrown sv_length sv_nodes sv_many sv_directories sv_runsFrom sv_runs sv_read sv_wrong sv_isNamed sv_goes sv_goesSize sv_goesAt sv_targetParts sv_isRoot)), ((ma 1), .inl (cI, 40, .inl fK)), ((ma 2), .inl (cI, 40, .inl fP)), ((ma 8), .inl (cB, 1200, .inl fN)), ((ma 9), .inl (cI, 40, .inl fNS)), ((ma 12), .inl (cB, 320, .inl lBa)), ((ma 13), .inl (cI, 40, .inl f2)), ((ma 14), .inl (cB, 120, .inl fEx)), ((ma 15), .inl (cI, 40, .inl fEs))]) [0, 1, 2, 3, 4, 5, 6, 7, 8] rfl
                  have hD := hD.sub (ws' := [(h0, .inr (11, MO ma sv_thrown sv_length sv_nodes sv_many sv_directories sv_runsFrom sv_runs sv_read sv_wrong sv_isNamed sv_goes sv_goesSize sv_goesAt sv_targetParts sv_isRoot)), ((ma 1), .inl (cI, 40, .inl fK)), ((ma 2), .inl (cI, 40, .inl fP)), ((ma 8), .inl (cB, 1200, .inl fN)), ((ma 9), .inl (cI, 40, .inl fNS)), ((ma 12), .inl (cB, 320, .inl lBa)), ((ma 13), .inl (cI, 40, .inl f2)), ((ma 14), .inl (cB, 120, .inl fEx)), ((ma 15), .inl (cI, 40, .inl fEs))]) [0, 1, 2, 3, 4, 5, 6, 7, 8] (by decide +kernel) rfl
                  have hl := lv_sub hl [0, 1, 2, 3] rfl
                  exact kk140 _ v53 _ _ _ rfl ((by (try dsimp only); first | assumption | omega | trivial)) hP hD hS hl
                · skip
                  have g123_151 : ¬ 0 ≤ do_.toInt := fun h8 => h_9 ((i_le (by decide) rfl).mpr h8)
                  refine lv_iconst (v := 0) hx hb d_DiscMakerModel_identify_126 (by decide) ?_
                  refine lv_goto (tgt := 140) hx hb d_DiscMakerModel_identify_127 (by decide) ?_
                  have hP := hP.sub (ws' := [(h0, .inr (11, MO ma sv_thrown sv_length sv_nodes sv_many sv_directories sv_runsFrom sv_runs sv_read sv_wrong sv_isNamed sv_goes sv_goesSize sv_goesAt sv_targetParts sv_isRoot)), ((ma 1), .inl (cI, 40, .inl fK)), ((ma 2), .inl (cI, 40, .inl fP)), ((ma 8), .inl (cB, 1200, .inl fN)), ((ma 9), .inl (cI, 40, .inl fNS)), ((ma 12), .inl (cB, 320, .inl lBa)), ((ma 13), .inl (cI, 40, .inl f2)), ((ma 14), .inl (cB, 120, .inl fEx)), ((ma 15), .inl (cI, 40, .inl fEs))]) [0, 1, 2, 3, 4, 5, 6, 7, 8] rfl
                  have hD := hD.sub (ws' := [(h0, .inr (11, MO ma sv_thrown sv_length sv_nodes sv_many sv_directories sv_runsFrom sv_runs sv_read sv_wrong sv_isNamed sv_goes sv_goesSize sv_goesAt sv_targetParts sv_isRoot)), ((ma 1), .inl (cI, 40, .inl fK)), ((ma 2), .inl (cI, 40, .inl fP)), ((ma 8), .inl (cB, 1200, .inl fN)), ((ma 9), .inl (cI, 40, .inl fNS)), ((ma 12), .inl (cB, 320, .inl lBa)), ((ma 13), .inl (cI, 40, .inl f2)), ((ma 14), .inl (cB, 120, .inl fEx)), ((ma 15), .inl (cI, 40, .inl fEs))]) [0, 1, 2, 3, 4, 5, 6, 7, 8] (by decide +kernel) rfl
                  have hl := lv_sub hl [0, 1, 2, 3] rfl
                  exact kk140 _ 0 _ _ _ rfl ((by (try dsimp only); first | assumption | omega | trivial)) hP hD hS hl
            · skip
              have g90_23 : ¬ v3.toInt ≤ k4.toInt := fun h8 => h_9 ((i_le rfl rfl).mpr h8)
              refine lv_aload_n hx hb d_DiscMakerModel_identify_93 rfl (lv_at hl 0 rfl) ?_
              refine va_get (D := D) (ci := 11) (v := .ref (ma 12)) (C := "DiscMakerModel") (T := F_DiscMakerModel) (N := 48) hx hb ht9 in_DiscMakerModel hown hK hP 0 rfl rfl 15 (by decide) (ht9 _ k1446) (fun _ h9 => h9) rfl d_DiscMakerModel_identify_94 ?_
              refine lv_bipush (v := 8) hx hb d_DiscMakerModel_identify_97 (by decide) ?_
              refine lv_iload_n hx hb d_DiscMakerModel_identify_99 rfl (lv_at hl 1 rfl) ?_
              refine lv_imul hx hb d_DiscMakerModel_identify_100 ?_
              refine lv_topi (fun v54 e_v54 => ?_)
              have t_v54 : v54.toInt = 8 * x.toInt := by rw [e_v54]; exact i_mul (by decide) rfl (by omega) (by omega)
              refine lv_iload hx hb d_DiscMakerModel_identify_101 (lv_at hl 4 rfl) ?_
              refine lv_iadd hx hb d_DiscMakerModel_identify_103 ?_
              refine lv_topi (fun v55 e_v55 => ?_)
              have t_v55 : v55.toInt = v54.toInt + k4.toInt := by rw [e_v55]; exact i_add rfl rfl (by omega) (by omega)
              refine lv_aload_n hx hb d_DiscMakerModel_identify_104 rfl (lv_at hl 0 rfl) ?_
              refine lv_iload_n hx hb d_DiscMakerModel_identify_105 rfl (lv_at hl 1 rfl) ?_
              refine lv_iload hx hb d_DiscMakerModel_identify_106 (lv_at hl 4 rfl) ?_
              have hPc := hP.sub (ws' := [(h0, .inr (11, MO ma sv_thrown sv_length sv_nodes sv_many sv_directories sv_runsFrom sv_runs sv_read sv_wrong sv_isNamed sv_goes sv_goesSize sv_goesAt sv_targetParts sv_isRoot)), ((ma 8), .inl (cB, 1200, .inl fN)), ((ma 9), .inl (cI, 40, .inl fNS))]) [0, 3, 4] rfl
              have hDc := hD.sub (ws' := [(h0, .inr (11, MO ma sv_thrown sv_length sv_nodes sv_many sv_directories sv_runsFrom sv_runs sv_read sv_wrong sv_isNamed sv_goes sv_goesSize sv_goesAt sv_targetParts sv_isRoot)), ((ma 8), .inl (cB, 1200, .inl fN)), ((ma 9), .inl (cI, 40, .inl fNS))]) [0, 3, 4] (by decide +kernel) rfl
              have hFc := va_free (wc := [(h0, .inr (11, MO ma sv_thrown sv_length sv_nodes sv_many sv_directories sv_runsFrom sv_runs sv_read sv_wrong sv_isNamed sv_goes sv_goesSize sv_goesAt sv_targetParts sv_isRoot)), ((ma 8), .inl (cB, 1200, .inl fN)), ((ma 9), .inl (cI, 40, .inl fNS))]) hD hS hA [0, 3, 4] rfl
              have hkc : 0 ≤ 0 := by decide
              have hks : 0 ≤ 0 := by decide
              refine va_calli (va_runV (C := "DiscMakerModel") (As := [.int x, .int k4]) (rest := [.int v55, .ref (ma 12)]) ⟨hx, hb, hml, hown, hts⟩ (m_nameOf l D cB cI cJ cZ cN cF H.size h0 ma sv_thrown sv_length sv_nodes sv_many sv_directories sv_runsFrom sv_runs sv_read sv_wrong sv_isNamed sv_goes sv_goesSize sv_goesAt sv_targetParts sv_isRoot fN fNS x k4 (by (try dsimp only); first | assumption | omega | trivial) (by (try dsimp only); first | assumption | omega | trivial) (by (try dsimp only); first | assumption | omega | trivial)) (cwV 2 hts (lg_goodV k1616 k1618 k56 k125 kc_DiscMakerModel_nameOf) rfl rfl rfl (by decide +kernel) ⟨Nat.le_of_ble_eq_true rfl, Nat.le_of_ble_eq_true rfl⟩) ⟨fun a U g mk q => by obtain ⟨q0, q1, qP, qK, qN, qD⟩ := q; exact ⟨q0, q1, qP, va_K.moved (u := U) (U := U.calling g mk a) (Vm.Alike.refl U.vm) qK, qN.calling, qD⟩, va_recv hK hP (ci := 11) (q0 := 0) rfl rfl, fun U hU hW => ⟨rfl, by rw [hU], by rw [hU]; exact hPc, va_K.moved hW.alike hK, NN.warm hW hN, hDc.weaken (fun _ _ _ _ => trivial)⟩⟩ rfl rfl hl.1 rfl (lv_room (Nat.le_of_ble_eq_true rfl)) d_DiscMakerModel_identify_108 ⟨hkc, hks⟩) hS (fun q _ h => hFc q h) hFc (fun r56 u t H1 locs ht hvm hp_r56 hB hz1 hk1 hS => ?_)
              obtain ⟨hP1, hD1⟩ := hB
              rw [ht] at hP1
              obtain ⟨hP, hD⟩ := va_join (wr := [((ma 1), .inl (cI, 40, .inl fK)), ((ma 2), .inl (cI, 40, .inl fP)), ((ma 12), .inl (cB, 320, .inl lBa)), ((ma 13), .inl (cI, 40, .inl f2)), ((ma 14), .inl (cB, 120, .inl fEx)), ((ma 15), .inl (cI, 40, .inl fEs))]) (w1 := [(h0, .inr (11, MO ma sv_thrown sv_length sv_nodes sv_many sv_directories sv_runsFrom sv_runs sv_read sv_wrong sv_isNamed sv_goes sv_goesSize sv_goesAt sv_targetParts sv_isRoot)), ((ma 8), .inl (cB, 1200, .inl fN)), ((ma 9), .inl (cI, 40, .inl fNS))]) hP hD [0, 3, 4] [1, 2, 5, 6, 7, 8] rfl rfl (by decide +kernel) (by decide +kernel) hk1 hFc hP1 hD1
              clear hPc hDc hFc hP1 hD1 hk1 hz1 hkc hks
              generalize H1 = H at hP hS ⊢
              have hP : va_P D CL [((ma 1), .inl (cI, 40, .inl fK)), ((ma 2), .inl (cI, 40, .inl fP)), ((ma 12), .inl (cB, 320, .inl lBa)), ((ma 13), .inl (cI, 40, .inl f2)), ((ma 14), .inl (cB, 120, .inl fEx)), ((ma 15), .inl (cI, 40, .inl fEs)), (h0, .inr (11, MO ma sv_thrown sv_length sv_nodes sv_many sv_directories sv_runsFrom sv_runs sv_read sv_wrong sv_isNamed sv_goes sv_goesSize sv_goesAt sv_targetParts sv_isRoot)), ((ma 8), .inl (cB, 1200, .inl fN)), ((ma 9), .inl (cI, 40, .inl fNS))] H := hP
              have hD : va_D A [((ma 1), .inl (cI, 40, .inl fK)), ((ma 2), .inl (cI, 40, .inl fP)), ((ma 12), .inl (cB, 320, .inl lBa)), ((ma 13), .inl (cI, 40, .inl f2)), ((ma 14), .inl (cB, 120, .inl fEx)), ((ma 15), .inl (cI, 40, .inl fEs)), (h0, .inr (11, MO ma sv_thrown sv_length sv_nodes sv_many sv_directories sv_runsFrom sv_runs sv_read sv_wrong sv_isNamed sv_goes sv_goesSize sv_goesAt sv_targetParts sv_isRoot)), ((ma 8), .inl (cB, 1200, .inl fN)), ((ma 9), .inl (cI, 40, .inl fNS))] := hD
              try dsimp only at hp_r56
              obtain ⟨hr_57, hv_58⟩ := hp_r56
              have hPc := hP.sub (ws' := []) [] rfl
              have hDc := hD.sub (ws' := []) [] (by decide +kernel) rfl
              have hFc := va_free (wc := []) hD hS hA [] rfl
              have hkc : 0 ≤ 0 := by decide
              have hks : 0 ≤ 0 := by decide
              refine va_calli (va_runS (As := [.int r56]) (rest := [.int v55, .ref (ma 12)]) ⟨hx, hb, hml, hown, hts⟩ (m_capital l D cB cI cJ cZ cN cF H.size r56 (by (try dsimp only); first | assumption | omega | trivial)) (cwS 1 hts (lg_goodS k1652 k1653 k125 kc_DiscMakerModel_capital) rfl rfl rfl (by decide +kernel) ⟨Nat.le_of_ble_eq_true rfl, Nat.le_of_ble_eq_true rfl⟩) ⟨fun a U g mk q => by obtain ⟨q0, q1, qP, qK, qN, qD⟩ := q; exact ⟨q0, q1, qP, va_K.moved (u := U) (U := U.calling g mk a) (Vm.Alike.refl U.vm) qK, qN.calling, qD⟩, fun U hU hW => ⟨rfl, by rw [hU], by rw [hU]; exact hPc, va_K.moved hW.alike hK, NN.warm hW hN, hDc.weaken (fun _ _ _ _ => trivial)⟩⟩ rfl rfl hl.1 rfl (lv_room (Nat.le_of_ble_eq_true rfl)) d_DiscMakerModel_identify_111 ⟨hkc, hks⟩) hS (fun q _ h => hFc q h) hFc (fun r59 u t H1 locs ht hvm hp_r59 hB hz1 hk1 hS => ?_)
              obtain ⟨hP1, hD1⟩ := hB
              rw [ht] at hP1
              obtain ⟨hP, hD⟩ := va_join (wr := [((ma 1), .inl (cI, 40, .inl fK)), ((ma 2), .inl (cI, 40, .inl fP)), ((ma 12), .inl (cB, 320, .inl lBa)), ((ma 13), .inl (cI, 40, .inl f2)), ((ma 14), .inl (cB, 120, .inl fEx)), ((ma 15), .inl (cI, 40, .inl fEs)), (h0, .inr (11, MO ma sv_thrown sv_length sv_nodes sv_many sv_directories sv_runsFrom sv_runs sv_read sv_wrong sv_isNamed sv_goes sv_goesSize sv_goesAt sv_targetParts sv_isRoot)), ((ma 8), .inl (cB, 1200, .inl fN)), ((ma 9), .inl (cI, 40, .inl fNS))]) (w1 := []) hP hD [] [0, 1, 2, 3, 4, 5, 6, 7, 8] rfl rfl (by decide +kernel) (by decide +kernel) hk1 hFc hP1 hD1
              clear hPc hDc hFc hP1 hD1 hk1 hz1 hkc hks
              generalize H1 = H at hP hS ⊢
              have hP : va_P D CL [((ma 1), .inl (cI, 40, .inl fK)), ((ma 2), .inl (cI, 40, .inl fP)), ((ma 12), .inl (cB, 320, .inl lBa)), ((ma 13), .inl (cI, 40, .inl f2)), ((ma 14), .inl (cB, 120, .inl fEx)), ((ma 15), .inl (cI, 40, .inl fEs)), (h0, .inr (11, MO ma sv_thrown sv_length sv_nodes sv_many sv_directories sv_runsFrom sv_runs sv_read sv_wrong sv_isNamed sv_goes sv_goesSize sv_goesAt sv_targetParts sv_isRoot)), ((ma 8), .inl (cB, 1200, .inl fN)), ((ma 9), .inl (cI, 40, .inl fNS))] H := hP
              have hD : va_D A [((ma 1), .inl (cI, 40, .inl fK)), ((ma 2), .inl (cI, 40, .inl fP)), ((ma 12), .inl (cB, 320, .inl lBa)), ((ma 13), .inl (cI, 40, .inl f2)), ((ma 14), .inl (cB, 120, .inl fEx)), ((ma 15), .inl (cI, 40, .inl fEs)), (h0, .inr (11, MO ma sv_thrown sv_length sv_nodes sv_many sv_directories sv_runsFrom sv_runs sv_read sv_wrong sv_isNamed sv_goes sv_goesSize sv_goesAt sv_targetParts sv_isRoot)), ((ma 8), .inl (cB, 1200, .inl fN)), ((ma 9), .inl (cI, 40, .inl fNS))] := hD
              refine lv_i2b hx hb d_DiscMakerModel_identify_114 rfl ?_
              refine lv_topi (fun v60 e_v60 => ?_)
              have t_v60 : (-128) ≤ v60.toInt ∧ v60.toInt ≤ 127 := by rw [e_v60]; exact i_b _
              refine zq_bast hx hb hK hP hD hS 2 0 rfl rfl (vp_in_iff.mpr ⟨by omega, by omega⟩) d_DiscMakerModel_identify_115 (fun f61 e_f61 H locs hP hD hS => ?_)
              have hP : va_P D CL [((ma 1), .inl (cI, 40, .inl fK)), ((ma 2), .inl (cI, 40, .inl fP)), ((ma 12), .inl (cB, 320, .inl f61)), ((ma 13), .inl (cI, 40, .inl f2)), ((ma 14), .inl (cB, 120, .inl fEx)), ((ma 15), .inl (cI, 40, .inl fEs)), (h0, .inr (11, MO ma sv_thrown sv_length sv_nodes sv_many sv_directories sv_runsFrom sv_runs sv_read sv_wrong sv_isNamed sv_goes sv_goesSize sv_goesAt sv_targetParts sv_isRoot)), ((ma 8), .inl (cB, 1200, .inl fN)), ((ma 9), .inl (cI, 40, .inl fNS))] H := hP
              have hD : va_D A [((ma 1), .inl (cI, 40, .inl fK)), ((ma 2), .inl (cI, 40, .inl fP)), ((ma 12), .inl (cB, 320, .inl f61)), ((ma 13), .inl (cI, 40, .inl f2)), ((ma 14), .inl (cB, 120, .inl fEx)), ((ma 15), .inl (cI, 40, .inl fEs)), (h0, .inr (11, MO ma sv_thrown sv_length sv_nodes sv_many sv_directories sv_runsFrom sv_runs sv_read sv_wrong sv_isNamed sv_goes sv_goesSize sv_goesAt sv_targetParts sv_isRoot)), ((ma 8), .inl (cB, 1200, .inl fN)), ((ma 9), .inl (cI, 40, .inl fNS))] := hD
              have R_f61 : Rg (-128) 127 320 f61 := Rg_updB e_f61 hlBa (by decide) (by decide)
              have l_f61 : ∀ q : Nat, q < 8 * x.toNatClampNeg ∨ 8 * x.toNatClampNeg + 8 ≤ q → f61 q = fBa q := fun q hq => by rw [e_f61]; unfold upd; rw [if_neg (by have := i_cl (a := v55) (by omega); omega)]; exact y4 q hq
              obtain ⟨v62, e_v62⟩ : ∃ z : Int32, z = k4 + 1 := ⟨_, rfl⟩
              refine lv_iinc (v := v62) hx hb d_DiscMakerModel_identify_116 hl (k := 4) rfl e_v62.symm (by decide +kernel) rfl (fun ls hl => ?_)
              have t_v62 : v62.toInt = k4.toInt + 1 := by rw [e_v62]; exact i_add rfl (by decide) (by omega) (by omega)
              have hl : lv_has ls 7 [(4, .int v62), (0, .ref h0), (1, .int x), (2, .int do_), (3, .int en)] := hl
              refine lv_goto (tgt := 82) hx hb d_DiscMakerModel_identify_119 (by decide) ?_
              have hP := hP.sub (ws' := [(h0, .inr (11, MO ma sv_thrown sv_length sv_nodes sv_many sv_directories sv_runsFrom sv_runs sv_read sv_wrong sv_isNamed sv_goes sv_goesSize sv_goesAt sv_targetParts sv_isRoot)), ((ma 1), .inl (cI, 40, .inl fK)), ((ma 2), .inl (cI, 40, .inl fP)), ((ma 8), .inl (cB, 1200, .inl fN)), ((ma 9), .inl (cI, 40, .inl fNS)), ((ma 12), .inl (cB, 320, .inl f61)), ((ma 13), .inl (cI, 40, .inl f2)), ((ma 14), .inl (cB, 120, .inl fEx)), ((ma 15), .inl (cI, 40, .inl fEs))]) [6, 0, 1, 7, 8, 2, 3, 4, 5] rfl
              have hD := hD.sub (ws' := [(h0, .inr (11, MO ma sv_thrown sv_length sv_nodes sv_many sv_directories sv_runsFrom sv_runs sv_read sv_wrong sv_isNamed sv_goes sv_goesSize sv_goesAt sv_targetParts sv_isRoot)), ((ma 1), .inl (cI, 40, .inl fK)), ((ma 2), .inl (cI, 40, .inl fP)), ((ma 8), .inl (cB, 1200, .inl fN)), ((ma 9), .inl (cI, 40, .inl fNS)), ((ma 12), .inl (cB, 320, .inl f61)), ((ma 13), .inl (cI, 40, .inl f2)), ((ma 14), .inl (cB, 120, .inl fEx)), ((ma 15), .inl (cI, 40, .inl fEs))]) [6, 0, 1, 7, 8, 2, 3, 4, 5] (by decide +kernel) rfl
              have hl := lv_sub hl [1, 2, 3, 4, 0] rfl
              exact ih82 _ (by first | omega | (dsimp only; omega)) v62 f61 _ _ _ rfl ((by (try dsimp only); first | assumption | omega | trivial)) (l_f61) (R_f61) hP hD hS hl
          · skip
            intro kk82
            have hP := hP.sub (ws' := [(h0, .inr (11, MO ma sv_thrown sv_length sv_nodes sv_many sv_directories sv_runsFrom sv_runs sv_read sv_wrong sv_isNamed sv_goes sv_goesSize sv_goesAt sv_targetParts sv_isRoot)), ((ma 1), .inl (cI, 40, .inl fK)), ((ma 2), .inl (cI, 40, .inl fP)), ((ma 8), .inl (cB, 1200, .inl fN)), ((ma 9), .inl (cI, 40, .inl fNS)), ((ma 12), .inl (cB, 320, .inl fBa)), ((ma 13), .inl (cI, 40, .inl f2)), ((ma 14), .inl (cB, 120, .inl fEx)), ((ma 15), .inl (cI, 40, .inl fEs))]) [0, 1, 2, 3, 4, 5, 6, 7, 8] rfl
            have hD := hD.sub (ws' := [(h0, .inr (11, MO ma sv_thrown sv_length sv_nodes sv_many sv_directories sv_runsFrom sv_runs sv_read sv_wrong sv_isNamed sv_goes sv_goesSize sv_goesAt sv_targetParts sv_isRoot)), ((ma 1), .inl (cI, 40, .inl fK)), ((ma 2), .inl (cI, 40, .inl fP)), ((ma 8), .inl (cB, 1200, .inl fN)), ((ma 9), .inl (cI, 40, .inl fNS)), ((ma 12), .inl (cB, 320, .inl fBa)), ((ma 13), .inl (cI, 40, .inl f2)), ((ma 14), .inl (cB, 120, .inl fEx)), ((ma 15), .inl (cI, 40, .inl fEs))]) [0, 1, 2, 3, 4, 5, 6, 7, 8] (by decide +kernel) rfl
            have hl := lv_sub hl [1, 2, 3, 4, 0] rfl
            exact kk82 _ 0 fBa _ _ _ rfl ((by (try dsimp only); first | assumption | omega | trivial)) ((fun _ _ => rfl)) (hfBa) hP hD hS hl
        · skip
          intro kk78
          refine lv_iload_n hx hb d_DiscMakerModel_identify_66 rfl (lv_at hl 0 rfl) ?_
          refine lv_bipush (v := 8) hx hb d_DiscMakerModel_identify_67 (by decide) ?_
          refine lv_icmp_ge (tgt := 76) hx hb d_DiscMakerModel_identify_69 (by decide) (fun h_9 => ?_) (fun h_9 => ?_)
          · skip
            have g69_183 : 8 ≤ en.toInt := (i_le (by decide) rfl).mp h_9
            refine lv_bipush (v := 8) hx hb d_DiscMakerModel_identify_76 (by decide) ?_
            have hP := hP.sub (ws' := [(h0, .inr (11, MO ma sv_thrown sv_length sv_nodes sv_many sv_directories sv_runsFrom sv_runs sv_read sv_wrong sv_isNamed sv_goes sv_goesSize sv_goesAt sv_targetParts sv_isRoot)), ((ma 1), .inl (cI, 40, .inl fK)), ((ma 2), .inl (cI, 40, .inl fP)), ((ma 8), .inl (cB, 1200, .inl fN)), ((ma 9), .inl (cI, 40, .inl fNS)), ((ma 12), .inl (cB, 320, .inl fBa)), ((ma 13), .inl (cI, 40, .inl fBs)), ((ma 14), .inl (cB, 120, .inl fEx)), ((ma 15), .inl (cI, 40, .inl fEs))]) [0, 1, 2, 3, 4, 5, 6, 7, 8] rfl
            have hD := hD.sub (ws' := [(h0, .inr (11, MO ma sv_thrown sv_length sv_nodes sv_many sv_directories sv_runsFrom sv_runs sv_read sv_wrong sv_isNamed sv_goes sv_goesSize sv_goesAt sv_targetParts sv_isRoot)), ((ma 1), .inl (cI, 40, .inl fK)), ((ma 2), .inl (cI, 40, .inl fP)), ((ma 8), .inl (cB, 1200, .inl fN)), ((ma 9), .inl (cI, 40, .inl fNS)), ((ma 12), .inl (cB, 320, .inl fBa)), ((ma 13), .inl (cI, 40, .inl fBs)), ((ma 14), .inl (cB, 120, .inl fEx)), ((ma 15), .inl (cI, 40, .inl fEs))]) [0, 1, 2, 3, 4, 5, 6, 7, 8] (by decide +kernel) rfl
            have hl := lv_sub hl [1, 2, 3, 0] rfl
            exact kk78 _ 8 _ _ _ rfl ((by (try dsimp only); first | assumption | omega | trivial)) hP hD hS hl
          · skip
            have g69_183 : ¬ 8 ≤ en.toInt := fun h8 => h_9 ((i_le (by decide) rfl).mpr h8)
            refine lv_iload_n hx hb d_DiscMakerModel_identify_72 rfl (lv_at hl 0 rfl) ?_
            refine lv_goto (tgt := 78) hx hb d_DiscMakerModel_identify_73 (by decide) ?_
            have hP := hP.sub (ws' := [(h0, .inr (11, MO ma sv_thrown sv_length sv_nodes sv_many sv_directories sv_runsFrom sv_runs sv_read sv_wrong sv_isNamed sv_goes sv_goesSize sv_goesAt sv_targetParts sv_isRoot)), ((ma 1), .inl (cI, 40, .inl fK)), ((ma 2), .inl (cI, 40, .inl fP)), ((ma 8), .inl (cB, 1200, .inl fN)), ((ma 9), .inl (cI, 40, .inl fNS)), ((ma 12), .inl (cB, 320, .inl fBa)), ((ma 13), .inl (cI, 40, .inl fBs)), ((ma 14), .inl (cB, 120, .inl fEx)), ((ma 15), .inl (cI, 40, .inl fEs))]) [0, 1, 2, 3, 4, 5, 6, 7, 8] rfl
            have hD := hD.sub (ws' := [(h0, .inr (11, MO ma sv_thrown sv_length sv_nodes sv_many sv_directories sv_runsFrom sv_runs sv_read sv_wrong sv_isNamed sv_goes sv_goesSize sv_goesAt sv_targetParts sv_isRoot)), ((ma 1), .inl (cI, 40, .inl fK)), ((ma 2), .inl (cI, 40, .inl fP)), ((ma 8), .inl (cB, 1200, .inl fN)), ((ma 9), .inl (cI, 40, .inl fNS)), ((ma 12), .inl (cB, 320, .inl fBa)), ((ma 13), .inl (cI, 40, .inl fBs)), ((ma 14), .inl (cB, 120, .inl fEx)), ((ma 15), .inl (cI, 40, .inl fEs))]) [0, 1, 2, 3, 4, 5, 6, 7, 8] (by decide +kernel) rfl
            have hl := lv_sub hl [1, 2, 3, 0] rfl
            exact kk78 _ en _ _ _ rfl ((by (try dsimp only); first | assumption | omega | trivial)) hP hD hS hl
      · skip
        intro kk60
        refine lv_iload_n hx hb d_DiscMakerModel_identify_46 rfl (lv_at hl 2 rfl) ?_
        refine lv_if_ge (tgt := 59) hx hb d_DiscMakerModel_identify_47 (by decide) (fun h_9 => ?_) (fun h_9 => ?_)
        · skip
          have g47_190 : 0 ≤ do_.toInt := (i_le (by decide) rfl).mp h_9
          refine lv_iload_n hx hb d_DiscMakerModel_identify_59 rfl (lv_at hl 2 rfl) ?_
          have hP := hP.sub (ws' := [(h0, .inr (11, MO ma sv_thrown sv_length sv_nodes sv_many sv_directories sv_runsFrom sv_runs sv_read sv_wrong sv_isNamed sv_goes sv_goesSize sv_goesAt sv_targetParts sv_isRoot)), ((ma 1), .inl (cI, 40, .inl fK)), ((ma 2), .inl (cI, 40, .inl fP)), ((ma 8), .inl (cB, 1200, .inl fN)), ((ma 9), .inl (cI, 40, .inl fNS)), ((ma 12), .inl (cB, 320, .inl fBa)), ((ma 13), .inl (cI, 40, .inl fBs)), ((ma 14), .inl (cB, 120, .inl fEx)), ((ma 15), .inl (cI, 40, .inl fEs))]) [0, 1, 2, 3, 4, 5, 6, 7, 8] rfl
          have hD := hD.sub (ws' := [(h0, .inr (11, MO ma sv_thrown sv_length sv_nodes sv_many sv_directories sv_runsFrom sv_runs sv_read sv_wrong sv_isNamed sv_goes sv_goesSize sv_goesAt sv_targetParts sv_isRoot)), ((ma 1), .inl (cI, 40, .inl fK)), ((ma 2), .inl (cI, 40, .inl fP)), ((ma 8), .inl (cB, 1200, .inl fN)), ((ma 9), .inl (cI, 40, .inl fNS)), ((ma 12), .inl (cB, 320, .inl fBa)), ((ma 13), .inl (cI, 40, .inl fBs)), ((ma 14), .inl (cB, 120, .inl fEx)), ((ma 15), .inl (cI, 40, .inl fEs))]) [0, 1, 2, 3, 4, 5, 6, 7, 8] (by decide +kernel) rfl
          have hl := lv_sub hl [0, 1, 2] rfl
          exact kk60 _ do_ _ _ _ rfl ((by (try dsimp only); first | assumption | omega | trivial)) hP hD hS hl
        · skip
          have g47_190 : ¬ 0 ≤ do_.toInt := fun h8 => h_9 ((i_le (by decide) rfl).mpr h8)
          refine lv_aload_n hx hb d_DiscMakerModel_identify_50 rfl (lv_at hl 0 rfl) ?_
          refine va_get (D := D) (ci := 11) (v := .ref (ma 9)) (C := "DiscMakerModel") (T := F_DiscMakerModel) (N := 48) hx hb ht9 in_DiscMakerModel hown hK hP 0 rfl rfl 12 (by decide) (ht9 _ k1443) (fun _ h9 => h9) rfl d_DiscMakerModel_identify_51 ?_
          refine lv_iload_n hx hb d_DiscMakerModel_identify_54 rfl (lv_at hl 1 rfl) ?_
          refine va_iald hx hb hK hP 4 1 rfl rfl (vp_in_iff.mpr ⟨by omega, by omega⟩) d_DiscMakerModel_identify_55 ?_
          refine lv_topi (fun v63 e_v63 => ?_)
          have t_v63 : 0 ≤ v63.toInt ∧ v63.toInt ≤ 30 := by
            rw [e_v63]; exact hNS _ (by have := i_cl (a := x) (by omega); omega)
          have q_v63 : v63.toInt = v1.toInt := by rw [e_v63, e_v1]
          have qv63 : v63.toInt = (fNS x.toNatClampNeg).toInt := by rw [e_v63]
          refine lv_goto (tgt := 60) hx hb d_DiscMakerModel_identify_56 (by decide) ?_
          have hP := hP.sub (ws' := [(h0, .inr (11, MO ma sv_thrown sv_length sv_nodes sv_many sv_directories sv_runsFrom sv_runs sv_read sv_wrong sv_isNamed sv_goes sv_goesSize sv_goesAt sv_targetParts sv_isRoot)), ((ma 1), .inl (cI, 40, .inl fK)), ((ma 2), .inl (cI, 40, .inl fP)), ((ma 8), .inl (cB, 1200, .inl fN)), ((ma 9), .inl (cI, 40, .inl fNS)), ((ma 12), .inl (cB, 320, .inl fBa)), ((ma 13), .inl (cI, 40, .inl fBs)), ((ma 14), .inl (cB, 120, .inl fEx)), ((ma 15), .inl (cI, 40, .inl fEs))]) [0, 1, 2, 3, 4, 5, 6, 7, 8] rfl
          have hD := hD.sub (ws' := [(h0, .inr (11, MO ma sv_thrown sv_length sv_nodes sv_many sv_directories sv_runsFrom sv_runs sv_read sv_wrong sv_isNamed sv_goes sv_goesSize sv_goesAt sv_targetParts sv_isRoot)), ((ma 1), .inl (cI, 40, .inl fK)), ((ma 2), .inl (cI, 40, .inl fP)), ((ma 8), .inl (cB, 1200, .inl fN)), ((ma 9), .inl (cI, 40, .inl fNS)), ((ma 12), .inl (cB, 320, .inl fBa)), ((ma 13), .inl (cI, 40, .inl fBs)), ((ma 14), .inl (cB, 120, .inl fEx)), ((ma 15), .inl (cI, 40, .inl fEs))]) [0, 1, 2, 3, 4, 5, 6, 7, 8] (by decide +kernel) rfl
          have hl := lv_sub hl [0, 1, 2] rfl
          exact kk60 _ v63 _ _ _ rfl ((by (try dsimp only); first | assumption | omega | trivial)) hP hD hS hl
    · skip
      have g11_10 : ¬ v1.toInt ≤ ki.toInt := fun h8 => h_9 ((i_le rfl rfl).mpr h8)
      refine lv_aload_n hx hb d_DiscMakerModel_identify_14 rfl (lv_at hl 0 rfl) ?_
      refine va_get (D := D) (ci := 11) (v := .ref (ma 1)) (C := "DiscMakerModel") (T := F_DiscMakerModel) (N := 48) hx hb ht9 in_DiscMakerModel hown hK hP 0 rfl rfl 4 (by decide) (ht9 _ k1435) (fun _ h9 => h9) rfl d_DiscMakerModel_identify_15 ?_
      refine lv_iload_n hx hb d_DiscMakerModel_identify_18 rfl (lv_at hl 1 rfl) ?_
      refine va_iald hx hb hK hP 1 1 rfl rfl (vp_in_iff.mpr ⟨by omega, by omega⟩) d_DiscMakerModel_identify_19 ?_
      refine lv_topi (fun v64 e_v64 => ?_)
      have t_v64 : 0 ≤ v64.toInt ∧ v64.toInt ≤ 2 := by
        rw [e_v64]; exact hKi _ (by have := i_cl (a := x) (by omega); omega)
      refine lv_if_le (tgt := 46) hx hb d_DiscMakerModel_identify_20 (by decide) (fun h_9 => ?_) (fun h_9 => ?_)
      · skip
        have g20_203 : v64.toInt ≤ 0 := (i_le rfl (by decide)).mp h_9
        refine zz_labM (B := fun (lk : Nat) (K : Heap → List Loc → Array Slot → List Value → Prop) => ∀ (en : Int32) (H : Heap) (locs : List Loc) (ls : Array Slot), lk = 0 → (0 ≤ en.toInt ∧ en.toInt ≤ 30) → va_P D CL [(h0, .inr (11, MO ma sv_thrown sv_length sv_nodes sv_many sv_directories sv_runsFrom sv_runs sv_read sv_wrong sv_isNamed sv_goes sv_goesSize sv_goesAt sv_targetParts sv_isRoot)), ((ma 1), .inl (cI, 40, .inl fK)), ((ma 2), .inl (cI, 40, .inl fP)), ((ma 8), .inl (cB, 1200, .inl fN)), ((ma 9), .inl (cI, 40, .inl fNS)), ((ma 12), .inl (cB, 320, .inl fBa)), ((ma 13), .inl (cI, 40, .inl fBs)), ((ma 14), .inl (cB, 120, .inl fEx)), ((ma 15), .inl (cI, 40, .inl fEs))] H → va_D A [(h0, .inr (11, MO ma sv_thrown sv_length sv_nodes sv_many sv_directories sv_runsFrom sv_runs sv_read sv_wrong sv_isNamed sv_goes sv_goesSize sv_goesAt sv_targetParts sv_isRoot)), ((ma 1), .inl (cI, 40, .inl fK)), ((ma 2), .inl (cI, 40, .inl fP)), ((ma 8), .inl (cB, 1200, .inl fN)), ((ma 9), .inl (cI, 40, .inl fNS)), ((ma 12), .inl (cB, 320, .inl fBa)), ((ma 13), .inl (cI, 40, .inl fBs)), ((ma 14), .inl (cB, 120, .inl fEx)), ((ma 15), .inl (cI, 40, .inl fEs))] → va_S A s.heap H locs → lv_has ls 7 [(0, .ref h0), (1, .int x), (2, .int do_)] → K H locs ls [.int en]) 60 ?_ ?_
        · skip
          intro lk ih60 en H locs ls hm60 y3 hP hD hS hl
          refine lv_istore_n hx hb d_DiscMakerModel_identify_60 rfl hl (by decide) rfl (fun ls hl => ?_)
          have hl : lv_has ls 7 [(3, .int en), (0, .ref h0), (1, .int x), (2, .int do_)] := hl
          refine lv_aload_n hx hb d_DiscMakerModel_identify_61 rfl (lv_at hl 1 rfl) ?_
          refine va_get (D := D) (ci := 11) (v := .ref (ma 13)) (C := "DiscMakerModel") (T := F_DiscMakerModel) (N := 48) hx hb ht9 in_DiscMakerModel hown hK hP 0 rfl rfl 16 (by decide) (ht9 _ k1447) (fun _ h9 => h9) rfl d_DiscMakerModel_identify_62 ?_
          refine lv_iload_n hx hb d_DiscMakerModel_identify_65 rfl (lv_at hl 2 rfl) ?_
          refine zz_labM (B := fun (lk : Nat) (K : Heap → List Loc → Array Slot → List Value → Prop) => ∀ (bs : Int32) (H : Heap) (locs : List Loc) (ls : Array Slot), lk = 0 → (0 ≤ bs.toInt ∧ bs.toInt ≤ 8) → va_P D CL [(h0, .inr (11, MO ma sv_thrown sv_length sv_nodes sv_many sv_directories sv_runsFrom sv_runs sv_read sv_wrong sv_isNamed sv_goes sv_goesSize sv_goesAt sv_targetParts sv_isRoot)), ((ma 1), .inl (cI, 40, .inl fK)), ((ma 2), .inl (cI, 40, .inl fP)), ((ma 8), .inl (cB, 1200, .inl fN)), ((ma 9), .inl (cI, 40, .inl fNS)), ((ma 12), .inl (cB, 320, .inl fBa)), ((ma 13), .inl (cI, 40, .inl fBs)), ((ma 14), .inl (cB, 120, .inl fEx)), ((ma 15), .inl (cI, 40, .inl fEs))] H → va_D A [(h0, .inr (11, MO ma sv_thrown sv_length sv_nodes sv_many sv_directories sv_runsFrom sv_runs sv_read sv_wrong sv_isNamed sv_goes sv_goesSize sv_goesAt sv_targetParts sv_isRoot)), ((ma 1), .inl (cI, 40, .inl fK)), ((ma 2), .inl (cI, 40, .inl fP)), ((ma 8), .inl (cB, 1200, .inl fN)), ((ma 9), .inl (cI, 40, .inl fNS)), ((ma 12), .inl (cB, 320, .inl fBa)), ((ma 13), .inl (cI, 40, .inl fBs)), ((ma 14), .inl (cB, 120, .inl fEx)), ((ma 15), .inl (cI, 40, .inl fEs))] → va_S A s.heap H locs → lv_has ls 7 [(0, .ref h0), (1, .int x), (2, .int do_), (3, .int en)] → K H locs ls [.int bs, .int x, .ref (ma 13)]) 78 ?_ ?_
          · skip
            intro lk ih78 bs H locs ls hm78 y5 hP hD hS hl
            refine zq_iast hx hb hK hP hD hS 6 1 rfl rfl (vp_in_iff.mpr ⟨by omega, by omega⟩) d_DiscMakerModel_identify_78 (fun f65 e_f65 H locs hP hD hS => ?_)
            have hP : va_P D CL [(h0, .inr (11, MO ma sv_thrown sv_length sv_nodes sv_many sv_directories sv_runsFrom sv_runs sv_read sv_wrong sv_isNamed sv_goes sv_goesSize sv_goesAt sv_targetParts sv_isRoot)), ((ma 1), .inl (cI, 40, .inl fK)), ((ma 2), .inl (cI, 40, .inl fP)), ((ma 8), .inl (cB, 1200, .inl fN)), ((ma 9), .inl (cI, 40, .inl fNS)), ((ma 12), .inl (cB, 320, .inl fBa)), ((ma 13), .inl (cI, 40, .inl f65)), ((ma 14), .inl (cB, 120, .inl fEx)), ((ma 15), .inl (cI, 40, .inl fEs))] H := hP
            have hD : va_D A [(h0, .inr (11, MO ma sv_thrown sv_length sv_nodes sv_many sv_directories sv_runsFrom sv_runs sv_read sv_wrong sv_isNamed sv_goes sv_goesSize sv_goesAt sv_targetParts sv_isRoot)), ((ma 1), .inl (cI, 40, .inl fK)), ((ma 2), .inl (cI, 40, .inl fP)), ((ma 8), .inl (cB, 1200, .inl fN)), ((ma 9), .inl (cI, 40, .inl fNS)), ((ma 12), .inl (cB, 320, .inl fBa)), ((ma 13), .inl (cI, 40, .inl f65)), ((ma 14), .inl (cB, 120, .inl fEx)), ((ma 15), .inl (cI, 40, .inl fEs))] := hD
            have R_f65 : Rg 0 8 40 f65 := Rg_upd e_f65 hfBs (by omega) (by omega)
            have s_f65 : f65 x.toNatClampNeg = bs := by rw [e_f65]; unfold upd; rw [if_pos (by first | rfl | decide)]
            have l_f65 : ∀ q : Nat, q ≠ x.toNatClampNeg → f65 q = fBs q := fun q hq => by rw [e_f65]; unfold upd; rw [if_neg hq]
            refine lv_iconst (v := 0) hx hb d_DiscMakerModel_identify_79 (by decide) ?_
            refine lv_istore hx hb d_DiscMakerModel_identify_80 hl (by decide) rfl (fun ls hl => ?_)
            have hl : lv_has ls 7 [(4, .int 0), (0, .ref h0), (1, .int x), (2, .int do_), (3, .int en)] := hl
            refine zz_labM (B := fun (lk : Nat) (K : Heap → List Loc → Array Slot → List Value → Prop) => ∀ (k4 : Int32) (lBa : Nat → Int32) (H : Heap) (locs : List Loc) (ls : Array Slot), lk = (8 - k4.toInt).toNat → (0 ≤ k4.toInt ∧ k4.toInt ≤ 8) → (∀ q : Nat, q < 8 * x.toNatClampNeg ∨ 8 * x.toNatClampNeg + 8 ≤ q → lBa q = fBa q) → (Rg (-128) 127 320 lBa) → va_P D CL [(h0, .inr (11, MO ma sv_thrown sv_length sv_nodes sv_many sv_directories sv_runsFrom sv_runs sv_read sv_wrong sv_isNamed sv_goes sv_goesSize sv_goesAt sv_targetParts sv_isRoot)), ((ma 1), .inl (cI, 40, .inl fK)), ((ma 2), .inl (cI, 40, .inl fP)), ((ma 8), .inl (cB, 1200, .inl fN)), ((ma 9), .inl (cI, 40, .inl fNS)), ((ma 12), .inl (cB, 320, .inl lBa)), ((ma 13), .inl (cI, 40, .inl f65)), ((ma 14), .inl (cB, 120, .inl fEx)), ((ma 15), .inl (cI, 40, .inl fEs))] H → va_D A [(h0, .inr (11, MO ma sv_thrown sv_length sv_nodes sv_many sv_directories sv_runsFrom sv_runs sv_read sv_wrong sv_isNamed sv_goes sv_goesSize sv_goesAt sv_targetParts sv_isRoot)), ((ma 1), .inl (cI, 40, .inl fK)), ((ma 2), .inl (cI, 40, .inl fP)), ((ma 8), .inl (cB, 1200, .inl fN)), ((ma 9), .inl (cI, 40, .inl fNS)), ((ma 12), .inl (cB, 320, .inl lBa)), ((ma 13), .inl (cI, 40, .inl f65)), ((ma 14), .inl (cB, 120, .inl fEx)), ((ma 15), .inl (cI, 40, .inl fEs))] → va_S A s.heap H locs → lv_has ls 7 [(0, .ref h0), (1, .int x), (2, .int do_), (3, .int en), (4, .int k4)] → K H locs ls []) 82 ?_ ?_
            · skip
              intro lk ih82 k4 lBa H locs ls hm82 y7 y4 hlBa hP hD hS hl
              refine lv_iload hx hb d_DiscMakerModel_identify_82 (lv_at hl 4 rfl) ?_
              refine lv_aload_n hx hb d_DiscMakerModel_identify_84 rfl (lv_at hl 0 rfl) ?_
              refine va_get (D := D) (ci := 11) (v := .ref (ma 13)) (C := "DiscMakerModel") (T := F_DiscMakerModel) (N := 48) hx hb ht9 in_DiscMakerModel hown hK hP 0 rfl rfl 16 (by decide) (ht9 _ k1447) (fun _ h9 => h9) rfl d_DiscMakerModel_identify_85 ?_
              refine lv_iload_n hx hb d_DiscMakerModel_identify_88 rfl (lv_at hl 1 rfl) ?_
              refine va_iald hx hb hK hP 6 1 rfl rfl (vp_in_iff.mpr ⟨by omega, by omega⟩) d_DiscMakerModel_identify_89 ?_
              refine lv_topi (fun v66 e_v66 => ?_)
              have t_v66 : 0 ≤ v66.toInt ∧ v66.toInt ≤ 8 := by
                rw [e_v66]; exact R_f65 _ (by have := i_cl (a := x) (by omega); omega)
              have q_v66 : v66.toInt = bs.toInt := by rw [e_v66, s_f65]; try decide
              refine lv_icmp_ge (tgt := 122) hx hb d_DiscMakerModel_identify_90 (by decide) (fun h_9 => ?_) (fun h_9 => ?_)
              · skip
                have g90_216 : v66.toInt ≤ k4.toInt := (i_le rfl rfl).mp h_9
                refine zz_labM (B := fun (lk : Nat) (K : Heap → List Loc → Array Slot → List Value → Prop) => ∀ (lf : Int32) (H : Heap) (locs : List Loc) (ls : Array Slot), lk = 0 → (0 ≤ lf.toInt ∧ lf.toInt ≤ 30) → va_P D CL [(h0, .inr (11, MO ma sv_thrown sv_length sv_nodes sv_many sv_directories sv_runsFrom sv_runs sv_read sv_wrong sv_isNamed sv_goes sv_goesSize sv_goesAt sv_targetParts sv_isRoot)), ((ma 1), .inl (cI, 40, .inl fK)), ((ma 2), .inl (cI, 40, .inl fP)), ((ma 8), .inl (cB, 1200, .inl fN)), ((ma 9), .inl (cI, 40, .inl fNS)), ((ma 12), .inl (cB, 320, .inl lBa)), ((ma 13), .inl (cI, 40, .inl f65)), ((ma 14), .inl (cB, 120, .inl fEx)), ((ma 15), .inl (cI, 40, .inl fEs))] H → va_D A [(h0, .inr (11, MO ma sv_thrown sv_length sv_nodes sv_many sv_directories sv_runsFrom sv_runs sv_read sv_wrong sv_isNamed sv_goes sv_goesSize sv_goesAt sv_targetParts sv_isRoot)), ((ma 1), .inl (cI, 40, .inl fK)), ((ma 2), .inl (cI, 40, .inl fP)), ((ma 8), .inl (cB, 1200, .inl fN)), ((ma 9), .inl (cI, 40, .inl fNS)), ((ma 12), .inl (cB, 320, .inl lBa)), ((ma 13), .inl (cI, 40, .inl f65)), ((ma 14), .inl (cB, 120, .inl fEx)), ((ma 15), .inl (cI, 40, .inl fEs))] → va_S A s.heap H locs → lv_has ls 7 [(0, .ref h0), (1, .int x), (2, .int do_), (3, .int en)] → K H locs ls [.int lf]) 140 ?_ ?_
                · skip
                  intro lk ih140 lf H locs ls hm140 y11 hP hD hS hl
                  refine lv_istore hx hb d_DiscMakerModel_identify_140 hl (by decide) rfl (fun ls hl => ?_)
                  have hl : lv_has ls 7 [(4, .int lf), (0, .ref h0), (1, .int x), (2, .int do_), (3, .int en)] := hl
                  refine lv_aload_n hx hb d_DiscMakerModel_identify_142 rfl (lv_at hl 1 rfl) ?_
                  refine va_get (D := D) (ci := 11) (v := .ref (ma 15)) (C := "DiscMakerModel") (T := F_DiscMakerModel) (N := 48) hx hb ht9 in_DiscMakerModel hown hK hP 0 rfl rfl 18 (by decide) (ht9 _ k1449) (fun _ h9 => h9) rfl d_DiscMakerModel_identify_143 ?_
                  refine lv_iload_n hx hb d_DiscMakerModel_identify_146 rfl (lv_at hl 2 rfl) ?_
                  refine zz_labM (B := fun (lk : Nat) (K : Heap → List Loc → Array Slot → List Value → Prop) => ∀ (es : Int32) (H : Heap) (locs : List Loc) (ls : Array Slot), lk = 0 → (0 ≤ es.toInt ∧ es.toInt ≤ 3) → va_P D CL [(h0, .inr (11, MO ma sv_thrown sv_length sv_nodes sv_many sv_directories sv_runsFrom sv_runs sv_read sv_wrong sv_isNamed sv_goes sv_goesSize sv_goesAt sv_targetParts sv_isRoot)), ((ma 1), .inl (cI, 40, .inl fK)), ((ma 2), .inl (cI, 40, .inl fP)), ((ma 8), .inl (cB, 1200, .inl fN)), ((ma 9), .inl (cI, 40, .inl fNS)), ((ma 12), .inl (cB, 320, .inl lBa)), ((ma 13), .inl (cI, 40, .inl f65)), ((ma 14), .inl (cB, 120, .inl fEx)), ((ma 15), .inl (cI, 40, .inl fEs))] H → va_D A [(h0, .inr (11, MO ma sv_thrown sv_length sv_nodes sv_many sv_directories sv_runsFrom sv_runs sv_read sv_wrong sv_isNamed sv_goes sv_goesSize sv_goesAt sv_targetParts sv_isRoot)), ((ma 1), .inl (cI, 40, .inl fK)), ((ma 2), .inl (cI, 40, .inl fP)), ((ma 8), .inl (cB, 1200, .inl fN)), ((ma 9), .inl (cI, 40, .inl fNS)), ((ma 12), .inl (cB, 320, .inl lBa)), ((ma 13), .inl (cI, 40, .inl f65)), ((ma 14), .inl (cB, 120, .inl fEx)), ((ma 15), .inl (cI, 40, .inl fEs))] → va_S A s.heap H locs → lv_has ls 7 [(0, .ref h0), (1, .int x), (2, .int do_), (3, .int en), (4, .int lf)] → K H locs ls [.int es, .int x, .ref (ma 15)]) 159 ?_ ?_
                  · skip
                    intro lk ih159 es H locs ls hm159 y12 hP hD hS hl
                    refine zq_iast hx hb hK hP hD hS 8 1 rfl rfl (vp_in_iff.mpr ⟨by omega, by omega⟩) d_DiscMakerModel_identify_159 (fun f67 e_f67 H locs hP hD hS => ?_)
                    have hP : va_P D CL [(h0, .inr (11, MO ma sv_thrown sv_length sv_nodes sv_many sv_directories sv_runsFrom sv_runs sv_read sv_wrong sv_isNamed sv_goes sv_goesSize sv_goesAt sv_targetParts sv_isRoot)), ((ma 1), .inl (cI, 40, .inl fK)), ((ma 2), .inl (cI, 40, .inl fP)), ((ma 8), .inl (cB, 1200, .inl fN)), ((ma 9), .inl (cI, 40, .inl fNS)), ((ma 12), .inl (cB, 320, .inl lBa)), ((ma 13), .inl (cI, 40, .inl f65)), ((ma 14), .inl (cB, 120, .inl fEx)), ((ma 15), .inl (cI, 40, .inl f67))] H := hP
                    have hD : va_D A [(h0, .inr (11, MO ma sv_thrown sv_length sv_nodes sv_many sv_directories sv_runsFrom sv_runs sv_read sv_wrong sv_isNamed sv_goes sv_goesSize sv_goesAt sv_targetParts sv_isRoot)), ((ma 1), .inl (cI, 40, .inl fK)), ((ma 2), .inl (cI, 40, .inl fP)), ((ma 8), .inl (cB, 1200, .inl fN)), ((ma 9), .inl (cI, 40, .inl fNS)), ((ma 12), .inl (cB, 320, .inl lBa)), ((ma 13), .inl (cI, 40, .inl f65)), ((ma 14), .inl (cB, 120, .inl fEx)), ((ma 15), .inl (cI, 40, .inl f67))] := hD
                    have R_f67 : Rg 0 3 40 f67 := Rg_upd e_f67 hfEs (by omega) (by omega)
                    have s_f67 : f67 x.toNatClampNeg = es := by rw [e_f67]; unfold upd; rw [if_pos (by first | rfl | decide)]
                    have l_f67 : ∀ q : Nat, q ≠ x.toNatClampNeg → f67 q = fEs q := fun q hq => by rw [e_f67]; unfold upd; rw [if_neg hq]
                    refine lv_iconst (v := 0) hx hb d_DiscMakerModel_identify_160 (by decide) ?_
                    refine lv_istore hx hb d_DiscMakerModel_identify_161 hl (by decide) rfl (fun ls hl => ?_)
                    have hl : lv_has ls 7 [(5, .int 0), (0, .ref h0), (1, .int x), (2, .int do_), (3, .int en), (4, .int lf)] := hl
                    refine zz_labM (B := fun (lk : Nat) (K : Heap → List Loc → Array Slot → List Value → Prop) => ∀ (k5 : Int32) (lEx : Nat → Int32) (H : Heap) (locs : List Loc) (ls : Array Slot), lk = (3 - k5.toInt).toNat → (0 ≤ k5.toInt ∧ k5.toInt ≤ 3) → (∀ q : Nat, q < 3 * x.toNatClampNeg ∨ 3 * x.toNatClampNeg + 3 ≤ q → lEx q = fEx q) → (Rg (-128) 127 120 lEx) → va_P D CL [(h0, .inr (11, MO ma sv_thrown sv_length sv_nodes sv_many sv_directories sv_runsFrom sv_runs sv_read sv_wrong sv_isNamed sv_goes sv_goesSize sv_goesAt sv_targetParts sv_isRoot)), ((ma 1), .inl (cI, 40, .inl fK)), ((ma 2), .inl (cI, 40, .inl fP)), ((ma 8), .inl (cB, 1200, .inl fN)), ((ma 9), .inl (cI, 40, .inl fNS)), ((ma 12), .inl (cB, 320, .inl lBa)), ((ma 13), .inl (cI, 40, .inl f65)), ((ma 14), .inl (cB, 120, .inl lEx)), ((ma 15), .inl (cI, 40, .inl f67))] H → va_D A [(h0, .inr (11, MO ma sv_thrown sv_length sv_nodes sv_many sv_directories sv_runsFrom sv_runs sv_read sv_wrong sv_isNamed sv_goes sv_goesSize sv_goesAt sv_targetParts sv_isRoot)), ((ma 1), .inl (cI, 40, .inl fK)), ((ma 2), .inl (cI, 40, .inl fP)), ((ma 8), .inl (cB, 1200, .inl fN)), ((ma 9), .inl (cI, 40, .inl fNS)), ((ma 12), .inl (cB, 320, .inl lBa)), ((ma 13), .inl (cI, 40, .inl f65)), ((ma 14), .inl (cB, 120, .inl lEx)), ((ma 15), .inl (cI, 40, .inl f67))] → va_S A s.heap H locs → lv_has ls 7 [(0, .ref h0), (1, .int x), (2, .int do_), (3, .int en), (4, .int lf), (5, .int k5)] → K H locs ls []) 163 ?_ ?_
                    · skip
                      intro lk ih163 k5 lEx H locs ls hm163 y13 y6 hlEx hP hD hS hl
                      refine lv_iload hx hb d_DiscMakerModel_identify_163 (lv_at hl 5 rfl) ?_
                      refine lv_aload_n hx hb d_DiscMakerModel_identify_165 rfl (lv_at hl 0 rfl) ?_
                      refine va_get (D := D) (ci := 11) (v := .ref (ma 15)) (C := "DiscMakerModel") (T := F_DiscMakerModel) (N := 48) hx hb ht9 in_DiscMakerModel hown hK hP 0 rfl rfl 18 (by decide) (ht9 _ k1449) (fun _ h9 => h9) rfl d_DiscMakerModel_identify_166 ?_
                      refine lv_iload_n hx hb d_DiscMakerModel_identify_169 rfl (lv_at hl 1 rfl) ?_
                      refine va_iald hx hb hK hP 8 1 rfl rfl (vp_in_iff.mpr ⟨by omega, by omega⟩) d_DiscMakerModel_identify_170 ?_
                      refine lv_topi (fun v68 e_v68 => ?_)
                      have t_v68 : 0 ≤ v68.toInt ∧ v68.toInt ≤ 3 := by
                        rw [e_v68]; exact R_f67 _ (by have := i_cl (a := x) (by omega); omega)
                      have q_v68 : v68.toInt = es.toInt := by rw [e_v68, s_f67]; try decide
                      refine lv_icmp_ge (tgt := 206) hx hb d_DiscMakerModel_identify_171 (by decide) (fun h_9 => ?_) (fun h_9 => ?_)
                      · skip
                        have g171_229 : v68.toInt ≤ k5.toInt := (i_le rfl rfl).mp h_9
                        refine lv_aload_n hx hb d_DiscMakerModel_identify_206 rfl (lv_at hl 0 rfl) ?_
                        refine lv_iload_n hx hb d_DiscMakerModel_identify_207 rfl (lv_at hl 1 rfl) ?_
                        have hPc := hP.sub (ws' := [(h0, .inr (11, MO ma sv_thrown sv_length sv_nodes sv_many sv_directories sv_runsFrom sv_runs sv_read sv_wrong sv_isNamed sv_goes sv_goesSize sv_goesAt sv_targetParts sv_isRoot)), ((ma 2), .inl (cI, 40, .inl fP)), ((ma 12), .inl (cB, 320, .inl lBa)), ((ma 13), .inl (cI, 40, .inl f65)), ((ma 14), .inl (cB, 120, .inl lEx)), ((ma 15), .inl (cI, 40, .inl f67))]) [0, 2, 5, 6, 7, 8] rfl
                        have hDc := hD.sub (ws' := [(h0, .inr (11, MO ma sv_thrown sv_length sv_nodes sv_many sv_directories sv_runsFrom sv_runs sv_read sv_wrong sv_isNamed sv_goes sv_goesSize sv_goesAt sv_targetParts sv_isRoot)), ((ma 2), .inl (cI, 40, .inl fP)), ((ma 12), .inl (cB, 320, .inl lBa)), ((ma 13), .inl (cI, 40, .inl f65)), ((ma 14), .inl (cB, 120, .inl lEx)), ((ma 15), .inl (cI, 40, .inl f67))]) [0, 2, 5, 6, 7, 8] (by decide +kernel) rfl
                        have hFc := va_free (wc := [(h0, .inr (11, MO ma sv_thrown sv_length sv_nodes sv_many sv_directories sv_runsFrom sv_runs sv_read sv_wrong sv_isNamed sv_goes sv_goesSize sv_goesAt sv_targetParts sv_isRoot)), ((ma 2), .inl (cI, 40, .inl fP)), ((ma 12), .inl (cB, 320, .inl lBa)), ((ma 13), .inl (cI, 40, .inl f65)), ((ma 14), .inl (cB, 120, .inl lEx)), ((ma 15), .inl (cI, 40, .inl f67))]) hD hS hA [0, 2, 5, 6, 7, 8] rfl
                        have hkc : 0 ≤ 0 := by decide
                        have hks : 0 ≤ 0 := by decide
                        refine va_calli (va_runV (C := "DiscMakerModel") (As := [.int x]) (rest := []) ⟨hx, hb, hml, hown, hts⟩ (m_isTaken l D cB cI cJ cZ cN cF H.size h0 ma sv_thrown sv_length sv_nodes sv_many sv_directories sv_runsFrom sv_runs sv_read sv_wrong sv_isNamed sv_goes sv_goesSize sv_goesAt sv_targetParts sv_isRoot fP lBa f65 lEx f67 x (by (try dsimp only); first | assumption | omega | trivial) (by (try dsimp only); first | assumption | omega | trivial) (by (try dsimp only); first | assumption | omega | trivial) (by (try dsimp only); first | assumption | omega | trivial) (by (try dsimp only); first | assumption | omega | trivial)) (cwV 1 hts (lg_goodV k1655 k1657 k61 k125 kc_DiscMakerModel_isTaken) rfl rfl rfl (by decide +kernel) ⟨Nat.le_of_ble_eq_true rfl, Nat.le_of_ble_eq_true rfl⟩) ⟨fun a U g mk q => by obtain ⟨q0, q1, qP, qK, qN, qD⟩ := q; exact ⟨q0, q1, qP, va_K.moved (u := U) (U := U.calling g mk a) (Vm.Alike.refl U.vm) qK, qN.calling, qD⟩, va_recv hK hP (ci := 11) (q0 := 0) rfl rfl, fun U hU hW => ⟨rfl, by rw [hU], by rw [hU]; exact hPc, va_K.moved hW.alike hK, NN.warm hW hN, hDc.weaken (fun _ _ _ _ => trivial)⟩⟩ rfl rfl hl.1 rfl (lv_room (Nat.le_of_ble_eq_true rfl)) d_DiscMakerModel_identify_208 ⟨hkc, hks⟩) hS (fun q _ h => hFc q h) hFc (fun r69 u t H1 locs ht hvm hp_r69 hB hz1 hk1 hS => ?_)
                        obtain ⟨hP1, hD1⟩ := hB
                        rw [ht] at hP1
                        obtain ⟨hP, hD⟩ := va_join (wr := [((ma 1), .inl (cI, 40, .inl fK)), ((ma 8), .inl (cB, 1200, .inl fN)), ((ma 9), .inl (cI, 40, .inl fNS))]) (w1 := [(h0, .inr (11, MO ma sv_thrown sv_length sv_nodes sv_many sv_directories sv_runsFrom sv_runs sv_read sv_wrong sv_isNamed sv_goes sv_goesSize sv_goesAt sv_targetParts sv_isRoot)), ((ma 2), .inl (cI, 40, .inl fP)), ((ma 12), .inl (cB, 320, .inl lBa)), ((ma 13), .inl (cI, 40, .inl f65)), ((ma 14), .inl (cB, 120, .inl lEx)), ((ma 15), .inl (cI, 40, .inl f67))]) hP hD [0, 2, 5, 6, 7, 8] [1, 3, 4] rfl rfl (by decide +kernel) (by decide +kernel) hk1 hFc hP1 hD1
                        clear hPc hDc hFc hP1 hD1 hk1 hz1 hkc hks
                        generalize H1 = H at hP hS ⊢
                        have hP : va_P D CL [((ma 1), .inl (cI, 40, .inl fK)), ((ma 8), .inl (cB, 1200, .inl fN)), ((ma 9), .inl (cI, 40, .inl fNS)), (h0, .inr (11, MO ma sv_thrown sv_length sv_nodes sv_many sv_directories sv_runsFrom sv_runs sv_read sv_wrong sv_isNamed sv_goes sv_goesSize sv_goesAt sv_targetParts sv_isRoot)), ((ma 2), .inl (cI, 40, .inl fP)), ((ma 12), .inl (cB, 320, .inl lBa)), ((ma 13), .inl (cI, 40, .inl f65)), ((ma 14), .inl (cB, 120, .inl lEx)), ((ma 15), .inl (cI, 40, .inl f67))] H := hP
                        have hD : va_D A [((ma 1), .inl (cI, 40, .inl fK)), ((ma 8), .inl (cB, 1200, .inl fN)), ((ma 9), .inl (cI, 40, .inl fNS)), (h0, .inr (11, MO ma sv_thrown sv_length sv_nodes sv_many sv_directories sv_runsFrom sv_runs sv_read sv_wrong sv_isNamed sv_goes sv_goesSize sv_goesAt sv_targetParts sv_isRoot)), ((ma 2), .inl (cI, 40, .inl fP)), ((ma 12), .inl (cB, 320, .inl lBa)), ((ma 13), .inl (cI, 40, .inl f65)), ((ma 14), .inl (cB, 120, .inl lEx)), ((ma 15), .inl (cI, 40, .inl f67))] := hD
                        try dsimp only at hp_r69
                        obtain ⟨hr_70, hq_71, hq0_72⟩ := hp_r69
                        refine lv_if_ne (tgt := 215) hx hb d_DiscMakerModel_identify_211 (by decide) (fun h_9 => ?_) (fun h_9 => ?_)
                        · skip
                          have g211_233 : ¬ r69.toInt = 0 := fun h8 => h_9 ((i_eq rfl (by decide)).mpr h8)
                          refine zz_labM (B := fun (lk : Nat) (K : Heap → List Loc → Array Slot → List Value → Prop) => ∀ (nn : Int32) (H : Heap) (locs : List Loc) (ls : Array Slot), lk = 0 → (0 ≤ nn.toInt ∧ nn.toInt ≤ 5) → va_P D CL [((ma 1), .inl (cI, 40, .inl fK)), ((ma 8), .inl (cB, 1200, .inl fN)), ((ma 9), .inl (cI, 40, .inl fNS)), (h0, .inr (11, MO ma sv_thrown sv_length sv_nodes sv_many sv_directories sv_runsFrom sv_runs sv_read sv_wrong sv_isNamed sv_goes sv_goesSize sv_goesAt sv_targetParts sv_isRoot)), ((ma 2), .inl (cI, 40, .inl fP)), ((ma 12), .inl (cB, 320, .inl lBa)), ((ma 13), .inl (cI, 40, .inl f65)), ((ma 14), .inl (cB, 120, .inl lEx)), ((ma 15), .inl (cI, 40, .inl f67))] H → va_D A [((ma 1), .inl (cI, 40, .inl fK)), ((ma 8), .inl (cB, 1200, .inl fN)), ((ma 9), .inl (cI, 40, .inl fNS)), (h0, .inr (11, MO ma sv_thrown sv_length sv_nodes sv_many sv_directories sv_runsFrom sv_runs sv_read sv_wrong sv_isNamed sv_goes sv_goesSize sv_goesAt sv_targetParts sv_isRoot)), ((ma 2), .inl (cI, 40, .inl fP)), ((ma 12), .inl (cB, 320, .inl lBa)), ((ma 13), .inl (cI, 40, .inl f65)), ((ma 14), .inl (cB, 120, .inl lEx)), ((ma 15), .inl (cI, 40, .inl f67))] → va_S A s.heap H locs → lv_has ls 7 [(0, .ref h0), (1, .int x), (2, .int do_), (3, .int en), (4, .int lf), (5, .int k5)] → K H locs ls [.int nn]) 235 ?_ ?_
                          · skip
                            intro lk ih235 nn H locs ls hm235 y14 hP hD hS hl
                            refine lv_istore hx hb d_DiscMakerModel_identify_235 hl (by decide) rfl (fun ls hl => ?_)
                            have hl : lv_has ls 7 [(5, .int nn), (0, .ref h0), (1, .int x), (2, .int do_), (3, .int en), (4, .int lf)] := hl
                            refine lv_aload_n hx hb d_DiscMakerModel_identify_237 rfl (lv_at hl 1 rfl) ?_
                            refine va_get (D := D) (ci := 11) (v := .ref (ma 13)) (C := "DiscMakerModel") (T := F_DiscMakerModel) (N := 48) hx hb ht9 in_DiscMakerModel hown hK hP 3 rfl rfl 16 (by decide) (ht9 _ k1447) (fun _ h9 => h9) rfl d_DiscMakerModel_identify_238 ?_
                            refine lv_iload_n hx hb d_DiscMakerModel_identify_241 rfl (lv_at hl 2 rfl) ?_
                            refine lv_iload hx hb d_DiscMakerModel_identify_242 (lv_at hl 0 rfl) ?_
                            refine lv_iconst (v := 3) hx hb d_DiscMakerModel_identify_244 (by decide) ?_
                            refine lv_iadd hx hb d_DiscMakerModel_identify_245 ?_
                            refine lv_topi (fun v73 e_v73 => ?_)
                            have t_v73 : v73.toInt = nn.toInt + 3 := by rw [e_v73]; exact i_add rfl (by decide) (by omega) (by omega)
                            refine zq_iast hx hb hK hP hD hS 6 1 rfl rfl (vp_in_iff.mpr ⟨by omega, by omega⟩) d_DiscMakerModel_identify_246 (fun f74 e_f74 H locs hP hD hS => ?_)
                            have hP : va_P D CL [((ma 1), .inl (cI, 40, .inl fK)), ((ma 8), .inl (cB, 1200, .inl fN)), ((ma 9), .inl (cI, 40, .inl fNS)), (h0, .inr (11, MO ma sv_thrown sv_length sv_nodes sv_many sv_directories sv_runsFrom sv_runs sv_read sv_wrong sv_isNamed sv_goes sv_goesSize sv_goesAt sv_targetParts sv_isRoot)), ((ma 2), .inl (cI, 40, .inl fP)), ((ma 12), .inl (cB, 320, .inl lBa)), ((ma 13), .inl (cI, 40, .inl f74)), ((ma 14), .inl (cB, 120, .inl lEx)), ((ma 15), .inl (cI, 40, .inl f67))] H := hP
                            have hD : va_D A [((ma 1), .inl (cI, 40, .inl fK)), ((ma 8), .inl (cB, 1200, .inl fN)), ((ma 9), .inl (cI, 40, .inl fNS)), (h0, .inr (11, MO ma sv_thrown sv_length sv_nodes sv_many sv_directories sv_runsFrom sv_runs sv_read sv_wrong sv_isNamed sv_goes sv_goesSize sv_goesAt sv_targetParts sv_isRoot)), ((ma 2), .inl (cI, 40, .inl fP)), ((ma 12), .inl (cB, 320, .inl lBa)), ((ma 13), .inl (cI, 40, .inl f74)), ((ma 14), .inl (cB, 120, .inl lEx)), ((ma 15), .inl (cI, 40, .inl f67))] := hD
                            have R_f74 : Rg 0 8 40 f74 := Rg_upd e_f74 R_f65 (by omega) (by omega)
                            have s_f74 : f74 x.toNatClampNeg = v73 := by rw [e_f74]; unfold upd; rw [if_pos (by first | rfl | decide)]
                            have l_f74 : ∀ q : Nat, q ≠ x.toNatClampNeg → f74 q = fBs q := fun q hq => by rw [e_f74]; unfold upd; rw [if_neg hq]; exact l_f65 q hq
                            refine lv_iconst (v := 0) hx hb d_DiscMakerModel_identify_247 (by decide) ?_
                            refine lv_istore hx hb d_DiscMakerModel_identify_248 hl (by decide) rfl (fun ls hl => ?_)
                            have hl : lv_has ls 7 [(6, .int 0), (5, .int nn), (0, .ref h0), (1, .int x), (2, .int do_), (3, .int en), (4, .int lf)] := hl
                            refine zz_labM (B := fun (lk : Nat) (K : Heap → List Loc → Array Slot → List Value → Prop) => ∀ (lv : Int32) (nBa : Nat → Int32) (H : Heap) (locs : List Loc) (ls : Array Slot), lk = (100 - lv.toInt).toNat → (∀ q : Nat, q < 8 * x.toNatClampNeg ∨ 8 * x.toNatClampNeg + 8 ≤ q → nBa q = fBa q) → (Rg (-128) 127 320 nBa) → (0 ≤ lv.toInt ∧ lv.toInt ≤ 100) → (DG (kyF nBa f74 lEx f67) nn.toNatClampNeg x.toNatClampNeg lv.toNatClampNeg) → va_P D CL [((ma 1), .inl (cI, 40, .inl fK)), ((ma 8), .inl (cB, 1200, .inl fN)), ((ma 9), .inl (cI, 40, .inl fNS)), (h0, .inr (11, MO ma sv_thrown sv_length sv_nodes sv_many sv_directories sv_runsFrom sv_runs sv_read sv_wrong sv_isNamed sv_goes sv_goesSize sv_goesAt sv_targetParts sv_isRoot)), ((ma 2), .inl (cI, 40, .inl fP)), ((ma 12), .inl (cB, 320, .inl nBa)), ((ma 13), .inl (cI, 40, .inl f74)), ((ma 14), .inl (cB, 120, .inl lEx)), ((ma 15), .inl (cI, 40, .inl f67))] H → va_D A [((ma 1), .inl (cI, 40, .inl fK)), ((ma 8), .inl (cB, 1200, .inl fN)), ((ma 9), .inl (cI, 40, .inl fNS)), (h0, .inr (11, MO ma sv_thrown sv_length sv_nodes sv_many sv_directories sv_runsFrom sv_runs sv_read sv_wrong sv_isNamed sv_goes sv_goesSize sv_goesAt sv_targetParts sv_isRoot)), ((ma 2), .inl (cI, 40, .inl fP)), ((ma 12), .inl (cB, 320, .inl nBa)), ((ma 13), .inl (cI, 40, .inl f74)), ((ma 14), .inl (cB, 120, .inl lEx)), ((ma 15), .inl (cI, 40, .inl f67))] → va_S A s.heap H locs → lv_has ls 7 [(0, .ref h0), (1, .int x), (2, .int do_), (3, .int en), (4, .int lf), (5, .int nn), (6, .int lv)] → K H locs ls []) 250 ?_ ?_
                            · skip
                              intro lk ih250 lv nBa H locs ls hm250 y9 hnBa y8 y10 hP hD hS hl
                              have hdg := DG_le y10 (by have := i_cl (a := lv) (by omega); omega) (by omega)
                              have hlvc := i_cl (a := lv) (by omega)
                              refine lv_aload_n hx hb d_DiscMakerModel_identify_250 rfl (lv_at hl 0 rfl) ?_
                              refine va_get (D := D) (ci := 11) (v := .ref (ma 12)) (C := "DiscMakerModel") (T := F_DiscMakerModel) (N := 48) hx hb ht9 in_DiscMakerModel hown hK hP 3 rfl rfl 15 (by decide) (ht9 _ k1446) (fun _ h9 => h9) rfl d_DiscMakerModel_identify_251 ?_
                              refine lv_bipush (v := 8) hx hb d_DiscMakerModel_identify_254 (by decide) ?_
                              refine lv_iload_n hx hb d_DiscMakerModel_identify_256 rfl (lv_at hl 1 rfl) ?_
                              refine lv_imul hx hb d_DiscMakerModel_identify_257 ?_
                              refine lv_topi (fun v75 e_v75 => ?_)
                              have t_v75 : v75.toInt = 8 * x.toInt := by rw [e_v75]; exact i_mul (by decide) rfl (by omega) (by omega)
                              refine lv_iload hx hb d_DiscMakerModel_identify_258 (lv_at hl 5 rfl) ?_
                              refine lv_iadd hx hb d_DiscMakerModel_identify_260 ?_
                              refine lv_topi (fun v76 e_v76 => ?_)
                              have t_v76 : v76.toInt = v75.toInt + nn.toInt := by rw [e_v76]; exact i_add rfl rfl (by omega) (by omega)
                              refine lv_bipush (v := 48) hx hb d_DiscMakerModel_identify_261 (by decide) ?_
                              refine lv_iload hx hb d_DiscMakerModel_identify_263 (lv_at hl 6 rfl) ?_
                              refine lv_bipush (v := 100) hx hb d_DiscMakerModel_identify_265 (by decide) ?_
                              refine lv_idiv hx hb d_DiscMakerModel_identify_267 (by decide) ?_
                              refine lv_topi (fun v77 e_v77 => ?_)
                              have t_v77 : v77.toInt = lv.toInt / 100 := by rw [e_v77]; exact i_div rfl (by decide) (by omega) (by omega)
                              refine lv_iadd hx hb d_DiscMakerModel_identify_268 ?_
                              refine lv_topi (fun v78 e_v78 => ?_)
                              have t_v78 : v78.toInt = 48 + v77.toInt := by rw [e_v78]; exact i_add (by decide) rfl (by omega) (by omega)
                              refine lv_i2b hx hb d_DiscMakerModel_identify_269 rfl ?_
                              refine lv_topi (fun v79 e_v79 => ?_)
                              have t_v79 : (-128) ≤ v79.toInt ∧ v79.toInt ≤ 127 := by rw [e_v79]; exact i_b _
                              refine zq_bast hx hb hK hP hD hS 5 0 rfl rfl (vp_in_iff.mpr ⟨by omega, by omega⟩) d_DiscMakerModel_identify_270 (fun f80 e_f80 H locs hP hD hS => ?_)
                              have hP : va_P D CL [((ma 1), .inl (cI, 40, .inl fK)), ((ma 8), .inl (cB, 1200, .inl fN)), ((ma 9), .inl (cI, 40, .inl fNS)), (h0, .inr (11, MO ma sv_thrown sv_length sv_nodes sv_many sv_directories sv_runsFrom sv_runs sv_read sv_wrong sv_isNamed sv_goes sv_goesSize sv_goesAt sv_targetParts sv_isRoot)), ((ma 2), .inl (cI, 40, .inl fP)), ((ma 12), .inl (cB, 320, .inl f80)), ((ma 13), .inl (cI, 40, .inl f74)), ((ma 14), .inl (cB, 120, .inl lEx)), ((ma 15), .inl (cI, 40, .inl f67))] H := hP
                              have hD : va_D A [((ma 1), .inl (cI, 40, .inl fK)), ((ma 8), .inl (cB, 1200, .inl fN)), ((ma 9), .inl (cI, 40, .inl fNS)), (h0, .inr (11, MO ma sv_thrown sv_length sv_nodes sv_many sv_directories sv_runsFrom sv_runs sv_read sv_wrong sv_isNamed sv_goes sv_goesSize sv_goesAt sv_targetParts sv_isRoot)), ((ma 2), .inl (cI, 40, .inl fP)), ((ma 12), .inl (cB, 320, .inl f80)), ((ma 13), .inl (cI, 40, .inl f74)), ((ma 14), .inl (cB, 120, .inl lEx)), ((ma 15), .inl (cI, 40, .inl f67))] := hD
                              have R_f80 : Rg (-128) 127 320 f80 := Rg_updB e_f80 hnBa (by decide) (by decide)
                              have l_f80 : ∀ q : Nat, q < 8 * x.toNatClampNeg ∨ 8 * x.toNatClampNeg + 8 ≤ q → f80 q = fBa q := fun q hq => by rw [e_f80]; unfold upd; rw [if_neg (by have := i_cl (a := v76) (by omega); omega)]; exact y9 q hq
                              have e2x_f80 : f80 = upd nBa (8 * x.toNatClampNeg + nn.toNatClampNeg) (vp_nar .byte v79) := by rw [e_f80, show v76.toNatClampNeg = 8 * x.toNatClampNeg + nn.toNatClampNeg by (have := i_cl (a := v76) (by omega); have := i_cl (a := nn) (by omega); omega)]
                              have vb_f80 : (vp_nar .byte v79).toInt = 48 + lv.toInt / 100 := by rw [show vp_nar .byte v79 = v79.toInt8.toInt32 from rfl, e_v79, i_bsmall (w := v78) (by omega), i_bsmall (by omega)]; omega
                              refine lv_aload_n hx hb d_DiscMakerModel_identify_271 rfl (lv_at hl 0 rfl) ?_
                              refine va_get (D := D) (ci := 11) (v := .ref (ma 12)) (C := "DiscMakerModel") (T := F_DiscMakerModel) (N := 48) hx hb ht9 in_DiscMakerModel hown hK hP 3 rfl rfl 15 (by decide) (ht9 _ k1446) (fun _ h9 => h9) rfl d_DiscMakerModel_identify_272 ?_
                              refine lv_bipush (v := 8) hx hb d_DiscMakerModel_identify_275 (by decide) ?_
                              refine lv_iload_n hx hb d_DiscMakerModel_identify_277 rfl (lv_at hl 1 rfl) ?_
                              refine lv_imul hx hb d_DiscMakerModel_identify_278 ?_
                              refine lv_topi (fun v81 e_v81 => ?_)
                              have t_v81 : v81.toInt = 8 * x.toInt := by rw [e_v81]; exact i_mul (by decide) rfl (by omega) (by omega)
                              refine lv_iload hx hb d_DiscMakerModel_identify_279 (lv_at hl 5 rfl) ?_
                              refine lv_iadd hx hb d_DiscMakerModel_identify_281 ?_
                              refine lv_topi (fun v82 e_v82 => ?_)
                              have t_v82 : v82.toInt = v81.toInt + nn.toInt := by rw [e_v82]; exact i_add rfl rfl (by omega) (by omega)
                              refine lv_iconst (v := 1) hx hb d_DiscMakerModel_identify_282 (by decide) ?_
                              refine lv_iadd hx hb d_DiscMakerModel_identify_283 ?_
                              refine lv_topi (fun v83 e_v83 => ?_)
                              have t_v83 : v83.toInt = v82.toInt + 1 := by rw [e_v83]; exact i_add rfl (by decide) (by omega) (by omega)
                              refine lv_bipush (v := 48) hx hb d_DiscMakerModel_identify_284 (by decide) ?_
                              refine lv_iload hx hb d_DiscMakerModel_identify_286 (lv_at hl 6 rfl) ?_
                              refine lv_bipush (v := 10) hx hb d_DiscMakerModel_identify_288 (by decide) ?_
                              refine lv_idiv hx hb d_DiscMakerModel_identify_290 (by decide) ?_
                              refine lv_topi (fun v84 e_v84 => ?_)
                              have t_v84 : v84.toInt = lv.toInt / 10 := by rw [e_v84]; exact i_div rfl (by decide) (by omega) (by omega)
                              refine lv_bipush (v := 10) hx hb d_DiscMakerModel_identify_291 (by decide) ?_
                              refine lv_irem hx hb d_DiscMakerModel_identify_293 (by decide) ?_
                              refine lv_topi (fun v85 e_v85 => ?_)
                              have t_v85 : v85.toInt = v84.toInt % 10 := by rw [e_v85]; exact i_rem rfl (by decide) (by omega) (by omega)
                              refine lv_iadd hx hb d_DiscMakerModel_identify_294 ?_
                              refine lv_topi (fun v86 e_v86 => ?_)
                              have t_v86 : v86.toInt = 48 + v85.toInt := by rw [e_v86]; exact i_add (by decide) rfl (by omega) (by omega)
                              refine lv_i2b hx hb d_DiscMakerModel_identify_295 rfl ?_
                              refine lv_topi (fun v87 e_v87 => ?_)
                              have t_v87 : (-128) ≤ v87.toInt ∧ v87.toInt ≤ 127 := by rw [e_v87]; exact i_b _
                              refine zq_bast hx hb hK hP hD hS 5 0 rfl rfl (vp_in_iff.mpr ⟨by omega, by omega⟩) d_DiscMakerModel_identify_296 (fun f88 e_f88 H locs hP hD hS => ?_)
                              have hP : va_P D CL [((ma 1), .inl (cI, 40, .inl fK)), ((ma 8), .inl (cB, 1200, .inl fN)), ((ma 9), .inl (cI, 40, .inl fNS)), (h0, .inr (11, MO ma sv_thrown sv_length sv_nodes sv_many sv_directories sv_runsFrom sv_runs sv_read sv_wrong sv_isNamed sv_goes sv_goesSize sv_goesAt sv_targetParts sv_isRoot)), ((ma 2), .inl (cI, 40, .inl fP)), ((ma 12), .inl (cB, 320, .inl f88)), ((ma 13), .inl (cI, 40, .inl f74)), ((ma 14), .inl (cB, 120, .inl lEx)), ((ma 15), .inl (cI, 40, .inl f67))] H := hP
                              have hD : va_D A [((ma 1), .inl (cI, 40, .inl fK)), ((ma 8), .inl (cB, 1200, .inl fN)), ((ma 9), .inl (cI, 40, .inl fNS)), (h0, .inr (11, MO ma sv_thrown sv_length sv_nodes sv_many sv_directories sv_runsFrom sv_runs sv_read sv_wrong sv_isNamed sv_goes sv_goesSize sv_goesAt sv_targetParts sv_isRoot)), ((ma 2), .inl (cI, 40, .inl fP)), ((ma 12), .inl (cB, 320, .inl f88)), ((ma 13), .inl (cI, 40, .inl f74)), ((ma 14), .inl (cB, 120, .inl lEx)), ((ma 15), .inl (cI, 40, .inl f67))] := hD
                              have R_f88 : Rg (-128) 127 320 f88 := Rg_updB e_f88 R_f80 (by decide) (by decide)
                              have l_f88 : ∀ q : Nat, q < 8 * x.toNatClampNeg ∨ 8 * x.toNatClampNeg + 8 ≤ q → f88 q = fBa q := fun q hq => by rw [e_f88]; unfold upd; rw [if_neg (by have := i_cl (a := v83) (by omega); omega)]; exact l_f80 q hq
                              have e2x_f88 : f88 = upd f80 (8 * x.toNatClampNeg + nn.toNatClampNeg + 1) (vp_nar .byte v87) := by rw [e_f88, show v83.toNatClampNeg = 8 * x.toNatClampNeg + nn.toNatClampNeg + 1 by (have := i_cl (a := v83) (by omega); have := i_cl (a := nn) (by omega); omega)]
                              have vb_f88 : (vp_nar .byte v87).toInt = 48 + lv.toInt / 10 % 10 := by rw [show vp_nar .byte v87 = v87.toInt8.toInt32 from rfl, e_v87, i_bsmall (w := v86) (by omega), i_bsmall (by omega)]; omega
                              refine lv_aload_n hx hb d_DiscMakerModel_identify_297 rfl (lv_at hl 0 rfl) ?_
                              refine va_get (D := D) (ci := 11) (v := .ref (ma 12)) (C := "DiscMakerModel") (T := F_DiscMakerModel) (N := 48) hx hb ht9 in_DiscMakerModel hown hK hP 3 rfl rfl 15 (by decide) (ht9 _ k1446) (fun _ h9 => h9) rfl d_DiscMakerModel_identify_298 ?_
                              refine lv_bipush (v := 8) hx hb d_DiscMakerModel_identify_301 (by decide) ?_
                              refine lv_iload_n hx hb d_DiscMakerModel_identify_303 rfl (lv_at hl 1 rfl) ?_
                              refine lv_imul hx hb d_DiscMakerModel_identify_304 ?_
                              refine lv_topi (fun v89 e_v89 => ?_)
                              have t_v89 : v89.toInt = 8 * x.toInt := by rw [e_v89]; exact i_mul (by decide) rfl (by omega) (by omega)
                              refine lv_iload hx hb d_DiscMakerModel_identify_305 (lv_at hl 5 rfl) ?_
                              refine lv_iadd hx hb d_DiscMakerModel_identify_307 ?_
                              refine lv_topi (fun v90 e_v90 => ?_)
                              have t_v90 : v90.toInt = v89.toInt + nn.toInt := by rw [e_v90]; exact i_add rfl rfl (by omega) (by omega)
                              refine lv_iconst (v := 2) hx hb d_DiscMakerModel_identify_308 (by decide) ?_
                              refine lv_iadd hx hb d_DiscMakerModel_identify_309 ?_
                              refine lv_topi (fun v91 e_v91 => ?_)
                              have t_v91 : v91.toInt = v90.toInt + 2 := by rw [e_v91]; exact i_add rfl (by decide) (by omega) (by omega)
                              refine lv_bipush (v := 48) hx hb d_DiscMakerModel_identify_310 (by decide) ?_
                              refine lv_iload hx hb d_DiscMakerModel_identify_312 (lv_at hl 6 rfl) ?_
                              refine lv_bipush (v := 10) hx hb d_DiscMakerModel_identify_314 (by decide) ?_
                              refine lv_irem hx hb d_DiscMakerModel_identify_316 (by decide) ?_
                              refine lv_topi (fun v92 e_v92 => ?_)
                              have t_v92 : v92.toInt = lv.toInt % 10 := by rw [e_v92]; exact i_rem rfl (by decide) (by omega) (by omega)
                              refine lv_iadd hx hb d_DiscMakerModel_identify_317 ?_
                              refine lv_topi (fun v93 e_v93 => ?_)
                              have t_v93 : v93.toInt = 48 + v92.toInt := by rw [e_v93]; exact i_add (by decide) rfl (by omega) (by omega)
                              refine lv_i2b hx hb d_DiscMakerModel_identify_318 rfl ?_
                              refine lv_topi (fun v94 e_v94 => ?_)
                              have t_v94 : (-128) ≤ v94.toInt ∧ v94.toInt ≤ 127 := by rw [e_v94]; exact i_b _
                              refine zq_bast hx hb hK hP hD hS 5 0 rfl rfl (vp_in_iff.mpr ⟨by omega, by omega⟩) d_DiscMakerModel_identify_319 (fun f95 e_f95 H locs hP hD hS => ?_)
                              have hP : va_P D CL [((ma 1), .inl (cI, 40, .inl fK)), ((ma 8), .inl (cB, 1200, .inl fN)), ((ma 9), .inl (cI, 40, .inl fNS)), (h0, .inr (11, MO ma sv_thrown sv_length sv_nodes sv_many sv_directories sv_runsFrom sv_runs sv_read sv_wrong sv_isNamed sv_goes sv_goesSize sv_goesAt sv_targetParts sv_isRoot)), ((ma 2), .inl (cI, 40, .inl fP)), ((ma 12), .inl (cB, 320, .inl f95)), ((ma 13), .inl (cI, 40, .inl f74)), ((ma 14), .inl (cB, 120, .inl lEx)), ((ma 15), .inl (cI, 40, .inl f67))] H := hP
                              have hD : va_D A [((ma 1), .inl (cI, 40, .inl fK)), ((ma 8), .inl (cB, 1200, .inl fN)), ((ma 9), .inl (cI, 40, .inl fNS)), (h0, .inr (11, MO ma sv_thrown sv_length sv_nodes sv_many sv_directories sv_runsFrom sv_runs sv_read sv_wrong sv_isNamed sv_goes sv_goesSize sv_goesAt sv_targetParts sv_isRoot)), ((ma 2), .inl (cI, 40, .inl fP)), ((ma 12), .inl (cB, 320, .inl f95)), ((ma 13), .inl (cI, 40, .inl f74)), ((ma 14), .inl (cB, 120, .inl lEx)), ((ma 15), .inl (cI, 40, .inl f67))] := hD
                              have R_f95 : Rg (-128) 127 320 f95 := Rg_updB e_f95 R_f88 (by decide) (by decide)
                              have l_f95 : ∀ q : Nat, q < 8 * x.toNatClampNeg ∨ 8 * x.toNatClampNeg + 8 ≤ q → f95 q = fBa q := fun q hq => by rw [e_f95]; unfold upd; rw [if_neg (by have := i_cl (a := v91) (by omega); omega)]; exact l_f88 q hq
                              have e2x_f95 : f95 = upd f88 (8 * x.toNatClampNeg + nn.toNatClampNeg + 2) (vp_nar .byte v94) := by rw [e_f95, show v91.toNatClampNeg = 8 * x.toNatClampNeg + nn.toNatClampNeg + 2 by (have := i_cl (a := v91) (by omega); have := i_cl (a := nn) (by omega); omega)]
                              have vb_f95 : (vp_nar .byte v94).toInt = 48 + lv.toInt % 10 := by rw [show vp_nar .byte v94 = v94.toInt8.toInt32 from rfl, e_v94, i_bsmall (w := v93) (by omega), i_bsmall (by omega)]; omega
                              obtain ⟨v96, e_v96⟩ : ∃ z : Int32, z = lv + 1 := ⟨_, rfl⟩
                              refine lv_iinc (v := v96) hx hb d_DiscMakerModel_identify_320 hl (k := 6) rfl e_v96.symm (by decide +kernel) rfl (fun ls hl => ?_)
                              have t_v96 : v96.toInt = lv.toInt + 1 := by rw [e_v96]; exact i_add rfl (by decide) (by omega) (by omega)
                              have hl : lv_has ls 7 [(6, .int v96), (0, .ref h0), (1, .int x), (2, .int do_), (3, .int en), (4, .int lf), (5, .int nn)] := hl
                              refine lv_aload_n hx hb d_DiscMakerModel_identify_323 rfl (lv_at hl 1 rfl) ?_
                              refine lv_iload_n hx hb d_DiscMakerModel_identify_324 rfl (lv_at hl 2 rfl) ?_
                              have hPc := hP.sub (ws' := [(h0, .inr (11, MO ma sv_thrown sv_length sv_nodes sv_many sv_directories sv_runsFrom sv_runs sv_read sv_wrong sv_isNamed sv_goes sv_goesSize sv_goesAt sv_targetParts sv_isRoot)), ((ma 2), .inl (cI, 40, .inl fP)), ((ma 12), .inl (cB, 320, .inl f95)), ((ma 13), .inl (cI, 40, .inl f74)), ((ma 14), .inl (cB, 120, .inl lEx)), ((ma 15), .inl (cI, 40, .inl f67))]) [3, 4, 5, 6, 7, 8] rfl
                              have hDc := hD.sub (ws' := [(h0, .inr (11, MO ma sv_thrown sv_length sv_nodes sv_many sv_directories sv_runsFrom sv_runs sv_read sv_wrong sv_isNamed sv_goes sv_goesSize sv_goesAt sv_targetParts sv_isRoot)), ((ma 2), .inl (cI, 40, .inl fP)), ((ma 12), .inl (cB, 320, .inl f95)), ((ma 13), .inl (cI, 40, .inl f74)), ((ma 14), .inl (cB, 120, .inl lEx)), ((ma 15), .inl (cI, 40, .inl f67))]) [3, 4, 5, 6, 7, 8] (by decide +kernel) rfl
                              have hFc := va_free (wc := [(h0, .inr (11, MO ma sv_thrown sv_length sv_nodes sv_many sv_directories sv_runsFrom sv_runs sv_read sv_wrong sv_isNamed sv_goes sv_goesSize sv_goesAt sv_targetParts sv_isRoot)), ((ma 2), .inl (cI, 40, .inl fP)), ((ma 12), .inl (cB, 320, .inl f95)), ((ma 13), .inl (cI, 40, .inl f74)), ((ma 14), .inl (cB, 120, .inl lEx)), ((ma 15), .inl (cI, 40, .inl f67))]) hD hS hA [3, 4, 5, 6, 7, 8] rfl
                              have hkc : 0 ≤ 0 := by decide
                              have hks : 0 ≤ 0 := by decide
                              refine va_calli (va_runV (C := "DiscMakerModel") (As := [.int x]) (rest := []) ⟨hx, hb, hml, hown, hts⟩ (m_isTaken l D cB cI cJ cZ cN cF H.size h0 ma sv_thrown sv_length sv_nodes sv_many sv_directories sv_runsFrom sv_runs sv_read sv_wrong sv_isNamed sv_goes sv_goesSize sv_goesAt sv_targetParts sv_isRoot fP f95 f74 lEx f67 x (by (try dsimp only); first | assumption | omega | trivial) (by (try dsimp only); first | assumption | omega | trivial) (by (try dsimp only); first | assumption | omega | trivial) (by (try dsimp only); first | assumption | omega | trivial) (by (try dsimp only); first | assumption | omega | trivial)) (cwV 1 hts (lg_goodV k1655 k1657 k61 k125 kc_DiscMakerModel_isTaken) rfl rfl rfl (by decide +kernel) ⟨Nat.le_of_ble_eq_true rfl, Nat.le_of_ble_eq_true rfl⟩) ⟨fun a U g mk q => by obtain ⟨q0, q1, qP, qK, qN, qD⟩ := q; exact ⟨q0, q1, qP, va_K.moved (u := U) (U := U.calling g mk a) (Vm.Alike.refl U.vm) qK, qN.calling, qD⟩, va_recv hK hP (ci := 11) (q0 := 3) rfl rfl, fun U hU hW => ⟨rfl, by rw [hU], by rw [hU]; exact hPc, va_K.moved hW.alike hK, NN.warm hW hN, hDc.weaken (fun _ _ _ _ => trivial)⟩⟩ rfl rfl hl.1 rfl (lv_room (Nat.le_of_ble_eq_true rfl)) d_DiscMakerModel_identify_325 ⟨hkc, hks⟩) hS (fun q _ h => hFc q h) hFc (fun r97 u t H1 locs ht hvm hp_r97 hB hz1 hk1 hS => ?_)
                              obtain ⟨hP1, hD1⟩ := hB
                              rw [ht] at hP1
                              obtain ⟨hP, hD⟩ := va_join (wr := [((ma 1), .inl (cI, 40, .inl fK)), ((ma 8), .inl (cB, 1200, .inl fN)), ((ma 9), .inl (cI, 40, .inl fNS))]) (w1 := [(h0, .inr (11, MO ma sv_thrown sv_length sv_nodes sv_many sv_directories sv_runsFrom sv_runs sv_read sv_wrong sv_isNamed sv_goes sv_goesSize sv_goesAt sv_targetParts sv_isRoot)), ((ma 2), .inl (cI, 40, .inl fP)), ((ma 12), .inl (cB, 320, .inl f95)), ((ma 13), .inl (cI, 40, .inl f74)), ((ma 14), .inl (cB, 120, .inl lEx)), ((ma 15), .inl (cI, 40, .inl f67))]) hP hD [3, 4, 5, 6, 7, 8] [0, 1, 2] rfl rfl (by decide +kernel) (by decide +kernel) hk1 hFc hP1 hD1
                              clear hPc hDc hFc hP1 hD1 hk1 hz1 hkc hks
                              generalize H1 = H at hP hS ⊢
                              have hP : va_P D CL [((ma 1), .inl (cI, 40, .inl fK)), ((ma 8), .inl (cB, 1200, .inl fN)), ((ma 9), .inl (cI, 40, .inl fNS)), (h0, .inr (11, MO ma sv_thrown sv_length sv_nodes sv_many sv_directories sv_runsFrom sv_runs sv_read sv_wrong sv_isNamed sv_goes sv_goesSize sv_goesAt sv_targetParts sv_isRoot)), ((ma 2), .inl (cI, 40, .inl fP)), ((ma 12), .inl (cB, 320, .inl f95)), ((ma 13), .inl (cI, 40, .inl f74)), ((ma 14), .inl (cB, 120, .inl lEx)), ((ma 15), .inl (cI, 40, .inl f67))] H := hP
                              have hD : va_D A [((ma 1), .inl (cI, 40, .inl fK)), ((ma 8), .inl (cB, 1200, .inl fN)), ((ma 9), .inl (cI, 40, .inl fNS)), (h0, .inr (11, MO ma sv_thrown sv_length sv_nodes sv_many sv_directories sv_runsFrom sv_runs sv_read sv_wrong sv_isNamed sv_goes sv_goesSize sv_goesAt sv_targetParts sv_isRoot)), ((ma 2), .inl (cI, 40, .inl fP)), ((ma 12), .inl (cB, 320, .inl f95)), ((ma 13), .inl (cI, 40, .inl f74)), ((ma 14), .inl (cB, 120, .inl lEx)), ((ma 15), .inl (cI, 40, .inl f67))] := hD
                              try dsimp only at hp_r97
                              obtain ⟨hr_98, hq_99, hq0_100⟩ := hp_r97
                              refine lv_if_ne (tgt := 250) hx hb d_DiscMakerModel_identify_328 (by decide) (fun h_9 => ?_) (fun h_9 => ?_)
                              · skip
                                have g328_296 : ¬ r97.toInt = 0 := fun h8 => h_9 ((i_eq rfl (by decide)).mpr h8)
                                have hP := hP.sub (ws' := [((ma 1), .inl (cI, 40, .inl fK)), ((ma 8), .inl (cB, 1200, .inl fN)), ((ma 9), .inl (cI, 40, .inl fNS)), (h0, .inr (11, MO ma sv_thrown sv_length sv_nodes sv_many sv_directories sv_runsFrom sv_runs sv_read sv_wrong sv_isNamed sv_goes sv_goesSize sv_goesAt sv_targetParts sv_isRoot)), ((ma 2), .inl (cI, 40, .inl fP)), ((ma 12), .inl (cB, 320, .inl f95)), ((ma 13), .inl (cI, 40, .inl f74)), ((ma 14), .inl (cB, 120, .inl lEx)), ((ma 15), .inl (cI, 40, .inl f67))]) [0, 1, 2, 3, 4, 5, 6, 7, 8] rfl
                                have hD := hD.sub (ws' := [((ma 1), .inl (cI, 40, .inl fK)), ((ma 8), .inl (cB, 1200, .inl fN)), ((ma 9), .inl (cI, 40, .inl fNS)), (h0, .inr (11, MO ma sv_thrown sv_length sv_nodes sv_many sv_directories sv_runsFrom sv_runs sv_read sv_wrong sv_isNamed sv_goes sv_goesSize sv_goesAt sv_targetParts sv_isRoot)), ((ma 2), .inl (cI, 40, .inl fP)), ((ma 12), .inl (cB, 320, .inl f95)), ((ma 13), .inl (cI, 40, .inl f74)), ((ma 14), .inl (cB, 120, .inl lEx)), ((ma 15), .inl (cI, 40, .inl f67))]) [0, 1, 2, 3, 4, 5, 6, 7, 8] (by decide +kernel) rfl
                                have hl := lv_sub hl [1, 2, 3, 4, 5, 6, 0] rfl
                                exact ih250 _ (by clear hq_99 hq0_100; omega) v96 f95 _ _ _ rfl (l_f95) (R_f95) ((by (try dsimp only); first | assumption | omega | trivial)) ((by obtain ⟨q, q1, q2, q3⟩ := hq_99 (by omega); have h1 := i_cl (a := lv) (by omega); have h2 := i_cl (a := v96) (by omega); have h3 := i_cl (a := nn) (by omega); rw [show v96.toNatClampNeg = lv.toNatClampNeg + 1 by omega]; exact idy e2x_f80 e2x_f88 e2x_f95 (by rw [s_f74]; omega) (by omega) (by rw [vb_f80]; omega) (by rw [vb_f88]; omega) (by rw [vb_f95]; omega) y10 q1 (by omega) q3)) hP hD hS hl
                              · skip
                                have g328_296 : r97.toInt = 0 := (i_eq rfl (by decide)).mp h_9
                                have hP9 := hP.sub (ws' := [(h0, .inr (11, MO ma sv_thrown sv_length sv_nodes sv_many sv_directories sv_runsFrom sv_runs sv_read sv_wrong sv_isNamed sv_goes sv_goesSize sv_goesAt sv_targetParts sv_isRoot)), ((ma 1), .inl (cI, 40, .inl fK)), ((ma 2), .inl (cI, 40, .inl fP)), ((ma 8), .inl (cB, 1200, .inl fN)), ((ma 9), .inl (cI, 40, .inl fNS)), ((ma 12), .inl (cB, 320, .inl f95)), ((ma 13), .inl (cI, 40, .inl f74)), ((ma 14), .inl (cB, 120, .inl lEx)), ((ma 15), .inl (cI, 40, .inl f67))]) [3, 0, 4, 1, 2, 5, 6, 7, 8] rfl
                                have hD9 := hD.sub (ws' := [(h0, .inr (11, MO ma sv_thrown sv_length sv_nodes sv_many sv_directories sv_runsFrom sv_runs sv_read sv_wrong sv_isNamed sv_goes sv_goesSize sv_goesAt sv_targetParts sv_isRoot)), ((ma 1), .inl (cI, 40, .inl fK)), ((ma 2), .inl (cI, 40, .inl fP)), ((ma 8), .inl (cB, 1200, .inl fN)), ((ma 9), .inl (cI, 40, .inl fNS)), ((ma 12), .inl (cB, 320, .inl f95)), ((ma 13), .inl (cI, 40, .inl f74)), ((ma 14), .inl (cB, 120, .inl lEx)), ((ma 15), .inl (cI, 40, .inl f67))]) [3, 0, 4, 1, 2, 5, 6, 7, 8] (by decide +kernel) rfl
                                exact W.vret hx hb hr (fun t ht hW => ⟨⟨(f95, f74, lEx, f67), rfl, ⟨R_f95, R_f74, hlEx, R_f67, l_f95, y6, l_f74, l_f67, (hq0_100 (by omega))⟩, by rw [ht]; exact hP9, hD9⟩, hS.F ht⟩) hS.2.2 d_DiscMakerModel_identify_331
                            · skip
                              intro kk250
                              have hP := hP.sub (ws' := [((ma 1), .inl (cI, 40, .inl fK)), ((ma 8), .inl (cB, 1200, .inl fN)), ((ma 9), .inl (cI, 40, .inl fNS)), (h0, .inr (11, MO ma sv_thrown sv_length sv_nodes sv_many sv_directories sv_runsFrom sv_runs sv_read sv_wrong sv_isNamed sv_goes sv_goesSize sv_goesAt sv_targetParts sv_isRoot)), ((ma 2), .inl (cI, 40, .inl fP)), ((ma 12), .inl (cB, 320, .inl lBa)), ((ma 13), .inl (cI, 40, .inl f74)), ((ma 14), .inl (cB, 120, .inl lEx)), ((ma 15), .inl (cI, 40, .inl f67))]) [0, 1, 2, 3, 4, 5, 6, 7, 8] rfl
                              have hD := hD.sub (ws' := [((ma 1), .inl (cI, 40, .inl fK)), ((ma 8), .inl (cB, 1200, .inl fN)), ((ma 9), .inl (cI, 40, .inl fNS)), (h0, .inr (11, MO ma sv_thrown sv_length sv_nodes sv_many sv_directories sv_runsFrom sv_runs sv_read sv_wrong sv_isNamed sv_goes sv_goesSize sv_goesAt sv_targetParts sv_isRoot)), ((ma 2), .inl (cI, 40, .inl fP)), ((ma 12), .inl (cB, 320, .inl lBa)), ((ma 13), .inl (cI, 40, .inl f74)), ((ma 14), .inl (cB, 120, .inl lEx)), ((ma 15), .inl (cI, 40, .inl f67))]) [0, 1, 2, 3, 4, 5, 6, 7, 8] (by decide +kernel) rfl
                              have hl := lv_sub hl [2, 3, 4, 5, 6, 1, 0] rfl
                              exact kk250 _ 0 lBa _ _ _ rfl (y4) (hlBa) ((by (try dsimp only); first | assumption | omega | trivial)) ((by rw [show (0 : Int32).toNatClampNeg = 0 by decide]; exact DG_0)) hP hD hS hl
                          · skip
                            intro kk235
                            refine lv_aload_n hx hb d_DiscMakerModel_identify_215 rfl (lv_at hl 0 rfl) ?_
                            refine va_get (D := D) (ci := 11) (v := .ref (ma 13)) (C := "DiscMakerModel") (T := F_DiscMakerModel) (N := 48) hx hb ht9 in_DiscMakerModel hown hK hP 3 rfl rfl 16 (by decide) (ht9 _ k1447) (fun _ h9 => h9) rfl d_DiscMakerModel_identify_216 ?_
                            refine lv_iload_n hx hb d_DiscMakerModel_identify_219 rfl (lv_at hl 1 rfl) ?_
                            refine va_iald hx hb hK hP 6 1 rfl rfl (vp_in_iff.mpr ⟨by omega, by omega⟩) d_DiscMakerModel_identify_220 ?_
                            refine lv_topi (fun v101 e_v101 => ?_)
                            have t_v101 : 0 ≤ v101.toInt ∧ v101.toInt ≤ 8 := by
                              rw [e_v101]; exact R_f65 _ (by have := i_cl (a := x) (by omega); omega)
                            have q_v101 : v101.toInt = bs.toInt := by rw [e_v101, s_f65]; try decide
                            refine lv_iconst (v := 5) hx hb d_DiscMakerModel_identify_221 (by decide) ?_
                            refine lv_icmp_ge (tgt := 234) hx hb d_DiscMakerModel_identify_222 (by decide) (fun h_9 => ?_) (fun h_9 => ?_)
                            · skip
                              have g222_304 : 5 ≤ v101.toInt := (i_le (by decide) rfl).mp h_9
                              refine lv_iconst (v := 5) hx hb d_DiscMakerModel_identify_234 (by decide) ?_
                              have hP := hP.sub (ws' := [((ma 1), .inl (cI, 40, .inl fK)), ((ma 8), .inl (cB, 1200, .inl fN)), ((ma 9), .inl (cI, 40, .inl fNS)), (h0, .inr (11, MO ma sv_thrown sv_length sv_nodes sv_many sv_directories sv_runsFrom sv_runs sv_read sv_wrong sv_isNamed sv_goes sv_goesSize sv_goesAt sv_targetParts sv_isRoot)), ((ma 2), .inl (cI, 40, .inl fP)), ((ma 12), .inl (cB, 320, .inl lBa)), ((ma 13), .inl (cI, 40, .inl f65)), ((ma 14), .inl (cB, 120, .inl lEx)), ((ma 15), .inl (cI, 40, .inl f67))]) [0, 1, 2, 3, 4, 5, 6, 7, 8] rfl
                              have hD := hD.sub (ws' := [((ma 1), .inl (cI, 40, .inl fK)), ((ma 8), .inl (cB, 1200, .inl fN)), ((ma 9), .inl (cI, 40, .inl fNS)), (h0, .inr (11, MO ma sv_thrown sv_length sv_nodes sv_many sv_directories sv_runsFrom sv_runs sv_read sv_wrong sv_isNamed sv_goes sv_goesSize sv_goesAt sv_targetParts sv_isRoot)), ((ma 2), .inl (cI, 40, .inl fP)), ((ma 12), .inl (cB, 320, .inl lBa)), ((ma 13), .inl (cI, 40, .inl f65)), ((ma 14), .inl (cB, 120, .inl lEx)), ((ma 15), .inl (cI, 40, .inl f67))]) [0, 1, 2, 3, 4, 5, 6, 7, 8] (by decide +kernel) rfl
                              have hl := lv_sub hl [0, 1, 2, 3, 4, 5] rfl
                              exact kk235 _ 5 _ _ _ rfl ((by (try dsimp only); first | assumption | omega | trivial)) hP hD hS hl
                            · skip
                              have g222_304 : ¬ 5 ≤ v101.toInt := fun h8 => h_9 ((i_le (by decide) rfl).mpr h8)
                              refine lv_aload_n hx hb d_DiscMakerModel_identify_225 rfl (lv_at hl 0 rfl) ?_
                              refine va_get (D := D) (ci := 11) (v := .ref (ma 13)) (C := "DiscMakerModel") (T := F_DiscMakerModel) (N := 48) hx hb ht9 in_DiscMakerModel hown hK hP 3 rfl rfl 16 (by decide) (ht9 _ k1447) (fun _ h9 => h9) rfl d_DiscMakerModel_identify_226 ?_
                              refine lv_iload_n hx hb d_DiscMakerModel_identify_229 rfl (lv_at hl 1 rfl) ?_
                              refine va_iald hx hb hK hP 6 1 rfl rfl (vp_in_iff.mpr ⟨by omega, by omega⟩) d_DiscMakerModel_identify_230 ?_
                              refine lv_topi (fun v102 e_v102 => ?_)
                              have t_v102 : 0 ≤ v102.toInt ∧ v102.toInt ≤ 8 := by
                                rw [e_v102]; exact R_f65 _ (by have := i_cl (a := x) (by omega); omega)
                              have q_v102 : v102.toInt = bs.toInt := by rw [e_v102, s_f65]; try decide
                              refine lv_goto (tgt := 235) hx hb d_DiscMakerModel_identify_231 (by decide) ?_
                              have hP := hP.sub (ws' := [((ma 1), .inl (cI, 40, .inl fK)), ((ma 8), .inl (cB, 1200, .inl fN)), ((ma 9), .inl (cI, 40, .inl fNS)), (h0, .inr (11, MO ma sv_thrown sv_length sv_nodes sv_many sv_directories sv_runsFrom sv_runs sv_read sv_wrong sv_isNamed sv_goes sv_goesSize sv_goesAt sv_targetParts sv_isRoot)), ((ma 2), .inl (cI, 40, .inl fP)), ((ma 12), .inl (cB, 320, .inl lBa)), ((ma 13), .inl (cI, 40, .inl f65)), ((ma 14), .inl (cB, 120, .inl lEx)), ((ma 15), .inl (cI, 40, .inl f67))]) [0, 1, 2, 3, 4, 5, 6, 7, 8] rfl
                              have hD := hD.sub (ws' := [((ma 1), .inl (cI, 40, .inl fK)), ((ma 8), .inl (cB, 1200, .inl fN)), ((ma 9), .inl (cI, 40, .inl fNS)), (h0, .inr (11, MO ma sv_thrown sv_length sv_nodes sv_many sv_directories sv_runsFrom sv_runs sv_read sv_wrong sv_isNamed sv_goes sv_goesSize sv_goesAt sv_targetParts sv_isRoot)), ((ma 2), .inl (cI, 40, .inl fP)), ((ma 12), .inl (cB, 320, .inl lBa)), ((ma 13), .inl (cI, 40, .inl f65)), ((ma 14), .inl (cB, 120, .inl lEx)), ((ma 15), .inl (cI, 40, .inl f67))]) [0, 1, 2, 3, 4, 5, 6, 7, 8] (by decide +kernel) rfl
                              have hl := lv_sub hl [0, 1, 2, 3, 4, 5] rfl
                              exact kk235 _ v102 _ _ _ rfl ((by (try dsimp only); first | assumption | omega | trivial)) hP hD hS hl
                        · skip
                          have g211_233 : r69.toInt = 0 := (i_eq rfl (by decide)).mp h_9
                          have hP9 := hP.sub (ws' := [(h0, .inr (11, MO ma sv_thrown sv_length sv_nodes sv_many sv_directories sv_runsFrom sv_runs sv_read sv_wrong sv_isNamed sv_goes sv_goesSize sv_goesAt sv_targetParts sv_isRoot)), ((ma 1), .inl (cI, 40, .inl fK)), ((ma 2), .inl (cI, 40, .inl fP)), ((ma 8), .inl (cB, 1200, .inl fN)), ((ma 9), .inl (cI, 40, .inl fNS)), ((ma 12), .inl (cB, 320, .inl lBa)), ((ma 13), .inl (cI, 40, .inl f65)), ((ma 14), .inl (cB, 120, .inl lEx)), ((ma 15), .inl (cI, 40, .inl f67))]) [3, 0, 4, 1, 2, 5, 6, 7, 8] rfl
                          have hD9 := hD.sub (ws' := [(h0, .inr (11, MO ma sv_thrown sv_length sv_nodes sv_many sv_directories sv_runsFrom sv_runs sv_read sv_wrong sv_isNamed sv_goes sv_goesSize sv_goesAt sv_targetParts sv_isRoot)), ((ma 1), .inl (cI, 40, .inl fK)), ((ma 2), .inl (cI, 40, .inl fP)), ((ma 8), .inl (cB, 1200, .inl fN)), ((ma 9), .inl (cI, 40, .inl fNS)), ((ma 12), .inl (cB, 320, .inl lBa)), ((ma 13), .inl (cI, 40, .inl f65)), ((ma 14), .inl (cB, 120, .inl lEx)), ((ma 15), .inl (cI, 40, .inl f67))]) [3, 0, 4, 1, 2, 5, 6, 7, 8] (by decide +kernel) rfl
                          exact W.vret hx hb hr (fun t ht hW => ⟨⟨(lBa, f65, lEx, f67), rfl, ⟨hlBa, R_f65, hlEx, R_f67, y4, y6, l_f65, l_f67, (hq0_72 (by omega))⟩, by rw [ht]; exact hP9, hD9⟩, hS.F ht⟩) hS.2.2 d_DiscMakerModel_identify_214
                      · skip
                        have g171_229 : ¬ v68.toInt ≤ k5.toInt := fun h8 => h_9 ((i_le rfl rfl).mpr h8)
                        refine lv_aload_n hx hb d_DiscMakerModel_identify_174 rfl (lv_at hl 0 rfl) ?_
                        refine va_get (D := D) (ci := 11) (v := .ref (ma 14)) (C := "DiscMakerModel") (T := F_DiscMakerModel) (N := 48) hx hb ht9 in_DiscMakerModel hown hK hP 0 rfl rfl 17 (by decide) (ht9 _ k1448) (fun _ h9 => h9) rfl d_DiscMakerModel_identify_175 ?_
                        refine lv_iconst (v := 3) hx hb d_DiscMakerModel_identify_178 (by decide) ?_
                        refine lv_iload_n hx hb d_DiscMakerModel_identify_179 rfl (lv_at hl 1 rfl) ?_
                        refine lv_imul hx hb d_DiscMakerModel_identify_180 ?_
                        refine lv_topi (fun v103 e_v103 => ?_)
                        have t_v103 : v103.toInt = 3 * x.toInt := by rw [e_v103]; exact i_mul (by decide) rfl (by omega) (by omega)
                        refine lv_iload hx hb d_DiscMakerModel_identify_181 (lv_at hl 5 rfl) ?_
                        refine lv_iadd hx hb d_DiscMakerModel_identify_183 ?_
                        refine lv_topi (fun v104 e_v104 => ?_)
                        have t_v104 : v104.toInt = v103.toInt + k5.toInt := by rw [e_v104]; exact i_add rfl rfl (by omega) (by omega)
                        refine lv_aload_n hx hb d_DiscMakerModel_identify_184 rfl (lv_at hl 0 rfl) ?_
                        refine lv_iload_n hx hb d_DiscMakerModel_identify_185 rfl (lv_at hl 1 rfl) ?_
                        refine lv_iload_n hx hb d_DiscMakerModel_identify_186 rfl (lv_at hl 2 rfl) ?_
                        refine lv_iconst (v := 1) hx hb d_DiscMakerModel_identify_187 (by decide) ?_
                        refine lv_iadd hx hb d_DiscMakerModel_identify_188 ?_
                        refine lv_topi (fun v105 e_v105 => ?_)
                        have t_v105 : v105.toInt = do_.toInt + 1 := by rw [e_v105]; exact i_add rfl (by decide) (by omega) (by omega)
                        refine lv_iload hx hb d_DiscMakerModel_identify_189 (lv_at hl 5 rfl) ?_
                        refine lv_iadd hx hb d_DiscMakerModel_identify_191 ?_
                        refine lv_topi (fun v106 e_v106 => ?_)
                        have t_v106 : v106.toInt = v105.toInt + k5.toInt := by rw [e_v106]; exact i_add rfl rfl (by omega) (by omega)
                        have hPc := hP.sub (ws' := [(h0, .inr (11, MO ma sv_thrown sv_length sv_nodes sv_many sv_directories sv_runsFrom sv_runs sv_read sv_wrong sv_isNamed sv_goes sv_goesSize sv_goesAt sv_targetParts sv_isRoot)), ((ma 8), .inl (cB, 1200, .inl fN)), ((ma 9), .inl (cI, 40, .inl fNS))]) [0, 3, 4] rfl
                        have hDc := hD.sub (ws' := [(h0, .inr (11, MO ma sv_thrown sv_length sv_nodes sv_many sv_directories sv_runsFrom sv_runs sv_read sv_wrong sv_isNamed sv_goes sv_goesSize sv_goesAt sv_targetParts sv_isRoot)), ((ma 8), .inl (cB, 1200, .inl fN)), ((ma 9), .inl (cI, 40, .inl fNS))]) [0, 3, 4] (by decide +kernel) rfl
                        have hFc := va_free (wc := [(h0, .inr (11, MO ma sv_thrown sv_length sv_nodes sv_many sv_directories sv_runsFrom sv_runs sv_read sv_wrong sv_isNamed sv_goes sv_goesSize sv_goesAt sv_targetParts sv_isRoot)), ((ma 8), .inl (cB, 1200, .inl fN)), ((ma 9), .inl (cI, 40, .inl fNS))]) hD hS hA [0, 3, 4] rfl
                        have hkc : 0 ≤ 0 := by decide
                        have hks : 0 ≤ 0 := by decide
                        refine va_calli (va_runV (C := "DiscMakerModel") (As := [.int x, .int v106]) (rest := [.int v104, .ref (ma 14)]) ⟨hx, hb, hml, hown, hts⟩ (m_nameOf l D cB cI cJ cZ cN cF H.size h0 ma sv_thrown sv_length sv_nodes sv_many sv_directories sv_runsFrom sv_runs sv_read sv_wrong sv_isNamed sv_goes sv_goesSize sv_goesAt sv_targetParts sv_isRoot fN fNS x v106 (by (try dsimp only); first | assumption | omega | trivial) (by (try dsimp only); first | assumption | omega | trivial) (by (try dsimp only); first | assumption | omega | trivial)) (cwV 2 hts (lg_goodV k1616 k1618 k56 k125 kc_DiscMakerModel_nameOf) rfl rfl rfl (by decide +kernel) ⟨Nat.le_of_ble_eq_true rfl, Nat.le_of_ble_eq_true rfl⟩) ⟨fun a U g mk q => by obtain ⟨q0, q1, qP, qK, qN, qD⟩ := q; exact ⟨q0, q1, qP, va_K.moved (u := U) (U := U.calling g mk a) (Vm.Alike.refl U.vm) qK, qN.calling, qD⟩, va_recv hK hP (ci := 11) (q0 := 0) rfl rfl, fun U hU hW => ⟨rfl, by rw [hU], by rw [hU]; exact hPc, va_K.moved hW.alike hK, NN.warm hW hN, hDc.weaken (fun _ _ _ _ => trivial)⟩⟩ rfl rfl hl.1 rfl (lv_room (Nat.le_of_ble_eq_true rfl)) d_DiscMakerModel_identify_192 ⟨hkc, hks⟩) hS (fun q _ h => hFc q h) hFc (fun r107 u t H1 locs ht hvm hp_r107 hB hz1 hk1 hS => ?_)
                        obtain ⟨hP1, hD1⟩ := hB
                        rw [ht] at hP1
                        obtain ⟨hP, hD⟩ := va_join (wr := [((ma 1), .inl (cI, 40, .inl fK)), ((ma 2), .inl (cI, 40, .inl fP)), ((ma 12), .inl (cB, 320, .inl lBa)), ((ma 13), .inl (cI, 40, .inl f65)), ((ma 14), .inl (cB, 120, .inl lEx)), ((ma 15), .inl (cI, 40, .inl f67))]) (w1 := [(h0, .inr (11, MO ma sv_thrown sv_length sv_nodes sv_many sv_directories sv_runsFrom sv_runs sv_read sv_wrong sv_isNamed sv_goes sv_goesSize sv_goesAt sv_targetParts sv_isRoot)), ((ma 8), .inl (cB, 1200, .inl fN)), ((ma 9), .inl (cI, 40, .inl fNS))]) hP hD [0, 3, 4] [1, 2, 5, 6, 7, 8] rfl rfl (by decide +kernel) (by decide +kernel) hk1 hFc hP1 hD1
                        clear hPc hDc hFc hP1 hD1 hk1 hz1 hkc hks
                        generalize H1 = H at hP hS ⊢
                        have hP : va_P D CL [((ma 1), .inl (cI, 40, .inl fK)), ((ma 2), .inl (cI, 40, .inl fP)), ((ma 12), .inl (cB, 320, .inl lBa)), ((ma 13), .inl (cI, 40, .inl f65)), ((ma 14), .inl (cB, 120, .inl lEx)), ((ma 15), .inl (cI, 40, .inl f67)), (h0, .inr (11, MO ma sv_thrown sv_length sv_nodes sv_many sv_directories sv_runsFrom sv_runs sv_read sv_wrong sv_isNamed sv_goes sv_goesSize sv_goesAt sv_targetParts sv_isRoot)), ((ma 8), .inl (cB, 1200, .inl fN)), ((ma 9), .inl (cI, 40, .inl fNS))] H := hP
                        have hD : va_D A [((ma 1), .inl (cI, 40, .inl fK)), ((ma 2), .inl (cI, 40, .inl fP)), ((ma 12), .inl (cB, 320, .inl lBa)), ((ma 13), .inl (cI, 40, .inl f65)), ((ma 14), .inl (cB, 120, .inl lEx)), ((ma 15), .inl (cI, 40, .inl f67)), (h0, .inr (11, MO ma sv_thrown sv_length sv_nodes sv_many sv_directories sv_runsFrom sv_runs sv_read sv_wrong sv_isNamed sv_goes sv_goesSize sv_goesAt sv_targetParts sv_isRoot)), ((ma 8), .inl (cB, 1200, .inl fN)), ((ma 9), .inl (cI, 40, .inl fNS))] := hD
                        try dsimp only at hp_r107
                        obtain ⟨hr_108, hv_109⟩ := hp_r107
                        have hPc := hP.sub (ws' := []) [] rfl
                        have hDc := hD.sub (ws' := []) [] (by decide +kernel) rfl
                        have hFc := va_free (wc := []) hD hS hA [] rfl
                        have hkc : 0 ≤ 0 := by decide
                        have hks : 0 ≤ 0 := by decide
                        refine va_calli (va_runS (As := [.int r107]) (rest := [.int v104, .ref (ma 14)]) ⟨hx, hb, hml, hown, hts⟩ (m_capital l D cB cI cJ cZ cN cF H.size r107 (by (try dsimp only); first | assumption | omega | trivial)) (cwS 1 hts (lg_goodS k1652 k1653 k125 kc_DiscMakerModel_capital) rfl rfl rfl (by decide +kernel) ⟨Nat.le_of_ble_eq_true rfl, Nat.le_of_ble_eq_true rfl⟩) ⟨fun a U g mk q => by obtain ⟨q0, q1, qP, qK, qN, qD⟩ := q; exact ⟨q0, q1, qP, va_K.moved (u := U) (U := U.calling g mk a) (Vm.Alike.refl U.vm) qK, qN.calling, qD⟩, fun U hU hW => ⟨rfl, by rw [hU], by rw [hU]; exact hPc, va_K.moved hW.alike hK, NN.warm hW hN, hDc.weaken (fun _ _ _ _ => trivial)⟩⟩ rfl rfl hl.1 rfl (lv_room (Nat.le_of_ble_eq_true rfl)) d_DiscMakerModel_identify_195 ⟨hkc, hks⟩) hS (fun q _ h => hFc q h) hFc (fun r110 u t H1 locs ht hvm hp_r110 hB hz1 hk1 hS => ?_)
                        obtain ⟨hP1, hD1⟩ := hB
                        rw [ht] at hP1
                        obtain ⟨hP, hD⟩ := va_join (wr := [((ma 1), .inl (cI, 40, .inl fK)), ((ma 2), .inl (cI, 40, .inl fP)), ((ma 12), .inl (cB, 320, .inl lBa)), ((ma 13), .inl (cI, 40, .inl f65)), ((ma 14), .inl (cB, 120, .inl lEx)), ((ma 15), .inl (cI, 40, .inl f67)), (h0, .inr (11, MO ma sv_thrown sv_length sv_nodes sv_many sv_directories sv_runsFrom sv_runs sv_read sv_wrong sv_isNamed sv_goes sv_goesSize sv_goesAt sv_targetParts sv_isRoot)), ((ma 8), .inl (cB, 1200, .inl fN)), ((ma 9), .inl (cI, 40, .inl fNS))]) (w1 := []) hP hD [] [0, 1, 2, 3, 4, 5, 6, 7, 8] rfl rfl (by decide +kernel) (by decide +kernel) hk1 hFc hP1 hD1
                        clear hPc hDc hFc hP1 hD1 hk1 hz1 hkc hks
                        generalize H1 = H at hP hS ⊢
                        have hP : va_P D CL [((ma 1), .inl (cI, 40, .inl fK)), ((ma 2), .inl (cI, 40, .inl fP)), ((ma 12), .inl (cB, 320, .inl lBa)), ((ma 13), .inl (cI, 40, .inl f65)), ((ma 14), .inl (cB, 120, .inl lEx)), ((ma 15), .inl (cI, 40, .inl f67)), (h0, .inr (11, MO ma sv_thrown sv_length sv_nodes sv_many sv_directories sv_runsFrom sv_runs sv_read sv_wrong sv_isNamed sv_goes sv_goesSize sv_goesAt sv_targetParts sv_isRoot)), ((ma 8), .inl (cB, 1200, .inl fN)), ((ma 9), .inl (cI, 40, .inl fNS))] H := hP
                        have hD : va_D A [((ma 1), .inl (cI, 40, .inl fK)), ((ma 2), .inl (cI, 40, .inl fP)), ((ma 12), .inl (cB, 320, .inl lBa)), ((ma 13), .inl (cI, 40, .inl f65)), ((ma 14), .inl (cB, 120, .inl lEx)), ((ma 15), .inl (cI, 40, .inl f67)), (h0, .inr (11, MO ma sv_thrown sv_length sv_nodes sv_many sv_directories sv_runsFrom sv_runs sv_read sv_wrong sv_isNamed sv_goes sv_goesSize sv_goesAt sv_targetParts sv_isRoot)), ((ma 8), .inl (cB, 1200, .inl fN)), ((ma 9), .inl (cI, 40, .inl fNS))] := hD
                        refine lv_i2b hx hb d_DiscMakerModel_identify_198 rfl ?_
                        refine lv_topi (fun v111 e_v111 => ?_)
                        have t_v111 : (-128) ≤ v111.toInt ∧ v111.toInt ≤ 127 := by rw [e_v111]; exact i_b _
                        refine zq_bast hx hb hK hP hD hS 4 0 rfl rfl (vp_in_iff.mpr ⟨by omega, by omega⟩) d_DiscMakerModel_identify_199 (fun f112 e_f112 H locs hP hD hS => ?_)
                        have hP : va_P D CL [((ma 1), .inl (cI, 40, .inl fK)), ((ma 2), .inl (cI, 40, .inl fP)), ((ma 12), .inl (cB, 320, .inl lBa)), ((ma 13), .inl (cI, 40, .inl f65)), ((ma 14), .inl (cB, 120, .inl f112)), ((ma 15), .inl (cI, 40, .inl f67)), (h0, .inr (11, MO ma sv_thrown sv_length sv_nodes sv_many sv_directories sv_runsFrom sv_runs sv_read sv_wrong sv_isNamed sv_goes sv_goesSize sv_goesAt sv_targetParts sv_isRoot)), ((ma 8), .inl (cB, 1200, .inl fN)), ((ma 9), .inl (cI, 40, .inl fNS))] H := hP
                        have hD : va_D A [((ma 1), .inl (cI, 40, .inl fK)), ((ma 2), .inl (cI, 40, .inl fP)), ((ma 12), .inl (cB, 320, .inl lBa)), ((ma 13), .inl (cI, 40, .inl f65)), ((ma 14), .inl (cB, 120, .inl f112)), ((ma 15), .inl (cI, 40, .inl f67)), (h0, .inr (11, MO ma sv_thrown sv_length sv_nodes sv_many sv_directories sv_runsFrom sv_runs sv_read sv_wrong sv_isNamed sv_goes sv_goesSize sv_goesAt sv_targetParts sv_isRoot)), ((ma 8), .inl (cB, 1200, .inl fN)), ((ma 9), .inl (cI, 40, .inl fNS))] := hD
                        have R_f112 : Rg (-128) 127 120 f112 := Rg_updB e_f112 hlEx (by decide) (by decide)
                        have l_f112 : ∀ q : Nat, q < 3 * x.toNatClampNeg ∨ 3 * x.toNatClampNeg + 3 ≤ q → f112 q = fEx q := fun q hq => by rw [e_f112]; unfold upd; rw [if_neg (by have := i_cl (a := v104) (by omega); omega)]; exact y6 q hq
                        obtain ⟨v113, e_v113⟩ : ∃ z : Int32, z = k5 + 1 := ⟨_, rfl⟩
                        refine lv_iinc (v := v113) hx hb d_DiscMakerModel_identify_200 hl (k := 5) rfl e_v113.symm (by decide +kernel) rfl (fun ls hl => ?_)
                        have t_v113 : v113.toInt = k5.toInt + 1 := by rw [e_v113]; exact i_add rfl (by decide) (by omega) (by omega)
                        have hl : lv_has ls 7 [(5, .int v113), (0, .ref h0), (1, .int x), (2, .int do_), (3, .int en), (4, .int lf)] := hl
                        refine lv_goto (tgt := 163) hx hb d_DiscMakerModel_identify_203 (by decide) ?_
                        have hP := hP.sub (ws' := [(h0, .inr (11, MO ma sv_thrown sv_length sv_nodes sv_many sv_directories sv_runsFrom sv_runs sv_read sv_wrong sv_isNamed sv_goes sv_goesSize sv_goesAt sv_targetParts sv_isRoot)), ((ma 1), .inl (cI, 40, .inl fK)), ((ma 2), .inl (cI, 40, .inl fP)), ((ma 8), .inl (cB, 1200, .inl fN)), ((ma 9), .inl (cI, 40, .inl fNS)), ((ma 12), .inl (cB, 320, .inl lBa)), ((ma 13), .inl (cI, 40, .inl f65)), ((ma 14), .inl (cB, 120, .inl f112)), ((ma 15), .inl (cI, 40, .inl f67))]) [6, 0, 1, 7, 8, 2, 3, 4, 5] rfl
                        have hD := hD.sub (ws' := [(h0, .inr (11, MO ma sv_thrown sv_length sv_nodes sv_many sv_directories sv_runsFrom sv_runs sv_read sv_wrong sv_isNamed sv_goes sv_goesSize sv_goesAt sv_targetParts sv_isRoot)), ((ma 1), .inl (cI, 40, .inl fK)), ((ma 2), .inl (cI, 40, .inl fP)), ((ma 8), .inl (cB, 1200, .inl fN)), ((ma 9), .inl (cI, 40, .inl fNS)), ((ma 12), .inl (cB, 320, .inl lBa)), ((ma 13), .inl (cI, 40, .inl f65)), ((ma 14), .inl (cB, 120, .inl f112)), ((ma 15), .inl (cI, 40, .inl f67))]) [6, 0, 1, 7, 8, 2, 3, 4, 5] (by decide +kernel) rfl
                        have hl := lv_sub hl [1, 2, 3, 4, 5, 0] rfl
                        exact ih163 _ (by first | omega | (dsimp only; omega)) v113 f112 _ _ _ rfl ((by (try dsimp only); first | assumption | omega | trivial)) (l_f112) (R_f112) hP hD hS hl
                    · skip
                      intro kk163
                      have hP := hP.sub (ws' := [(h0, .inr (11, MO ma sv_thrown sv_length sv_nodes sv_many sv_directories sv_runsFrom sv_runs sv_read sv_wrong sv_isNamed sv_goes sv_goesSize sv_goesAt sv_targetParts sv_isRoot)), ((ma 1), .inl (cI, 40, .inl fK)), ((ma 2), .inl (cI, 40, .inl fP)), ((ma 8), .inl (cB, 1200, .inl fN)), ((ma 9), .inl (cI, 40, .inl fNS)), ((ma 12), .inl (cB, 320, .inl lBa)), ((ma 13), .inl (cI, 40, .inl f65)), ((ma 14), .inl (cB, 120, .inl fEx)), ((ma 15), .inl (cI, 40, .inl f67))]) [0, 1, 2, 3, 4, 5, 6, 7, 8] rfl
                      have hD := hD.sub (ws' := [(h0, .inr (11, MO ma sv_thrown sv_length sv_nodes sv_many sv_directories sv_runsFrom sv_runs sv_read sv_wrong sv_isNamed sv_goes sv_goesSize sv_goesAt sv_targetParts sv_isRoot)), ((ma 1), .inl (cI, 40, .inl fK)), ((ma 2), .inl (cI, 40, .inl fP)), ((ma 8), .inl (cB, 1200, .inl fN)), ((ma 9), .inl (cI, 40, .inl fNS)), ((ma 12), .inl (cB, 320, .inl lBa)), ((ma 13), .inl (cI, 40, .inl f65)), ((ma 14), .inl (cB, 120, .inl fEx)), ((ma 15), .inl (cI, 40, .inl f67))]) [0, 1, 2, 3, 4, 5, 6, 7, 8] (by decide +kernel) rfl
                      have hl := lv_sub hl [1, 2, 3, 4, 5, 0] rfl
                      exact kk163 _ 0 fEx _ _ _ rfl ((by (try dsimp only); first | assumption | omega | trivial)) ((fun _ _ => rfl)) (hfEx) hP hD hS hl
                  · skip
                    intro kk159
                    refine lv_iload hx hb d_DiscMakerModel_identify_147 (lv_at hl 0 rfl) ?_
                    refine lv_iconst (v := 3) hx hb d_DiscMakerModel_identify_149 (by decide) ?_
                    refine lv_icmp_ge (tgt := 158) hx hb d_DiscMakerModel_identify_150 (by decide) (fun h_9 => ?_) (fun h_9 => ?_)
                    · skip
                      have g150_337 : 3 ≤ lf.toInt := (i_le (by decide) rfl).mp h_9
                      refine lv_iconst (v := 3) hx hb d_DiscMakerModel_identify_158 (by decide) ?_
                      have hP := hP.sub (ws' := [(h0, .inr (11, MO ma sv_thrown sv_length sv_nodes sv_many sv_directories sv_runsFrom sv_runs sv_read sv_wrong sv_isNamed sv_goes sv_goesSize sv_goesAt sv_targetParts sv_isRoot)), ((ma 1), .inl (cI, 40, .inl fK)), ((ma 2), .inl (cI, 40, .inl fP)), ((ma 8), .inl (cB, 1200, .inl fN)), ((ma 9), .inl (cI, 40, .inl fNS)), ((ma 12), .inl (cB, 320, .inl lBa)), ((ma 13), .inl (cI, 40, .inl f65)), ((ma 14), .inl (cB, 120, .inl fEx)), ((ma 15), .inl (cI, 40, .inl fEs))]) [0, 1, 2, 3, 4, 5, 6, 7, 8] rfl
                      have hD := hD.sub (ws' := [(h0, .inr (11, MO ma sv_thrown sv_length sv_nodes sv_many sv_directories sv_runsFrom sv_runs sv_read sv_wrong sv_isNamed sv_goes sv_goesSize sv_goesAt sv_targetParts sv_isRoot)), ((ma 1), .inl (cI, 40, .inl fK)), ((ma 2), .inl (cI, 40, .inl fP)), ((ma 8), .inl (cB, 1200, .inl fN)), ((ma 9), .inl (cI, 40, .inl fNS)), ((ma 12), .inl (cB, 320, .inl lBa)), ((ma 13), .inl (cI, 40, .inl f65)), ((ma 14), .inl (cB, 120, .inl fEx)), ((ma 15), .inl (cI, 40, .inl fEs))]) [0, 1, 2, 3, 4, 5, 6, 7, 8] (by decide +kernel) rfl
                      have hl := lv_sub hl [1, 2, 3, 4, 0] rfl
                      exact kk159 _ 3 _ _ _ rfl ((by (try dsimp only); first | assumption | omega | trivial)) hP hD hS hl
                    · skip
                      have g150_337 : ¬ 3 ≤ lf.toInt := fun h8 => h_9 ((i_le (by decide) rfl).mpr h8)
                      refine lv_iload hx hb d_DiscMakerModel_identify_153 (lv_at hl 0 rfl) ?_
                      refine lv_goto (tgt := 159) hx hb d_DiscMakerModel_identify_155 (by decide) ?_
                      have hP := hP.sub (ws' := [(h0, .inr (11, MO ma sv_thrown sv_length sv_nodes sv_many sv_directories sv_runsFrom sv_runs sv_read sv_wrong sv_isNamed sv_goes sv_goesSize sv_goesAt sv_targetParts sv_isRoot)), ((ma 1), .inl (cI, 40, .inl fK)), ((ma 2), .inl (cI, 40, .inl fP)), ((ma 8), .inl (cB, 1200, .inl fN)), ((ma 9), .inl (cI, 40, .inl fNS)), ((ma 12), .inl (cB, 320, .inl lBa)), ((ma 13), .inl (cI, 40, .inl f65)), ((ma 14), .inl (cB, 120, .inl fEx)), ((ma 15), .inl (cI, 40, .inl fEs))]) [0, 1, 2, 3, 4, 5, 6, 7, 8] rfl
                      have hD := hD.sub (ws' := [(h0, .inr (11, MO ma sv_thrown sv_length sv_nodes sv_many sv_directories sv_runsFrom sv_runs sv_read sv_wrong sv_isNamed sv_goes sv_goesSize sv_goesAt sv_targetParts sv_isRoot)), ((ma 1), .inl (cI, 40, .inl fK)), ((ma 2), .inl (cI, 40, .inl fP)), ((ma 8), .inl (cB, 1200, .inl fN)), ((ma 9), .inl (cI, 40, .inl fNS)), ((ma 12), .inl (cB, 320, .inl lBa)), ((ma 13), .inl (cI, 40, .inl f65)), ((ma 14), .inl (cB, 120, .inl fEx)), ((ma 15), .inl (cI, 40, .inl fEs))]) [0, 1, 2, 3, 4, 5, 6, 7, 8] (by decide +kernel) rfl
                      have hl := lv_sub hl [1, 2, 3, 4, 0] rfl
                      exact kk159 _ lf _ _ _ rfl ((by (try dsimp only); first | assumption | omega | trivial)) hP hD hS hl
                · skip
                  intro kk140
                  refine lv_iload_n hx hb d_DiscMakerModel_identify_122 rfl (lv_at hl 2 rfl) ?_
                  refine lv_if_ge (tgt := 130) hx hb d_DiscMakerModel_identify_123 (by decide) (fun h_9 => ?_) (fun h_9 => ?_)
                  · skip
                    have g123_344 : 0 ≤ do_.toInt := (i_le (by decide) rfl).mp h_9
                    refine lv_aload_n hx hb d_DiscMakerModel_identify_130 rfl (lv_at hl 0 rfl) ?_
                    refine va_get (D := D) (ci := 11) (v := .ref (ma 9)) (C := "DiscMakerModel") (T := F_DiscMakerModel) (N := 48) hx hb ht9 in_DiscMakerModel hown hK hP 0 rfl rfl 12 (by decide) (ht9 _ k1443) (fun _ h9 => h9) rfl d_DiscMakerModel_identify_131 ?_
                    refine lv_iload_n hx hb d_DiscMakerModel_identify_134 rfl (lv_at hl 1 rfl) ?_
                    refine va_iald hx hb hK hP 4 1 rfl rfl (vp_in_iff.mpr ⟨by omega, by omega⟩) d_DiscMakerModel_identify_135 ?_
                    refine lv_topi (fun v114 e_v114 => ?_)
                    have t_v114 : 0 ≤ v114.toInt ∧ v114.toInt ≤ 30 := by
                      rw [e_v114]; exact hNS _ (by have := i_cl (a := x) (by omega); omega)
                    have q_v114 : v114.toInt = v1.toInt := by rw [e_v114, e_v1]
                    have qv114 : v114.toInt = (fNS x.toNatClampNeg).toInt := by rw [e_v114]
                    refine lv_iload_n hx hb d_DiscMakerModel_identify_136 rfl (lv_at hl 2 rfl) ?_
                    refine lv_isub hx hb d_DiscMakerModel_identify_137 ?_
                    refine lv_topi (fun v115 e_v115 => ?_)
                    have t_v115 : v115.toInt = v114.toInt - do_.toInt := by rw [e_v115]; exact i_sub rfl rfl (by omega) (by omega)
                    refine lv_iconst (v := 1) hx hb d_DiscMakerModel_identify_138 (by decide) ?_
                    refine lv_isub hx hb d_DiscMakerModel_identify_139 ?_
                    refine lv_topi (fun v116 e_v116 => ?_)
                    have t_v116 : v116.toInt = v115.toInt - 1 := by rw [e_v116]; exact i_sub rfl (by decide) (by omega) (by omega)
                    have hP := hP.sub (ws' := [(h0, .inr (11, MO ma sv_thrown sv_length sv_nodes sv_many sv_directories sv_runsFrom sv_runs sv_read sv_wrong sv_isNamed sv_goes sv_goesSize sv_goesAt sv_targetParts sv_isRoot)), ((ma 1), .inl (cI, 40, .inl fK)), ((ma 2), .inl (cI, 40, .inl fP)), ((ma 8), .inl (cB, 1200, .inl fN)), ((ma 9), .inl (cI, 40, .inl fNS)), ((ma 12), .inl (cB, 320, .inl lBa)), ((ma 13), .inl (cI, 40, .inl f65)), ((ma 14), .inl (cB, 120, .inl fEx)), ((ma 15), .inl (cI, 40, .inl fEs))]) [0, 1, 2, 3, 4, 5, 6, 7, 8] rfl
                    have hD := hD.sub (ws' := [(h0, .inr (11, MO ma sv_thrown sv_length sv_nodes sv_many sv_directories sv_runsFrom sv_runs sv_read sv_wrong sv_isNamed sv_goes sv_goesSize sv_goesAt sv_targetParts sv_isRoot)), ((ma 1), .inl (cI, 40, .inl fK)), ((ma 2), .inl (cI, 40, .inl fP)), ((ma 8), .inl (cB, 1200, .inl fN)), ((ma 9), .inl (cI, 40, .inl fNS)), ((ma 12), .inl (cB, 320, .inl lBa)), ((ma 13), .inl (cI, 40, .inl f65)), ((ma 14), .inl (cB, 120, .inl fEx)), ((ma 15), .inl (cI, 40, .inl fEs))]) [0, 1, 2, 3, 4, 5, 6, 7, 8] (by decide +kernel) rfl
                    have hl := lv_sub hl [0, 1, 2, 3] rfl
                    exact kk140 _ v116 _ _ _ rfl ((by (try dsimp only); first | assumption | omega | trivial)) hP hD hS hl
                  · skip
                    have g123_344 : ¬ 0 ≤ do_.toInt := fun h8 => h_9 ((i_le (by decide) rfl).mpr h8)
                    refine lv_iconst (v := 0) hx hb d_DiscMakerModel_identify_126 (by decide) ?_
                    refine lv_goto (tgt := 140) hx hb d_DiscMakerModel_identify_127 (by decide) ?_
                    have hP := hP.sub (ws' := [(h0, .inr (11, MO ma sv_thrown sv_length sv_nodes sv_many sv_directories sv_runsFrom sv_runs sv_read sv_wrong sv_isNamed sv_goes sv_goesSize sv_goesAt sv_targetParts sv_isRoot)), ((ma 1), .inl (cI, 40, .inl fK)), ((ma 2), .inl (cI, 40, .inl fP)), ((ma 8), .inl (cB, 1200, .inl fN)), ((ma 9), .inl (cI, 40, .inl fNS)), ((ma 12), .inl (cB, 320, .inl lBa)), ((ma 13), .inl (cI, 40, .inl f65)), ((ma 14), .inl (cB, 120, .inl fEx)), ((ma 15), .inl (cI, 40, .inl fEs))]) [0, 1, 2, 3, 4, 5, 6, 7, 8] rfl
                    have hD := hD.sub (ws' := [(h0, .inr (11, MO ma sv_thrown sv_length sv_nodes sv_many sv_directories sv_runsFrom sv_runs sv_read sv_wrong sv_isNamed sv_goes sv_goesSize sv_goesAt sv_targetParts sv_isRoot)), ((ma 1), .inl (cI, 40, .inl fK)), ((ma 2), .inl (cI, 40, .inl fP)), ((ma 8), .inl (cB, 1200, .inl fN)), ((ma 9), .inl (cI, 40, .inl fNS)), ((ma 12), .inl (cB, 320, .inl lBa)), ((ma 13), .inl (cI, 40, .inl f65)), ((ma 14), .inl (cB, 120, .inl fEx)), ((ma 15), .inl (cI, 40, .inl fEs))]) [0, 1, 2, 3, 4, 5, 6, 7, 8] (by decide +kernel) rfl
                    have hl := lv_sub hl [0, 1, 2, 3] rfl
                    exact kk140 _ 0 _ _ _ rfl ((by (try dsimp only); first | assumption | omega | trivial)) hP hD hS hl
              · skip
                have g90_216 : ¬ v66.toInt ≤ k4.toInt := fun h8 => h_9 ((i_le rfl rfl).mpr h8)
                refine lv_aload_n hx hb d_DiscMakerModel_identify_93 rfl (lv_at hl 0 rfl) ?_
                refine va_get (D := D) (ci := 11) (v := .ref (ma 12)) (C := "DiscMakerModel") (T := F_DiscMakerModel) (N := 48) hx hb ht9 in_DiscMakerModel hown hK hP 0 rfl rfl 15 (by decide) (ht9 _ k1446) (fun _ h9 => h9) rfl d_DiscMakerModel_identify_94 ?_
                refine lv_bipush (v := 8) hx hb d_DiscMakerModel_identify_97 (by decide) ?_
                refine lv_iload_n hx hb d_DiscMakerModel_identify_99 rfl (lv_at hl 1 rfl) ?_
                refine lv_imul hx hb d_DiscMakerModel_identify_100 ?_
                refine lv_topi (fun v117 e_v117 => ?_)
                have t_v117 : v117.toInt = 8 * x.toInt := by rw [e_v117]; exact i_mul (by decide) rfl (by omega) (by omega)
                refine lv_iload hx hb d_DiscMakerModel_identify_101 (lv_at hl 4 rfl) ?_
                refine lv_iadd hx hb d_DiscMakerModel_identify_103 ?_
                refine lv_topi (fun v118 e_v118 => ?_)
                have t_v118 : v118.toInt = v117.toInt + k4.toInt := by rw [e_v118]; exact i_add rfl rfl (by omega) (by omega)
                refine lv_aload_n hx hb d_DiscMakerModel_identify_104 rfl (lv_at hl 0 rfl) ?_
                refine lv_iload_n hx hb d_DiscMakerModel_identify_105 rfl (lv_at hl 1 rfl) ?_
                refine lv_iload hx hb d_DiscMakerModel_identify_106 (lv_at hl 4 rfl) ?_
                have hPc := hP.sub (ws' := [(h0, .inr (11, MO ma sv_thrown sv_length sv_nodes sv_many sv_directories sv_runsFrom sv_runs sv_read sv_wrong sv_isNamed sv_goes sv_goesSize sv_goesAt sv_targetParts sv_isRoot)), ((ma 8), .inl (cB, 1200, .inl fN)), ((ma 9), .inl (cI, 40, .inl fNS))]) [0, 3, 4] rfl
                have hDc := hD.sub (ws' := [(h0, .inr (11, MO ma sv_thrown sv_length sv_nodes sv_many sv_directories sv_runsFrom sv_runs sv_read sv_wrong sv_isNamed sv_goes sv_goesSize sv_goesAt sv_targetParts sv_isRoot)), ((ma 8), .inl (cB, 1200, .inl fN)), ((ma 9), .inl (cI, 40, .inl fNS))]) [0, 3, 4] (by decide +kernel) rfl
                have hFc := va_free (wc := [(h0, .inr (11, MO ma sv_thrown sv_length sv_nodes sv_many sv_directories sv_runsFrom sv_runs sv_read sv_wrong sv_isNamed sv_goes sv_goesSize sv_goesAt sv_targetParts sv_isRoot)), ((ma 8), .inl (cB, 1200, .inl fN)), ((ma 9), .inl (cI, 40, .inl fNS))]) hD hS hA [0, 3, 4] rfl
                have hkc : 0 ≤ 0 := by decide
                have hks : 0 ≤ 0 := by decide
                refine va_calli (va_runV (C := "DiscMakerModel") (As := [.int x, .int k4]) (rest := [.int v118, .ref (ma 12)]) ⟨hx, hb, hml, hown, hts⟩ (m_nameOf l D cB cI cJ cZ cN cF H.size h0 ma sv_thrown sv_length sv_nodes sv_many sv_directories sv_runsFrom sv_runs sv_read sv_wrong sv_isNamed sv_goes sv_goesSize sv_goesAt sv_targetParts sv_isRoot fN fNS x k4 (by (try dsimp only); first | assumption | omega | trivial) (by (try dsimp only); first | assumption | omega | trivial) (by (try dsimp only); first | assumption | omega | trivial)) (cwV 2 hts (lg_goodV k1616 k1618 k56 k125 kc_DiscMakerModel_nameOf) rfl rfl rfl (by decide +kernel) ⟨Nat.le_of_ble_eq_true rfl, Nat.le_of_ble_eq_true rfl⟩) ⟨fun a U g mk q => by obtain ⟨q0, q1, qP, qK, qN, qD⟩ := q; exact ⟨q0, q1, qP, va_K.moved (u := U) (U := U.calling g mk a) (Vm.Alike.refl U.vm) qK, qN.calling, qD⟩, va_recv hK hP (ci := 11) (q0 := 0) rfl rfl, fun U hU hW => ⟨rfl, by rw [hU], by rw [hU]; exact hPc, va_K.moved hW.alike hK, NN.warm hW hN, hDc.weaken (fun _ _ _ _ => trivial)⟩⟩ rfl rfl hl.1 rfl (lv_room (Nat.le_of_ble_eq_true rfl)) d_DiscMakerModel_identify_108 ⟨hkc, hks⟩) hS (fun q _ h => hFc q h) hFc (fun r119 u t H1 locs ht hvm hp_r119 hB hz1 hk1 hS => ?_)
                obtain ⟨hP1, hD1⟩ := hB
                rw [ht] at hP1
                obtain ⟨hP, hD⟩ := va_join (wr := [((ma 1), .inl (cI, 40, .inl fK)), ((ma 2), .inl (cI, 40, .inl fP)), ((ma 12), .inl (cB, 320, .inl lBa)), ((ma 13), .inl (cI, 40, .inl f65)), ((ma 14), .inl (cB, 120, .inl fEx)), ((ma 15), .inl (cI, 40, .inl fEs))]) (w1 := [(h0, .inr (11, MO ma sv_thrown sv_length sv_nodes sv_many sv_directories sv_runsFrom sv_runs sv_read sv_wrong sv_isNamed sv_goes sv_goesSize sv_goesAt sv_targetParts sv_isRoot)), ((ma 8), .inl (cB, 1200, .inl fN)), ((ma 9), .inl (cI, 40, .inl fNS))]) hP hD [0, 3, 4] [1, 2, 5, 6, 7, 8] rfl rfl (by decide +kernel) (by decide +kernel) hk1 hFc hP1 hD1
                clear hPc hDc hFc hP1 hD1 hk1 hz1 hkc hks
                generalize H1 = H at hP hS ⊢
                have hP : va_P D CL [((ma 1), .inl (cI, 40, .inl fK)), ((ma 2), .inl (cI, 40, .inl fP)), ((ma 12), .inl (cB, 320, .inl lBa)), ((ma 13), .inl (cI, 40, .inl f65)), ((ma 14), .inl (cB, 120, .inl fEx)), ((ma 15), .inl (cI, 40, .inl fEs)), (h0, .inr (11, MO ma sv_thrown sv_length sv_nodes sv_many sv_directories sv_runsFrom sv_runs sv_read sv_wrong sv_isNamed sv_goes sv_goesSize sv_goesAt sv_targetParts sv_isRoot)), ((ma 8), .inl (cB, 1200, .inl fN)), ((ma 9), .inl (cI, 40, .inl fNS))] H := hP
                have hD : va_D A [((ma 1), .inl (cI, 40, .inl fK)), ((ma 2), .inl (cI, 40, .inl fP)), ((ma 12), .inl (cB, 320, .inl lBa)), ((ma 13), .inl (cI, 40, .inl f65)), ((ma 14), .inl (cB, 120, .inl fEx)), ((ma 15), .inl (cI, 40, .inl fEs)), (h0, .inr (11, MO ma sv_thrown sv_length sv_nodes sv_many sv_directories sv_runsFrom sv_runs sv_read sv_wrong sv_isNamed sv_goes sv_goesSize sv_goesAt sv_targetParts sv_isRoot)), ((ma 8), .inl (cB, 1200, .inl fN)), ((ma 9), .inl (cI, 40, .inl fNS))] := hD
                try dsimp only at hp_r119
                obtain ⟨hr_120, hv_121⟩ := hp_r119
                have hPc := hP.sub (ws' := []) [] rfl
                have hDc := hD.sub (ws' := []) [] (by decide +kernel) rfl
                have hFc := va_free (wc := []) hD hS hA [] rfl
                have hkc : 0 ≤ 0 := by decide
                have hks : 0 ≤ 0 := by decide
                refine va_calli (va_runS (As := [.int r119]) (rest := [.int v118, .ref (ma 12)]) ⟨hx, hb, hml, hown, hts⟩ (m_capital l D cB cI cJ cZ cN cF H.size r119 (by (try dsimp only); first | assumption | omega | trivial)) (cwS 1 hts (lg_goodS k1652 k1653 k125 kc_DiscMakerModel_capital) rfl rfl rfl (by decide +kernel) ⟨Nat.le_of_ble_eq_true rfl, Nat.le_of_ble_eq_true rfl⟩) ⟨fun a U g mk q => by obtain ⟨q0, q1, qP, qK, qN, qD⟩ := q; exact ⟨q0, q1, qP, va_K.moved (u := U) (U := U.calling g mk a) (Vm.Alike.refl U.vm) qK, qN.calling, qD⟩, fun U hU hW => ⟨rfl, by rw [hU], by rw [hU]; exact hPc, va_K.moved hW.alike hK, NN.warm hW hN, hDc.weaken (fun _ _ _ _ => trivial)⟩⟩ rfl rfl hl.1 rfl (lv_room (Nat.le_of_ble_eq_true rfl)) d_DiscMakerModel_identify_111 ⟨hkc, hks⟩) hS (fun q _ h => hFc q h) hFc (fun r122 u t H1 locs ht hvm hp_r122 hB hz1 hk1 hS => ?_)
                obtain ⟨hP1, hD1⟩ := hB
                rw [ht] at hP1
                obtain ⟨hP, hD⟩ := va_join (wr := [((ma 1), .inl (cI, 40, .inl fK)), ((ma 2), .inl (cI, 40, .inl fP)), ((ma 12), .inl (cB, 320, .inl lBa)), ((ma 13), .inl (cI, 40, .inl f65)), ((ma 14), .inl (cB, 120, .inl fEx)), ((ma 15), .inl (cI, 40, .inl fEs)), (h0, .inr (11, MO ma sv_thrown sv_length sv_nodes sv_many sv_directories sv_runsFrom sv_runs sv_read sv_wrong sv_isNamed sv_goes sv_goesSize sv_goesAt sv_targetParts sv_isRoot)), ((ma 8), .inl (cB, 1200, .inl fN)), ((ma 9), .inl (cI, 40, .inl fNS))]) (w1 := []) hP hD [] [0, 1, 2, 3, 4, 5, 6, 7, 8] rfl rfl (by decide +kernel) (by decide +kernel) hk1 hFc hP1 hD1
                clear hPc hDc hFc hP1 hD1 hk1 hz1 hkc hks
                generalize H1 = H at hP hS ⊢
                have hP : va_P D CL [((ma 1), .inl (cI, 40, .inl fK)), ((ma 2), .inl (cI, 40, .inl fP)), ((ma 12), .inl (cB, 320, .inl lBa)), ((ma 13), .inl (cI, 40, .inl f65)), ((ma 14), .inl (cB, 120, .inl fEx)), ((ma 15), .inl (cI, 40, .inl fEs)), (h0, .inr (11, MO ma sv_thrown sv_length sv_nodes sv_many sv_directories sv_runsFrom sv_runs sv_read sv_wrong sv_isNamed sv_goes sv_goesSize sv_goesAt sv_targetParts sv_isRoot)), ((ma 8), .inl (cB, 1200, .inl fN)), ((ma 9), .inl (cI, 40, .inl fNS))] H := hP
                have hD : va_D A [((ma 1), .inl (cI, 40, .inl fK)), ((ma 2), .inl (cI, 40, .inl fP)), ((ma 12), .inl (cB, 320, .inl lBa)), ((ma 13), .inl (cI, 40, .inl f65)), ((ma 14), .inl (cB, 120, .inl fEx)), ((ma 15), .inl (cI, 40, .inl fEs)), (h0, .inr (11, MO ma sv_thrown sv_length sv_nodes sv_many sv_directories sv_runsFrom sv_runs sv_read sv_wrong sv_isNamed sv_goes sv_goesSize sv_goesAt sv_targetParts sv_isRoot)), ((ma 8), .inl (cB, 1200, .inl fN)), ((ma 9), .inl (cI, 40, .inl fNS))] := hD
                refine lv_i2b hx hb d_DiscMakerModel_identify_114 rfl ?_
                refine lv_topi (fun v123 e_v123 => ?_)
                have t_v123 : (-128) ≤ v123.toInt ∧ v123.toInt ≤ 127 := by rw [e_v123]; exact i_b _
                refine zq_bast hx hb hK hP hD hS 2 0 rfl rfl (vp_in_iff.mpr ⟨by omega, by omega⟩) d_DiscMakerModel_identify_115 (fun f124 e_f124 H locs hP hD hS => ?_)
                have hP : va_P D CL [((ma 1), .inl (cI, 40, .inl fK)), ((ma 2), .inl (cI, 40, .inl fP)), ((ma 12), .inl (cB, 320, .inl f124)), ((ma 13), .inl (cI, 40, .inl f65)), ((ma 14), .inl (cB, 120, .inl fEx)), ((ma 15), .inl (cI, 40, .inl fEs)), (h0, .inr (11, MO ma sv_thrown sv_length sv_nodes sv_many sv_directories sv_runsFrom sv_runs sv_read sv_wrong sv_isNamed sv_goes sv_goesSize sv_goesAt sv_targetParts sv_isRoot)), ((ma 8), .inl (cB, 1200, .inl fN)), ((ma 9), .inl (cI, 40, .inl fNS))] H := hP
                have hD : va_D A [((ma 1), .inl (cI, 40, .inl fK)), ((ma 2), .inl (cI, 40, .inl fP)), ((ma 12), .inl (cB, 320, .inl f124)), ((ma 13), .inl (cI, 40, .inl f65)), ((ma 14), .inl (cB, 120, .inl fEx)), ((ma 15), .inl (cI, 40, .inl fEs)), (h0, .inr (11, MO ma sv_thrown sv_length sv_nodes sv_many sv_directories sv_runsFrom sv_runs sv_read sv_wrong sv_isNamed sv_goes sv_goesSize sv_goesAt sv_targetParts sv_isRoot)), ((ma 8), .inl (cB, 1200, .inl fN)), ((ma 9), .inl (cI, 40, .inl fNS))] := hD
                have R_f124 : Rg (-128) 127 320 f124 := Rg_updB e_f124 hlBa (by decide) (by decide)
                have l_f124 : ∀ q : Nat, q < 8 * x.toNatClampNeg ∨ 8 * x.toNatClampNeg + 8 ≤ q → f124 q = fBa q := fun q hq => by rw [e_f124]; unfold upd; rw [if_neg (by have := i_cl (a := v118) (by omega); omega)]; exact y4 q hq
                obtain ⟨v125, e_v125⟩ : ∃ z : Int32, z = k4 + 1 := ⟨_, rfl⟩
                refine lv_iinc (v := v125) hx hb d_DiscMakerModel_identify_116 hl (k := 4) rfl e_v125.symm (by decide +kernel) rfl (fun ls hl => ?_)
                have t_v125 : v125.toInt = k4.toInt + 1 := by rw [e_v125]; exact i_add rfl (by decide) (by omega) (by omega)
                have hl : lv_has ls 7 [(4, .int v125), (0, .ref h0), (1, .int x), (2, .int do_), (3, .int en)] := hl
                refine lv_goto (tgt := 82) hx hb d_DiscMakerModel_identify_119 (by decide) ?_
                have hP := hP.sub (ws' := [(h0, .inr (11, MO ma sv_thrown sv_length sv_nodes sv_many sv_directories sv_runsFrom sv_runs sv_read sv_wrong sv_isNamed sv_goes sv_goesSize sv_goesAt sv_targetParts sv_isRoot)), ((ma 1), .inl (cI, 40, .inl fK)), ((ma 2), .inl (cI, 40, .inl fP)), ((ma 8), .inl (cB, 1200, .inl fN)), ((ma 9), .inl (cI, 40, .inl fNS)), ((ma 12), .inl (cB, 320, .inl f124)), ((ma 13), .inl (cI, 40, .inl f65)), ((ma 14), .inl (cB, 120, .inl fEx)), ((ma 15), .inl (cI, 40, .inl fEs))]) [6, 0, 1, 7, 8, 2, 3, 4, 5] rfl
                have hD := hD.sub (ws' := [(h0, .inr (11, MO ma sv_thrown sv_length sv_nodes sv_many sv_directories sv_runsFrom sv_runs sv_read sv_wrong sv_isNamed sv_goes sv_goesSize sv_goesAt sv_targetParts sv_isRoot)), ((ma 1), .inl (cI, 40, .inl fK)), ((ma 2), .inl (cI, 40, .inl fP)), ((ma 8), .inl (cB, 1200, .inl fN)), ((ma 9), .inl (cI, 40, .inl fNS)), ((ma 12), .inl (cB, 320, .inl f124)), ((ma 13), .inl (cI, 40, .inl f65)), ((ma 14), .inl (cB, 120, .inl fEx)), ((ma 15), .inl (cI, 40, .inl fEs))]) [6, 0, 1, 7, 8, 2, 3, 4, 5] (by decide +kernel) rfl
                have hl := lv_sub hl [1, 2, 3, 4, 0] rfl
                exact ih82 _ (by first | omega | (dsimp only; omega)) v125 f124 _ _ _ rfl ((by (try dsimp only); first | assumption | omega | trivial)) (l_f124) (R_f124) hP hD hS hl
            · skip
              intro kk82
              have hP := hP.sub (ws' := [(h0, .inr (11, MO ma sv_thrown sv_length sv_nodes sv_many sv_directories sv_runsFrom sv_runs sv_read sv_wrong sv_isNamed sv_goes sv_goesSize sv_goesAt sv_targetParts sv_isRoot)), ((ma 1), .inl (cI, 40, .inl fK)), ((ma 2), .inl (cI, 40, .inl fP)), ((ma 8), .inl (cB, 1200, .inl fN)), ((ma 9), .inl (cI, 40, .inl fNS)), ((ma 12), .inl (cB, 320, .inl fBa)), ((ma 13), .inl (cI, 40, .inl f65)), ((ma 14), .inl (cB, 120, .inl fEx)), ((ma 15), .inl (cI, 40, .inl fEs))]) [0, 1, 2, 3, 4, 5, 6, 7, 8] rfl
              have hD := hD.sub (ws' := [(h0, .inr (11, MO ma sv_thrown sv_length sv_nodes sv_many sv_directories sv_runsFrom sv_runs sv_read sv_wrong sv_isNamed sv_goes sv_goesSize sv_goesAt sv_targetParts sv_isRoot)), ((ma 1), .inl (cI, 40, .inl fK)), ((ma 2), .inl (cI, 40, .inl fP)), ((ma 8), .inl (cB, 1200, .inl fN)), ((ma 9), .inl (cI, 40, .inl fNS)), ((ma 12), .inl (cB, 320, .inl fBa)), ((ma 13), .inl (cI, 40, .inl f65)), ((ma 14), .inl (cB, 120, .inl fEx)), ((ma 15), .inl (cI, 40, .inl fEs))]) [0, 1, 2, 3, 4, 5, 6, 7, 8] (by decide +kernel) rfl
              have hl := lv_sub hl [1, 2, 3, 4, 0] rfl
              exact kk82 _ 0 fBa _ _ _ rfl ((by (try dsimp only); first | assumption | omega | trivial)) ((fun _ _ => rfl)) (hfBa) hP hD hS hl
          · skip
            intro kk78
            refine lv_iload_n hx hb d_DiscMakerModel_identify_66 rfl (lv_at hl 0 rfl) ?_
            refine lv_bipush (v := 8) hx hb d_DiscMakerModel_identify_67 (by decide) ?_
            refine lv_icmp_ge (tgt := 76) hx hb d_DiscMakerModel_identify_69 (by decide) (fun h_9 => ?_) (fun h_9 => ?_)
            · skip
              have g69_376 : 8 ≤ en.toInt := (i_le (by decide) rfl).mp h_9
              refine lv_bipush (v := 8) hx hb d_DiscMakerModel_identify_76 (by decide) ?_
              have hP := hP.sub (ws' := [(h0, .inr (11, MO ma sv_thrown sv_length sv_nodes sv_many sv_directories sv_runsFrom sv_runs sv_read sv_wrong sv_isNamed sv_goes sv_goesSize sv_goesAt sv_targetParts sv_isRoot)), ((ma 1), .inl (cI, 40, .inl fK)), ((ma 2), .inl (cI, 40, .inl fP)), ((ma 8), .inl (cB, 1200, .inl fN)), ((ma 9), .inl (cI, 40, .inl fNS)), ((ma 12), .inl (cB, 320, .inl fBa)), ((ma 13), .inl (cI, 40, .inl fBs)), ((ma 14), .inl (cB, 120, .inl fEx)), ((ma 15), .inl (cI, 40, .inl fEs))]) [0, 1, 2, 3, 4, 5, 6, 7, 8] rfl
              have hD := hD.sub (ws' := [(h0, .inr (11, MO ma sv_thrown sv_length sv_nodes sv_many sv_directories sv_runsFrom sv_runs sv_read sv_wrong sv_isNamed sv_goes sv_goesSize sv_goesAt sv_targetParts sv_isRoot)), ((ma 1), .inl (cI, 40, .inl fK)), ((ma 2), .inl (cI, 40, .inl fP)), ((ma 8), .inl (cB, 1200, .inl fN)), ((ma 9), .inl (cI, 40, .inl fNS)), ((ma 12), .inl (cB, 320, .inl fBa)), ((ma 13), .inl (cI, 40, .inl fBs)), ((ma 14), .inl (cB, 120, .inl fEx)), ((ma 15), .inl (cI, 40, .inl fEs))]) [0, 1, 2, 3, 4, 5, 6, 7, 8] (by decide +kernel) rfl
              have hl := lv_sub hl [1, 2, 3, 0] rfl
              exact kk78 _ 8 _ _ _ rfl ((by (try dsimp only); first | assumption | omega | trivial)) hP hD hS hl
            · skip
              have g69_376 : ¬ 8 ≤ en.toInt := fun h8 => h_9 ((i_le (by decide) rfl).mpr h8)
              refine lv_iload_n hx hb d_DiscMakerModel_identify_72 rfl (lv_at hl 0 rfl) ?_
              refine lv_goto (tgt := 78) hx hb d_DiscMakerModel_identify_73 (by decide) ?_
              have hP := hP.sub (ws' := [(h0, .inr (11, MO ma sv_thrown sv_length sv_nodes sv_many sv_directories sv_runsFrom sv_runs sv_read sv_wrong sv_isNamed sv_goes sv_goesSize sv_goesAt sv_targetParts sv_isRoot)), ((ma 1), .inl (cI, 40, .inl fK)), ((ma 2), .inl (cI, 40, .inl fP)), ((ma 8), .inl (cB, 1200, .inl fN)), ((ma 9), .inl (cI, 40, .inl fNS)), ((ma 12), .inl (cB, 320, .inl fBa)), ((ma 13), .inl (cI, 40, .inl fBs)), ((ma 14), .inl (cB, 120, .inl fEx)), ((ma 15), .inl (cI, 40, .inl fEs))]) [0, 1, 2, 3, 4, 5, 6, 7, 8] rfl
              have hD := hD.sub (ws' := [(h0, .inr (11, MO ma sv_thrown sv_length sv_nodes sv_many sv_directories sv_runsFrom sv_runs sv_read sv_wrong sv_isNamed sv_goes sv_goesSize sv_goesAt sv_targetParts sv_isRoot)), ((ma 1), .inl (cI, 40, .inl fK)), ((ma 2), .inl (cI, 40, .inl fP)), ((ma 8), .inl (cB, 1200, .inl fN)), ((ma 9), .inl (cI, 40, .inl fNS)), ((ma 12), .inl (cB, 320, .inl fBa)), ((ma 13), .inl (cI, 40, .inl fBs)), ((ma 14), .inl (cB, 120, .inl fEx)), ((ma 15), .inl (cI, 40, .inl fEs))]) [0, 1, 2, 3, 4, 5, 6, 7, 8] (by decide +kernel) rfl
              have hl := lv_sub hl [1, 2, 3, 0] rfl
              exact kk78 _ en _ _ _ rfl ((by (try dsimp only); first | assumption | omega | trivial)) hP hD hS hl
        · skip
          intro kk60
          refine lv_iload_n hx hb d_DiscMakerModel_identify_46 rfl (lv_at hl 2 rfl) ?_
          refine lv_if_ge (tgt := 59) hx hb d_DiscMakerModel_identify_47 (by decide) (fun h_9 => ?_) (fun h_9 => ?_)
          · skip
            have g47_383 : 0 ≤ do_.toInt := (i_le (by decide) rfl).mp h_9
            refine lv_iload_n hx hb d_DiscMakerModel_identify_59 rfl (lv_at hl 2 rfl) ?_
            have hP := hP.sub (ws' := [(h0, .inr (11, MO ma sv_thrown sv_length sv_nodes sv_many sv_directories sv_runsFrom sv_runs sv_read sv_wrong sv_isNamed sv_goes sv_goesSize sv_goesAt sv_targetParts sv_isRoot)), ((ma 1), .inl (cI, 40, .inl fK)), ((ma 2), .inl (cI, 40, .inl fP)), ((ma 8), .inl (cB, 1200, .inl fN)), ((ma 9), .inl (cI, 40, .inl fNS)), ((ma 12), .inl (cB, 320, .inl fBa)), ((ma 13), .inl (cI, 40, .inl fBs)), ((ma 14), .inl (cB, 120, .inl fEx)), ((ma 15), .inl (cI, 40, .inl fEs))]) [0, 1, 2, 3, 4, 5, 6, 7, 8] rfl
            have hD := hD.sub (ws' := [(h0, .inr (11, MO ma sv_thrown sv_length sv_nodes sv_many sv_directories sv_runsFrom sv_runs sv_read sv_wrong sv_isNamed sv_goes sv_goesSize sv_goesAt sv_targetParts sv_isRoot)), ((ma 1), .inl (cI, 40, .inl fK)), ((ma 2), .inl (cI, 40, .inl fP)), ((ma 8), .inl (cB, 1200, .inl fN)), ((ma 9), .inl (cI, 40, .inl fNS)), ((ma 12), .inl (cB, 320, .inl fBa)), ((ma 13), .inl (cI, 40, .inl fBs)), ((ma 14), .inl (cB, 120, .inl fEx)), ((ma 15), .inl (cI, 40, .inl fEs))]) [0, 1, 2, 3, 4, 5, 6, 7, 8] (by decide +kernel) rfl
            have hl := lv_sub hl [0, 1, 2] rfl
            exact kk60 _ do_ _ _ _ rfl ((by (try dsimp only); first | assumption | omega | trivial)) hP hD hS hl
          · skip
            have g47_383 : ¬ 0 ≤ do_.toInt := fun h8 => h_9 ((i_le (by decide) rfl).mpr h8)
            refine lv_aload_n hx hb d_DiscMakerModel_identify_50 rfl (lv_at hl 0 rfl) ?_
            refine va_get (D := D) (ci := 11) (v := .ref (ma 9)) (C := "DiscMakerModel") (T := F_DiscMakerModel) (N := 48) hx hb ht9 in_DiscMakerModel hown hK hP 0 rfl rfl 12 (by decide) (ht9 _ k1443) (fun _ h9 => h9) rfl d_DiscMakerModel_identify_51 ?_
            refine lv_iload_n hx hb d_DiscMakerModel_identify_54 rfl (lv_at hl 1 rfl) ?_
            refine va_iald hx hb hK hP 4 1 rfl rfl (vp_in_iff.mpr ⟨by omega, by omega⟩) d_DiscMakerModel_identify_55 ?_
            refine lv_topi (fun v126 e_v126 => ?_)
            have t_v126 : 0 ≤ v126.toInt ∧ v126.toInt ≤ 30 := by
              rw [e_v126]; exact hNS _ (by have := i_cl (a := x) (by omega); omega)
            have q_v126 : v126.toInt = v1.toInt := by rw [e_v126, e_v1]
            have qv126 : v126.toInt = (fNS x.toNatClampNeg).toInt := by rw [e_v126]
            refine lv_goto (tgt := 60) hx hb d_DiscMakerModel_identify_56 (by decide) ?_
            have hP := hP.sub (ws' := [(h0, .inr (11, MO ma sv_thrown sv_length sv_nodes sv_many sv_directories sv_runsFrom sv_runs sv_read sv_wrong sv_isNamed sv_goes sv_goesSize sv_goesAt sv_targetParts sv_isRoot)), ((ma 1), .inl (cI, 40, .inl fK)), ((ma 2), .inl (cI, 40, .inl fP)), ((ma 8), .inl (cB, 1200, .inl fN)), ((ma 9), .inl (cI, 40, .inl fNS)), ((ma 12), .inl (cB, 320, .inl fBa)), ((ma 13), .inl (cI, 40, .inl fBs)), ((ma 14), .inl (cB, 120, .inl fEx)), ((ma 15), .inl (cI, 40, .inl fEs))]) [0, 1, 2, 3, 4, 5, 6, 7, 8] rfl
            have hD := hD.sub (ws' := [(h0, .inr (11, MO ma sv_thrown sv_length sv_nodes sv_many sv_directories sv_runsFrom sv_runs sv_read sv_wrong sv_isNamed sv_goes sv_goesSize sv_goesAt sv_targetParts sv_isRoot)), ((ma 1), .inl (cI, 40, .inl fK)), ((ma 2), .inl (cI, 40, .inl fP)), ((ma 8), .inl (cB, 1200, .inl fN)), ((ma 9), .inl (cI, 40, .inl fNS)), ((ma 12), .inl (cB, 320, .inl fBa)), ((ma 13), .inl (cI, 40, .inl fBs)), ((ma 14), .inl (cB, 120, .inl fEx)), ((ma 15), .inl (cI, 40, .inl fEs))]) [0, 1, 2, 3, 4, 5, 6, 7, 8] (by decide +kernel) rfl
            have hl := lv_sub hl [0, 1, 2] rfl
            exact kk60 _ v126 _ _ _ rfl ((by (try dsimp only); first | assumption | omega | trivial)) hP hD hS hl
      · skip
        have g20_203 : ¬ v64.toInt ≤ 0 := fun h8 => h_9 ((i_le rfl (by decide)).mpr h8)
        refine lv_aload_n hx hb d_DiscMakerModel_identify_23 rfl (lv_at hl 0 rfl) ?_
        refine lv_iload_n hx hb d_DiscMakerModel_identify_24 rfl (lv_at hl 1 rfl) ?_
        refine lv_iload_n hx hb d_DiscMakerModel_identify_25 rfl (lv_at hl 3 rfl) ?_
        have hPc := hP.sub (ws' := [(h0, .inr (11, MO ma sv_thrown sv_length sv_nodes sv_many sv_directories sv_runsFrom sv_runs sv_read sv_wrong sv_isNamed sv_goes sv_goesSize sv_goesAt sv_targetParts sv_isRoot)), ((ma 8), .inl (cB, 1200, .inl fN)), ((ma 9), .inl (cI, 40, .inl fNS))]) [0, 3, 4] rfl
        have hDc := hD.sub (ws' := [(h0, .inr (11, MO ma sv_thrown sv_length sv_nodes sv_many sv_directories sv_runsFrom sv_runs sv_read sv_wrong sv_isNamed sv_goes sv_goesSize sv_goesAt sv_targetParts sv_isRoot)), ((ma 8), .inl (cB, 1200, .inl fN)), ((ma 9), .inl (cI, 40, .inl fNS))]) [0, 3, 4] (by decide +kernel) rfl
        have hFc := va_free (wc := [(h0, .inr (11, MO ma sv_thrown sv_length sv_nodes sv_many sv_directories sv_runsFrom sv_runs sv_read sv_wrong sv_isNamed sv_goes sv_goesSize sv_goesAt sv_targetParts sv_isRoot)), ((ma 8), .inl (cB, 1200, .inl fN)), ((ma 9), .inl (cI, 40, .inl fNS))]) hD hS hA [0, 3, 4] rfl
        have hkc : 0 ≤ 0 := by decide
        have hks : 0 ≤ 0 := by decide
        refine va_calli (va_runV (C := "DiscMakerModel") (As := [.int x, .int ki]) (rest := []) ⟨hx, hb, hml, hown, hts⟩ (m_nameOf l D cB cI cJ cZ cN cF H.size h0 ma sv_thrown sv_length sv_nodes sv_many sv_directories sv_runsFrom sv_runs sv_read sv_wrong sv_isNamed sv_goes sv_goesSize sv_goesAt sv_targetParts sv_isRoot fN fNS x ki (by (try dsimp only); first | assumption | omega | trivial) (by (try dsimp only); first | assumption | omega | trivial) (by (try dsimp only); first | assumption | omega | trivial)) (cwV 2 hts (lg_goodV k1616 k1618 k56 k125 kc_DiscMakerModel_nameOf) rfl rfl rfl (by decide +kernel) ⟨Nat.le_of_ble_eq_true rfl, Nat.le_of_ble_eq_true rfl⟩) ⟨fun a U g mk q => by obtain ⟨q0, q1, qP, qK, qN, qD⟩ := q; exact ⟨q0, q1, qP, va_K.moved (u := U) (U := U.calling g mk a) (Vm.Alike.refl U.vm) qK, qN.calling, qD⟩, va_recv hK hP (ci := 11) (q0 := 0) rfl rfl, fun U hU hW => ⟨rfl, by rw [hU], by rw [hU]; exact hPc, va_K.moved hW.alike hK, NN.warm hW hN, hDc.weaken (fun _ _ _ _ => trivial)⟩⟩ rfl rfl hl.1 rfl (lv_room (Nat.le_of_ble_eq_true rfl)) d_DiscMakerModel_identify_26 ⟨hkc, hks⟩) hS (fun q _ h => hFc q h) hFc (fun r127 u t H1 locs ht hvm hp_r127 hB hz1 hk1 hS => ?_)
        obtain ⟨hP1, hD1⟩ := hB
        rw [ht] at hP1
        obtain ⟨hP, hD⟩ := va_join (wr := [((ma 1), .inl (cI, 40, .inl fK)), ((ma 2), .inl (cI, 40, .inl fP)), ((ma 12), .inl (cB, 320, .inl fBa)), ((ma 13), .inl (cI, 40, .inl fBs)), ((ma 14), .inl (cB, 120, .inl fEx)), ((ma 15), .inl (cI, 40, .inl fEs))]) (w1 := [(h0, .inr (11, MO ma sv_thrown sv_length sv_nodes sv_many sv_directories sv_runsFrom sv_runs sv_read sv_wrong sv_isNamed sv_goes sv_goesSize sv_goesAt sv_targetParts sv_isRoot)), ((ma 8), .inl (cB, 1200, .inl fN)), ((ma 9), .inl (cI, 40, .inl fNS))]) hP hD [0, 3, 4] [1, 2, 5, 6, 7, 8] rfl rfl (by decide +kernel) (by decide +kernel) hk1 hFc hP1 hD1
        clear hPc hDc hFc hP1 hD1 hk1 hz1 hkc hks
        generalize H1 = H at hP hS ⊢
        have hP : va_P D CL [((ma 1), .inl (cI, 40, .inl fK)), ((ma 2), .inl (cI, 40, .inl fP)), ((ma 12), .inl (cB, 320, .inl fBa)), ((ma 13), .inl (cI, 40, .inl fBs)), ((ma 14), .inl (cB, 120, .inl fEx)), ((ma 15), .inl (cI, 40, .inl fEs)), (h0, .inr (11, MO ma sv_thrown sv_length sv_nodes sv_many sv_directories sv_runsFrom sv_runs sv_read sv_wrong sv_isNamed sv_goes sv_goesSize sv_goesAt sv_targetParts sv_isRoot)), ((ma 8), .inl (cB, 1200, .inl fN)), ((ma 9), .inl (cI, 40, .inl fNS))] H := hP
        have hD : va_D A [((ma 1), .inl (cI, 40, .inl fK)), ((ma 2), .inl (cI, 40, .inl fP)), ((ma 12), .inl (cB, 320, .inl fBa)), ((ma 13), .inl (cI, 40, .inl fBs)), ((ma 14), .inl (cB, 120, .inl fEx)), ((ma 15), .inl (cI, 40, .inl fEs)), (h0, .inr (11, MO ma sv_thrown sv_length sv_nodes sv_many sv_directories sv_runsFrom sv_runs sv_read sv_wrong sv_isNamed sv_goes sv_goesSize sv_goesAt sv_targetParts sv_isRoot)), ((ma 8), .inl (cB, 1200, .inl fN)), ((ma 9), .inl (cI, 40, .inl fNS))] := hD
        try dsimp only at hp_r127
        obtain ⟨hr_128, hv_129⟩ := hp_r127
        refine lv_bipush (v := 46) hx hb d_DiscMakerModel_identify_29 (by decide) ?_
        refine lv_icmp_ne (tgt := 38) hx hb d_DiscMakerModel_identify_31 (by decide) (fun h_9 => ?_) (fun h_9 => ?_)
        · skip
          have g31_397 : ¬ r127.toInt = 46 := fun h8 => h_9 ((i_eq rfl (by decide)).mpr h8)
          refine lv_iload_n hx hb d_DiscMakerModel_identify_38 rfl (lv_at hl 2 rfl) ?_
          refine lv_istore_n hx hb d_DiscMakerModel_identify_39 rfl hl (by decide) rfl (fun ls hl => ?_)
          have hl : lv_has ls 7 [(2, .int do_), (0, .ref h0), (1, .int x), (3, .int ki)] := hl
          obtain ⟨v130, e_v130⟩ : ∃ z : Int32, z = ki + 1 := ⟨_, rfl⟩
          refine lv_iinc (v := v130) hx hb d_DiscMakerModel_identify_40 hl (k := 3) rfl e_v130.symm (by decide +kernel) rfl (fun ls hl => ?_)
          have t_v130 : v130.toInt = ki.toInt + 1 := by rw [e_v130]; exact i_add rfl (by decide) (by omega) (by omega)
          have hl : lv_has ls 7 [(3, .int v130), (2, .int do_), (0, .ref h0), (1, .int x)] := hl
          refine lv_goto (tgt := 4) hx hb d_DiscMakerModel_identify_43 (by decide) ?_
          have hP := hP.sub (ws' := [(h0, .inr (11, MO ma sv_thrown sv_length sv_nodes sv_many sv_directories sv_runsFrom sv_runs sv_read sv_wrong sv_isNamed sv_goes sv_goesSize sv_goesAt sv_targetParts sv_isRoot)), ((ma 1), .inl (cI, 40, .inl fK)), ((ma 2), .inl (cI, 40, .inl fP)), ((ma 8), .inl (cB, 1200, .inl fN)), ((ma 9), .inl (cI, 40, .inl fNS)), ((ma 12), .inl (cB, 320, .inl fBa)), ((ma 13), .inl (cI, 40, .inl fBs)), ((ma 14), .inl (cB, 120, .inl fEx)), ((ma 15), .inl (cI, 40, .inl fEs))]) [6, 0, 1, 7, 8, 2, 3, 4, 5] rfl
          have hD := hD.sub (ws' := [(h0, .inr (11, MO ma sv_thrown sv_length sv_nodes sv_many sv_directories sv_runsFrom sv_runs sv_read sv_wrong sv_isNamed sv_goes sv_goesSize sv_goesAt sv_targetParts sv_isRoot)), ((ma 1), .inl (cI, 40, .inl fK)), ((ma 2), .inl (cI, 40, .inl fP)), ((ma 8), .inl (cB, 1200, .inl fN)), ((ma 9), .inl (cI, 40, .inl fNS)), ((ma 12), .inl (cB, 320, .inl fBa)), ((ma 13), .inl (cI, 40, .inl fBs)), ((ma 14), .inl (cB, 120, .inl fEx)), ((ma 15), .inl (cI, 40, .inl fEs))]) [6, 0, 1, 7, 8, 2, 3, 4, 5] (by decide +kernel) rfl
          have hl := lv_sub hl [2, 3, 1, 0] rfl
          exact ih4 _ (by first | omega | (dsimp only; omega)) do_ v130 _ _ _ rfl ((by (try dsimp only); first | assumption | omega | trivial)) ((by (try dsimp only); first | assumption | omega | trivial)) hP hD hS hl
        · skip
          have g31_397 : r127.toInt = 46 := (i_eq rfl (by decide)).mp h_9
          refine lv_iload_n hx hb d_DiscMakerModel_identify_34 rfl (lv_at hl 3 rfl) ?_
          refine lv_goto (tgt := 39) hx hb d_DiscMakerModel_identify_35 (by decide) ?_
          refine lv_istore_n hx hb d_DiscMakerModel_identify_39 rfl hl (by decide) rfl (fun ls hl => ?_)
          have hl : lv_has ls 7 [(2, .int ki), (0, .ref h0), (1, .int x), (3, .int ki)] := hl
          obtain ⟨v131, e_v131⟩ : ∃ z : Int32, z = ki + 1 := ⟨_, rfl⟩
          refine lv_iinc (v := v131) hx hb d_DiscMakerModel_identify_40 hl (k := 3) rfl e_v131.symm (by decide +kernel) rfl (fun ls hl => ?_)
          have t_v131 : v131.toInt = ki.toInt + 1 := by rw [e_v131]; exact i_add rfl (by decide) (by omega) (by omega)
          have hl : lv_has ls 7 [(3, .int v131), (2, .int ki), (0, .ref h0), (1, .int x)] := hl
          refine lv_goto (tgt := 4) hx hb d_DiscMakerModel_identify_43 (by decide) ?_
          have hP := hP.sub (ws' := [(h0, .inr (11, MO ma sv_thrown sv_length sv_nodes sv_many sv_directories sv_runsFrom sv_runs sv_read sv_wrong sv_isNamed sv_goes sv_goesSize sv_goesAt sv_targetParts sv_isRoot)), ((ma 1), .inl (cI, 40, .inl fK)), ((ma 2), .inl (cI, 40, .inl fP)), ((ma 8), .inl (cB, 1200, .inl fN)), ((ma 9), .inl (cI, 40, .inl fNS)), ((ma 12), .inl (cB, 320, .inl fBa)), ((ma 13), .inl (cI, 40, .inl fBs)), ((ma 14), .inl (cB, 120, .inl fEx)), ((ma 15), .inl (cI, 40, .inl fEs))]) [6, 0, 1, 7, 8, 2, 3, 4, 5] rfl
          have hD := hD.sub (ws' := [(h0, .inr (11, MO ma sv_thrown sv_length sv_nodes sv_many sv_directories sv_runsFrom sv_runs sv_read sv_wrong sv_isNamed sv_goes sv_goesSize sv_goesAt sv_targetParts sv_isRoot)), ((ma 1), .inl (cI, 40, .inl fK)), ((ma 2), .inl (cI, 40, .inl fP)), ((ma 8), .inl (cB, 1200, .inl fN)), ((ma 9), .inl (cI, 40, .inl fNS)), ((ma 12), .inl (cB, 320, .inl fBa)), ((ma 13), .inl (cI, 40, .inl fBs)), ((ma 14), .inl (cB, 120, .inl fEx)), ((ma 15), .inl (cI, 40, .inl fEs))]) [6, 0, 1, 7, 8, 2, 3, 4, 5] (by decide +kernel) rfl
          have hl := lv_sub hl [2, 3, 1, 0] rfl
          exact ih4 _ (by first | omega | (dsimp only; omega)) ki v131 _ _ _ rfl ((by (try dsimp only); first | assumption | omega | trivial)) ((by (try dsimp only); first | assumption | omega | trivial)) hP hD hS hl
  · skip
    intro kk4
    have hP := hP.sub (ws' := [(h0, .inr (11, MO ma sv_thrown sv_length sv_nodes sv_many sv_directories sv_runsFrom sv_runs sv_read sv_wrong sv_isNamed sv_goes sv_goesSize sv_goesAt sv_targetParts sv_isRoot)), ((ma 1), .inl (cI, 40, .inl fK)), ((ma 2), .inl (cI, 40, .inl fP)), ((ma 8), .inl (cB, 1200, .inl fN)), ((ma 9), .inl (cI, 40, .inl fNS)), ((ma 12), .inl (cB, 320, .inl fBa)), ((ma 13), .inl (cI, 40, .inl fBs)), ((ma 14), .inl (cB, 120, .inl fEx)), ((ma 15), .inl (cI, 40, .inl fEs))]) [0, 1, 2, 3, 4, 5, 6, 7, 8] rfl
    have hD := hD.sub (ws' := [(h0, .inr (11, MO ma sv_thrown sv_length sv_nodes sv_many sv_directories sv_runsFrom sv_runs sv_read sv_wrong sv_isNamed sv_goes sv_goesSize sv_goesAt sv_targetParts sv_isRoot)), ((ma 1), .inl (cI, 40, .inl fK)), ((ma 2), .inl (cI, 40, .inl fP)), ((ma 8), .inl (cB, 1200, .inl fN)), ((ma 9), .inl (cI, 40, .inl fNS)), ((ma 12), .inl (cB, 320, .inl fBa)), ((ma 13), .inl (cI, 40, .inl fBs)), ((ma 14), .inl (cB, 120, .inl fEx)), ((ma 15), .inl (cI, 40, .inl fEs))]) [0, 1, 2, 3, 4, 5, 6, 7, 8] (by decide +kernel) rfl
    have hl := lv_sub hl [2, 3, 1, 0] rfl
    exact kk4 _ (-1) 1 _ _ _ rfl ((by (try dsimp only); first | assumption | omega | trivial)) ((by (try dsimp only); first | assumption | omega | trivial)) hP hD hS hl
