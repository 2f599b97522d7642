theorem d_DiscMakerModel_describe_0 : decode b_DiscMakerModel_describe 0 = .ok (.iconst 0, 1) := by decide +kernel
theorem d_DiscMakerModel_describe_1 : decode b_DiscMakerModel_describe 1 = .ok (.istore_n 1, 1) := by decide +kernel
theorem d_DiscMakerModel_describe_2 : decode b_DiscMakerModel_describe 2 = .ok (.iload_n 1, 1) := by decide +kernel
theorem d_DiscMakerModel_describe_3 : decode b_DiscMakerModel_describe 3 = .ok (.iconst 3, 1) := by decide +kernel
theorem d_DiscMakerModel_describe_4 : decode b_DiscMakerModel_describe 4 = .ok (.if_icmp .ge 335, 3) := by decide +kernel
theorem d_DiscMakerModel_describe_7 : decode b_DiscMakerModel_describe 7 = .ok (.sipush 2048, 3) := by decide +kernel
theorem d_DiscMakerModel_describe_10 : decode b_DiscMakerModel_describe 10 = .ok (.bipush 16, 2) := by decide +kernel
theorem d_DiscMakerModel_describe_12 : decode b_DiscMakerModel_describe 12 = .ok (.iload_n 1, 1) := by decide +kernel
theorem d_DiscMakerModel_describe_13 : decode b_DiscMakerModel_describe 13 = .ok (.iadd, 1) := by decide +kernel
theorem d_DiscMakerModel_describe_14 : decode b_DiscMakerModel_describe 14 = .ok (.imul, 1) := by decide +kernel
theorem d_DiscMakerModel_describe_15 : decode b_DiscMakerModel_describe 15 = .ok (.istore_n 2, 1) := by decide +kernel
theorem d_DiscMakerModel_describe_16 : decode b_DiscMakerModel_describe 16 = .ok (.aload_n 0, 1) := by decide +kernel
theorem d_DiscMakerModel_describe_17 : decode b_DiscMakerModel_describe 17 = .ok (.iload_n 2, 1) := by decide +kernel
theorem d_DiscMakerModel_describe_18 : decode b_DiscMakerModel_describe 18 = .ok (.iload_n 1, 1) := by decide +kernel
theorem d_DiscMakerModel_describe_19 : decode b_DiscMakerModel_describe 19 = .ok (.iconst 2, 1) := by decide +kernel
theorem d_DiscMakerModel_describe_20 : decode b_DiscMakerModel_describe 20 = .ok (.if_icmp .ge 9, 3) := by decide +kernel
theorem d_DiscMakerModel_describe_23 : decode b_DiscMakerModel_describe 23 = .ok (.iload_n 1, 1) := by decide +kernel
theorem d_DiscMakerModel_describe_24 : decode b_DiscMakerModel_describe 24 = .ok (.iconst 1, 1) := by decide +kernel
theorem d_DiscMakerModel_describe_25 : decode b_DiscMakerModel_describe 25 = .ok (.iadd, 1) := by decide +kernel
theorem d_DiscMakerModel_describe_26 : decode b_DiscMakerModel_describe 26 = .ok (.goto 6, 3) := by decide +kernel
theorem d_DiscMakerModel_describe_29 : decode b_DiscMakerModel_describe 29 = .ok (.sipush 255, 3) := by decide +kernel
theorem d_DiscMakerModel_describe_32 : decode b_DiscMakerModel_describe 32 = .ok (.invokevirtual 192, 3) := by decide +kernel
theorem d_DiscMakerModel_describe_35 : decode b_DiscMakerModel_describe 35 = .ok (.aload_n 0, 1) := by decide +kernel
theorem d_DiscMakerModel_describe_36 : decode b_DiscMakerModel_describe 36 = .ok (.iload_n 2, 1) := by decide +kernel
theorem d_DiscMakerModel_describe_37 : decode b_DiscMakerModel_describe 37 = .ok (.iconst 1, 1) := by decide +kernel
theorem d_DiscMakerModel_describe_38 : decode b_DiscMakerModel_describe 38 = .ok (.iadd, 1) := by decide +kernel
theorem d_DiscMakerModel_describe_39 : decode b_DiscMakerModel_describe 39 = .ok (.bipush 67, 2) := by decide +kernel
theorem d_DiscMakerModel_describe_41 : decode b_DiscMakerModel_describe 41 = .ok (.invokevirtual 192, 3) := by decide +kernel
theorem d_DiscMakerModel_describe_44 : decode b_DiscMakerModel_describe 44 = .ok (.aload_n 0, 1) := by decide +kernel
theorem d_DiscMakerModel_describe_45 : decode b_DiscMakerModel_describe 45 = .ok (.iload_n 2, 1) := by decide +kernel
theorem d_DiscMakerModel_describe_46 : decode b_DiscMakerModel_describe 46 = .ok (.iconst 2, 1) := by decide +kernel
theorem d_DiscMakerModel_describe_47 : decode b_DiscMakerModel_describe 47 = .ok (.iadd, 1) := by decide +kernel
theorem d_DiscMakerModel_describe_48 : decode b_DiscMakerModel_describe 48 = .ok (.bipush 68, 2) := by decide +kernel
theorem d_DiscMakerModel_describe_50 : decode b_DiscMakerModel_describe 50 = .ok (.invokevirtual 192, 3) := by decide +kernel
theorem d_DiscMakerModel_describe_53 : decode b_DiscMakerModel_describe 53 = .ok (.aload_n 0, 1) := by decide +kernel
theorem d_DiscMakerModel_describe_54 : decode b_DiscMakerModel_describe 54 = .ok (.iload_n 2, 1) := by decide +kernel
theorem d_DiscMakerModel_describe_55 : decode b_DiscMakerModel_describe 55 = .ok (.iconst 3, 1) := by decide +kernel
theorem d_DiscMakerModel_describe_56 : decode b_DiscMakerModel_describe 56 = .ok (.iadd, 1) := by decide +kernel
theorem d_DiscMakerModel_describe_57 : decode b_DiscMakerModel_describe 57 = .ok (.bipush 48, 2) := by decide +kernel
theorem d_DiscMakerModel_describe_59 : decode b_DiscMakerModel_describe 59 = .ok (.invokevirtual 192, 3) := by decide +kernel
theorem d_DiscMakerModel_describe_62 : decode b_DiscMakerModel_describe 62 = .ok (.aload_n 0, 1) := by decide +kernel
theorem d_DiscMakerModel_describe_63 : decode b_DiscMakerModel_describe 63 = .ok (.iload_n 2, 1) := by decide +kernel
theorem d_DiscMakerModel_describe_64 : decode b_DiscMakerModel_describe 64 = .ok (.iconst 4, 1) := by decide +kernel
theorem d_DiscMakerModel_describe_65 : decode b_DiscMakerModel_describe 65 = .ok (.iadd, 1) := by decide +kernel
theorem d_DiscMakerModel_describe_66 : decode b_DiscMakerModel_describe 66 = .ok (.bipush 48, 2) := by decide +kernel
theorem d_DiscMakerModel_describe_68 : decode b_DiscMakerModel_describe 68 = .ok (.invokevirtual 192, 3) := by decide +kernel
theorem d_DiscMakerModel_describe_71 : decode b_DiscMakerModel_describe 71 = .ok (.aload_n 0, 1) := by decide +kernel
theorem d_DiscMakerModel_describe_72 : decode b_DiscMakerModel_describe 72 = .ok (.iload_n 2, 1) := by decide +kernel
theorem d_DiscMakerModel_describe_73 : decode b_DiscMakerModel_describe 73 = .ok (.iconst 5, 1) := by decide +kernel
theorem d_DiscMakerModel_describe_74 : decode b_DiscMakerModel_describe 74 = .ok (.iadd, 1) := by decide +kernel
theorem d_DiscMakerModel_describe_75 : decode b_DiscMakerModel_describe 75 = .ok (.bipush 49, 2) := by decide +kernel
theorem d_DiscMakerModel_describe_77 : decode b_DiscMakerModel_describe 77 = .ok (.invokevirtual 192, 3) := by decide +kernel
theorem d_DiscMakerModel_describe_80 : decode b_DiscMakerModel_describe 80 = .ok (.aload_n 0, 1) := by decide +kernel
theorem d_DiscMakerModel_describe_81 : decode b_DiscMakerModel_describe 81 = .ok (.iload_n 2, 1) := by decide +kernel
theorem d_DiscMakerModel_describe_82 : decode b_DiscMakerModel_describe 82 = .ok (.bipush 6, 2) := by decide +kernel
theorem d_DiscMakerModel_describe_84 : decode b_DiscMakerModel_describe 84 = .ok (.iadd, 1) := by decide +kernel
theorem d_DiscMakerModel_describe_85 : decode b_DiscMakerModel_describe 85 = .ok (.iconst 1, 1) := by decide +kernel
theorem d_DiscMakerModel_describe_86 : decode b_DiscMakerModel_describe 86 = .ok (.invokevirtual 192, 3) := by decide +kernel
theorem d_DiscMakerModel_describe_89 : decode b_DiscMakerModel_describe 89 = .ok (.iload_n 1, 1) := by decide +kernel
theorem d_DiscMakerModel_describe_90 : decode b_DiscMakerModel_describe 90 = .ok (.iconst 2, 1) := by decide +kernel
theorem d_DiscMakerModel_describe_91 : decode b_DiscMakerModel_describe 91 = .ok (.if_icmp .ne 4, 3) := by decide +kernel
theorem d_DiscMakerModel_describe_94 : decode b_DiscMakerModel_describe 94 = .ok (.return_, 1) := by decide +kernel
theorem d_DiscMakerModel_describe_95 : decode b_DiscMakerModel_describe 95 = .ok (.bipush 8, 2) := by decide +kernel
theorem d_DiscMakerModel_describe_97 : decode b_DiscMakerModel_describe 97 = .ok (.istore_n 3, 1) := by decide +kernel
theorem d_DiscMakerModel_describe_98 : decode b_DiscMakerModel_describe 98 = .ok (.iload_n 3, 1) := by decide +kernel
theorem d_DiscMakerModel_describe_99 : decode b_DiscMakerModel_describe 99 = .ok (.bipush 72, 2) := by decide +kernel
theorem d_DiscMakerModel_describe_101 : decode b_DiscMakerModel_describe 101 = .ok (.if_icmp .ge 18, 3) := by decide +kernel
theorem d_DiscMakerModel_describe_104 : decode b_DiscMakerModel_describe 104 = .ok (.aload_n 0, 1) := by decide +kernel
theorem d_DiscMakerModel_describe_105 : decode b_DiscMakerModel_describe 105 = .ok (.iload_n 2, 1) := by decide +kernel
theorem d_DiscMakerModel_describe_106 : decode b_DiscMakerModel_describe 106 = .ok (.iload_n 3, 1) := by decide +kernel
theorem d_DiscMakerModel_describe_107 : decode b_DiscMakerModel_describe 107 = .ok (.iadd, 1) := by decide +kernel
theorem d_DiscMakerModel_describe_108 : decode b_DiscMakerModel_describe 108 = .ok (.bipush 32, 2) := by decide +kernel
theorem d_DiscMakerModel_describe_110 : decode b_DiscMakerModel_describe 110 = .ok (.invokevirtual 192, 3) := by decide +kernel
theorem d_DiscMakerModel_describe_113 : decode b_DiscMakerModel_describe 113 = .ok (.iinc 3 1, 3) := by decide +kernel
theorem d_DiscMakerModel_describe_116 : decode b_DiscMakerModel_describe 116 = .ok (.goto (-18), 3) := by decide +kernel
theorem d_DiscMakerModel_describe_119 : decode b_DiscMakerModel_describe 119 = .ok (.aload_n 0, 1) := by decide +kernel
theorem d_DiscMakerModel_describe_120 : decode b_DiscMakerModel_describe 120 = .ok (.iload_n 2, 1) := by decide +kernel
theorem d_DiscMakerModel_describe_121 : decode b_DiscMakerModel_describe 121 = .ok (.bipush 80, 2) := by decide +kernel
theorem d_DiscMakerModel_describe_123 : decode b_DiscMakerModel_describe 123 = .ok (.iadd, 1) := by decide +kernel
theorem d_DiscMakerModel_describe_124 : decode b_DiscMakerModel_describe 124 = .ok (.iconst 4, 1) := by decide +kernel
theorem d_DiscMakerModel_describe_125 : decode b_DiscMakerModel_describe 125 = .ok (.aload_n 0, 1) := by decide +kernel
theorem d_DiscMakerModel_describe_126 : decode b_DiscMakerModel_describe 126 = .ok (.getfield 282, 3) := by decide +kernel
theorem d_DiscMakerModel_describe_129 : decode b_DiscMakerModel_describe 129 = .ok (.invokevirtual 244, 3) := by decide +kernel
theorem d_DiscMakerModel_describe_132 : decode b_DiscMakerModel_describe 132 = .ok (.iload_n 1, 1) := by decide +kernel
theorem d_DiscMakerModel_describe_133 : decode b_DiscMakerModel_describe 133 = .ok (.iconst 1, 1) := by decide +kernel
theorem d_DiscMakerModel_describe_134 : decode b_DiscMakerModel_describe 134 = .ok (.if_icmp .ne 33, 3) := by decide +kernel
theorem d_DiscMakerModel_describe_137 : decode b_DiscMakerModel_describe 137 = .ok (.aload_n 0, 1) := by decide +kernel
theorem d_DiscMakerModel_describe_138 : decode b_DiscMakerModel_describe 138 = .ok (.iload_n 2, 1) := by decide +kernel
theorem d_DiscMakerModel_describe_139 : decode b_DiscMakerModel_describe 139 = .ok (.bipush 88, 2) := by decide +kernel
theorem d_DiscMakerModel_describe_141 : decode b_DiscMakerModel_describe 141 = .ok (.iadd, 1) := by decide +kernel
theorem d_DiscMakerModel_describe_142 : decode b_DiscMakerModel_describe 142 = .ok (.bipush 37, 2) := by decide +kernel
theorem d_DiscMakerModel_describe_144 : decode b_DiscMakerModel_describe 144 = .ok (.invokevirtual 192, 3) := by decide +kernel
theorem d_DiscMakerModel_describe_147 : decode b_DiscMakerModel_describe 147 = .ok (.aload_n 0, 1) := by decide +kernel
theorem d_DiscMakerModel_describe_148 : decode b_DiscMakerModel_describe 148 = .ok (.iload_n 2, 1) := by decide +kernel
theorem d_DiscMakerModel_describe_149 : decode b_DiscMakerModel_describe 149 = .ok (.bipush 89, 2) := by decide +kernel
theorem d_DiscMakerModel_describe_151 : decode b_DiscMakerModel_describe 151 = .ok (.iadd, 1) := by decide +kernel
theorem d_DiscMakerModel_describe_152 : decode b_DiscMakerModel_describe 152 = .ok (.bipush 47, 2) := by decide +kernel
theorem d_DiscMakerModel_describe_154 : decode b_DiscMakerModel_describe 154 = .ok (.invokevirtual 192, 3) := by decide +kernel
theorem d_DiscMakerModel_describe_157 : decode b_DiscMakerModel_describe 157 = .ok (.aload_n 0, 1) := by decide +kernel
theorem d_DiscMakerModel_describe_158 : decode b_DiscMakerModel_describe 158 = .ok (.iload_n 2, 1) := by decide +kernel
theorem d_DiscMakerModel_describe_159 : decode b_DiscMakerModel_describe 159 = .ok (.bipush 90, 2) := by decide +kernel
theorem d_DiscMakerModel_describe_161 : decode b_DiscMakerModel_describe 161 = .ok (.iadd, 1) := by decide +kernel
theorem d_DiscMakerModel_describe_162 : decode b_DiscMakerModel_describe 162 = .ok (.bipush 69, 2) := by decide +kernel
theorem d_DiscMakerModel_describe_164 : decode b_DiscMakerModel_describe 164 = .ok (.invokevirtual 192, 3) := by decide +kernel
theorem d_DiscMakerModel_describe_167 : decode b_DiscMakerModel_describe 167 = .ok (.aload_n 0, 1) := by decide +kernel
theorem d_DiscMakerModel_describe_168 : decode b_DiscMakerModel_describe 168 = .ok (.iload_n 2, 1) := by decide +kernel
theorem d_DiscMakerModel_describe_169 : decode b_DiscMakerModel_describe 169 = .ok (.bipush 120, 2) := by decide +kernel
theorem d_DiscMakerModel_describe_171 : decode b_DiscMakerModel_describe 171 = .ok (.iadd, 1) := by decide +kernel
theorem d_DiscMakerModel_describe_172 : decode b_DiscMakerModel_describe 172 = .ok (.iconst 2, 1) := by decide +kernel
theorem d_DiscMakerModel_describe_173 : decode b_DiscMakerModel_describe 173 = .ok (.iconst 1, 1) := by decide +kernel
theorem d_DiscMakerModel_describe_174 : decode b_DiscMakerModel_describe 174 = .ok (.invokevirtual 244, 3) := by decide +kernel
theorem d_DiscMakerModel_describe_177 : decode b_DiscMakerModel_describe 177 = .ok (.aload_n 0, 1) := by decide +kernel
theorem d_DiscMakerModel_describe_178 : decode b_DiscMakerModel_describe 178 = .ok (.iload_n 2, 1) := by decide +kernel
theorem d_DiscMakerModel_describe_179 : decode b_DiscMakerModel_describe 179 = .ok (.bipush 124, 2) := by decide +kernel
theorem d_DiscMakerModel_describe_181 : decode b_DiscMakerModel_describe 181 = .ok (.iadd, 1) := by decide +kernel
theorem d_DiscMakerModel_describe_182 : decode b_DiscMakerModel_describe 182 = .ok (.iconst 2, 1) := by decide +kernel
theorem d_DiscMakerModel_describe_183 : decode b_DiscMakerModel_describe 183 = .ok (.iconst 1, 1) := by decide +kernel
theorem d_DiscMakerModel_describe_184 : decode b_DiscMakerModel_describe 184 = .ok (.invokevirtual 244, 3) := by decide +kernel
theorem d_DiscMakerModel_describe_187 : decode b_DiscMakerModel_describe 187 = .ok (.aload_n 0, 1) := by decide +kernel
theorem d_DiscMakerModel_describe_188 : decode b_DiscMakerModel_describe 188 = .ok (.iload_n 2, 1) := by decide +kernel
theorem d_DiscMakerModel_describe_189 : decode b_DiscMakerModel_describe 189 = .ok (.sipush 128, 3) := by decide +kernel
theorem d_DiscMakerModel_describe_192 : decode b_DiscMakerModel_describe 192 = .ok (.iadd, 1) := by decide +kernel
theorem d_DiscMakerModel_describe_193 : decode b_DiscMakerModel_describe 193 = .ok (.iconst 2, 1) := by decide +kernel
theorem d_DiscMakerModel_describe_194 : decode b_DiscMakerModel_describe 194 = .ok (.sipush 2048, 3) := by decide +kernel
theorem d_DiscMakerModel_describe_197 : decode b_DiscMakerModel_describe 197 = .ok (.invokevirtual 244, 3) := by decide +kernel
theorem d_DiscMakerModel_describe_200 : decode b_DiscMakerModel_describe 200 = .ok (.aload_n 0, 1) := by decide +kernel
theorem d_DiscMakerModel_describe_201 : decode b_DiscMakerModel_describe 201 = .ok (.iload_n 2, 1) := by decide +kernel
theorem d_DiscMakerModel_describe_202 : decode b_DiscMakerModel_describe 202 = .ok (.sipush 132, 3) := by decide +kernel
theorem d_DiscMakerModel_describe_205 : decode b_DiscMakerModel_describe 205 = .ok (.iadd, 1) := by decide +kernel
theorem d_DiscMakerModel_describe_206 : decode b_DiscMakerModel_describe 206 = .ok (.iconst 4, 1) := by decide +kernel
theorem d_DiscMakerModel_describe_207 : decode b_DiscMakerModel_describe 207 = .ok (.aload_n 0, 1) := by decide +kernel
theorem d_DiscMakerModel_describe_208 : decode b_DiscMakerModel_describe 208 = .ok (.iload_n 1, 1) := by decide +kernel
theorem d_DiscMakerModel_describe_209 : decode b_DiscMakerModel_describe 209 = .ok (.invokevirtual 297, 3) := by decide +kernel
theorem d_DiscMakerModel_describe_212 : decode b_DiscMakerModel_describe 212 = .ok (.invokevirtual 244, 3) := by decide +kernel
theorem d_DiscMakerModel_describe_215 : decode b_DiscMakerModel_describe 215 = .ok (.aload_n 0, 1) := by decide +kernel
theorem d_DiscMakerModel_describe_216 : decode b_DiscMakerModel_describe 216 = .ok (.iload_n 2, 1) := by decide +kernel
theorem d_DiscMakerModel_describe_217 : decode b_DiscMakerModel_describe 217 = .ok (.sipush 140, 3) := by decide +kernel
theorem d_DiscMakerModel_describe_220 : decode b_DiscMakerModel_describe 220 = .ok (.iadd, 1) := by decide +kernel
theorem d_DiscMakerModel_describe_221 : decode b_DiscMakerModel_describe 221 = .ok (.iconst 4, 1) := by decide +kernel
theorem d_DiscMakerModel_describe_222 : decode b_DiscMakerModel_describe 222 = .ok (.bipush 19, 2) := by decide +kernel
theorem d_DiscMakerModel_describe_224 : decode b_DiscMakerModel_describe 224 = .ok (.iconst 2, 1) := by decide +kernel
theorem d_DiscMakerModel_describe_225 : decode b_DiscMakerModel_describe 225 = .ok (.iload_n 1, 1) := by decide +kernel
theorem d_DiscMakerModel_describe_226 : decode b_DiscMakerModel_describe 226 = .ok (.imul, 1) := by decide +kernel
theorem d_DiscMakerModel_describe_227 : decode b_DiscMakerModel_describe 227 = .ok (.iadd, 1) := by decide +kernel
theorem d_DiscMakerModel_describe_228 : decode b_DiscMakerModel_describe 228 = .ok (.invokevirtual 196, 3) := by decide +kernel
theorem d_DiscMakerModel_describe_231 : decode b_DiscMakerModel_describe 231 = .ok (.aload_n 0, 1) := by decide +kernel
theorem d_DiscMakerModel_describe_232 : decode b_DiscMakerModel_describe 232 = .ok (.iload_n 2, 1) := by decide +kernel
theorem d_DiscMakerModel_describe_233 : decode b_DiscMakerModel_describe 233 = .ok (.sipush 148, 3) := by decide +kernel
theorem d_DiscMakerModel_describe_236 : decode b_DiscMakerModel_describe 236 = .ok (.iadd, 1) := by decide +kernel
theorem d_DiscMakerModel_describe_237 : decode b_DiscMakerModel_describe 237 = .ok (.iconst 4, 1) := by decide +kernel
theorem d_DiscMakerModel_describe_238 : decode b_DiscMakerModel_describe 238 = .ok (.bipush 20, 2) := by decide +kernel
theorem d_DiscMakerModel_describe_240 : decode b_DiscMakerModel_describe 240 = .ok (.iconst 2, 1) := by decide +kernel
theorem d_DiscMakerModel_describe_241 : decode b_DiscMakerModel_describe 241 = .ok (.iload_n 1, 1) := by decide +kernel
theorem d_DiscMakerModel_describe_242 : decode b_DiscMakerModel_describe 242 = .ok (.imul, 1) := by decide +kernel
theorem d_DiscMakerModel_describe_243 : decode b_DiscMakerModel_describe 243 = .ok (.iadd, 1) := by decide +kernel
theorem d_DiscMakerModel_describe_244 : decode b_DiscMakerModel_describe 244 = .ok (.invokevirtual 200, 3) := by decide +kernel
theorem d_DiscMakerModel_describe_247 : decode b_DiscMakerModel_describe 247 = .ok (.aload_n 0, 1) := by decide +kernel
theorem d_DiscMakerModel_describe_248 : decode b_DiscMakerModel_describe 248 = .ok (.iload_n 1, 1) := by decide +kernel
theorem d_DiscMakerModel_describe_249 : decode b_DiscMakerModel_describe 249 = .ok (.iload_n 2, 1) := by decide +kernel
theorem d_DiscMakerModel_describe_250 : decode b_DiscMakerModel_describe 250 = .ok (.sipush 156, 3) := by decide +kernel
theorem d_DiscMakerModel_describe_253 : decode b_DiscMakerModel_describe 253 = .ok (.iadd, 1) := by decide +kernel
theorem d_DiscMakerModel_describe_254 : decode b_DiscMakerModel_describe 254 = .ok (.invokevirtual 300, 3) := by decide +kernel
theorem d_DiscMakerModel_describe_257 : decode b_DiscMakerModel_describe 257 = .ok (.sipush 190, 3) := by decide +kernel
theorem d_DiscMakerModel_describe_260 : decode b_DiscMakerModel_describe 260 = .ok (.istore_n 3, 1) := by decide +kernel
theorem d_DiscMakerModel_describe_261 : decode b_DiscMakerModel_describe 261 = .ok (.iload_n 3, 1) := by decide +kernel
theorem d_DiscMakerModel_describe_262 : decode b_DiscMakerModel_describe 262 = .ok (.sipush 813, 3) := by decide +kernel
theorem d_DiscMakerModel_describe_265 : decode b_DiscMakerModel_describe 265 = .ok (.if_icmp .ge 18, 3) := by decide +kernel
theorem d_DiscMakerModel_describe_268 : decode b_DiscMakerModel_describe 268 = .ok (.aload_n 0, 1) := by decide +kernel
theorem d_DiscMakerModel_describe_269 : decode b_DiscMakerModel_describe 269 = .ok (.iload_n 2, 1) := by decide +kernel
theorem d_DiscMakerModel_describe_270 : decode b_DiscMakerModel_describe 270 = .ok (.iload_n 3, 1) := by decide +kernel
theorem d_DiscMakerModel_describe_271 : decode b_DiscMakerModel_describe 271 = .ok (.iadd, 1) := by decide +kernel
theorem d_DiscMakerModel_describe_272 : decode b_DiscMakerModel_describe 272 = .ok (.bipush 32, 2) := by decide +kernel
theorem d_DiscMakerModel_describe_274 : decode b_DiscMakerModel_describe 274 = .ok (.invokevirtual 192, 3) := by decide +kernel
theorem d_DiscMakerModel_describe_277 : decode b_DiscMakerModel_describe 277 = .ok (.iinc 3 1, 3) := by decide +kernel
theorem d_DiscMakerModel_describe_280 : decode b_DiscMakerModel_describe 280 = .ok (.goto (-19), 3) := by decide +kernel
theorem d_DiscMakerModel_describe_283 : decode b_DiscMakerModel_describe 283 = .ok (.iconst 0, 1) := by decide +kernel
theorem d_DiscMakerModel_describe_284 : decode b_DiscMakerModel_describe 284 = .ok (.istore_n 3, 1) := by decide +kernel
theorem d_DiscMakerModel_describe_285 : decode b_DiscMakerModel_describe 285 = .ok (.iload_n 3, 1) := by decide +kernel
theorem d_DiscMakerModel_describe_286 : decode b_DiscMakerModel_describe 286 = .ok (.bipush 68, 2) := by decide +kernel
theorem d_DiscMakerModel_describe_288 : decode b_DiscMakerModel_describe 288 = .ok (.if_icmp .ge 35, 3) := by decide +kernel
theorem d_DiscMakerModel_describe_291 : decode b_DiscMakerModel_describe 291 = .ok (.aload_n 0, 1) := by decide +kernel
theorem d_DiscMakerModel_describe_292 : decode b_DiscMakerModel_describe 292 = .ok (.iload_n 2, 1) := by decide +kernel
theorem d_DiscMakerModel_describe_293 : decode b_DiscMakerModel_describe 293 = .ok (.sipush 813, 3) := by decide +kernel
theorem d_DiscMakerModel_describe_296 : decode b_DiscMakerModel_describe 296 = .ok (.iadd, 1) := by decide +kernel
theorem d_DiscMakerModel_describe_297 : decode b_DiscMakerModel_describe 297 = .ok (.iload_n 3, 1) := by decide +kernel
theorem d_DiscMakerModel_describe_298 : decode b_DiscMakerModel_describe 298 = .ok (.iadd, 1) := by decide +kernel
theorem d_DiscMakerModel_describe_299 : decode b_DiscMakerModel_describe 299 = .ok (.iload_n 3, 1) := by decide +kernel
theorem d_DiscMakerModel_describe_300 : decode b_DiscMakerModel_describe 300 = .ok (.bipush 17, 2) := by decide +kernel
theorem d_DiscMakerModel_describe_302 : decode b_DiscMakerModel_describe 302 = .ok (.irem, 1) := by decide +kernel
theorem d_DiscMakerModel_describe_303 : decode b_DiscMakerModel_describe 303 = .ok (.bipush 16, 2) := by decide +kernel
theorem d_DiscMakerModel_describe_305 : decode b_DiscMakerModel_describe 305 = .ok (.if_icmp .ge 8, 3) := by decide +kernel
theorem d_DiscMakerModel_describe_308 : decode b_DiscMakerModel_describe 308 = .ok (.bipush 48, 2) := by decide +kernel
theorem d_DiscMakerModel_describe_310 : decode b_DiscMakerModel_describe 310 = .ok (.goto 4, 3) := by decide +kernel
theorem d_DiscMakerModel_describe_313 : decode b_DiscMakerModel_describe 313 = .ok (.iconst 0, 1) := by decide +kernel
theorem d_DiscMakerModel_describe_314 : decode b_DiscMakerModel_describe 314 = .ok (.invokevirtual 192, 3) := by decide +kernel
theorem d_DiscMakerModel_describe_317 : decode b_DiscMakerModel_describe 317 = .ok (.iinc 3 1, 3) := by decide +kernel
theorem d_DiscMakerModel_describe_320 : decode b_DiscMakerModel_describe 320 = .ok (.goto (-35), 3) := by decide +kernel
theorem d_DiscMakerModel_describe_323 : decode b_DiscMakerModel_describe 323 = .ok (.aload_n 0, 1) := by decide +kernel
theorem d_DiscMakerModel_describe_324 : decode b_DiscMakerModel_describe 324 = .ok (.iload_n 2, 1) := by decide +kernel
theorem d_DiscMakerModel_describe_325 : decode b_DiscMakerModel_describe 325 = .ok (.sipush 881, 3) := by decide +kernel
theorem d_DiscMakerModel_describe_328 : decode b_DiscMakerModel_describe 328 = .ok (.iadd, 1) := by decide +kernel
theorem d_DiscMakerModel_describe_329 : decode b_DiscMakerModel_describe 329 = .ok (.iconst 1, 1) := by decide +kernel
theorem d_DiscMakerModel_describe_330 : decode b_DiscMakerModel_describe 330 = .ok (.invokevirtual 192, 3) := by decide +kernel
theorem d_DiscMakerModel_describe_333 : decode b_DiscMakerModel_describe 333 = .ok (.iinc 1 1, 3) := by decide +kernel
theorem d_DiscMakerModel_describe_336 : decode b_DiscMakerModel_describe 336 = .ok (.goto (-334), 3) := by decide +kernel
theorem d_DiscMakerModel_describe_339 : decode b_DiscMakerModel_describe 339 = .ok (.return_, 1) := by decide +kernel
set_option maxHeartbeats 4000000 in
set_option maxRecDepth 100000 in
theorem m_describe (l : Launch) (D : va_G) (cB cI cJ cZ cN cF : ClassId) (sz : Nat) (h0 : Nat) (ma : Nat → Nat) (sv_thrown sv_length sv_nodes sv_many sv_directories sv_runsFrom sv_runs sv_read sv_wrong sv_isNamed sv_goes sv_goesSize sv_goesAt sv_targetParts sv_isRoot : Int32) (F : Nat → Int64) (fK : Nat → Int32) (fNS : Nat → Int32) (fBs : Nat → Int32) (fEs : Nat → Int32) (fTb : Nat → Int32) (fSe : Nat → Int32) (fSs : Nat → Int32) (hdr : 0 ≤ sv_directories.toInt ∧ sv_directories.toInt ≤ 12) (htb2 : ∀ t : Nat, t < 2 → ∀ j : Nat, (j : Int) < sv_directories.toInt → 0 ≤ tbv fTb t j ∧ tbv fTb t j < 40) (hKi : Rg 0 2 40 fK) (hNS : Rg 0 30 40 fNS) (hBs : Rg 0 8 40 fBs) (hEs : Rg 0 3 40 fEs) : Met l y_DiscMakerModel_describe w_DiscMakerModel_describe ({ frames := 4, cells := 0, slots := 0, locals := 92 }) (va_Pc [.ref h0] (fun U => U.heap.size = sz ∧ va_P D CL [(h0, .inr (11, MO ma sv_thrown sv_length sv_nodes sv_many sv_directories sv_runsFrom sv_runs sv_read sv_wrong sv_isNamed sv_goes sv_goesSize sv_goesAt sv_targetParts sv_isRoot)), ((ma 16), .inl (cJ, 46080, .inr (.inl F))), ((ma 1), .inl (cI, 40, .inl fK)), ((ma 9), .inl (cI, 40, .inl fNS)), ((ma 13), .inl (cI, 40, .inl fBs)), ((ma 15), .inl (cI, 40, .inl fEs)), ((ma 17), .inl (cI, 24, .inl fTb)), ((ma 18), .inl (cI, 80, .inl fSe)), ((ma 19), .inl (cI, 80, .inl fSs))] U.heap ∧ va_K D CL (TY cB cI cJ cZ cN cF) U ∧ NN U ∧ va_D (fun _ => True) [(h0, .inr (11, MO ma sv_thrown sv_length sv_nodes sv_many sv_directories sv_runsFrom sv_runs sv_read sv_wrong sv_isNamed sv_goes sv_goesSize sv_goesAt sv_targetParts sv_isRoot)), ((ma 16), .inl (cJ, 46080, .inr (.inl F))), ((ma 1), .inl (cI, 40, .inl fK)), ((ma 9), .inl (cI, 40, .inl fNS)), ((ma 13), .inl (cI, 40, .inl fBs)), ((ma 15), .inl (cI, 40, .inl fEs)), ((ma 17), .inl (cI, 24, .inl fTb)), ((ma 18), .inl (cI, 80, .inl fSe)), ((ma 19), .inl (cI, 80, .inl fSs))])) (va_Qv (fun (u : (Nat → Int64)) => True) (fun (u : (Nat → Int64)) (t : State) => match u with | G => va_P D CL [(h0, .inr (11, MO ma sv_thrown sv_length sv_nodes sv_many sv_directories sv_runsFrom sv_runs sv_read sv_wrong sv_isNamed sv_goes sv_goesSize sv_goesAt sv_targetParts sv_isRoot)), ((ma 16), .inl (cJ, 46080, .inr (.inl G))), ((ma 1), .inl (cI, 40, .inl fK)), ((ma 9), .inl (cI, 40, .inl fNS)), ((ma 13), .inl (cI, 40, .inl fBs)), ((ma 15), .inl (cI, 40, .inl fEs)), ((ma 17), .inl (cI, 24, .inl fTb)), ((ma 18), .inl (cI, 80, .inl fSe)), ((ma 19), .inl (cI, 80, .inl fSs))] t.heap ∧ va_D (va_A [(h0, .inr (11, MO ma sv_thrown sv_length sv_nodes sv_many sv_directories sv_runsFrom sv_runs sv_read sv_wrong sv_isNamed sv_goes sv_goesSize sv_goesAt sv_targetParts sv_isRoot)), ((ma 16), .inl (cJ, 46080, .inr (.inl F))), ((ma 1), .inl (cI, 40, .inl fK)), ((ma 9), .inl (cI, 40, .inl fNS)), ((ma 13), .inl (cI, 40, .inl fBs)), ((ma 15), .inl (cI, 40, .inl fEs)), ((ma 17), .inl (cI, 24, .inl fTb)), ((ma 18), .inl (cI, 80, .inl fSe)), ((ma 19), .inl (cI, 80, .inl fSs))] sz) [(h0, .inr (11, MO ma sv_thrown sv_length sv_nodes sv_many sv_directories sv_runsFrom sv_runs sv_read sv_wrong sv_isNamed sv_goes sv_goesSize sv_goesAt sv_targetParts sv_isRoot)), ((ma 16), .inl (cJ, 46080, .inr (.inl G))), ((ma 1), .inl (cI, 40, .inl fK)), ((ma 9), .inl (cI, 40, .inl fNS)), ((ma 13), .inl (cI, 40, .inl fBs)), ((ma 15), .inl (cI, 40, .inl fEs)), ((ma 17), .inl (cI, 24, .inl fTb)), ((ma 18), .inl (cI, 80, .inl fSe)), ((ma 19), .inl (cI, 80, .inl fSs))]) (va_A [(h0, .inr (11, MO ma sv_thrown sv_length sv_nodes sv_many sv_directories sv_runsFrom sv_runs sv_read sv_wrong sv_isNamed sv_goes sv_goesSize sv_goesAt sv_targetParts sv_isRoot)), ((ma 16), .inl (cJ, 46080, .inr (.inl F))), ((ma 1), .inl (cI, 40, .inl fK)), ((ma 9), .inl (cI, 40, .inl fNS)), ((ma 13), .inl (cI, 40, .inl fBs)), ((ma 15), .inl (cI, 40, .inl fEs)), ((ma 17), .inl (cI, 24, .inl fTb)), ((ma 18), .inl (cI, 80, .inl fSe)), ((ma 19), .inl (cI, 80, .inl fSs))] sz)) 0 0 (va_A [(h0, .inr (11, MO ma sv_thrown sv_length sv_nodes sv_many sv_directories sv_runsFrom sv_runs sv_read sv_wrong sv_isNamed sv_goes sv_goesSize sv_goesAt sv_targetParts sv_isRoot)), ((ma 16), .inl (cJ, 46080, .inr (.inl F))), ((ma 1), .inl (cI, 40, .inl fK)), ((ma 9), .inl (cI, 40, .inl fNS)), ((ma 13), .inl (cI, 40, .inl fBs)), ((ma 15), .inl (cI, 40, .inl fEs)), ((ma 17), .inl (cI, 24, .inl fTb)), ((ma 18), .inl (cI, 80, .inl fSe)), ((ma 19), .inl (cI, 80, .inl fSs))] sz) := by
  refine Met.ofW (cc := b_DiscMakerModel_describe) (maxL := 4) (ret := none) (by decide) rfl ?_
  intro p e s m args below meth c s₁ B hml hv
  obtain ⟨rfl, hsz, hP, hK, hN, hD0⟩ := hv
  have hx := B.exec
  have hb := B.bytes
  have hr := B.returns
  have hts := atoms_spec (ws := w_DiscMakerModel_describe) B.pre
  have ht9 := fun (w : Cond) (h : w ∈ lw_g) => hts w (List.mem_cons_of_mem _ h)
  have hown : s.vm.findClass "DiscMakerModel" = some m.cls := findClass_of_methodNamed B.named
  have hlocks := B.notSynchronized
  subst hsz
  have hD := hD0.self (sz := s.heap.size)
  generalize hAe : va_A [(h0, .inr (11, MO ma sv_thrown sv_length sv_nodes sv_many sv_directories sv_runsFrom sv_runs sv_read sv_wrong sv_isNamed sv_goes sv_goesSize sv_goesAt sv_targetParts sv_isRoot)), ((ma 16), .inl (cJ, 46080, .inr (.inl F))), ((ma 1), .inl (cI, 40, .inl fK)), ((ma 9), .inl (cI, 40, .inl fNS)), ((ma 13), .inl (cI, 40, .inl fBs)), ((ma 15), .inl (cI, 40, .inl fEs)), ((ma 17), .inl (cI, 24, .inl fTb)), ((ma 18), .inl (cI, 80, .inl fSe)), ((ma 19), .inl (cI, 80, .inl fSs))] s.heap.size = A at hD ⊢
  have hA : ∀ q : Nat, s.heap.size ≤ q → A q := fun q h => by rw [← hAe]; exact Or.inr h
  have hS : va_S A s.heap s.heap [] := va_S.rf
  have hP : va_P D CL [(h0, .inr (11, MO ma sv_thrown sv_length sv_nodes sv_many sv_directories sv_runsFrom sv_runs sv_read sv_wrong sv_isNamed sv_goes sv_goesSize sv_goesAt sv_targetParts sv_isRoot)), ((ma 16), .inl (cJ, 46080, .inr (.inl F))), ((ma 1), .inl (cI, 40, .inl fK)), ((ma 9), .inl (cI, 40, .inl fNS)), ((ma 13), .inl (cI, 40, .inl fBs)), ((ma 15), .inl (cI, 40, .inl fEs)), ((ma 17), .inl (cI, 24, .inl fTb)), ((ma 18), .inl (cI, 80, .inl fSe)), ((ma 19), .inl (cI, 80, .inl fSs))] s.heap := hP
  have hl := lv_entry [.ref h0] (n := 4) (Nat.le_of_ble_eq_true rfl)
  rw [lg_entry_eq]
  generalize (lg_sl [.ref h0] ++ List.replicate (4 - (lg_sl [.ref h0]).length) Slot.unset).toArray = ls at hl ⊢
  have hl : lv_has ls 4 [(0, .ref h0)] := hl
  have L_m1 : ((-1) : Int32).toInt = (-1) := by decide
  have L_0 : (0 : Int32).toInt = 0 := by decide
  have L_1 : (1 : Int32).toInt = 1 := by decide
  have L_2 : (2 : Int32).toInt = 2 := by decide
  have L_3 : (3 : Int32).toInt = 3 := by decide
  have L_4 : (4 : Int32).toInt = 4 := by decide
  have L_5 : (5 : Int32).toInt = 5 := by decide
  have L_6 : (6 : Int32).toInt = 6 := by decide
  have L_8 : (8 : Int32).toInt = 8 := by decide
  have L_16 : (16 : Int32).toInt = 16 := by decide
  have L_17 : (17 : Int32).toInt = 17 := by decide
  have L_19 : (19 : Int32).toInt = 19 := by decide
  have L_20 : (20 : Int32).toInt = 20 := by decide
  have L_32 : (32 : Int32).toInt = 32 := by decide
  have L_37 : (37 : Int32).toInt = 37 := by decide
  have L_47 : (47 : Int32).toInt = 47 := by decide
  have L_48 : (48 : Int32).toInt = 48 := by decide
  have L_49 : (49 : Int32).toInt = 49 := by decide
  have L_67 : (67 : Int32).toInt = 67 := by decide
  have L_68 : (68 : Int32).toInt = 68 := by decide
  have L_69 : (69 : Int32).toInt = 69 := by decide
  have L_72 : (72 : Int32).toInt = 72 := by decide
  have L_80 : (80 : Int32).toInt = 80 := by decide
  have L_88 : (88 : Int32).toInt = 88 := by decide
  have L_89 : (89 : Int32).toInt = 89 := by decide
  have L_90 : (90 : Int32).toInt = 90 := by decide
  have L_120 : (120 : Int32).toInt = 120 := by decide
  have L_124 : (124 : Int32).toInt = 124 := by decide
  have L_128 : (128 : Int32).toInt = 128 := by decide
  have L_132 : (132 : Int32).toInt = 132 := by decide
  have L_140 : (140 : Int32).toInt = 140 := by decide
  have L_148 : (148 : Int32).toInt = 148 := by decide
  have L_156 : (156 : Int32).toInt = 156 := by decide
  have L_190 : (190 : Int32).toInt = 190 := by decide
  have L_255 : (255 : Int32).toInt = 255 := by decide
  have L_813 : (813 : Int32).toInt = 813 := by decide
  have L_881 : (881 : Int32).toInt = 881 := by decide
  have L_2048 : (2048 : Int32).toInt = 2048 := by decide
  refine lv_iconst (v := 0) hx hb d_DiscMakerModel_describe_0 (by decide) ?_
  refine lv_istore_n hx hb d_DiscMakerModel_describe_1 rfl hl (by decide) rfl (fun ls hl => ?_)
  have hl : lv_has ls 4 [(1, .int 0), (0, .ref h0)] := hl
  refine zz_labM (B := fun (lk : Nat) (K : Heap → List Loc → Array Slot → List Value → Prop) => ∀ (tx : Int32) (lF : Nat → Int64) (H : Heap) (locs : List Loc) (ls : Array Slot), lk = (3 - tx.toInt).toNat → (0 ≤ tx.toInt ∧ tx.toInt ≤ 2) → va_P D CL [(h0, .inr (11, MO ma sv_thrown sv_length sv_nodes sv_many sv_directories sv_runsFrom sv_runs sv_read sv_wrong sv_isNamed sv_goes sv_goesSize sv_goesAt sv_targetParts sv_isRoot)), ((ma 16), .inl (cJ, 46080, .inr (.inl lF))), ((ma 1), .inl (cI, 40, .inl fK)), ((ma 9), .inl (cI, 40, .inl fNS)), ((ma 13), .inl (cI, 40, .inl fBs)), ((ma 15), .inl (cI, 40, .inl fEs)), ((ma 17), .inl (cI, 24, .inl fTb)), ((ma 18), .inl (cI, 80, .inl fSe)), ((ma 19), .inl (cI, 80, .inl fSs))] H → va_D A [(h0, .inr (11, MO ma sv_thrown sv_length sv_nodes sv_many sv_directories sv_runsFrom sv_runs sv_read sv_wrong sv_isNamed sv_goes sv_goesSize sv_goesAt sv_targetParts sv_isRoot)), ((ma 16), .inl (cJ, 46080, .inr (.inl lF))), ((ma 1), .inl (cI, 40, .inl fK)), ((ma 9), .inl (cI, 40, .inl fNS)), ((ma 13), .inl (cI, 40, .inl fBs)), ((ma 15), .inl (cI, 40, .inl fEs)), ((ma 17), .inl (cI, 24, .inl fTb)), ((ma 18), .inl (cI, 80, .inl fSe)), ((ma 19), .inl (cI, 80, .inl fSs))] → va_S A s.heap H locs → lv_has ls 4 [(0, .ref h0), (1, .int tx)] → K H locs ls []) 2 ?_ ?_
  · skip
    intro lk ih2 tx lF H locs ls hm2 f1 hP hD hS hl
    have htc := i_cl (a := tx) (by omega)
    refine lv_iload_n hx hb d_DiscMakerModel_describe_2 rfl (lv_at hl 1 rfl) ?_
    refine lv_iconst (v := 3) hx hb d_DiscMakerModel_describe_3 (by decide) ?_
    refine lv_icmp_ge (tgt := 339) hx hb d_DiscMakerModel_describe_4 (by decide) (fun h_9 => ?_) (fun h_9 => ?_)
    · skip
      have g4_5 : 3 ≤ tx.toInt := (i_le (by decide) rfl).mp h_9
      have hP9 := hP.sub (ws' := [(h0, .inr (11, MO ma sv_thrown sv_length sv_nodes sv_many sv_directories sv_runsFrom sv_runs sv_read sv_wrong sv_isNamed sv_goes sv_goesSize sv_goesAt sv_targetParts sv_isRoot)), ((ma 16), .inl (cJ, 46080, .inr (.inl lF))), ((ma 1), .inl (cI, 40, .inl fK)), ((ma 9), .inl (cI, 40, .inl fNS)), ((ma 13), .inl (cI, 40, .inl fBs)), ((ma 15), .inl (cI, 40, .inl fEs)), ((ma 17), .inl (cI, 24, .inl fTb)), ((ma 18), .inl (cI, 80, .inl fSe)), ((ma 19), .inl (cI, 80, .inl fSs))]) [0, 1, 2, 3, 4, 5, 6, 7, 8] rfl
      have hD9 := hD.sub (ws' := [(h0, .inr (11, MO ma sv_thrown sv_length sv_nodes sv_many sv_directories sv_runsFrom sv_runs sv_read sv_wrong sv_isNamed sv_goes sv_goesSize sv_goesAt sv_targetParts sv_isRoot)), ((ma 16), .inl (cJ, 46080, .inr (.inl lF))), ((ma 1), .inl (cI, 40, .inl fK)), ((ma 9), .inl (cI, 40, .inl fNS)), ((ma 13), .inl (cI, 40, .inl fBs)), ((ma 15), .inl (cI, 40, .inl fEs)), ((ma 17), .inl (cI, 24, .inl fTb)), ((ma 18), .inl (cI, 80, .inl fSe)), ((ma 19), .inl (cI, 80, .inl fSs))]) [0, 1, 2, 3, 4, 5, 6, 7, 8] (by decide +kernel) rfl
      exact W.vret hx hb hr (fun t ht hW => ⟨⟨lF, rfl, trivial, by rw [ht]; exact hP9, hD9⟩, hS.F ht⟩) hS.2.2 d_DiscMakerModel_describe_339
    · skip
      have g4_5 : ¬ 3 ≤ tx.toInt := fun h8 => h_9 ((i_le (by decide) rfl).mpr h8)
      refine lv_sipush (v := 2048) hx hb d_DiscMakerModel_describe_7 (by decide) ?_
      refine lv_bipush (v := 16) hx hb d_DiscMakerModel_describe_10 (by decide) ?_
      refine lv_iload_n hx hb d_DiscMakerModel_describe_12 rfl (lv_at hl 1 rfl) ?_
      refine lv_iadd hx hb d_DiscMakerModel_describe_13 ?_
      refine lv_topi (fun v1 e_v1 => ?_)
      have t_v1 : v1.toInt = 16 + tx.toInt := by rw [e_v1]; exact i_add (by decide) rfl (by omega) (by omega)
      refine lv_imul hx hb d_DiscMakerModel_describe_14 ?_
      refine lv_topi (fun v2 e_v2 => ?_)
      have t_v2 : v2.toInt = 2048 * v1.toInt := by rw [e_v2]; exact i_mul (by decide) rfl (by omega) (by omega)
      refine lv_istore_n hx hb d_DiscMakerModel_describe_15 rfl hl (by decide) rfl (fun ls hl => ?_)
      have hl : lv_has ls 4 [(2, .int v2), (0, .ref h0), (1, .int tx)] := hl
      refine lv_aload_n hx hb d_DiscMakerModel_describe_16 rfl (lv_at hl 1 rfl) ?_
      refine lv_iload_n hx hb d_DiscMakerModel_describe_17 rfl (lv_at hl 0 rfl) ?_
      refine zz_labM (B := fun (lk : Nat) (K : Heap → List Loc → Array Slot → List Value → Prop) => ∀ (jA : Nat → Int64) (H : Heap) (locs : List Loc) (ls : Array Slot), lk = 0 → va_P D CL [(h0, .inr (11, MO ma sv_thrown sv_length sv_nodes sv_many sv_directories sv_runsFrom sv_runs sv_read sv_wrong sv_isNamed sv_goes sv_goesSize sv_goesAt sv_targetParts sv_isRoot)), ((ma 16), .inl (cJ, 46080, .inr (.inl jA))), ((ma 1), .inl (cI, 40, .inl fK)), ((ma 9), .inl (cI, 40, .inl fNS)), ((ma 13), .inl (cI, 40, .inl fBs)), ((ma 15), .inl (cI, 40, .inl fEs)), ((ma 17), .inl (cI, 24, .inl fTb)), ((ma 18), .inl (cI, 80, .inl fSe)), ((ma 19), .inl (cI, 80, .inl fSs))] H → va_D A [(h0, .inr (11, MO ma sv_thrown sv_length sv_nodes sv_many sv_directories sv_runsFrom sv_runs sv_read sv_wrong sv_isNamed sv_goes sv_goesSize sv_goesAt sv_targetParts sv_isRoot)), ((ma 16), .inl (cJ, 46080, .inr (.inl jA))), ((ma 1), .inl (cI, 40, .inl fK)), ((ma 9), .inl (cI, 40, .inl fNS)), ((ma 13), .inl (cI, 40, .inl fBs)), ((ma 15), .inl (cI, 40, .inl fEs)), ((ma 17), .inl (cI, 24, .inl fTb)), ((ma 18), .inl (cI, 80, .inl fSe)), ((ma 19), .inl (cI, 80, .inl fSs))] → va_S A s.heap H locs → lv_has ls 4 [(0, .ref h0), (1, .int tx), (2, .int v2)] → K H locs ls []) 35 ?_ ?_
      · skip
        intro lk ih35 jA H locs ls hm35 hP hD hS hl
        refine lv_aload_n hx hb d_DiscMakerModel_describe_35 rfl (lv_at hl 0 rfl) ?_
        refine lv_iload_n hx hb d_DiscMakerModel_describe_36 rfl (lv_at hl 2 rfl) ?_
        refine lv_iconst (v := 1) hx hb d_DiscMakerModel_describe_37 (by decide) ?_
        refine lv_iadd hx hb d_DiscMakerModel_describe_38 ?_
        refine lv_topi (fun v3 e_v3 => ?_)
        have t_v3 : v3.toInt = v2.toInt + 1 := by rw [e_v3]; exact i_add rfl (by decide) (by omega) (by omega)
        refine lv_bipush (v := 67) hx hb d_DiscMakerModel_describe_39 (by decide) ?_
        have hPc := hP.sub (ws' := [(h0, .inr (11, MO ma sv_thrown sv_length sv_nodes sv_many sv_directories sv_runsFrom sv_runs sv_read sv_wrong sv_isNamed sv_goes sv_goesSize sv_goesAt sv_targetParts sv_isRoot)), ((ma 16), .inl (cJ, 46080, .inr (.inl jA)))]) [0, 1] rfl
        have hDc := hD.sub (ws' := [(h0, .inr (11, MO ma sv_thrown sv_length sv_nodes sv_many sv_directories sv_runsFrom sv_runs sv_read sv_wrong sv_isNamed sv_goes sv_goesSize sv_goesAt sv_targetParts sv_isRoot)), ((ma 16), .inl (cJ, 46080, .inr (.inl jA)))]) [0, 1] (by decide +kernel) rfl
        have hFc := va_free (wc := [(h0, .inr (11, MO ma sv_thrown sv_length sv_nodes sv_many sv_directories sv_runsFrom sv_runs sv_read sv_wrong sv_isNamed sv_goes sv_goesSize sv_goesAt sv_targetParts sv_isRoot)), ((ma 16), .inl (cJ, 46080, .inr (.inl jA)))]) hD hS hA [0, 1] rfl
        have hkc : 0 ≤ 0 := by decide
        have hks : 0 ≤ 0 := by decide
        refine va_callv (va_runV (C := "DiscMakerModel") (As := [.int v3, .int 67]) (rest := []) ⟨hx, hb, hml, hown, hts⟩ (m_set l D cB cI cJ cZ cN cF H.size h0 ma sv_thrown sv_length sv_nodes sv_many sv_directories sv_runsFrom sv_runs sv_read sv_wrong sv_isNamed sv_goes sv_goesSize sv_goesAt sv_targetParts sv_isRoot jA v3 67 (by (try dsimp only); first | assumption | omega | trivial) (by (try dsimp only); first | assumption | omega | trivial)) (cwV 2 hts (lg_goodV k1727 k1729 k79 k125 kc_DiscMakerModel_set) rfl rfl rfl (by decide +kernel) ⟨Nat.le_of_ble_eq_true rfl, Nat.le_of_ble_eq_true rfl⟩) ⟨fun a U g mk q => by obtain ⟨q0, q1, qP, qK, qN, qD⟩ := q; exact ⟨q0, q1, qP, va_K.moved (u := U) (U := U.calling g mk a) (Vm.Alike.refl U.vm) qK, qN.calling, qD⟩, va_recv hK hP (ci := 11) (q0 := 0) rfl rfl, fun U hU hW => ⟨rfl, by rw [hU], by rw [hU]; exact hPc, va_K.moved hW.alike hK, NN.warm hW hN, hDc.weaken (fun _ _ _ _ => trivial)⟩⟩ rfl rfl hl.1 rfl (lv_room (Nat.le_of_ble_eq_true rfl)) d_DiscMakerModel_describe_41 ⟨hkc, hks⟩) hS (fun q _ h => hFc q h) hFc (fun u t H1 locs ht hvm hp_r4 hB hz1 hk1 hS => ?_)
        obtain ⟨G_5, rfl⟩ : ∃ z, z = u := ⟨_, rfl⟩
        obtain ⟨hP1, hD1⟩ := hB
        rw [ht] at hP1
        obtain ⟨hP, hD⟩ := va_join (wr := [((ma 1), .inl (cI, 40, .inl fK)), ((ma 9), .inl (cI, 40, .inl fNS)), ((ma 13), .inl (cI, 40, .inl fBs)), ((ma 15), .inl (cI, 40, .inl fEs)), ((ma 17), .inl (cI, 24, .inl fTb)), ((ma 18), .inl (cI, 80, .inl fSe)), ((ma 19), .inl (cI, 80, .inl fSs))]) (w1 := [(h0, .inr (11, MO ma sv_thrown sv_length sv_nodes sv_many sv_directories sv_runsFrom sv_runs sv_read sv_wrong sv_isNamed sv_goes sv_goesSize sv_goesAt sv_targetParts sv_isRoot)), ((ma 16), .inl (cJ, 46080, .inr (.inl G_5)))]) hP hD [0, 1] [2, 3, 4, 5, 6, 7, 8] rfl rfl (by decide +kernel) (by decide +kernel) hk1 hFc hP1 hD1
        clear hPc hDc hFc hP1 hD1 hk1 hz1 hkc hks
        generalize H1 = H at hP hS ⊢
        have hP : va_P D CL [((ma 1), .inl (cI, 40, .inl fK)), ((ma 9), .inl (cI, 40, .inl fNS)), ((ma 13), .inl (cI, 40, .inl fBs)), ((ma 15), .inl (cI, 40, .inl fEs)), ((ma 17), .inl (cI, 24, .inl fTb)), ((ma 18), .inl (cI, 80, .inl fSe)), ((ma 19), .inl (cI, 80, .inl fSs)), (h0, .inr (11, MO ma sv_thrown sv_length sv_nodes sv_many sv_directories sv_runsFrom sv_runs sv_read sv_wrong sv_isNamed sv_goes sv_goesSize sv_goesAt sv_targetParts sv_isRoot)), ((ma 16), .inl (cJ, 46080, .inr (.inl G_5)))] H := hP
        have hD : va_D A [((ma 1), .inl (cI, 40, .inl fK)), ((ma 9), .inl (cI, 40, .inl fNS)), ((ma 13), .inl (cI, 40, .inl fBs)), ((ma 15), .inl (cI, 40, .inl fEs)), ((ma 17), .inl (cI, 24, .inl fTb)), ((ma 18), .inl (cI, 80, .inl fSe)), ((ma 19), .inl (cI, 80, .inl fSs)), (h0, .inr (11, MO ma sv_thrown sv_length sv_nodes sv_many sv_directories sv_runsFrom sv_runs sv_read sv_wrong sv_isNamed sv_goes sv_goesSize sv_goesAt sv_targetParts sv_isRoot)), ((ma 16), .inl (cJ, 46080, .inr (.inl G_5)))] := hD
        refine lv_aload_n hx hb d_DiscMakerModel_describe_44 rfl (lv_at hl 0 rfl) ?_
        refine lv_iload_n hx hb d_DiscMakerModel_describe_45 rfl (lv_at hl 2 rfl) ?_
        refine lv_iconst (v := 2) hx hb d_DiscMakerModel_describe_46 (by decide) ?_
        refine lv_iadd hx hb d_DiscMakerModel_describe_47 ?_
        refine lv_topi (fun v6 e_v6 => ?_)
        have t_v6 : v6.toInt = v2.toInt + 2 := by rw [e_v6]; exact i_add rfl (by decide) (by omega) (by omega)
        refine lv_bipush (v := 68) hx hb d_DiscMakerModel_describe_48 (by decide) ?_
        have hPc := hP.sub (ws' := [(h0, .inr (11, MO ma sv_thrown sv_length sv_nodes sv_many sv_directories sv_runsFrom sv_runs sv_read sv_wrong sv_isNamed sv_goes sv_goesSize sv_goesAt sv_targetParts sv_isRoot)), ((ma 16), .inl (cJ, 46080, .inr (.inl G_5)))]) [7, 8] rfl
        have hDc := hD.sub (ws' := [(h0, .inr (11, MO ma sv_thrown sv_length sv_nodes sv_many sv_directories sv_runsFrom sv_runs sv_read sv_wrong sv_isNamed sv_goes sv_goesSize sv_goesAt sv_targetParts sv_isRoot)), ((ma 16), .inl (cJ, 46080, .inr (.inl G_5)))]) [7, 8] (by decide +kernel) rfl
        have hFc := va_free (wc := [(h0, .inr (11, MO ma sv_thrown sv_length sv_nodes sv_many sv_directories sv_runsFrom sv_runs sv_read sv_wrong sv_isNamed sv_goes sv_goesSize sv_goesAt sv_targetParts sv_isRoot)), ((ma 16), .inl (cJ, 46080, .inr (.inl G_5)))]) hD hS hA [7, 8] rfl
        have hkc : 0 ≤ 0 := by decide
        have hks : 0 ≤ 0 := by decide
        refine va_callv (va_runV (C := "DiscMakerModel") (As := [.int v6, .int 68]) (rest := []) ⟨hx, hb, hml, hown, hts⟩ (m_set l D cB cI cJ cZ cN cF H.size h0 ma sv_thrown sv_length sv_nodes sv_many sv_directories sv_runsFrom sv_runs sv_read sv_wrong sv_isNamed sv_goes sv_goesSize sv_goesAt sv_targetParts sv_isRoot G_5 v6 68 (by (try dsimp only); first | assumption | omega | trivial) (by (try dsimp only); first | assumption | omega | trivial)) (cwV 2 hts (lg_goodV k1727 k1729 k79 k125 kc_DiscMakerModel_set) rfl rfl rfl (by decide +kernel) ⟨Nat.le_of_ble_eq_true rfl, Nat.le_of_ble_eq_true rfl⟩) ⟨fun a U g mk q => by obtain ⟨q0, q1, qP, qK, qN, qD⟩ := q; exact ⟨q0, q1, qP, va_K.moved (u := U) (U := U.calling g mk a) (Vm.Alike.refl U.vm) qK, qN.calling, qD⟩, va_recv hK hP (ci := 11) (q0 := 7) rfl rfl, fun U hU hW => ⟨rfl, by rw [hU], by rw [hU]; exact hPc, va_K.moved hW.alike hK, NN.warm hW hN, hDc.weaken (fun _ _ _ _ => trivial)⟩⟩ rfl rfl hl.1 rfl (lv_room (Nat.le_of_ble_eq_true rfl)) d_DiscMakerModel_describe_50 ⟨hkc, hks⟩) hS (fun q _ h => hFc q h) hFc (fun u t H1 locs ht hvm hp_r7 hB hz1 hk1 hS => ?_)
        obtain ⟨G_8, rfl⟩ : ∃ z, z = u := ⟨_, rfl⟩
        obtain ⟨hP1, hD1⟩ := hB
        rw [ht] at hP1
        obtain ⟨hP, hD⟩ := va_join (wr := [((ma 1), .inl (cI, 40, .inl fK)), ((ma 9), .inl (cI, 40, .inl fNS)), ((ma 13), .inl (cI, 40, .inl fBs)), ((ma 15), .inl (cI, 40, .inl fEs)), ((ma 17), .inl (cI, 24, .inl fTb)), ((ma 18), .inl (cI, 80, .inl fSe)), ((ma 19), .inl (cI, 80, .inl fSs))]) (w1 := [(h0, .inr (11, MO ma sv_thrown sv_length sv_nodes sv_many sv_directories sv_runsFrom sv_runs sv_read sv_wrong sv_isNamed sv_goes sv_goesSize sv_goesAt sv_targetParts sv_isRoot)), ((ma 16), .inl (cJ, 46080, .inr (.inl G_8)))]) hP hD [7, 8] [0, 1, 2, 3, 4, 5, 6] rfl rfl (by decide +kernel) (by decide +kernel) hk1 hFc hP1 hD1
        clear hPc hDc hFc hP1 hD1 hk1 hz1 hkc hks
        generalize H1 = H at hP hS ⊢
        have hP : va_P D CL [((ma 1), .inl (cI, 40, .inl fK)), ((ma 9), .inl (cI, 40, .inl fNS)), ((ma 13), .inl (cI, 40, .inl fBs)), ((ma 15), .inl (cI, 40, .inl fEs)), ((ma 17), .inl (cI, 24, .inl fTb)), ((ma 18), .inl (cI, 80, .inl fSe)), ((ma 19), .inl (cI, 80, .inl fSs)), (h0, .inr (11, MO ma sv_thrown sv_length sv_nodes sv_many sv_directories sv_runsFrom sv_runs sv_read sv_wrong sv_isNamed sv_goes sv_goesSize sv_goesAt sv_targetParts sv_isRoot)), ((ma 16), .inl (cJ, 46080, .inr (.inl G_8)))] H := hP
        have hD : va_D A [((ma 1), .inl (cI, 40, .inl fK)), ((ma 9), .inl (cI, 40, .inl fNS)), ((ma 13), .inl (cI, 40, .inl fBs)), ((ma 15), .inl (cI, 40, .inl fEs)), ((ma 17), .inl (cI, 24, .inl fTb)), ((ma 18), .inl (cI, 80, .inl fSe)), ((ma 19), .inl (cI, 80, .inl fSs)), (h0, .inr (11, MO ma sv_thrown sv_length sv_nodes sv_many sv_directories sv_runsFrom sv_runs sv_read sv_wrong sv_isNamed sv_goes sv_goesSize sv_goesAt sv_targetParts sv_isRoot)), ((ma 16), .inl (cJ, 46080, .inr (.inl G_8)))] := hD
        refine lv_aload_n hx hb d_DiscMakerModel_describe_53 rfl (lv_at hl 0 rfl) ?_
        refine lv_iload_n hx hb d_DiscMakerModel_describe_54 rfl (lv_at hl 2 rfl) ?_
        refine lv_iconst (v := 3) hx hb d_DiscMakerModel_describe_55 (by decide) ?_
        refine lv_iadd hx hb d_DiscMakerModel_describe_56 ?_
        refine lv_topi (fun v9 e_v9 => ?_)
        have t_v9 : v9.toInt = v2.toInt + 3 := by rw [e_v9]; exact i_add rfl (by decide) (by omega) (by omega)
        refine lv_bipush (v := 48) hx hb d_DiscMakerModel_describe_57 (by decide) ?_
        have hPc := hP.sub (ws' := [(h0, .inr (11, MO ma sv_thrown sv_length sv_nodes sv_many sv_directories sv_runsFrom sv_runs sv_read sv_wrong sv_isNamed sv_goes sv_goesSize sv_goesAt sv_targetParts sv_isRoot)), ((ma 16), .inl (cJ, 46080, .inr (.inl G_8)))]) [7, 8] rfl
        have hDc := hD.sub (ws' := [(h0, .inr (11, MO ma sv_thrown sv_length sv_nodes sv_many sv_directories sv_runsFrom sv_runs sv_read sv_wrong sv_isNamed sv_goes sv_goesSize sv_goesAt sv_targetParts sv_isRoot)), ((ma 16), .inl (cJ, 46080, .inr (.inl G_8)))]) [7, 8] (by decide +kernel) rfl
        have hFc := va_free (wc := [(h0, .inr (11, MO ma sv_thrown sv_length sv_nodes sv_many sv_directories sv_runsFrom sv_runs sv_read sv_wrong sv_isNamed sv_goes sv_goesSize sv_goesAt sv_targetParts sv_isRoot)), ((ma 16), .inl (cJ, 46080, .inr (.inl G_8)))]) hD hS hA [7, 8] rfl
        have hkc : 0 ≤ 0 := by decide
        have hks : 0 ≤ 0 := by decide
        refine va_callv (va_runV (C := "DiscMakerModel") (As := [.int v9, .int 48]) (rest := []) ⟨hx, hb, hml, hown, hts⟩ (m_set l D cB cI cJ cZ cN cF H.size h0 ma sv_thrown sv_length sv_nodes sv_many sv_directories sv_runsFrom sv_runs sv_read sv_wrong sv_isNamed sv_goes sv_goesSize sv_goesAt sv_targetParts sv_isRoot G_8 v9 48 (by (try dsimp only); first | assumption | omega | trivial) (by (try dsimp only); first | assumption | omega | trivial)) (cwV 2 hts (lg_goodV k1727 k1729 k79 k125 kc_DiscMakerModel_set) rfl rfl rfl (by decide +kernel) ⟨Nat.le_of_ble_eq_true rfl, Nat.le_of_ble_eq_true rfl⟩) ⟨fun a U g mk q => by obtain ⟨q0, q1, qP, qK, qN, qD⟩ := q; exact ⟨q0, q1, qP, va_K.moved (u := U) (U := U.calling g mk a) (Vm.Alike.refl U.vm) qK, qN.calling, qD⟩, va_recv hK hP (ci := 11) (q0 := 7) rfl rfl, fun U hU hW => ⟨rfl, by rw [hU], by rw [hU]; exact hPc, va_K.moved hW.alike hK, NN.warm hW hN, hDc.weaken (fun _ _ _ _ => trivial)⟩⟩ rfl rfl hl.1 rfl (lv_room (Nat.le_of_ble_eq_true rfl)) d_DiscMakerModel_describe_59 ⟨hkc, hks⟩) hS (fun q _ h => hFc q h) hFc (fun u t H1 locs ht hvm hp_r10 hB hz1 hk1 hS => ?_)
        obtain ⟨G_11, rfl⟩ : ∃ z, z = u := ⟨_, rfl⟩
        obtain ⟨hP1, hD1⟩ := hB
        rw [ht] at hP1
        obtain ⟨hP, hD⟩ := va_join (wr := [((ma 1), .inl (cI, 40, .inl fK)), ((ma 9), .inl (cI, 40, .inl fNS)), ((ma 13), .inl (cI, 40, .inl fBs)), ((ma 15), .inl (cI, 40, .inl fEs)), ((ma 17), .inl (cI, 24, .inl fTb)), ((ma 18), .inl (cI, 80, .inl fSe)), ((ma 19), .inl (cI, 80, .inl fSs))]) (w1 := [(h0, .inr (11, MO ma sv_thrown sv_length sv_nodes sv_many sv_directories sv_runsFrom sv_runs sv_read sv_wrong sv_isNamed sv_goes sv_goesSize sv_goesAt sv_targetParts sv_isRoot)), ((ma 16), .inl (cJ, 46080, .inr (.inl G_11)))]) hP hD [7, 8] [0, 1, 2, 3, 4, 5, 6] rfl rfl (by decide +kernel) (by decide +kernel) hk1 hFc hP1 hD1
        clear hPc hDc hFc hP1 hD1 hk1 hz1 hkc hks
        generalize H1 = H at hP hS ⊢
        have hP : va_P D CL [((ma 1), .inl (cI, 40, .inl fK)), ((ma 9), .inl (cI, 40, .inl fNS)), ((ma 13), .inl (cI, 40, .inl fBs)), ((ma 15), .inl (cI, 40, .inl fEs)), ((ma 17), .inl (cI, 24, .inl fTb)), ((ma 18), .inl (cI, 80, .inl fSe)), ((ma 19), .inl (cI, 80, .inl fSs)), (h0, .inr (11, MO ma sv_thrown sv_length sv_nodes sv_many sv_directories sv_runsFrom sv_runs sv_read sv_wrong sv_isNamed sv_goes sv_goesSize sv_goesAt sv_targetParts sv_isRoot)), ((ma 16), .inl (cJ, 46080, .inr (.inl G_11)))] H := hP
        have hD : va_D A [((ma 1), .inl (cI, 40, .inl fK)), ((ma 9), .inl (cI, 40, .inl fNS)), ((ma 13), .inl (cI, 40, .inl fBs)), ((ma 15), .inl (cI, 40, .inl fEs)), ((ma 17), .inl (cI, 24, .inl fTb)), ((ma 18), .inl (cI, 80, .inl fSe)), ((ma 19), .inl (cI, 80, .inl fSs)), (h0, .inr (11, MO ma sv_thrown sv_length sv_nodes sv_many sv_directories sv_runsFrom sv_runs sv_read sv_wrong sv_isNamed sv_goes sv_goesSize sv_goesAt sv_targetParts sv_isRoot)), ((ma 16), .inl (cJ, 46080, .inr (.inl G_11)))] := hD
        refine lv_aload_n hx hb d_DiscMakerModel_describe_62 rfl (lv_at hl 0 rfl) ?_
        refine lv_iload_n hx hb d_DiscMakerModel_describe_63 rfl (lv_at hl 2 rfl) ?_
        refine lv_iconst (v := 4) hx hb d_DiscMakerModel_describe_64 (by decide) ?_
        refine lv_iadd hx hb d_DiscMakerModel_describe_65 ?_
        refine lv_topi (fun v12 e_v12 => ?_)
        have t_v12 : v12.toInt = v2.toInt + 4 := by rw [e_v12]; exact i_add rfl (by decide) (by omega) (by omega)
        refine lv_bipush (v := 48) hx hb d_DiscMakerModel_describe_66 (by decide) ?_
        have hPc := hP.sub (ws' := [(h0, .inr (11, MO ma sv_thrown sv_length sv_nodes sv_many sv_directories sv_runsFrom sv_runs sv_read sv_wrong sv_isNamed sv_goes sv_goesSize sv_goesAt sv_targetParts sv_isRoot)), ((ma 16), .inl (cJ, 46080, .inr (.inl G_11)))]) [7, 8] rfl
        have hDc := hD.sub (ws' := [(h0, .inr (11, MO ma sv_thrown sv_length sv_nodes sv_many sv_directories sv_runsFrom sv_runs sv_read sv_wrong sv_isNamed sv_goes sv_goesSize sv_goesAt sv_targetParts sv_isRoot)), ((ma 16), .inl (cJ, 46080, .inr (.inl G_11)))]) [7, 8] (by decide +kernel) rfl
        have hFc := va_free (wc := [(h0, .inr (11, MO ma sv_thrown sv_length sv_nodes sv_many sv_directories sv_runsFrom sv_runs sv_read sv_wrong sv_isNamed sv_goes sv_goesSize sv_goesAt sv_targetParts sv_isRoot)), ((ma 16), .inl (cJ, 46080, .inr (.inl G_11)))]) hD hS hA [7, 8] rfl
        have hkc : 0 ≤ 0 := by decide
        have hks : 0 ≤ 0 := by decide
        refine va_callv (va_runV (C := "DiscMakerModel") (As := [.int v12, .int 48]) (rest := []) ⟨hx, hb, hml, hown, hts⟩ (m_set l D cB cI cJ cZ cN cF H.size h0 ma sv_thrown sv_length sv_nodes sv_many sv_directories sv_runsFrom sv_runs sv_read sv_wrong sv_isNamed sv_goes sv_goesSize sv_goesAt sv_targetParts sv_isRoot G_11 v12 48 (by (try dsimp only); first | assumption | omega | trivial) (by (try dsimp only); first | assumption | omega | trivial)) (cwV 2 hts (lg_goodV k1727 k1729 k79 k125 kc_DiscMakerModel_set) rfl rfl rfl (by decide +kernel) ⟨Nat.le_of_ble_eq_true rfl, Nat.le_of_ble_eq_true rfl⟩) ⟨fun a U g mk q => by obtain ⟨q0, q1, qP, qK, qN, qD⟩ := q; exact ⟨q0, q1, qP, va_K.moved (u := U) (U := U.calling g mk a) (Vm.Alike.refl U.vm) qK, qN.calling, qD⟩, va_recv hK hP (ci := 11) (q0 := 7) rfl rfl, fun U hU hW => ⟨rfl, by rw [hU], by rw [hU]; exact hPc, va_K.moved hW.alike hK, NN.warm hW hN, hDc.weaken (fun _ _ _ _ => trivial)⟩⟩ rfl rfl hl.1 rfl (lv_room (Nat.le_of_ble_eq_true rfl)) d_DiscMakerModel_describe_68 ⟨hkc, hks⟩) hS (fun q _ h => hFc q h) hFc (fun u t H1 locs ht hvm hp_r13 hB hz1 hk1 hS => ?_)
        obtain ⟨G_14, rfl⟩ : ∃ z, z = u := ⟨_, rfl⟩
        obtain ⟨hP1, hD1⟩ := hB
        rw [ht] at hP1
        obtain ⟨hP, hD⟩ := va_join (wr := [((ma 1), .inl (cI, 40, .inl fK)), ((ma 9), .inl (cI, 40, .inl fNS)), ((ma 13), .inl (cI, 40, .inl fBs)), ((ma 15), .inl (cI, 40, .inl fEs)), ((ma 17), .inl (cI, 24, .inl fTb)), ((ma 18), .inl (cI, 80, .inl fSe)), ((ma 19), .inl (cI, 80, .inl fSs))]) (w1 := [(h0, .inr (11, MO ma sv_thrown sv_length sv_nodes sv_many sv_directories sv_runsFrom sv_runs sv_read sv_wrong sv_isNamed sv_goes sv_goesSize sv_goesAt sv_targetParts sv_isRoot)), ((ma 16), .inl (cJ, 46080, .inr (.inl G_14)))]) hP hD [7, 8] [0, 1, 2, 3, 4, 5, 6] rfl rfl (by decide +kernel) (by decide +kernel) hk1 hFc hP1 hD1
        clear hPc hDc hFc hP1 hD1 hk1 hz1 hkc hks
        generalize H1 = H at hP hS ⊢
        have hP : va_P D CL [((ma 1), .inl (cI, 40, .inl fK)), ((ma 9), .inl (cI, 40, .inl fNS)), ((ma 13), .inl (cI, 40, .inl fBs)), ((ma 15), .inl (cI, 40, .inl fEs)), ((ma 17), .inl (cI, 24, .inl fTb)), ((ma 18), .inl (cI, 80, .inl fSe)), ((ma 19), .inl (cI, 80, .inl fSs)), (h0, .inr (11, MO ma sv_thrown sv_length sv_nodes sv_many sv_directories sv_runsFrom sv_runs sv_read sv_wrong sv_isNamed sv_goes sv_goesSize sv_goesAt sv_targetParts sv_isRoot)), ((ma 16), .inl (cJ, 46080, .inr (.inl G_14)))] H := hP
        have hD : va_D A [((ma 1), .inl (cI, 40, .inl fK)), ((ma 9), .inl (cI, 40, .inl fNS)), ((ma 13), .inl (cI, 40, .inl fBs)), ((ma 15), .inl (cI, 40, .inl fEs)), ((ma 17), .inl (cI, 24, .inl fTb)), ((ma 18), .inl (cI, 80, .inl fSe)), ((ma 19), .inl (cI, 80, .inl fSs)), (h0, .inr (11, MO ma sv_thrown sv_length sv_nodes sv_many sv_directories sv_runsFrom sv_runs sv_read sv_wrong sv_isNamed sv_goes sv_goesSize sv_goesAt sv_targetParts sv_isRoot)), ((ma 16), .inl (cJ, 46080, .inr (.inl G_14)))] := hD
        refine lv_aload_n hx hb d_DiscMakerModel_describe_71 rfl (lv_at hl 0 rfl) ?_
        refine lv_iload_n hx hb d_DiscMakerModel_describe_72 rfl (lv_at hl 2 rfl) ?_
        refine lv_iconst (v := 5) hx hb d_DiscMakerModel_describe_73 (by decide) ?_
        refine lv_iadd hx hb d_DiscMakerModel_describe_74 ?_
        refine lv_topi (fun v15 e_v15 => ?_)
        have t_v15 : v15.toInt = v2.toInt + 5 := by rw [e_v15]; exact i_add rfl (by decide) (by omega) (by omega)
        refine lv_bipush (v := 49) hx hb d_DiscMakerModel_describe_75 (by decide) ?_
        have hPc := hP.sub (ws' := [(h0, .inr (11, MO ma sv_thrown sv_length sv_nodes sv_many sv_directories sv_runsFrom sv_runs sv_read sv_wrong sv_isNamed sv_goes sv_goesSize sv_goesAt sv_targetParts sv_isRoot)), ((ma 16), .inl (cJ, 46080, .inr (.inl G_14)))]) [7, 8] rfl
        have hDc := hD.sub (ws' := [(h0, .inr (11, MO ma sv_thrown sv_length sv_nodes sv_many sv_directories sv_runsFrom sv_runs sv_read sv_wrong sv_isNamed sv_goes sv_goesSize sv_goesAt sv_targetParts sv_isRoot)), ((ma 16), .inl (cJ, 46080, .inr (.inl G_14)))]) [7, 8] (by decide +kernel) rfl
        have hFc := va_free (wc := [(h0, .inr (11, MO ma sv_thrown sv_length sv_nodes sv_many sv_directories sv_runsFrom sv_runs sv_read sv_wrong sv_isNamed sv_goes sv_goesSize sv_goesAt sv_targetParts sv_isRoot)), ((ma 16), .inl (cJ, 46080, .inr (.inl G_14)))]) hD hS hA [7, 8] rfl
        have hkc : 0 ≤ 0 := by decide
        have hks : 0 ≤ 0 := by decide
        refine va_callv (va_runV (C := "DiscMakerModel") (As := [.int v15, .int 49]) (rest := []) ⟨hx, hb, hml, hown, hts⟩ (m_set l D cB cI cJ cZ cN cF H.size h0 ma sv_thrown sv_length sv_nodes sv_many sv_directories sv_runsFrom sv_runs sv_read sv_wrong sv_isNamed sv_goes sv_goesSize sv_goesAt sv_targetParts sv_isRoot G_14 v15 49 (by (try dsimp only); first | assumption | omega | trivial) (by (try dsimp only); first | assumption | omega | trivial)) (cwV 2 hts (lg_goodV k1727 k1729 k79 k125 kc_DiscMakerModel_set) rfl rfl rfl (by decide +kernel) ⟨Nat.le_of_ble_eq_true rfl, Nat.le_of_ble_eq_true rfl⟩) ⟨fun a U g mk q => by obtain ⟨q0, q1, qP, qK, qN, qD⟩ := q; exact ⟨q0, q1, qP, va_K.moved (u := U) (U := U.calling g mk a) (Vm.Alike.refl U.vm) qK, qN.calling, qD⟩, va_recv hK hP (ci := 11) (q0 := 7) rfl rfl, fun U hU hW => ⟨rfl, by rw [hU], by rw [hU]; exact hPc, va_K.moved hW.alike hK, NN.warm hW hN, hDc.weaken (fun _ _ _ _ => trivial)⟩⟩ rfl rfl hl.1 rfl (lv_room (Nat.le_of_ble_eq_true rfl)) d_DiscMakerModel_describe_77 ⟨hkc, hks⟩) hS (fun q _ h => hFc q h) hFc (fun u t H1 locs ht hvm hp_r16 hB hz1 hk1 hS => ?_)
        obtain ⟨G_17, rfl⟩ : ∃ z, z = u := ⟨_, rfl⟩
        obtain ⟨hP1, hD1⟩ := hB
        rw [ht] at hP1
        obtain ⟨hP, hD⟩ := va_join (wr := [((ma 1), .inl (cI, 40, .inl fK)), ((ma 9), .inl (cI, 40, .inl fNS)), ((ma 13), .inl (cI, 40, .inl fBs)), ((ma 15), .inl (cI, 40, .inl fEs)), ((ma 17), .inl (cI, 24, .inl fTb)), ((ma 18), .inl (cI, 80, .inl fSe)), ((ma 19), .inl (cI, 80, .inl fSs))]) (w1 := [(h0, .inr (11, MO ma sv_thrown sv_length sv_nodes sv_many sv_directories sv_runsFrom sv_runs sv_read sv_wrong sv_isNamed sv_goes sv_goesSize sv_goesAt sv_targetParts sv_isRoot)), ((ma 16), .inl (cJ, 46080, .inr (.inl G_17)))]) hP hD [7, 8] [0, 1, 2, 3, 4, 5, 6] rfl rfl (by decide +kernel) (by decide +kernel) hk1 hFc hP1 hD1
        clear hPc hDc hFc hP1 hD1 hk1 hz1 hkc hks
        generalize H1 = H at hP hS ⊢
        have hP : va_P D CL [((ma 1), .inl (cI, 40, .inl fK)), ((ma 9), .inl (cI, 40, .inl fNS)), ((ma 13), .inl (cI, 40, .inl fBs)), ((ma 15), .inl (cI, 40, .inl fEs)), ((ma 17), .inl (cI, 24, .inl fTb)), ((ma 18), .inl (cI, 80, .inl fSe)), ((ma 19), .inl (cI, 80, .inl fSs)), (h0, .inr (11, MO ma sv_thrown sv_length sv_nodes sv_many sv_directories sv_runsFrom sv_runs sv_read sv_wrong sv_isNamed sv_goes sv_goesSize sv_goesAt sv_targetParts sv_isRoot)), ((ma 16), .inl (cJ, 46080, .inr (.inl G_17)))] H := hP
        have hD : va_D A [((ma 1), .inl (cI, 40, .inl fK)), ((ma 9), .inl (cI, 40, .inl fNS)), ((ma 13), .inl (cI, 40, .inl fBs)), ((ma 15), .inl (cI, 40, .inl fEs)), ((ma 17), .inl (cI, 24, .inl fTb)), ((ma 18), .inl (cI, 80, .inl fSe)), ((ma 19), .inl (cI, 80, .inl fSs)), (h0, .inr (11, MO ma sv_thrown sv_length sv_nodes sv_many sv_directories sv_runsFrom sv_runs sv_read sv_wrong sv_isNamed sv_goes sv_goesSize sv_goesAt sv_targetParts sv_isRoot)), ((ma 16), .inl (cJ, 46080, .inr (.inl G_17)))] := hD
        refine lv_aload_n hx hb d_DiscMakerModel_describe_80 rfl (lv_at hl 0 rfl) ?_
        refine lv_iload_n hx hb d_DiscMakerModel_describe_81 rfl (lv_at hl 2 rfl) ?_
        refine lv_bipush (v := 6) hx hb d_DiscMakerModel_describe_82 (by decide) ?_
        refine lv_iadd hx hb d_DiscMakerModel_describe_84 ?_
        refine lv_topi (fun v18 e_v18 => ?_)
        have t_v18 : v18.toInt = v2.toInt + 6 := by rw [e_v18]; exact i_add rfl (by decide) (by omega) (by omega)
        refine lv_iconst (v := 1) hx hb d_DiscMakerModel_describe_85 (by decide) ?_
        have hPc := hP.sub (ws' := [(h0, .inr (11, MO ma sv_thrown sv_length sv_nodes sv_many sv_directories sv_runsFrom sv_runs sv_read sv_wrong sv_isNamed sv_goes sv_goesSize sv_goesAt sv_targetParts sv_isRoot)), ((ma 16), .inl (cJ, 46080, .inr (.inl G_17)))]) [7, 8] rfl
        have hDc := hD.sub (ws' := [(h0, .inr (11, MO ma sv_thrown sv_length sv_nodes sv_many sv_directories sv_runsFrom sv_runs sv_read sv_wrong sv_isNamed sv_goes sv_goesSize sv_goesAt sv_targetParts sv_isRoot)), ((ma 16), .inl (cJ, 46080, .inr (.inl G_17)))]) [7, 8] (by decide +kernel) rfl
        have hFc := va_free (wc := [(h0, .inr (11, MO ma sv_thrown sv_length sv_nodes sv_many sv_directories sv_runsFrom sv_runs sv_read sv_wrong sv_isNamed sv_goes sv_goesSize sv_goesAt sv_targetParts sv_isRoot)), ((ma 16), .inl (cJ, 46080, .inr (.inl G_17)))]) hD hS hA [7, 8] rfl
        have hkc : 0 ≤ 0 := by decide
        have hks : 0 ≤ 0 := by decide
        refine va_callv (va_runV (C := "DiscMakerModel") (As := [.int v18, .int 1]) (rest := []) ⟨hx, hb, hml, hown, hts⟩ (m_set l D cB cI cJ cZ cN cF H.size h0 ma sv_thrown sv_length sv_nodes sv_many sv_directories sv_runsFrom sv_runs sv_read sv_wrong sv_isNamed sv_goes sv_goesSize sv_goesAt sv_targetParts sv_isRoot G_17 v18 1 (by (try dsimp only); first | assumption | omega | trivial) (by (try dsimp only); first | assumption | omega | trivial)) (cwV 2 hts (lg_goodV k1727 k1729 k79 k125 kc_DiscMakerModel_set) rfl rfl rfl (by decide +kernel) ⟨Nat.le_of_ble_eq_true rfl, Nat.le_of_ble_eq_true rfl⟩) ⟨fun a U g mk q => by obtain ⟨q0, q1, qP, qK, qN, qD⟩ := q; exact ⟨q0, q1, qP, va_K.moved (u := U) (U := U.calling g mk a) (Vm.Alike.refl U.vm) qK, qN.calling, qD⟩, va_recv hK hP (ci := 11) (q0 := 7) rfl rfl, fun U hU hW => ⟨rfl, by rw [hU], by rw [hU]; exact hPc, va_K.moved hW.alike hK, NN.warm hW hN, hDc.weaken (fun _ _ _ _ => trivial)⟩⟩ rfl rfl hl.1 rfl (lv_room (Nat.le_of_ble_eq_true rfl)) d_DiscMakerModel_describe_86 ⟨hkc, hks⟩) hS (fun q _ h => hFc q h) hFc (fun u t H1 locs ht hvm hp_r19 hB hz1 hk1 hS => ?_)
        obtain ⟨G_20, rfl⟩ : ∃ z, z = u := ⟨_, rfl⟩
        obtain ⟨hP1, hD1⟩ := hB
        rw [ht] at hP1
        obtain ⟨hP, hD⟩ := va_join (wr := [((ma 1), .inl (cI, 40, .inl fK)), ((ma 9), .inl (cI, 40, .inl fNS)), ((ma 13), .inl (cI, 40, .inl fBs)), ((ma 15), .inl (cI, 40, .inl fEs)), ((ma 17), .inl (cI, 24, .inl fTb)), ((ma 18), .inl (cI, 80, .inl fSe)), ((ma 19), .inl (cI, 80, .inl fSs))]) (w1 := [(h0, .inr (11, MO ma sv_thrown sv_length sv_nodes sv_many sv_directories sv_runsFrom sv_runs sv_read sv_wrong sv_isNamed sv_goes sv_goesSize sv_goesAt sv_targetParts sv_isRoot)), ((ma 16), .inl (cJ, 46080, .inr (.inl G_20)))]) hP hD [7, 8] [0, 1, 2, 3, 4, 5, 6] rfl rfl (by decide +kernel) (by decide +kernel) hk1 hFc hP1 hD1
        clear hPc hDc hFc hP1 hD1 hk1 hz1 hkc hks
        generalize H1 = H at hP hS ⊢
        have hP : va_P D CL [((ma 1), .inl (cI, 40, .inl fK)), ((ma 9), .inl (cI, 40, .inl fNS)), ((ma 13), .inl (cI, 40, .inl fBs)), ((ma 15), .inl (cI, 40, .inl fEs)), ((ma 17), .inl (cI, 24, .inl fTb)), ((ma 18), .inl (cI, 80, .inl fSe)), ((ma 19), .inl (cI, 80, .inl fSs)), (h0, .inr (11, MO ma sv_thrown sv_length sv_nodes sv_many sv_directories sv_runsFrom sv_runs sv_read sv_wrong sv_isNamed sv_goes sv_goesSize sv_goesAt sv_targetParts sv_isRoot)), ((ma 16), .inl (cJ, 46080, .inr (.inl G_20)))] H := hP
        have hD : va_D A [((ma 1), .inl (cI, 40, .inl fK)), ((ma 9), .inl (cI, 40, .inl fNS)), ((ma 13), .inl (cI, 40, .inl fBs)), ((ma 15), .inl (cI, 40, .inl fEs)), ((ma 17), .inl (cI, 24, .inl fTb)), ((ma 18), .inl (cI, 80, .inl fSe)), ((ma 19), .inl (cI, 80, .inl fSs)), (h0, .inr (11, MO ma sv_thrown sv_length sv_nodes sv_many sv_directories sv_runsFrom sv_runs sv_read sv_wrong sv_isNamed sv_goes sv_goesSize sv_goesAt sv_targetParts sv_isRoot)), ((ma 16), .inl (cJ, 46080, .inr (.inl G_20)))] := hD
        refine lv_iload_n hx hb d_DiscMakerModel_describe_89 rfl (lv_at hl 1 rfl) ?_
        refine lv_iconst (v := 2) hx hb d_DiscMakerModel_describe_90 (by decide) ?_
        refine lv_icmp_ne (tgt := 95) hx hb d_DiscMakerModel_describe_91 (by decide) (fun h_9 => ?_) (fun h_9 => ?_)
        · skip
          have g91_53 : ¬ tx.toInt = 2 := fun h8 => h_9 ((i_eq rfl (by decide)).mpr h8)
          refine lv_bipush (v := 8) hx hb d_DiscMakerModel_describe_95 (by decide) ?_
          refine lv_istore_n hx hb d_DiscMakerModel_describe_97 rfl hl (by decide) rfl (fun ls hl => ?_)
          have hl : lv_has ls 4 [(3, .int 8), (0, .ref h0), (1, .int tx), (2, .int v2)] := hl
          refine zz_labM (B := fun (lk : Nat) (K : Heap → List Loc → Array Slot → List Value → Prop) => ∀ (ka : Int32) (nA : Nat → Int64) (H : Heap) (locs : List Loc) (ls : Array Slot), lk = (72 - ka.toInt).toNat → (8 ≤ ka.toInt ∧ ka.toInt ≤ 72) → va_P D CL [((ma 1), .inl (cI, 40, .inl fK)), ((ma 9), .inl (cI, 40, .inl fNS)), ((ma 13), .inl (cI, 40, .inl fBs)), ((ma 15), .inl (cI, 40, .inl fEs)), ((ma 17), .inl (cI, 24, .inl fTb)), ((ma 18), .inl (cI, 80, .inl fSe)), ((ma 19), .inl (cI, 80, .inl fSs)), (h0, .inr (11, MO ma sv_thrown sv_length sv_nodes sv_many sv_directories sv_runsFrom sv_runs sv_read sv_wrong sv_isNamed sv_goes sv_goesSize sv_goesAt sv_targetParts sv_isRoot)), ((ma 16), .inl (cJ, 46080, .inr (.inl nA)))] H → va_D A [((ma 1), .inl (cI, 40, .inl fK)), ((ma 9), .inl (cI, 40, .inl fNS)), ((ma 13), .inl (cI, 40, .inl fBs)), ((ma 15), .inl (cI, 40, .inl fEs)), ((ma 17), .inl (cI, 24, .inl fTb)), ((ma 18), .inl (cI, 80, .inl fSe)), ((ma 19), .inl (cI, 80, .inl fSs)), (h0, .inr (11, MO ma sv_thrown sv_length sv_nodes sv_many sv_directories sv_runsFrom sv_runs sv_read sv_wrong sv_isNamed sv_goes sv_goesSize sv_goesAt sv_targetParts sv_isRoot)), ((ma 16), .inl (cJ, 46080, .inr (.inl nA)))] → va_S A s.heap H locs → lv_has ls 4 [(0, .ref h0), (1, .int tx), (2, .int v2), (3, .int ka)] → K H locs ls []) 98 ?_ ?_
          · skip
            intro lk ih98 ka nA H locs ls hm98 gka hP hD hS hl
            refine lv_iload_n hx hb d_DiscMakerModel_describe_98 rfl (lv_at hl 3 rfl) ?_
            refine lv_bipush (v := 72) hx hb d_DiscMakerModel_describe_99 (by decide) ?_
            refine lv_icmp_ge (tgt := 119) hx hb d_DiscMakerModel_describe_101 (by decide) (fun h_9 => ?_) (fun h_9 => ?_)
            · skip
              have g101_58 : 72 ≤ ka.toInt := (i_le (by decide) rfl).mp h_9
              refine lv_aload_n hx hb d_DiscMakerModel_describe_119 rfl (lv_at hl 0 rfl) ?_
              refine lv_iload_n hx hb d_DiscMakerModel_describe_120 rfl (lv_at hl 2 rfl) ?_
              refine lv_bipush (v := 80) hx hb d_DiscMakerModel_describe_121 (by decide) ?_
              refine lv_iadd hx hb d_DiscMakerModel_describe_123 ?_
              refine lv_topi (fun v21 e_v21 => ?_)
              have t_v21 : v21.toInt = v2.toInt + 80 := by rw [e_v21]; exact i_add rfl (by decide) (by omega) (by omega)
              refine lv_iconst (v := 4) hx hb d_DiscMakerModel_describe_124 (by decide) ?_
              refine lv_aload_n hx hb d_DiscMakerModel_describe_125 rfl (lv_at hl 0 rfl) ?_
              refine va_get (D := D) (ci := 11) (v := .int sv_many) (C := "DiscMakerModel") (T := F_DiscMakerModel) (N := 48) hx hb ht9 in_DiscMakerModel hown hK hP 7 rfl rfl 20 (by decide) (ht9 _ k1451) (fun _ h9 => h9) rfl d_DiscMakerModel_describe_126 ?_
              have hPc := hP.sub (ws' := [(h0, .inr (11, MO ma sv_thrown sv_length sv_nodes sv_many sv_directories sv_runsFrom sv_runs sv_read sv_wrong sv_isNamed sv_goes sv_goesSize sv_goesAt sv_targetParts sv_isRoot)), ((ma 16), .inl (cJ, 46080, .inr (.inl nA)))]) [7, 8] rfl
              have hDc := hD.sub (ws' := [(h0, .inr (11, MO ma sv_thrown sv_length sv_nodes sv_many sv_directories sv_runsFrom sv_runs sv_read sv_wrong sv_isNamed sv_goes sv_goesSize sv_goesAt sv_targetParts sv_isRoot)), ((ma 16), .inl (cJ, 46080, .inr (.inl nA)))]) [7, 8] (by decide +kernel) rfl
              have hFc := va_free (wc := [(h0, .inr (11, MO ma sv_thrown sv_length sv_nodes sv_many sv_directories sv_runsFrom sv_runs sv_read sv_wrong sv_isNamed sv_goes sv_goesSize sv_goesAt sv_targetParts sv_isRoot)), ((ma 16), .inl (cJ, 46080, .inr (.inl nA)))]) hD hS hA [7, 8] rfl
              have hkc : 0 ≤ 0 := by decide
              have hks : 0 ≤ 0 := by decide
              refine va_callv (va_runV (C := "DiscMakerModel") (As := [.int v21, .int 4, .int sv_many]) (rest := []) ⟨hx, hb, hml, hown, hts⟩ (m_both l D cB cI cJ cZ cN cF H.size h0 ma sv_thrown sv_length sv_nodes sv_many sv_directories sv_runsFrom sv_runs sv_read sv_wrong sv_isNamed sv_goes sv_goesSize sv_goesAt sv_targetParts sv_isRoot nA v21 4 sv_many (by (try dsimp only); first | assumption | omega | trivial) (by (try dsimp only); first | assumption | omega | trivial) (by (try dsimp only); first | assumption | omega | trivial)) (cwV 3 hts (lg_goodV k1740 k1742 k81 k125 kc_DiscMakerModel_both) rfl rfl rfl (by decide +kernel) ⟨Nat.le_of_ble_eq_true rfl, Nat.le_of_ble_eq_true rfl⟩) ⟨fun a U g mk q => by obtain ⟨q0, q1, qP, qK, qN, qD⟩ := q; exact ⟨q0, q1, qP, va_K.moved (u := U) (U := U.calling g mk a) (Vm.Alike.refl U.vm) qK, qN.calling, qD⟩, va_recv hK hP (ci := 11) (q0 := 7) rfl rfl, fun U hU hW => ⟨rfl, by rw [hU], by rw [hU]; exact hPc, va_K.moved hW.alike hK, NN.warm hW hN, hDc.weaken (fun _ _ _ _ => trivial)⟩⟩ rfl rfl hl.1 rfl (lv_room (Nat.le_of_ble_eq_true rfl)) d_DiscMakerModel_describe_129 ⟨hkc, hks⟩) hS (fun q _ h => hFc q h) hFc (fun u t H1 locs ht hvm hp_r22 hB hz1 hk1 hS => ?_)
              obtain ⟨G_23, rfl⟩ : ∃ z, z = u := ⟨_, rfl⟩
              obtain ⟨hP1, hD1⟩ := hB
              rw [ht] at hP1
              obtain ⟨hP, hD⟩ := va_join (wr := [((ma 1), .inl (cI, 40, .inl fK)), ((ma 9), .inl (cI, 40, .inl fNS)), ((ma 13), .inl (cI, 40, .inl fBs)), ((ma 15), .inl (cI, 40, .inl fEs)), ((ma 17), .inl (cI, 24, .inl fTb)), ((ma 18), .inl (cI, 80, .inl fSe)), ((ma 19), .inl (cI, 80, .inl fSs))]) (w1 := [(h0, .inr (11, MO ma sv_thrown sv_length sv_nodes sv_many sv_directories sv_runsFrom sv_runs sv_read sv_wrong sv_isNamed sv_goes sv_goesSize sv_goesAt sv_targetParts sv_isRoot)), ((ma 16), .inl (cJ, 46080, .inr (.inl G_23)))]) hP hD [7, 8] [0, 1, 2, 3, 4, 5, 6] rfl rfl (by decide +kernel) (by decide +kernel) hk1 hFc hP1 hD1
              clear hPc hDc hFc hP1 hD1 hk1 hz1 hkc hks
              generalize H1 = H at hP hS ⊢
              have hP : va_P D CL [((ma 1), .inl (cI, 40, .inl fK)), ((ma 9), .inl (cI, 40, .inl fNS)), ((ma 13), .inl (cI, 40, .inl fBs)), ((ma 15), .inl (cI, 40, .inl fEs)), ((ma 17), .inl (cI, 24, .inl fTb)), ((ma 18), .inl (cI, 80, .inl fSe)), ((ma 19), .inl (cI, 80, .inl fSs)), (h0, .inr (11, MO ma sv_thrown sv_length sv_nodes sv_many sv_directories sv_runsFrom sv_runs sv_read sv_wrong sv_isNamed sv_goes sv_goesSize sv_goesAt sv_targetParts sv_isRoot)), ((ma 16), .inl (cJ, 46080, .inr (.inl G_23)))] H := hP
              have hD : va_D A [((ma 1), .inl (cI, 40, .inl fK)), ((ma 9), .inl (cI, 40, .inl fNS)), ((ma 13), .inl (cI, 40, .inl fBs)), ((ma 15), .inl (cI, 40, .inl fEs)), ((ma 17), .inl (cI, 24, .inl fTb)), ((ma 18), .inl (cI, 80, .inl fSe)), ((ma 19), .inl (cI, 80, .inl fSs)), (h0, .inr (11, MO ma sv_thrown sv_length sv_nodes sv_many sv_directories sv_runsFrom sv_runs sv_read sv_wrong sv_isNamed sv_goes sv_goesSize sv_goesAt sv_targetParts sv_isRoot)), ((ma 16), .inl (cJ, 46080, .inr (.inl G_23)))] := hD
              refine zz_labM (B := fun (lk : Nat) (K : Heap → List Loc → Array Slot → List Value → Prop) => ∀ (jB : Nat → Int64) (H : Heap) (locs : List Loc) (ls : Array Slot), lk = 0 → va_P D CL [((ma 1), .inl (cI, 40, .inl fK)), ((ma 9), .inl (cI, 40, .inl fNS)), ((ma 13), .inl (cI, 40, .inl fBs)), ((ma 15), .inl (cI, 40, .inl fEs)), ((ma 17), .inl (cI, 24, .inl fTb)), ((ma 18), .inl (cI, 80, .inl fSe)), ((ma 19), .inl (cI, 80, .inl fSs)), (h0, .inr (11, MO ma sv_thrown sv_length sv_nodes sv_many sv_directories sv_runsFrom sv_runs sv_read sv_wrong sv_isNamed sv_goes sv_goesSize sv_goesAt sv_targetParts sv_isRoot)), ((ma 16), .inl (cJ, 46080, .inr (.inl jB)))] H → va_D A [((ma 1), .inl (cI, 40, .inl fK)), ((ma 9), .inl (cI, 40, .inl fNS)), ((ma 13), .inl (cI, 40, .inl fBs)), ((ma 15), .inl (cI, 40, .inl fEs)), ((ma 17), .inl (cI, 24, .inl fTb)), ((ma 18), .inl (cI, 80, .inl fSe)), ((ma 19), .inl (cI, 80, .inl fSs)), (h0, .inr (11, MO ma sv_thrown sv_length sv_nodes sv_many sv_directories sv_runsFrom sv_runs sv_read sv_wrong sv_isNamed sv_goes sv_goesSize sv_goesAt sv_targetParts sv_isRoot)), ((ma 16), .inl (cJ, 46080, .inr (.inl jB)))] → va_S A s.heap H locs → lv_has ls 4 [(0, .ref h0), (1, .int tx), (2, .int v2), (3, .int ka)] → K H locs ls []) 167 ?_ ?_
              · skip
                intro lk ih167 jB H locs ls hm167 hP hD hS hl
                refine lv_aload_n hx hb d_DiscMakerModel_describe_167 rfl (lv_at hl 0 rfl) ?_
                refine lv_iload_n hx hb d_DiscMakerModel_describe_168 rfl (lv_at hl 2 rfl) ?_
                refine lv_bipush (v := 120) hx hb d_DiscMakerModel_describe_169 (by decide) ?_
                refine lv_iadd hx hb d_DiscMakerModel_describe_171 ?_
                refine lv_topi (fun v24 e_v24 => ?_)
                have t_v24 : v24.toInt = v2.toInt + 120 := by rw [e_v24]; exact i_add rfl (by decide) (by omega) (by omega)
                refine lv_iconst (v := 2) hx hb d_DiscMakerModel_describe_172 (by decide) ?_
                refine lv_iconst (v := 1) hx hb d_DiscMakerModel_describe_173 (by decide) ?_
                have hPc := hP.sub (ws' := [(h0, .inr (11, MO ma sv_thrown sv_length sv_nodes sv_many sv_directories sv_runsFrom sv_runs sv_read sv_wrong sv_isNamed sv_goes sv_goesSize sv_goesAt sv_targetParts sv_isRoot)), ((ma 16), .inl (cJ, 46080, .inr (.inl jB)))]) [7, 8] rfl
                have hDc := hD.sub (ws' := [(h0, .inr (11, MO ma sv_thrown sv_length sv_nodes sv_many sv_directories sv_runsFrom sv_runs sv_read sv_wrong sv_isNamed sv_goes sv_goesSize sv_goesAt sv_targetParts sv_isRoot)), ((ma 16), .inl (cJ, 46080, .inr (.inl jB)))]) [7, 8] (by decide +kernel) rfl
                have hFc := va_free (wc := [(h0, .inr (11, MO ma sv_thrown sv_length sv_nodes sv_many sv_directories sv_runsFrom sv_runs sv_read sv_wrong sv_isNamed sv_goes sv_goesSize sv_goesAt sv_targetParts sv_isRoot)), ((ma 16), .inl (cJ, 46080, .inr (.inl jB)))]) hD hS hA [7, 8] rfl
                have hkc : 0 ≤ 0 := by decide
                have hks : 0 ≤ 0 := by decide
                refine va_callv (va_runV (C := "DiscMakerModel") (As := [.int v24, .int 2, .int 1]) (rest := []) ⟨hx, hb, hml, hown, hts⟩ (m_both l D cB cI cJ cZ cN cF H.size h0 ma sv_thrown sv_length sv_nodes sv_many sv_directories sv_runsFrom sv_runs sv_read sv_wrong sv_isNamed sv_goes sv_goesSize sv_goesAt sv_targetParts sv_isRoot jB v24 2 1 (by (try dsimp only); first | assumption | omega | trivial) (by (try dsimp only); first | assumption | omega | trivial) (by (try dsimp only); first | assumption | omega | trivial)) (cwV 3 hts (lg_goodV k1740 k1742 k81 k125 kc_DiscMakerModel_both) rfl rfl rfl (by decide +kernel) ⟨Nat.le_of_ble_eq_true rfl, Nat.le_of_ble_eq_true rfl⟩) ⟨fun a U g mk q => by obtain ⟨q0, q1, qP, qK, qN, qD⟩ := q; exact ⟨q0, q1, qP, va_K.moved (u := U) (U := U.calling g mk a) (Vm.Alike.refl U.vm) qK, qN.calling, qD⟩, va_recv hK hP (ci := 11) (q0 := 7) rfl rfl, fun U hU hW => ⟨rfl, by rw [hU], by rw [hU]; exact hPc, va_K.moved hW.alike hK, NN.warm hW hN, hDc.weaken (fun _ _ _ _ => trivial)⟩⟩ rfl rfl hl.1 rfl (lv_room (Nat.le_of_ble_eq_true rfl)) d_DiscMakerModel_describe_174 ⟨hkc, hks⟩) hS (fun q _ h => hFc q h) hFc (fun u t H1 locs ht hvm hp_r25 hB hz1 hk1 hS => ?_)
                obtain ⟨G_26, rfl⟩ : ∃ z, z = u := ⟨_, rfl⟩
                obtain ⟨hP1, hD1⟩ := hB
                rw [ht] at hP1
                obtain ⟨hP, hD⟩ := va_join (wr := [((ma 1), .inl (cI, 40, .inl fK)), ((ma 9), .inl (cI, 40, .inl fNS)), ((ma 13), .inl (cI, 40, .inl fBs)), ((ma 15), .inl (cI, 40, .inl fEs)), ((ma 17), .inl (cI, 24, .inl fTb)), ((ma 18), .inl (cI, 80, .inl fSe)), ((ma 19), .inl (cI, 80, .inl fSs))]) (w1 := [(h0, .inr (11, MO ma sv_thrown sv_length sv_nodes sv_many sv_directories sv_runsFrom sv_runs sv_read sv_wrong sv_isNamed sv_goes sv_goesSize sv_goesAt sv_targetParts sv_isRoot)), ((ma 16), .inl (cJ, 46080, .inr (.inl G_26)))]) hP hD [7, 8] [0, 1, 2, 3, 4, 5, 6] rfl rfl (by decide +kernel) (by decide +kernel) hk1 hFc hP1 hD1
                clear hPc hDc hFc hP1 hD1 hk1 hz1 hkc hks
                generalize H1 = H at hP hS ⊢
                have hP : va_P D CL [((ma 1), .inl (cI, 40, .inl fK)), ((ma 9), .inl (cI, 40, .inl fNS)), ((ma 13), .inl (cI, 40, .inl fBs)), ((ma 15), .inl (cI, 40, .inl fEs)), ((ma 17), .inl (cI, 24, .inl fTb)), ((ma 18), .inl (cI, 80, .inl fSe)), ((ma 19), .inl (cI, 80, .inl fSs)), (h0, .inr (11, MO ma sv_thrown sv_length sv_nodes sv_many sv_directories sv_runsFrom sv_runs sv_read sv_wrong sv_isNamed sv_goes sv_goesSize sv_goesAt sv_targetParts sv_isRoot)), ((ma 16), .inl (cJ, 46080, .inr (.inl G_26)))] H := hP
                have hD : va_D A [((ma 1), .inl (cI, 40, .inl fK)), ((ma 9), .inl (cI, 40, .inl fNS)), ((ma 13), .inl (cI, 40, .inl fBs)), ((ma 15), .inl (cI, 40, .inl fEs)), ((ma 17), .inl (cI, 24, .inl fTb)), ((ma 18), .inl (cI, 80, .inl fSe)), ((ma 19), .inl (cI, 80, .inl fSs)), (h0, .inr (11, MO ma sv_thrown sv_length sv_nodes sv_many sv_directories sv_runsFrom sv_runs sv_read sv_wrong sv_isNamed sv_goes sv_goesSize sv_goesAt sv_targetParts sv_isRoot)), ((ma 16), .inl (cJ, 46080, .inr (.inl G_26)))] := hD
                refine lv_aload_n hx hb d_DiscMakerModel_describe_177 rfl (lv_at hl 0 rfl) ?_
                refine lv_iload_n hx hb d_DiscMakerModel_describe_178 rfl (lv_at hl 2 rfl) ?_
                refine lv_bipush (v := 124) hx hb d_DiscMakerModel_describe_179 (by decide) ?_
                refine lv_iadd hx hb d_DiscMakerModel_describe_181 ?_
                refine lv_topi (fun v27 e_v27 => ?_)
                have t_v27 : v27.toInt = v2.toInt + 124 := by rw [e_v27]; exact i_add rfl (by decide) (by omega) (by omega)
                refine lv_iconst (v := 2) hx hb d_DiscMakerModel_describe_182 (by decide) ?_
                refine lv_iconst (v := 1) hx hb d_DiscMakerModel_describe_183 (by decide) ?_
                have hPc := hP.sub (ws' := [(h0, .inr (11, MO ma sv_thrown sv_length sv_nodes sv_many sv_directories sv_runsFrom sv_runs sv_read sv_wrong sv_isNamed sv_goes sv_goesSize sv_goesAt sv_targetParts sv_isRoot)), ((ma 16), .inl (cJ, 46080, .inr (.inl G_26)))]) [7, 8] rfl
                have hDc := hD.sub (ws' := [(h0, .inr (11, MO ma sv_thrown sv_length sv_nodes sv_many sv_directories sv_runsFrom sv_runs sv_read sv_wrong sv_isNamed sv_goes sv_goesSize sv_goesAt sv_targetParts sv_isRoot)), ((ma 16), .inl (cJ, 46080, .inr (.inl G_26)))]) [7, 8] (by decide +kernel) rfl
                have hFc := va_free (wc := [(h0, .inr (11, MO ma sv_thrown sv_length sv_nodes sv_many sv_directories sv_runsFrom sv_runs sv_read sv_wrong sv_isNamed sv_goes sv_goesSize sv_goesAt sv_targetParts sv_isRoot)), ((ma 16), .inl (cJ, 46080, .inr (.inl G_26)))]) hD hS hA [7, 8] rfl
                have hkc : 0 ≤ 0 := by decide
                have hks : 0 ≤ 0 := by decide
                refine va_callv (va_runV (C := "DiscMakerModel") (As := [.int v27, .int 2, .int 1]) (rest := []) ⟨hx, hb, hml, hown, hts⟩ (m_both l D cB cI cJ cZ cN cF H.size h0 ma sv_thrown sv_length sv_nodes sv_many sv_directories sv_runsFrom sv_runs sv_read sv_wrong sv_isNamed sv_goes sv_goesSize sv_goesAt sv_targetParts sv_isRoot G_26 v27 2 1 (by (try dsimp only); first | assumption | omega | trivial) (by (try dsimp only); first | assumption | omega | trivial) (by (try dsimp only); first | assumption | omega | trivial)) (cwV 3 hts (lg_goodV k1740 k1742 k81 k125 kc_DiscMakerModel_both) rfl rfl rfl (by decide +kernel) ⟨Nat.le_of_ble_eq_true rfl, Nat.le_of_ble_eq_true rfl⟩) ⟨fun a U g mk q => by obtain ⟨q0, q1, qP, qK, qN, qD⟩ := q; exact ⟨q0, q1, qP, va_K.moved (u := U) (U := U.calling g mk a) (Vm.Alike.refl U.vm) qK, qN.calling, qD⟩, va_recv hK hP (ci := 11) (q0 := 7) rfl rfl, fun U hU hW => ⟨rfl, by rw [hU], by rw [hU]; exact hPc, va_K.moved hW.alike hK, NN.warm hW hN, hDc.weaken (fun _ _ _ _ => trivial)⟩⟩ rfl rfl hl.1 rfl (lv_room (Nat.le_of_ble_eq_true rfl)) d_DiscMakerModel_describe_184 ⟨hkc, hks⟩) hS (fun q _ h => hFc q h) hFc (fun u t H1 locs ht hvm hp_r28 hB hz1 hk1 hS => ?_)
                obtain ⟨G_29, rfl⟩ : ∃ z, z = u := ⟨_, rfl⟩
                obtain ⟨hP1, hD1⟩ := hB
                rw [ht] at hP1
                obtain ⟨hP, hD⟩ := va_join (wr := [((ma 1), .inl (cI, 40, .inl fK)), ((ma 9), .inl (cI, 40, .inl fNS)), ((ma 13), .inl (cI, 40, .inl fBs)), ((ma 15), .inl (cI, 40, .inl fEs)), ((ma 17), .inl (cI, 24, .inl fTb)), ((ma 18), .inl (cI, 80, .inl fSe)), ((ma 19), .inl (cI, 80, .inl fSs))]) (w1 := [(h0, .inr (11, MO ma sv_thrown sv_length sv_nodes sv_many sv_directories sv_runsFrom sv_runs sv_read sv_wrong sv_isNamed sv_goes sv_goesSize sv_goesAt sv_targetParts sv_isRoot)), ((ma 16), .inl (cJ, 46080, .inr (.inl G_29)))]) hP hD [7, 8] [0, 1, 2, 3, 4, 5, 6] rfl rfl (by decide +kernel) (by decide +kernel) hk1 hFc hP1 hD1
                clear hPc hDc hFc hP1 hD1 hk1 hz1 hkc hks
                generalize H1 = H at hP hS ⊢
                have hP : va_P D CL [((ma 1), .inl (cI, 40, .inl fK)), ((ma 9), .inl (cI, 40, .inl fNS)), ((ma 13), .inl (cI, 40, .inl fBs)), ((ma 15), .inl (cI, 40, .inl fEs)), ((ma 17), .inl (cI, 24, .inl fTb)), ((ma 18), .inl (cI, 80, .inl fSe)), ((ma 19), .inl (cI, 80, .inl fSs)), (h0, .inr (11, MO ma sv_thrown sv_length sv_nodes sv_many sv_directories sv_runsFrom sv_runs sv_read sv_wrong sv_isNamed sv_goes sv_goesSize sv_goesAt sv_targetParts sv_isRoot)), ((ma 16), .inl (cJ, 46080, .inr (.inl G_29)))] H := hP
                have hD : va_D A [((ma 1), .inl (cI, 40, .inl fK)), ((ma 9), .inl (cI, 40, .inl fNS)), ((ma 13), .inl (cI, 40, .inl fBs)), ((ma 15), .inl (cI, 40, .inl fEs)), ((ma 17), .inl (cI, 24, .inl fTb)), ((ma 18), .inl (cI, 80, .inl fSe)), ((ma 19), .inl (cI, 80, .inl fSs)), (h0, .inr (11, MO ma sv_thrown sv_length sv_nodes sv_many sv_directories sv_runsFrom sv_runs sv_read sv_wrong sv_isNamed sv_goes sv_goesSize sv_goesAt sv_targetParts sv_isRoot)), ((ma 16), .inl (cJ, 46080, .inr (.inl G_29)))] := hD
                refine lv_aload_n hx hb d_DiscMakerModel_describe_187 rfl (lv_at hl 0 rfl) ?_
                refine lv_iload_n hx hb d_DiscMakerModel_describe_188 rfl (lv_at hl 2 rfl) ?_
                refine lv_sipush (v := 128) hx hb d_DiscMakerModel_describe_189 (by decide) ?_
                refine lv_iadd hx hb d_DiscMakerModel_describe_192 ?_
                refine lv_topi (fun v30 e_v30 => ?_)
                have t_v30 : v30.toInt = v2.toInt + 128 := by rw [e_v30]; exact i_add rfl (by decide) (by omega) (by omega)
                refine lv_iconst (v := 2) hx hb d_DiscMakerModel_describe_193 (by decide) ?_
                refine lv_sipush (v := 2048) hx hb d_DiscMakerModel_describe_194 (by decide) ?_
                have hPc := hP.sub (ws' := [(h0, .inr (11, MO ma sv_thrown sv_length sv_nodes sv_many sv_directories sv_runsFrom sv_runs sv_read sv_wrong sv_isNamed sv_goes sv_goesSize sv_goesAt sv_targetParts sv_isRoot)), ((ma 16), .inl (cJ, 46080, .inr (.inl G_29)))]) [7, 8] rfl
                have hDc := hD.sub (ws' := [(h0, .inr (11, MO ma sv_thrown sv_length sv_nodes sv_many sv_directories sv_runsFrom sv_runs sv_read sv_wrong sv_isNamed sv_goes sv_goesSize sv_goesAt sv_targetParts sv_isRoot)), ((ma 16), .inl (cJ, 46080, .inr (.inl G_29)))]) [7, 8] (by decide +kernel) rfl
                have hFc := va_free (wc := [(h0, .inr (11, MO ma sv_thrown sv_length sv_nodes sv_many sv_directories sv_runsFrom sv_runs sv_read sv_wrong sv_isNamed sv_goes sv_goesSize sv_goesAt sv_targetParts sv_isRoot)), ((ma 16), .inl (cJ, 46080, .inr (.inl G_29)))]) hD hS hA [7, 8] rfl
                have hkc : 0 ≤ 0 := by decide
                have hks : 0 ≤ 0 := by decide
                refine va_callv (va_runV (C := "DiscMakerModel") (As := [.int v30, .int 2, .int 2048]) (rest := []) ⟨hx, hb, hml, hown, hts⟩ (m_both l D cB cI cJ cZ cN cF H.size h0 ma sv_thrown sv_length sv_nodes sv_many sv_directories sv_runsFrom sv_runs sv_read sv_wrong sv_isNamed sv_goes sv_goesSize sv_goesAt sv_targetParts sv_isRoot G_29 v30 2 2048 (by (try dsimp only); first | assumption | omega | trivial) (by (try dsimp only); first | assumption | omega | trivial) (by (try dsimp only); first | assumption | omega | trivial)) (cwV 3 hts (lg_goodV k1740 k1742 k81 k125 kc_DiscMakerModel_both) rfl rfl rfl (by decide +kernel) ⟨Nat.le_of_ble_eq_true rfl, Nat.le_of_ble_eq_true rfl⟩) ⟨fun a U g mk q => by obtain ⟨q0, q1, qP, qK, qN, qD⟩ := q; exact ⟨q0, q1, qP, va_K.moved (u := U) (U := U.calling g mk a) (Vm.Alike.refl U.vm) qK, qN.calling, qD⟩, va_recv hK hP (ci := 11) (q0 := 7) rfl rfl, fun U hU hW => ⟨rfl, by rw [hU], by rw [hU]; exact hPc, va_K.moved hW.alike hK, NN.warm hW hN, hDc.weaken (fun _ _ _ _ => trivial)⟩⟩ rfl rfl hl.1 rfl (lv_room (Nat.le_of_ble_eq_true rfl)) d_DiscMakerModel_describe_197 ⟨hkc, hks⟩) hS (fun q _ h => hFc q h) hFc (fun u t H1 locs ht hvm hp_r31 hB hz1 hk1 hS => ?_)
                obtain ⟨G_32, rfl⟩ : ∃ z, z = u := ⟨_, rfl⟩
                obtain ⟨hP1, hD1⟩ := hB
                rw [ht] at hP1
                obtain ⟨hP, hD⟩ := va_join (wr := [((ma 1), .inl (cI, 40, .inl fK)), ((ma 9), .inl (cI, 40, .inl fNS)), ((ma 13), .inl (cI, 40, .inl fBs)), ((ma 15), .inl (cI, 40, .inl fEs)), ((ma 17), .inl (cI, 24, .inl fTb)), ((ma 18), .inl (cI, 80, .inl fSe)), ((ma 19), .inl (cI, 80, .inl fSs))]) (w1 := [(h0, .inr (11, MO ma sv_thrown sv_length sv_nodes sv_many sv_directories sv_runsFrom sv_runs sv_read sv_wrong sv_isNamed sv_goes sv_goesSize sv_goesAt sv_targetParts sv_isRoot)), ((ma 16), .inl (cJ, 46080, .inr (.inl G_32)))]) hP hD [7, 8] [0, 1, 2, 3, 4, 5, 6] rfl rfl (by decide +kernel) (by decide +kernel) hk1 hFc hP1 hD1
                clear hPc hDc hFc hP1 hD1 hk1 hz1 hkc hks
                generalize H1 = H at hP hS ⊢
                have hP : va_P D CL [((ma 1), .inl (cI, 40, .inl fK)), ((ma 9), .inl (cI, 40, .inl fNS)), ((ma 13), .inl (cI, 40, .inl fBs)), ((ma 15), .inl (cI, 40, .inl fEs)), ((ma 17), .inl (cI, 24, .inl fTb)), ((ma 18), .inl (cI, 80, .inl fSe)), ((ma 19), .inl (cI, 80, .inl fSs)), (h0, .inr (11, MO ma sv_thrown sv_length sv_nodes sv_many sv_directories sv_runsFrom sv_runs sv_read sv_wrong sv_isNamed sv_goes sv_goesSize sv_goesAt sv_targetParts sv_isRoot)), ((ma 16), .inl (cJ, 46080, .inr (.inl G_32)))] H := hP
                have hD : va_D A [((ma 1), .inl (cI, 40, .inl fK)), ((ma 9), .inl (cI, 40, .inl fNS)), ((ma 13), .inl (cI, 40, .inl fBs)), ((ma 15), .inl (cI, 40, .inl fEs)), ((ma 17), .inl (cI, 24, .inl fTb)), ((ma 18), .inl (cI, 80, .inl fSe)), ((ma 19), .inl (cI, 80, .inl fSs)), (h0, .inr (11, MO ma sv_thrown sv_length sv_nodes sv_many sv_directories sv_runsFrom sv_runs sv_read sv_wrong sv_isNamed sv_goes sv_goesSize sv_goesAt sv_targetParts sv_isRoot)), ((ma 16), .inl (cJ, 46080, .inr (.inl G_32)))] := hD
                refine lv_aload_n hx hb d_DiscMakerModel_describe_200 rfl (lv_at hl 0 rfl) ?_
                refine lv_iload_n hx hb d_DiscMakerModel_describe_201 rfl (lv_at hl 2 rfl) ?_
                refine lv_sipush (v := 132) hx hb d_DiscMakerModel_describe_202 (by decide) ?_
                refine lv_iadd hx hb d_DiscMakerModel_describe_205 ?_
                refine lv_topi (fun v33 e_v33 => ?_)
                have t_v33 : v33.toInt = v2.toInt + 132 := by rw [e_v33]; exact i_add rfl (by decide) (by omega) (by omega)
                refine lv_iconst (v := 4) hx hb d_DiscMakerModel_describe_206 (by decide) ?_
                refine lv_aload_n hx hb d_DiscMakerModel_describe_207 rfl (lv_at hl 0 rfl) ?_
                refine lv_iload_n hx hb d_DiscMakerModel_describe_208 rfl (lv_at hl 1 rfl) ?_
                have hPc := hP.sub (ws' := [(h0, .inr (11, MO ma sv_thrown sv_length sv_nodes sv_many sv_directories sv_runsFrom sv_runs sv_read sv_wrong sv_isNamed sv_goes sv_goesSize sv_goesAt sv_targetParts sv_isRoot)), ((ma 1), .inl (cI, 40, .inl fK)), ((ma 9), .inl (cI, 40, .inl fNS)), ((ma 13), .inl (cI, 40, .inl fBs)), ((ma 15), .inl (cI, 40, .inl fEs)), ((ma 17), .inl (cI, 24, .inl fTb))]) [7, 0, 1, 2, 3, 4] rfl
                have hDc := hD.sub (ws' := [(h0, .inr (11, MO ma sv_thrown sv_length sv_nodes sv_many sv_directories sv_runsFrom sv_runs sv_read sv_wrong sv_isNamed sv_goes sv_goesSize sv_goesAt sv_targetParts sv_isRoot)), ((ma 1), .inl (cI, 40, .inl fK)), ((ma 9), .inl (cI, 40, .inl fNS)), ((ma 13), .inl (cI, 40, .inl fBs)), ((ma 15), .inl (cI, 40, .inl fEs)), ((ma 17), .inl (cI, 24, .inl fTb))]) [7, 0, 1, 2, 3, 4] (by decide +kernel) rfl
                have hFc := va_free (wc := [(h0, .inr (11, MO ma sv_thrown sv_length sv_nodes sv_many sv_directories sv_runsFrom sv_runs sv_read sv_wrong sv_isNamed sv_goes sv_goesSize sv_goesAt sv_targetParts sv_isRoot)), ((ma 1), .inl (cI, 40, .inl fK)), ((ma 9), .inl (cI, 40, .inl fNS)), ((ma 13), .inl (cI, 40, .inl fBs)), ((ma 15), .inl (cI, 40, .inl fEs)), ((ma 17), .inl (cI, 24, .inl fTb))]) hD hS hA [7, 0, 1, 2, 3, 4] rfl
                have hkc : 0 ≤ 0 := by decide
                have hks : 0 ≤ 0 := by decide
                refine va_calli (va_runV (C := "DiscMakerModel") (As := [.int tx]) (rest := [.int 4, .int v33, .ref h0]) ⟨hx, hb, hml, hown, hts⟩ (m_tableSize l D cB cI cJ cZ cN cF H.size h0 ma sv_thrown sv_length sv_nodes sv_many sv_directories sv_runsFrom sv_runs sv_read sv_wrong sv_isNamed sv_goes sv_goesSize sv_goesAt sv_targetParts sv_isRoot fK fNS fBs fEs fTb tx (by (try dsimp only); first | assumption | omega | trivial) (by (try dsimp only); first | assumption | omega | trivial) (htb2 tx.toNatClampNeg (by omega)) (by (try dsimp only); first | assumption | omega | trivial) (by (try dsimp only); first | assumption | omega | trivial) (by (try dsimp only); first | assumption | omega | trivial) (by (try dsimp only); first | assumption | omega | trivial)) (cwV 1 hts (lg_goodV k1781 k1783 k90 k125 kc_DiscMakerModel_tableSize) rfl rfl rfl (by decide +kernel) ⟨Nat.le_of_ble_eq_true rfl, Nat.le_of_ble_eq_true rfl⟩) ⟨fun a U g mk q => by obtain ⟨q0, q1, qP, qK, qN, qD⟩ := q; exact ⟨q0, q1, qP, va_K.moved (u := U) (U := U.calling g mk a) (Vm.Alike.refl U.vm) qK, qN.calling, qD⟩, va_recv hK hP (ci := 11) (q0 := 7) rfl rfl, fun U hU hW => ⟨rfl, by rw [hU], by rw [hU]; exact hPc, va_K.moved hW.alike hK, NN.warm hW hN, hDc.weaken (fun _ _ _ _ => trivial)⟩⟩ rfl rfl hl.1 rfl (lv_room (Nat.le_of_ble_eq_true rfl)) d_DiscMakerModel_describe_209 ⟨hkc, hks⟩) hS (fun q _ h => hFc q h) hFc (fun r34 u t H1 locs ht hvm hp_r34 hB hz1 hk1 hS => ?_)
                obtain ⟨hP1, hD1⟩ := hB
                rw [ht] at hP1
                obtain ⟨hP, hD⟩ := va_join (wr := [((ma 18), .inl (cI, 80, .inl fSe)), ((ma 19), .inl (cI, 80, .inl fSs)), ((ma 16), .inl (cJ, 46080, .inr (.inl G_32)))]) (w1 := [(h0, .inr (11, MO ma sv_thrown sv_length sv_nodes sv_many sv_directories sv_runsFrom sv_runs sv_read sv_wrong sv_isNamed sv_goes sv_goesSize sv_goesAt sv_targetParts sv_isRoot)), ((ma 1), .inl (cI, 40, .inl fK)), ((ma 9), .inl (cI, 40, .inl fNS)), ((ma 13), .inl (cI, 40, .inl fBs)), ((ma 15), .inl (cI, 40, .inl fEs)), ((ma 17), .inl (cI, 24, .inl fTb))]) hP hD [7, 0, 1, 2, 3, 4] [5, 6, 8] rfl rfl (by decide +kernel) (by decide +kernel) hk1 hFc hP1 hD1
                clear hPc hDc hFc hP1 hD1 hk1 hz1 hkc hks
                generalize H1 = H at hP hS ⊢
                have hP : va_P D CL [((ma 18), .inl (cI, 80, .inl fSe)), ((ma 19), .inl (cI, 80, .inl fSs)), ((ma 16), .inl (cJ, 46080, .inr (.inl G_32))), (h0, .inr (11, MO ma sv_thrown sv_length sv_nodes sv_many sv_directories sv_runsFrom sv_runs sv_read sv_wrong sv_isNamed sv_goes sv_goesSize sv_goesAt sv_targetParts sv_isRoot)), ((ma 1), .inl (cI, 40, .inl fK)), ((ma 9), .inl (cI, 40, .inl fNS)), ((ma 13), .inl (cI, 40, .inl fBs)), ((ma 15), .inl (cI, 40, .inl fEs)), ((ma 17), .inl (cI, 24, .inl fTb))] H := hP
                have hD : va_D A [((ma 18), .inl (cI, 80, .inl fSe)), ((ma 19), .inl (cI, 80, .inl fSs)), ((ma 16), .inl (cJ, 46080, .inr (.inl G_32))), (h0, .inr (11, MO ma sv_thrown sv_length sv_nodes sv_many sv_directories sv_runsFrom sv_runs sv_read sv_wrong sv_isNamed sv_goes sv_goesSize sv_goesAt sv_targetParts sv_isRoot)), ((ma 1), .inl (cI, 40, .inl fK)), ((ma 9), .inl (cI, 40, .inl fNS)), ((ma 13), .inl (cI, 40, .inl fBs)), ((ma 15), .inl (cI, 40, .inl fEs)), ((ma 17), .inl (cI, 24, .inl fTb))] := hD
                try dsimp only at hp_r34
                have hr_35 := hp_r34
                have hPc := hP.sub (ws' := [(h0, .inr (11, MO ma sv_thrown sv_length sv_nodes sv_many sv_directories sv_runsFrom sv_runs sv_read sv_wrong sv_isNamed sv_goes sv_goesSize sv_goesAt sv_targetParts sv_isRoot)), ((ma 16), .inl (cJ, 46080, .inr (.inl G_32)))]) [3, 2] rfl
                have hDc := hD.sub (ws' := [(h0, .inr (11, MO ma sv_thrown sv_length sv_nodes sv_many sv_directories sv_runsFrom sv_runs sv_read sv_wrong sv_isNamed sv_goes sv_goesSize sv_goesAt sv_targetParts sv_isRoot)), ((ma 16), .inl (cJ, 46080, .inr (.inl G_32)))]) [3, 2] (by decide +kernel) rfl
                have hFc := va_free (wc := [(h0, .inr (11, MO ma sv_thrown sv_length sv_nodes sv_many sv_directories sv_runsFrom sv_runs sv_read sv_wrong sv_isNamed sv_goes sv_goesSize sv_goesAt sv_targetParts sv_isRoot)), ((ma 16), .inl (cJ, 46080, .inr (.inl G_32)))]) hD hS hA [3, 2] rfl
                have hkc : 0 ≤ 0 := by decide
                have hks : 0 ≤ 0 := by decide
                refine va_callv (va_runV (C := "DiscMakerModel") (As := [.int v33, .int 4, .int r34]) (rest := []) ⟨hx, hb, hml, hown, hts⟩ (m_both l D cB cI cJ cZ cN cF H.size h0 ma sv_thrown sv_length sv_nodes sv_many sv_directories sv_runsFrom sv_runs sv_read sv_wrong sv_isNamed sv_goes sv_goesSize sv_goesAt sv_targetParts sv_isRoot G_32 v33 4 r34 (by (try dsimp only); first | assumption | omega | trivial) (by (try dsimp only); first | assumption | omega | trivial) (by (try dsimp only); first | assumption | omega | trivial)) (cwV 3 hts (lg_goodV k1740 k1742 k81 k125 kc_DiscMakerModel_both) rfl rfl rfl (by decide +kernel) ⟨Nat.le_of_ble_eq_true rfl, Nat.le_of_ble_eq_true rfl⟩) ⟨fun a U g mk q => by obtain ⟨q0, q1, qP, qK, qN, qD⟩ := q; exact ⟨q0, q1, qP, va_K.moved (u := U) (U := U.calling g mk a) (Vm.Alike.refl U.vm) qK, qN.calling, qD⟩, va_recv hK hP (ci := 11) (q0 := 3) rfl rfl, fun U hU hW => ⟨rfl, by rw [hU], by rw [hU]; exact hPc, va_K.moved hW.alike hK, NN.warm hW hN, hDc.weaken (fun _ _ _ _ => trivial)⟩⟩ rfl rfl hl.1 rfl (lv_room (Nat.le_of_ble_eq_true rfl)) d_DiscMakerModel_describe_212 ⟨hkc, hks⟩) hS (fun q _ h => hFc q h) hFc (fun u t H1 locs ht hvm hp_r36 hB hz1 hk1 hS => ?_)
                obtain ⟨G_37, rfl⟩ : ∃ z, z = u := ⟨_, rfl⟩
                obtain ⟨hP1, hD1⟩ := hB
                rw [ht] at hP1
                obtain ⟨hP, hD⟩ := va_join (wr := [((ma 18), .inl (cI, 80, .inl fSe)), ((ma 19), .inl (cI, 80, .inl fSs)), ((ma 1), .inl (cI, 40, .inl fK)), ((ma 9), .inl (cI, 40, .inl fNS)), ((ma 13), .inl (cI, 40, .inl fBs)), ((ma 15), .inl (cI, 40, .inl fEs)), ((ma 17), .inl (cI, 24, .inl fTb))]) (w1 := [(h0, .inr (11, MO ma sv_thrown sv_length sv_nodes sv_many sv_directories sv_runsFrom sv_runs sv_read sv_wrong sv_isNamed sv_goes sv_goesSize sv_goesAt sv_targetParts sv_isRoot)), ((ma 16), .inl (cJ, 46080, .inr (.inl G_37)))]) hP hD [3, 2] [0, 1, 4, 5, 6, 7, 8] rfl rfl (by decide +kernel) (by decide +kernel) hk1 hFc hP1 hD1
                clear hPc hDc hFc hP1 hD1 hk1 hz1 hkc hks
                generalize H1 = H at hP hS ⊢
                have hP : va_P D CL [((ma 18), .inl (cI, 80, .inl fSe)), ((ma 19), .inl (cI, 80, .inl fSs)), ((ma 1), .inl (cI, 40, .inl fK)), ((ma 9), .inl (cI, 40, .inl fNS)), ((ma 13), .inl (cI, 40, .inl fBs)), ((ma 15), .inl (cI, 40, .inl fEs)), ((ma 17), .inl (cI, 24, .inl fTb)), (h0, .inr (11, MO ma sv_thrown sv_length sv_nodes sv_many sv_directories sv_runsFrom sv_runs sv_read sv_wrong sv_isNamed sv_goes sv_goesSize sv_goesAt sv_targetParts sv_isRoot)), ((ma 16), .inl (cJ, 46080, .inr (.inl G_37)))] H := hP
                have hD : va_D A [((ma 18), .inl (cI, 80, .inl fSe)), ((ma 19), .inl (cI, 80, .inl fSs)), ((ma 1), .inl (cI, 40, .inl fK)), ((ma 9), .inl (cI, 40, .inl fNS)), ((ma 13), .inl (cI, 40, .inl fBs)), ((ma 15), .inl (cI, 40, .inl fEs)), ((ma 17), .inl (cI, 24, .inl fTb)), (h0, .inr (11, MO ma sv_thrown sv_length sv_nodes sv_many sv_directories sv_runsFrom sv_runs sv_read sv_wrong sv_isNamed sv_goes sv_goesSize sv_goesAt sv_targetParts sv_isRoot)), ((ma 16), .inl (cJ, 46080, .inr (.inl G_37)))] := hD
                refine lv_aload_n hx hb d_DiscMakerModel_describe_215 rfl (lv_at hl 0 rfl) ?_
                refine lv_iload_n hx hb d_DiscMakerModel_describe_216 rfl (lv_at hl 2 rfl) ?_
                refine lv_sipush (v := 140) hx hb d_DiscMakerModel_describe_217 (by decide) ?_
                refine lv_iadd hx hb d_DiscMakerModel_describe_220 ?_
                refine lv_topi (fun v38 e_v38 => ?_)
                have t_v38 : v38.toInt = v2.toInt + 140 := by rw [e_v38]; exact i_add rfl (by decide) (by omega) (by omega)
                refine lv_iconst (v := 4) hx hb d_DiscMakerModel_describe_221 (by decide) ?_
                refine lv_bipush (v := 19) hx hb d_DiscMakerModel_describe_222 (by decide) ?_
                refine lv_iconst (v := 2) hx hb d_DiscMakerModel_describe_224 (by decide) ?_
                refine lv_iload_n hx hb d_DiscMakerModel_describe_225 rfl (lv_at hl 1 rfl) ?_
                refine lv_imul hx hb d_DiscMakerModel_describe_226 ?_
                refine lv_topi (fun v39 e_v39 => ?_)
                have t_v39 : v39.toInt = 2 * tx.toInt := by rw [e_v39]; exact i_mul (by decide) rfl (by omega) (by omega)
                refine lv_iadd hx hb d_DiscMakerModel_describe_227 ?_
                refine lv_topi (fun v40 e_v40 => ?_)
                have t_v40 : v40.toInt = 19 + v39.toInt := by rw [e_v40]; exact i_add (by decide) rfl (by omega) (by omega)
                have hPc := hP.sub (ws' := [(h0, .inr (11, MO ma sv_thrown sv_length sv_nodes sv_many sv_directories sv_runsFrom sv_runs sv_read sv_wrong sv_isNamed sv_goes sv_goesSize sv_goesAt sv_targetParts sv_isRoot)), ((ma 16), .inl (cJ, 46080, .inr (.inl G_37)))]) [7, 8] rfl
                have hDc := hD.sub (ws' := [(h0, .inr (11, MO ma sv_thrown sv_length sv_nodes sv_many sv_directories sv_runsFrom sv_runs sv_read sv_wrong sv_isNamed sv_goes sv_goesSize sv_goesAt sv_targetParts sv_isRoot)), ((ma 16), .inl (cJ, 46080, .inr (.inl G_37)))]) [7, 8] (by decide +kernel) rfl
                have hFc := va_free (wc := [(h0, .inr (11, MO ma sv_thrown sv_length sv_nodes sv_many sv_directories sv_runsFrom sv_runs sv_read sv_wrong sv_isNamed sv_goes sv_goesSize sv_goesAt sv_targetParts sv_isRoot)), ((ma 16), .inl (cJ, 46080, .inr (.inl G_37)))]) hD hS hA [7, 8] rfl
                have hkc : 0 ≤ 0 := by decide
                have hks : 0 ≤ 0 := by decide
                refine va_callv (va_runV (C := "DiscMakerModel") (As := [.int v38, .int 4, .int v40]) (rest := []) ⟨hx, hb, hml, hown, hts⟩ (m_low l D cB cI cJ cZ cN cF H.size h0 ma sv_thrown sv_length sv_nodes sv_many sv_directories sv_runsFrom sv_runs sv_read sv_wrong sv_isNamed sv_goes sv_goesSize sv_goesAt sv_targetParts sv_isRoot G_37 v38 4 v40 (by (try dsimp only); first | assumption | omega | trivial) (by (try dsimp only); first | assumption | omega | trivial) (by (try dsimp only); first | assumption | omega | trivial)) (cwV 3 hts (lg_goodV k1744 k1746 k82 k125 kc_DiscMakerModel_low) rfl rfl rfl (by decide +kernel) ⟨Nat.le_of_ble_eq_true rfl, Nat.le_of_ble_eq_true rfl⟩) ⟨fun a U g mk q => by obtain ⟨q0, q1, qP, qK, qN, qD⟩ := q; exact ⟨q0, q1, qP, va_K.moved (u := U) (U := U.calling g mk a) (Vm.Alike.refl U.vm) qK, qN.calling, qD⟩, va_recv hK hP (ci := 11) (q0 := 7) rfl rfl, fun U hU hW => ⟨rfl, by rw [hU], by rw [hU]; exact hPc, va_K.moved hW.alike hK, NN.warm hW hN, hDc.weaken (fun _ _ _ _ => trivial)⟩⟩ rfl rfl hl.1 rfl (lv_room (Nat.le_of_ble_eq_true rfl)) d_DiscMakerModel_describe_228 ⟨hkc, hks⟩) hS (fun q _ h => hFc q h) hFc (fun u t H1 locs ht hvm hp_r41 hB hz1 hk1 hS => ?_)
                obtain ⟨G_42, rfl⟩ : ∃ z, z = u := ⟨_, rfl⟩
                obtain ⟨hP1, hD1⟩ := hB
                rw [ht] at hP1
                obtain ⟨hP, hD⟩ := va_join (wr := [((ma 18), .inl (cI, 80, .inl fSe)), ((ma 19), .inl (cI, 80, .inl fSs)), ((ma 1), .inl (cI, 40, .inl fK)), ((ma 9), .inl (cI, 40, .inl fNS)), ((ma 13), .inl (cI, 40, .inl fBs)), ((ma 15), .inl (cI, 40, .inl fEs)), ((ma 17), .inl (cI, 24, .inl fTb))]) (w1 := [(h0, .inr (11, MO ma sv_thrown sv_length sv_nodes sv_many sv_directories sv_runsFrom sv_runs sv_read sv_wrong sv_isNamed sv_goes sv_goesSize sv_goesAt sv_targetParts sv_isRoot)), ((ma 16), .inl (cJ, 46080, .inr (.inl G_42)))]) hP hD [7, 8] [0, 1, 2, 3, 4, 5, 6] rfl rfl (by decide +kernel) (by decide +kernel) hk1 hFc hP1 hD1
                clear hPc hDc hFc hP1 hD1 hk1 hz1 hkc hks
                generalize H1 = H at hP hS ⊢
                have hP : va_P D CL [((ma 18), .inl (cI, 80, .inl fSe)), ((ma 19), .inl (cI, 80, .inl fSs)), ((ma 1), .inl (cI, 40, .inl fK)), ((ma 9), .inl (cI, 40, .inl fNS)), ((ma 13), .inl (cI, 40, .inl fBs)), ((ma 15), .inl (cI, 40, .inl fEs)), ((ma 17), .inl (cI, 24, .inl fTb)), (h0, .inr (11, MO ma sv_thrown sv_length sv_nodes sv_many sv_directories sv_runsFrom sv_runs sv_read sv_wrong sv_isNamed sv_goes sv_goesSize sv_goesAt sv_targetParts sv_isRoot)), ((ma 16), .inl (cJ, 46080, .inr (.inl G_42)))] H := hP
                have hD : va_D A [((ma 18), .inl (cI, 80, .inl fSe)), ((ma 19), .inl (cI, 80, .inl fSs)), ((ma 1), .inl (cI, 40, .inl fK)), ((ma 9), .inl (cI, 40, .inl fNS)), ((ma 13), .inl (cI, 40, .inl fBs)), ((ma 15), .inl (cI, 40, .inl fEs)), ((ma 17), .inl (cI, 24, .inl fTb)), (h0, .inr (11, MO ma sv_thrown sv_length sv_nodes sv_many sv_directories sv_runsFrom sv_runs sv_read sv_wrong sv_isNamed sv_goes sv_goesSize sv_goesAt sv_targetParts sv_isRoot)), ((ma 16), .inl (cJ, 46080, .inr (.inl G_42)))] := hD
                refine lv_aload_n hx hb d_DiscMakerModel_describe_231 rfl (lv_at hl 0 rfl) ?_
                refine lv_iload_n hx hb d_DiscMakerModel_describe_232 rfl (lv_at hl 2 rfl) ?_
                refine lv_sipush (v := 148) hx hb d_DiscMakerModel_describe_233 (by decide) ?_
                refine lv_iadd hx hb d_DiscMakerModel_describe_236 ?_
                refine lv_topi (fun v43 e_v43 => ?_)
                have t_v43 : v43.toInt = v2.toInt + 148 := by rw [e_v43]; exact i_add rfl (by decide) (by omega) (by omega)
                refine lv_iconst (v := 4) hx hb d_DiscMakerModel_describe_237 (by decide) ?_
                refine lv_bipush (v := 20) hx hb d_DiscMakerModel_describe_238 (by decide) ?_
                refine lv_iconst (v := 2) hx hb d_DiscMakerModel_describe_240 (by decide) ?_
                refine lv_iload_n hx hb d_DiscMakerModel_describe_241 rfl (lv_at hl 1 rfl) ?_
                refine lv_imul hx hb d_DiscMakerModel_describe_242 ?_
                refine lv_topi (fun v44 e_v44 => ?_)
                have t_v44 : v44.toInt = 2 * tx.toInt := by rw [e_v44]; exact i_mul (by decide) rfl (by omega) (by omega)
                refine lv_iadd hx hb d_DiscMakerModel_describe_243 ?_
                refine lv_topi (fun v45 e_v45 => ?_)
                have t_v45 : v45.toInt = 20 + v44.toInt := by rw [e_v45]; exact i_add (by decide) rfl (by omega) (by omega)
                have hPc := hP.sub (ws' := [(h0, .inr (11, MO ma sv_thrown sv_length sv_nodes sv_many sv_directories sv_runsFrom sv_runs sv_read sv_wrong sv_isNamed sv_goes sv_goesSize sv_goesAt sv_targetParts sv_isRoot)), ((ma 16), .inl (cJ, 46080, .inr (.inl G_42)))]) [7, 8] rfl
                have hDc := hD.sub (ws' := [(h0, .inr (11, MO ma sv_thrown sv_length sv_nodes sv_many sv_directories sv_runsFrom sv_runs sv_read sv_wrong sv_isNamed sv_goes sv_goesSize sv_goesAt sv_targetParts sv_isRoot)), ((ma 16), .inl (cJ, 46080, .inr (.inl G_42)))]) [7, 8] (by decide +kernel) rfl
                have hFc := va_free (wc := [(h0, .inr (11, MO ma sv_thrown sv_length sv_nodes sv_many sv_directories sv_runsFrom sv_runs sv_read sv_wrong sv_isNamed sv_goes sv_goesSize sv_goesAt sv_targetParts sv_isRoot)), ((ma 16), .inl (cJ, 46080, .inr (.inl G_42)))]) hD hS hA [7, 8] rfl
                have hkc : 0 ≤ 0 := by decide
                have hks : 0 ≤ 0 := by decide
                refine va_callv (va_runV (C := "DiscMakerModel") (As := [.int v43, .int 4, .int v45]) (rest := []) ⟨hx, hb, hml, hown, hts⟩ (m_high l D cB cI cJ cZ cN cF H.size h0 ma sv_thrown sv_length sv_nodes sv_many sv_directories sv_runsFrom sv_runs sv_read sv_wrong sv_isNamed sv_goes sv_goesSize sv_goesAt sv_targetParts sv_isRoot G_42 v43 4 v45 (by (try dsimp only); first | assumption | omega | trivial) (by (try dsimp only); first | assumption | omega | trivial) (by (try dsimp only); first | assumption | omega | trivial)) (cwV 3 hts (lg_goodV k1748 k1750 k83 k125 kc_DiscMakerModel_high) rfl rfl rfl (by decide +kernel) ⟨Nat.le_of_ble_eq_true rfl, Nat.le_of_ble_eq_true rfl⟩) ⟨fun a U g mk q => by obtain ⟨q0, q1, qP, qK, qN, qD⟩ := q; exact ⟨q0, q1, qP, va_K.moved (u := U) (U := U.calling g mk a) (Vm.Alike.refl U.vm) qK, qN.calling, qD⟩, va_recv hK hP (ci := 11) (q0 := 7) rfl rfl, fun U hU hW => ⟨rfl, by rw [hU], by rw [hU]; exact hPc, va_K.moved hW.alike hK, NN.warm hW hN, hDc.weaken (fun _ _ _ _ => trivial)⟩⟩ rfl rfl hl.1 rfl (lv_room (Nat.le_of_ble_eq_true rfl)) d_DiscMakerModel_describe_244 ⟨hkc, hks⟩) hS (fun q _ h => hFc q h) hFc (fun u t H1 locs ht hvm hp_r46 hB hz1 hk1 hS => ?_)
                obtain ⟨G_47, rfl⟩ : ∃ z, z = u := ⟨_, rfl⟩
                obtain ⟨hP1, hD1⟩ := hB
                rw [ht] at hP1
                obtain ⟨hP, hD⟩ := va_join (wr := [((ma 18), .inl (cI, 80, .inl fSe)), ((ma 19), .inl (cI, 80, .inl fSs)), ((ma 1), .inl (cI, 40, .inl fK)), ((ma 9), .inl (cI, 40, .inl fNS)), ((ma 13), .inl (cI, 40, .inl fBs)), ((ma 15), .inl (cI, 40, .inl fEs)), ((ma 17), .inl (cI, 24, .inl fTb))]) (w1 := [(h0, .inr (11, MO ma sv_thrown sv_length sv_nodes sv_many sv_directories sv_runsFrom sv_runs sv_read sv_wrong sv_isNamed sv_goes sv_goesSize sv_goesAt sv_targetParts sv_isRoot)), ((ma 16), .inl (cJ, 46080, .inr (.inl G_47)))]) hP hD [7, 8] [0, 1, 2, 3, 4, 5, 6] rfl rfl (by decide +kernel) (by decide +kernel) hk1 hFc hP1 hD1
                clear hPc hDc hFc hP1 hD1 hk1 hz1 hkc hks
                generalize H1 = H at hP hS ⊢
                have hP : va_P D CL [((ma 18), .inl (cI, 80, .inl fSe)), ((ma 19), .inl (cI, 80, .inl fSs)), ((ma 1), .inl (cI, 40, .inl fK)), ((ma 9), .inl (cI, 40, .inl fNS)), ((ma 13), .inl (cI, 40, .inl fBs)), ((ma 15), .inl (cI, 40, .inl fEs)), ((ma 17), .inl (cI, 24, .inl fTb)), (h0, .inr (11, MO ma sv_thrown sv_length sv_nodes sv_many sv_directories sv_runsFrom sv_runs sv_read sv_wrong sv_isNamed sv_goes sv_goesSize sv_goesAt sv_targetParts sv_isRoot)), ((ma 16), .inl (cJ, 46080, .inr (.inl G_47)))] H := hP
                have hD : va_D A [((ma 18), .inl (cI, 80, .inl fSe)), ((ma 19), .inl (cI, 80, .inl fSs)), ((ma 1), .inl (cI, 40, .inl fK)), ((ma 9), .inl (cI, 40, .inl fNS)), ((ma 13), .inl (cI, 40, .inl fBs)), ((ma 15), .inl (cI, 40, .inl fEs)), ((ma 17), .inl (cI, 24, .inl fTb)), (h0, .inr (11, MO ma sv_thrown sv_length sv_nodes sv_many sv_directories sv_runsFrom sv_runs sv_read sv_wrong sv_isNamed sv_goes sv_goesSize sv_goesAt sv_targetParts sv_isRoot)), ((ma 16), .inl (cJ, 46080, .inr (.inl G_47)))] := hD
                refine lv_aload_n hx hb d_DiscMakerModel_describe_247 rfl (lv_at hl 0 rfl) ?_
                refine lv_iload_n hx hb d_DiscMakerModel_describe_248 rfl (lv_at hl 1 rfl) ?_
                refine lv_iload_n hx hb d_DiscMakerModel_describe_249 rfl (lv_at hl 2 rfl) ?_
                refine lv_sipush (v := 156) hx hb d_DiscMakerModel_describe_250 (by decide) ?_
                refine lv_iadd hx hb d_DiscMakerModel_describe_253 ?_
                refine lv_topi (fun v48 e_v48 => ?_)
                have t_v48 : v48.toInt = v2.toInt + 156 := by rw [e_v48]; exact i_add rfl (by decide) (by omega) (by omega)
                have hPc := hP.sub (ws' := [(h0, .inr (11, MO ma sv_thrown sv_length sv_nodes sv_many sv_directories sv_runsFrom sv_runs sv_read sv_wrong sv_isNamed sv_goes sv_goesSize sv_goesAt sv_targetParts sv_isRoot)), ((ma 16), .inl (cJ, 46080, .inr (.inl G_47))), ((ma 18), .inl (cI, 80, .inl fSe)), ((ma 19), .inl (cI, 80, .inl fSs))]) [7, 8, 0, 1] rfl
                have hDc := hD.sub (ws' := [(h0, .inr (11, MO ma sv_thrown sv_length sv_nodes sv_many sv_directories sv_runsFrom sv_runs sv_read sv_wrong sv_isNamed sv_goes sv_goesSize sv_goesAt sv_targetParts sv_isRoot)), ((ma 16), .inl (cJ, 46080, .inr (.inl G_47))), ((ma 18), .inl (cI, 80, .inl fSe)), ((ma 19), .inl (cI, 80, .inl fSs))]) [7, 8, 0, 1] (by decide +kernel) rfl
                have hFc := va_free (wc := [(h0, .inr (11, MO ma sv_thrown sv_length sv_nodes sv_many sv_directories sv_runsFrom sv_runs sv_read sv_wrong sv_isNamed sv_goes sv_goesSize sv_goesAt sv_targetParts sv_isRoot)), ((ma 16), .inl (cJ, 46080, .inr (.inl G_47))), ((ma 18), .inl (cI, 80, .inl fSe)), ((ma 19), .inl (cI, 80, .inl fSs))]) hD hS hA [7, 8, 0, 1] rfl
                have hkc : 0 ≤ 0 := by decide
                have hks : 0 ≤ 0 := by decide
                refine va_callv (va_runV (C := "DiscMakerModel") (As := [.int tx, .int v48]) (rest := []) ⟨hx, hb, hml, hown, hts⟩ (m_rootRecord l D cB cI cJ cZ cN cF H.size h0 ma sv_thrown sv_length sv_nodes sv_many sv_directories sv_runsFrom sv_runs sv_read sv_wrong sv_isNamed sv_goes sv_goesSize sv_goesAt sv_targetParts sv_isRoot G_47 fSe fSs tx v48 (by (try dsimp only); first | assumption | omega | trivial) (by (try dsimp only); first | assumption | omega | trivial)) (cwV 2 hts (lg_goodV k1789 k1791 k92 k125 kc_DiscMakerModel_rootRecord) rfl rfl rfl (by decide +kernel) ⟨Nat.le_of_ble_eq_true rfl, Nat.le_of_ble_eq_true rfl⟩) ⟨fun a U g mk q => by obtain ⟨q0, q1, qP, qK, qN, qD⟩ := q; exact ⟨q0, q1, qP, va_K.moved (u := U) (U := U.calling g mk a) (Vm.Alike.refl U.vm) qK, qN.calling, qD⟩, va_recv hK hP (ci := 11) (q0 := 7) rfl rfl, fun U hU hW => ⟨rfl, by rw [hU], by rw [hU]; exact hPc, va_K.moved hW.alike hK, NN.warm hW hN, hDc.weaken (fun _ _ _ _ => trivial)⟩⟩ rfl rfl hl.1 rfl (lv_room (Nat.le_of_ble_eq_true rfl)) d_DiscMakerModel_describe_254 ⟨hkc, hks⟩) hS (fun q _ h => hFc q h) hFc (fun u t H1 locs ht hvm hp_r49 hB hz1 hk1 hS => ?_)
                obtain ⟨G_50, rfl⟩ : ∃ z, z = u := ⟨_, rfl⟩
                obtain ⟨hP1, hD1⟩ := hB
                rw [ht] at hP1
                obtain ⟨hP, hD⟩ := va_join (wr := [((ma 1), .inl (cI, 40, .inl fK)), ((ma 9), .inl (cI, 40, .inl fNS)), ((ma 13), .inl (cI, 40, .inl fBs)), ((ma 15), .inl (cI, 40, .inl fEs)), ((ma 17), .inl (cI, 24, .inl fTb))]) (w1 := [(h0, .inr (11, MO ma sv_thrown sv_length sv_nodes sv_many sv_directories sv_runsFrom sv_runs sv_read sv_wrong sv_isNamed sv_goes sv_goesSize sv_goesAt sv_targetParts sv_isRoot)), ((ma 16), .inl (cJ, 46080, .inr (.inl G_50))), ((ma 18), .inl (cI, 80, .inl fSe)), ((ma 19), .inl (cI, 80, .inl fSs))]) hP hD [7, 8, 0, 1] [2, 3, 4, 5, 6] rfl rfl (by decide +kernel) (by decide +kernel) hk1 hFc hP1 hD1
                clear hPc hDc hFc hP1 hD1 hk1 hz1 hkc hks
                generalize H1 = H at hP hS ⊢
                have hP : va_P D CL [((ma 1), .inl (cI, 40, .inl fK)), ((ma 9), .inl (cI, 40, .inl fNS)), ((ma 13), .inl (cI, 40, .inl fBs)), ((ma 15), .inl (cI, 40, .inl fEs)), ((ma 17), .inl (cI, 24, .inl fTb)), (h0, .inr (11, MO ma sv_thrown sv_length sv_nodes sv_many sv_directories sv_runsFrom sv_runs sv_read sv_wrong sv_isNamed sv_goes sv_goesSize sv_goesAt sv_targetParts sv_isRoot)), ((ma 16), .inl (cJ, 46080, .inr (.inl G_50))), ((ma 18), .inl (cI, 80, .inl fSe)), ((ma 19), .inl (cI, 80, .inl fSs))] H := hP
                have hD : va_D A [((ma 1), .inl (cI, 40, .inl fK)), ((ma 9), .inl (cI, 40, .inl fNS)), ((ma 13), .inl (cI, 40, .inl fBs)), ((ma 15), .inl (cI, 40, .inl fEs)), ((ma 17), .inl (cI, 24, .inl fTb)), (h0, .inr (11, MO ma sv_thrown sv_length sv_nodes sv_many sv_directories sv_runsFrom sv_runs sv_read sv_wrong sv_isNamed sv_goes sv_goesSize sv_goesAt sv_targetParts sv_isRoot)), ((ma 16), .inl (cJ, 46080, .inr (.inl G_50))), ((ma 18), .inl (cI, 80, .inl fSe)), ((ma 19), .inl (cI, 80, .inl fSs))] := hD
                refine lv_sipush (v := 190) hx hb d_DiscMakerModel_describe_257 (by decide) ?_
                refine lv_istore_n hx hb d_DiscMakerModel_describe_260 rfl hl (by decide) rfl (fun ls hl => ?_)
                have hl : lv_has ls 4 [(3, .int 190), (0, .ref h0), (1, .int tx), (2, .int v2)] := hl
                refine zz_labM (B := fun (lk : Nat) (K : Heap → List Loc → Array Slot → List Value → Prop) => ∀ (kb : Int32) (nB : Nat → Int64) (H : Heap) (locs : List Loc) (ls : Array Slot), lk = (813 - kb.toInt).toNat → (190 ≤ kb.toInt ∧ kb.toInt ≤ 813) → va_P D CL [((ma 1), .inl (cI, 40, .inl fK)), ((ma 9), .inl (cI, 40, .inl fNS)), ((ma 13), .inl (cI, 40, .inl fBs)), ((ma 15), .inl (cI, 40, .inl fEs)), ((ma 17), .inl (cI, 24, .inl fTb)), (h0, .inr (11, MO ma sv_thrown sv_length sv_nodes sv_many sv_directories sv_runsFrom sv_runs sv_read sv_wrong sv_isNamed sv_goes sv_goesSize sv_goesAt sv_targetParts sv_isRoot)), ((ma 16), .inl (cJ, 46080, .inr (.inl nB))), ((ma 18), .inl (cI, 80, .inl fSe)), ((ma 19), .inl (cI, 80, .inl fSs))] H → va_D A [((ma 1), .inl (cI, 40, .inl fK)), ((ma 9), .inl (cI, 40, .inl fNS)), ((ma 13), .inl (cI, 40, .inl fBs)), ((ma 15), .inl (cI, 40, .inl fEs)), ((ma 17), .inl (cI, 24, .inl fTb)), (h0, .inr (11, MO ma sv_thrown sv_length sv_nodes sv_many sv_directories sv_runsFrom sv_runs sv_read sv_wrong sv_isNamed sv_goes sv_goesSize sv_goesAt sv_targetParts sv_isRoot)), ((ma 16), .inl (cJ, 46080, .inr (.inl nB))), ((ma 18), .inl (cI, 80, .inl fSe)), ((ma 19), .inl (cI, 80, .inl fSs))] → va_S A s.heap H locs → lv_has ls 4 [(0, .ref h0), (1, .int tx), (2, .int v2), (3, .int kb)] → K H locs ls []) 261 ?_ ?_
                · skip
                  intro lk ih261 kb nB H locs ls hm261 gkb hP hD hS hl
                  refine lv_iload_n hx hb d_DiscMakerModel_describe_261 rfl (lv_at hl 3 rfl) ?_
                  refine lv_sipush (v := 813) hx hb d_DiscMakerModel_describe_262 (by decide) ?_
                  refine lv_icmp_ge (tgt := 283) hx hb d_DiscMakerModel_describe_265 (by decide) (fun h_9 => ?_) (fun h_9 => ?_)
                  · skip
                    have g265_129 : 813 ≤ kb.toInt := (i_le (by decide) rfl).mp h_9
                    refine lv_iconst (v := 0) hx hb d_DiscMakerModel_describe_283 (by decide) ?_
                    refine lv_istore_n hx hb d_DiscMakerModel_describe_284 rfl hl (by decide) rfl (fun ls hl => ?_)
                    have hl : lv_has ls 4 [(3, .int 0), (0, .ref h0), (1, .int tx), (2, .int v2)] := hl
                    refine zz_labM (B := fun (lk : Nat) (K : Heap → List Loc → Array Slot → List Value → Prop) => ∀ (kc : Int32) (nC : Nat → Int64) (H : Heap) (locs : List Loc) (ls : Array Slot), lk = (68 - kc.toInt).toNat → (0 ≤ kc.toInt ∧ kc.toInt ≤ 68) → va_P D CL [((ma 1), .inl (cI, 40, .inl fK)), ((ma 9), .inl (cI, 40, .inl fNS)), ((ma 13), .inl (cI, 40, .inl fBs)), ((ma 15), .inl (cI, 40, .inl fEs)), ((ma 17), .inl (cI, 24, .inl fTb)), (h0, .inr (11, MO ma sv_thrown sv_length sv_nodes sv_many sv_directories sv_runsFrom sv_runs sv_read sv_wrong sv_isNamed sv_goes sv_goesSize sv_goesAt sv_targetParts sv_isRoot)), ((ma 16), .inl (cJ, 46080, .inr (.inl nC))), ((ma 18), .inl (cI, 80, .inl fSe)), ((ma 19), .inl (cI, 80, .inl fSs))] H → va_D A [((ma 1), .inl (cI, 40, .inl fK)), ((ma 9), .inl (cI, 40, .inl fNS)), ((ma 13), .inl (cI, 40, .inl fBs)), ((ma 15), .inl (cI, 40, .inl fEs)), ((ma 17), .inl (cI, 24, .inl fTb)), (h0, .inr (11, MO ma sv_thrown sv_length sv_nodes sv_many sv_directories sv_runsFrom sv_runs sv_read sv_wrong sv_isNamed sv_goes sv_goesSize sv_goesAt sv_targetParts sv_isRoot)), ((ma 16), .inl (cJ, 46080, .inr (.inl nC))), ((ma 18), .inl (cI, 80, .inl fSe)), ((ma 19), .inl (cI, 80, .inl fSs))] → va_S A s.heap H locs → lv_has ls 4 [(0, .ref h0), (1, .int tx), (2, .int v2), (3, .int kc)] → K H locs ls []) 285 ?_ ?_
                    · skip
                      intro lk ih285 kc nC H locs ls hm285 gkc hP hD hS hl
                      refine lv_iload_n hx hb d_DiscMakerModel_describe_285 rfl (lv_at hl 3 rfl) ?_
                      refine lv_bipush (v := 68) hx hb d_DiscMakerModel_describe_286 (by decide) ?_
                      refine lv_icmp_ge (tgt := 323) hx hb d_DiscMakerModel_describe_288 (by decide) (fun h_9 => ?_) (fun h_9 => ?_)
                      · skip
                        have g288_134 : 68 ≤ kc.toInt := (i_le (by decide) rfl).mp h_9
                        refine lv_aload_n hx hb d_DiscMakerModel_describe_323 rfl (lv_at hl 0 rfl) ?_
                        refine lv_iload_n hx hb d_DiscMakerModel_describe_324 rfl (lv_at hl 2 rfl) ?_
                        refine lv_sipush (v := 881) hx hb d_DiscMakerModel_describe_325 (by decide) ?_
                        refine lv_iadd hx hb d_DiscMakerModel_describe_328 ?_
                        refine lv_topi (fun v51 e_v51 => ?_)
                        have t_v51 : v51.toInt = v2.toInt + 881 := by rw [e_v51]; exact i_add rfl (by decide) (by omega) (by omega)
                        refine lv_iconst (v := 1) hx hb d_DiscMakerModel_describe_329 (by decide) ?_
                        have hPc := hP.sub (ws' := [(h0, .inr (11, MO ma sv_thrown sv_length sv_nodes sv_many sv_directories sv_runsFrom sv_runs sv_read sv_wrong sv_isNamed sv_goes sv_goesSize sv_goesAt sv_targetParts sv_isRoot)), ((ma 16), .inl (cJ, 46080, .inr (.inl nC)))]) [5, 6] rfl
                        have hDc := hD.sub (ws' := [(h0, .inr (11, MO ma sv_thrown sv_length sv_nodes sv_many sv_directories sv_runsFrom sv_runs sv_read sv_wrong sv_isNamed sv_goes sv_goesSize sv_goesAt sv_targetParts sv_isRoot)), ((ma 16), .inl (cJ, 46080, .inr (.inl nC)))]) [5, 6] (by decide +kernel) rfl
                        have hFc := va_free (wc := [(h0, .inr (11, MO ma sv_thrown sv_length sv_nodes sv_many sv_directories sv_runsFrom sv_runs sv_read sv_wrong sv_isNamed sv_goes sv_goesSize sv_goesAt sv_targetParts sv_isRoot)), ((ma 16), .inl (cJ, 46080, .inr (.inl nC)))]) hD hS hA [5, 6] rfl
                        have hkc : 0 ≤ 0 := by decide
                        have hks : 0 ≤ 0 := by decide
                        refine va_callv (va_runV (C := "DiscMakerModel") (As := [.int v51, .int 1]) (rest := []) ⟨hx, hb, hml, hown, hts⟩ (m_set l D cB cI cJ cZ cN cF H.size h0 ma sv_thrown sv_length sv_nodes sv_many sv_directories sv_runsFrom sv_runs sv_read sv_wrong sv_isNamed sv_goes sv_goesSize sv_goesAt sv_targetParts sv_isRoot nC v51 1 (by (try dsimp only); first | assumption | omega | trivial) (by (try dsimp only); first | assumption | omega | trivial)) (cwV 2 hts (lg_goodV k1727 k1729 k79 k125 kc_DiscMakerModel_set) rfl rfl rfl (by decide +kernel) ⟨Nat.le_of_ble_eq_true rfl, Nat.le_of_ble_eq_true rfl⟩) ⟨fun a U g mk q => by obtain ⟨q0, q1, qP, qK, qN, qD⟩ := q; exact ⟨q0, q1, qP, va_K.moved (u := U) (U := U.calling g mk a) (Vm.Alike.refl U.vm) qK, qN.calling, qD⟩, va_recv hK hP (ci := 11) (q0 := 5) rfl rfl, fun U hU hW => ⟨rfl, by rw [hU], by rw [hU]; exact hPc, va_K.moved hW.alike hK, NN.warm hW hN, hDc.weaken (fun _ _ _ _ => trivial)⟩⟩ rfl rfl hl.1 rfl (lv_room (Nat.le_of_ble_eq_true rfl)) d_DiscMakerModel_describe_330 ⟨hkc, hks⟩) hS (fun q _ h => hFc q h) hFc (fun u t H1 locs ht hvm hp_r52 hB hz1 hk1 hS => ?_)
                        obtain ⟨G_53, rfl⟩ : ∃ z, z = u := ⟨_, rfl⟩
                        obtain ⟨hP1, hD1⟩ := hB
                        rw [ht] at hP1
                        obtain ⟨hP, hD⟩ := va_join (wr := [((ma 1), .inl (cI, 40, .inl fK)), ((ma 9), .inl (cI, 40, .inl fNS)), ((ma 13), .inl (cI, 40, .inl fBs)), ((ma 15), .inl (cI, 40, .inl fEs)), ((ma 17), .inl (cI, 24, .inl fTb)), ((ma 18), .inl (cI, 80, .inl fSe)), ((ma 19), .inl (cI, 80, .inl fSs))]) (w1 := [(h0, .inr (11, MO ma sv_thrown sv_length sv_nodes sv_many sv_directories sv_runsFrom sv_runs sv_read sv_wrong sv_isNamed sv_goes sv_goesSize sv_goesAt sv_targetParts sv_isRoot)), ((ma 16), .inl (cJ, 46080, .inr (.inl G_53)))]) hP hD [5, 6] [0, 1, 2, 3, 4, 7, 8] rfl rfl (by decide +kernel) (by decide +kernel) hk1 hFc hP1 hD1
                        clear hPc hDc hFc hP1 hD1 hk1 hz1 hkc hks
                        generalize H1 = H at hP hS ⊢
                        have hP : va_P D CL [((ma 1), .inl (cI, 40, .inl fK)), ((ma 9), .inl (cI, 40, .inl fNS)), ((ma 13), .inl (cI, 40, .inl fBs)), ((ma 15), .inl (cI, 40, .inl fEs)), ((ma 17), .inl (cI, 24, .inl fTb)), ((ma 18), .inl (cI, 80, .inl fSe)), ((ma 19), .inl (cI, 80, .inl fSs)), (h0, .inr (11, MO ma sv_thrown sv_length sv_nodes sv_many sv_directories sv_runsFrom sv_runs sv_read sv_wrong sv_isNamed sv_goes sv_goesSize sv_goesAt sv_targetParts sv_isRoot)), ((ma 16), .inl (cJ, 46080, .inr (.inl G_53)))] H := hP
                        have hD : va_D A [((ma 1), .inl (cI, 40, .inl fK)), ((ma 9), .inl (cI, 40, .inl fNS)), ((ma 13), .inl (cI, 40, .inl fBs)), ((ma 15), .inl (cI, 40, .inl fEs)), ((ma 17), .inl (cI, 24, .inl fTb)), ((ma 18), .inl (cI, 80, .inl fSe)), ((ma 19), .inl (cI, 80, .inl fSs)), (h0, .inr (11, MO ma sv_thrown sv_length sv_nodes sv_many sv_directories sv_runsFrom sv_runs sv_read sv_wrong sv_isNamed sv_goes sv_goesSize sv_goesAt sv_targetParts sv_isRoot)), ((ma 16), .inl (cJ, 46080, .inr (.inl G_53)))] := hD
                        obtain ⟨v54, e_v54⟩ : ∃ z : Int32, z = tx + 1 := ⟨_, rfl⟩
                        refine lv_iinc (v := v54) hx hb d_DiscMakerModel_describe_333 hl (k := 1) rfl e_v54.symm (by decide +kernel) rfl (fun ls hl => ?_)
                        have t_v54 : v54.toInt = tx.toInt + 1 := by rw [e_v54]; exact i_add rfl (by decide) (by omega) (by omega)
                        have hl : lv_has ls 4 [(1, .int v54), (0, .ref h0), (2, .int v2), (3, .int kc)] := hl
                        refine lv_goto (tgt := 2) hx hb d_DiscMakerModel_describe_336 (by decide) ?_
                        have hP := hP.sub (ws' := [(h0, .inr (11, MO ma sv_thrown sv_length sv_nodes sv_many sv_directories sv_runsFrom sv_runs sv_read sv_wrong sv_isNamed sv_goes sv_goesSize sv_goesAt sv_targetParts sv_isRoot)), ((ma 16), .inl (cJ, 46080, .inr (.inl G_53))), ((ma 1), .inl (cI, 40, .inl fK)), ((ma 9), .inl (cI, 40, .inl fNS)), ((ma 13), .inl (cI, 40, .inl fBs)), ((ma 15), .inl (cI, 40, .inl fEs)), ((ma 17), .inl (cI, 24, .inl fTb)), ((ma 18), .inl (cI, 80, .inl fSe)), ((ma 19), .inl (cI, 80, .inl fSs))]) [7, 8, 0, 1, 2, 3, 4, 5, 6] rfl
                        have hD := hD.sub (ws' := [(h0, .inr (11, MO ma sv_thrown sv_length sv_nodes sv_many sv_directories sv_runsFrom sv_runs sv_read sv_wrong sv_isNamed sv_goes sv_goesSize sv_goesAt sv_targetParts sv_isRoot)), ((ma 16), .inl (cJ, 46080, .inr (.inl G_53))), ((ma 1), .inl (cI, 40, .inl fK)), ((ma 9), .inl (cI, 40, .inl fNS)), ((ma 13), .inl (cI, 40, .inl fBs)), ((ma 15), .inl (cI, 40, .inl fEs)), ((ma 17), .inl (cI, 24, .inl fTb)), ((ma 18), .inl (cI, 80, .inl fSe)), ((ma 19), .inl (cI, 80, .inl fSs))]) [7, 8, 0, 1, 2, 3, 4, 5, 6] (by decide +kernel) rfl
                        have hl := lv_sub hl [1, 0] rfl
                        exact ih2 _ (by first | omega | (dsimp only; omega)) v54 G_53 _ _ _ rfl ((by (try dsimp only); first | assumption | omega | trivial)) hP hD hS hl
                      · skip
                        have g288_134 : ¬ 68 ≤ kc.toInt := fun h8 => h_9 ((i_le (by decide) rfl).mpr h8)
                        refine lv_aload_n hx hb d_DiscMakerModel_describe_291 rfl (lv_at hl 0 rfl) ?_
                        refine lv_iload_n hx hb d_DiscMakerModel_describe_292 rfl (lv_at hl 2 rfl) ?_
                        refine lv_sipush (v := 813) hx hb d_DiscMakerModel_describe_293 (by decide) ?_
                        refine lv_iadd hx hb d_DiscMakerModel_describe_296 ?_
                        refine lv_topi (fun v55 e_v55 => ?_)
                        have t_v55 : v55.toInt = v2.toInt + 813 := by rw [e_v55]; exact i_add rfl (by decide) (by omega) (by omega)
                        refine lv_iload_n hx hb d_DiscMakerModel_describe_297 rfl (lv_at hl 3 rfl) ?_
                        refine lv_iadd hx hb d_DiscMakerModel_describe_298 ?_
                        refine lv_topi (fun v56 e_v56 => ?_)
                        have t_v56 : v56.toInt = v55.toInt + kc.toInt := by rw [e_v56]; exact i_add rfl rfl (by omega) (by omega)
                        refine zz_labM (B := fun (lk : Nat) (K : Heap → List Loc → Array Slot → List Value → Prop) => ∀ (jC : Nat → Int64) (H : Heap) (locs : List Loc) (ls : Array Slot), lk = 0 → va_P D CL [((ma 1), .inl (cI, 40, .inl fK)), ((ma 9), .inl (cI, 40, .inl fNS)), ((ma 13), .inl (cI, 40, .inl fBs)), ((ma 15), .inl (cI, 40, .inl fEs)), ((ma 17), .inl (cI, 24, .inl fTb)), (h0, .inr (11, MO ma sv_thrown sv_length sv_nodes sv_many sv_directories sv_runsFrom sv_runs sv_read sv_wrong sv_isNamed sv_goes sv_goesSize sv_goesAt sv_targetParts sv_isRoot)), ((ma 16), .inl (cJ, 46080, .inr (.inl jC))), ((ma 18), .inl (cI, 80, .inl fSe)), ((ma 19), .inl (cI, 80, .inl fSs))] H → va_D A [((ma 1), .inl (cI, 40, .inl fK)), ((ma 9), .inl (cI, 40, .inl fNS)), ((ma 13), .inl (cI, 40, .inl fBs)), ((ma 15), .inl (cI, 40, .inl fEs)), ((ma 17), .inl (cI, 24, .inl fTb)), (h0, .inr (11, MO ma sv_thrown sv_length sv_nodes sv_many sv_directories sv_runsFrom sv_runs sv_read sv_wrong sv_isNamed sv_goes sv_goesSize sv_goesAt sv_targetParts sv_isRoot)), ((ma 16), .inl (cJ, 46080, .inr (.inl jC))), ((ma 18), .inl (cI, 80, .inl fSe)), ((ma 19), .inl (cI, 80, .inl fSs))] → va_S A s.heap H locs → lv_has ls 4 [(0, .ref h0), (1, .int tx), (2, .int v2), (3, .int kc)] → K H locs ls []) 317 ?_ ?_
                        · skip
                          intro lk ih317 jC H locs ls hm317 hP hD hS hl
                          obtain ⟨v57, e_v57⟩ : ∃ z : Int32, z = kc + 1 := ⟨_, rfl⟩
                          refine lv_iinc (v := v57) hx hb d_DiscMakerModel_describe_317 hl (k := 3) rfl e_v57.symm (by decide +kernel) rfl (fun ls hl => ?_)
                          have t_v57 : v57.toInt = kc.toInt + 1 := by rw [e_v57]; exact i_add rfl (by decide) (by omega) (by omega)
                          have hl : lv_has ls 4 [(3, .int v57), (0, .ref h0), (1, .int tx), (2, .int v2)] := hl
                          refine lv_goto (tgt := 285) hx hb d_DiscMakerModel_describe_320 (by decide) ?_
                          have hP := hP.sub (ws' := [((ma 1), .inl (cI, 40, .inl fK)), ((ma 9), .inl (cI, 40, .inl fNS)), ((ma 13), .inl (cI, 40, .inl fBs)), ((ma 15), .inl (cI, 40, .inl fEs)), ((ma 17), .inl (cI, 24, .inl fTb)), (h0, .inr (11, MO ma sv_thrown sv_length sv_nodes sv_many sv_directories sv_runsFrom sv_runs sv_read sv_wrong sv_isNamed sv_goes sv_goesSize sv_goesAt sv_targetParts sv_isRoot)), ((ma 16), .inl (cJ, 46080, .inr (.inl jC))), ((ma 18), .inl (cI, 80, .inl fSe)), ((ma 19), .inl (cI, 80, .inl fSs))]) [0, 1, 2, 3, 4, 5, 6, 7, 8] rfl
                          have hD := hD.sub (ws' := [((ma 1), .inl (cI, 40, .inl fK)), ((ma 9), .inl (cI, 40, .inl fNS)), ((ma 13), .inl (cI, 40, .inl fBs)), ((ma 15), .inl (cI, 40, .inl fEs)), ((ma 17), .inl (cI, 24, .inl fTb)), (h0, .inr (11, MO ma sv_thrown sv_length sv_nodes sv_many sv_directories sv_runsFrom sv_runs sv_read sv_wrong sv_isNamed sv_goes sv_goesSize sv_goesAt sv_targetParts sv_isRoot)), ((ma 16), .inl (cJ, 46080, .inr (.inl jC))), ((ma 18), .inl (cI, 80, .inl fSe)), ((ma 19), .inl (cI, 80, .inl fSs))]) [0, 1, 2, 3, 4, 5, 6, 7, 8] (by decide +kernel) rfl
                          have hl := lv_sub hl [1, 2, 3, 0] rfl
                          exact ih285 _ (by first | omega | (dsimp only; omega)) v57 jC _ _ _ rfl ((by (try dsimp only); first | assumption | omega | trivial)) hP hD hS hl
                        · skip
                          intro kk317
                          refine lv_iload_n hx hb d_DiscMakerModel_describe_299 rfl (lv_at hl 3 rfl) ?_
                          refine lv_bipush (v := 17) hx hb d_DiscMakerModel_describe_300 (by decide) ?_
                          refine lv_irem hx hb d_DiscMakerModel_describe_302 (by decide) ?_
                          refine lv_topi (fun v58 e_v58 => ?_)
                          have t_v58 : v58.toInt = kc.toInt % 17 := by rw [e_v58]; exact i_rem rfl (by decide) (by omega) (by omega)
                          refine lv_bipush (v := 16) hx hb d_DiscMakerModel_describe_303 (by decide) ?_
                          refine lv_icmp_ge (tgt := 313) hx hb d_DiscMakerModel_describe_305 (by decide) (fun h_9 => ?_) (fun h_9 => ?_)
                          · skip
                            have g305_157 : 16 ≤ v58.toInt := (i_le (by decide) rfl).mp h_9
                            refine lv_iconst (v := 0) hx hb d_DiscMakerModel_describe_313 (by decide) ?_
                            have hPc := hP.sub (ws' := [(h0, .inr (11, MO ma sv_thrown sv_length sv_nodes sv_many sv_directories sv_runsFrom sv_runs sv_read sv_wrong sv_isNamed sv_goes sv_goesSize sv_goesAt sv_targetParts sv_isRoot)), ((ma 16), .inl (cJ, 46080, .inr (.inl nC)))]) [5, 6] rfl
                            have hDc := hD.sub (ws' := [(h0, .inr (11, MO ma sv_thrown sv_length sv_nodes sv_many sv_directories sv_runsFrom sv_runs sv_read sv_wrong sv_isNamed sv_goes sv_goesSize sv_goesAt sv_targetParts sv_isRoot)), ((ma 16), .inl (cJ, 46080, .inr (.inl nC)))]) [5, 6] (by decide +kernel) rfl
                            have hFc := va_free (wc := [(h0, .inr (11, MO ma sv_thrown sv_length sv_nodes sv_many sv_directories sv_runsFrom sv_runs sv_read sv_wrong sv_isNamed sv_goes sv_goesSize sv_goesAt sv_targetParts sv_isRoot)), ((ma 16), .inl (cJ, 46080, .inr (.inl nC)))]) hD hS hA [5, 6] rfl
                            have hkc : 0 ≤ 0 := by decide
                            have hks : 0 ≤ 0 := by decide
                            refine va_callv (va_runV (C := "DiscMakerModel") (As := [.int v56, .int 0]) (rest := []) ⟨hx, hb, hml, hown, hts⟩ (m_set l D cB cI cJ cZ cN cF H.size h0 ma sv_thrown sv_length sv_nodes sv_many sv_directories sv_runsFrom sv_runs sv_read sv_wrong sv_isNamed sv_goes sv_goesSize sv_goesAt sv_targetParts sv_isRoot nC v56 0 (by (try dsimp only); first | assumption | omega | trivial) (by (try dsimp only); first | assumption | omega | trivial)) (cwV 2 hts (lg_goodV k1727 k1729 k79 k125 kc_DiscMakerModel_set) rfl rfl rfl (by decide +kernel) ⟨Nat.le_of_ble_eq_true rfl, Nat.le_of_ble_eq_true rfl⟩) ⟨fun a U g mk q => by obtain ⟨q0, q1, qP, qK, qN, qD⟩ := q; exact ⟨q0, q1, qP, va_K.moved (u := U) (U := U.calling g mk a) (Vm.Alike.refl U.vm) qK, qN.calling, qD⟩, va_recv hK hP (ci := 11) (q0 := 5) rfl rfl, fun U hU hW => ⟨rfl, by rw [hU], by rw [hU]; exact hPc, va_K.moved hW.alike hK, NN.warm hW hN, hDc.weaken (fun _ _ _ _ => trivial)⟩⟩ rfl rfl hl.1 rfl (lv_room (Nat.le_of_ble_eq_true rfl)) d_DiscMakerModel_describe_314 ⟨hkc, hks⟩) hS (fun q _ h => hFc q h) hFc (fun u t H1 locs ht hvm hp_r59 hB hz1 hk1 hS => ?_)
                            obtain ⟨G_60, rfl⟩ : ∃ z, z = u := ⟨_, rfl⟩
                            obtain ⟨hP1, hD1⟩ := hB
                            rw [ht] at hP1
                            obtain ⟨hP, hD⟩ := va_join (wr := [((ma 1), .inl (cI, 40, .inl fK)), ((ma 9), .inl (cI, 40, .inl fNS)), ((ma 13), .inl (cI, 40, .inl fBs)), ((ma 15), .inl (cI, 40, .inl fEs)), ((ma 17), .inl (cI, 24, .inl fTb)), ((ma 18), .inl (cI, 80, .inl fSe)), ((ma 19), .inl (cI, 80, .inl fSs))]) (w1 := [(h0, .inr (11, MO ma sv_thrown sv_length sv_nodes sv_many sv_directories sv_runsFrom sv_runs sv_read sv_wrong sv_isNamed sv_goes sv_goesSize sv_goesAt sv_targetParts sv_isRoot)), ((ma 16), .inl (cJ, 46080, .inr (.inl G_60)))]) hP hD [5, 6] [0, 1, 2, 3, 4, 7, 8] rfl rfl (by decide +kernel) (by decide +kernel) hk1 hFc hP1 hD1
                            clear hPc hDc hFc hP1 hD1 hk1 hz1 hkc hks
                            generalize H1 = H at hP hS ⊢
                            have hP : va_P D CL [((ma 1), .inl (cI, 40, .inl fK)), ((ma 9), .inl (cI, 40, .inl fNS)), ((ma 13), .inl (cI, 40, .inl fBs)), ((ma 15), .inl (cI, 40, .inl fEs)), ((ma 17), .inl (cI, 24, .inl fTb)), ((ma 18), .inl (cI, 80, .inl fSe)), ((ma 19), .inl (cI, 80, .inl fSs)), (h0, .inr (11, MO ma sv_thrown sv_length sv_nodes sv_many sv_directories sv_runsFrom sv_runs sv_read sv_wrong sv_isNamed sv_goes sv_goesSize sv_goesAt sv_targetParts sv_isRoot)), ((ma 16), .inl (cJ, 46080, .inr (.inl G_60)))] H := hP
                            have hD : va_D A [((ma 1), .inl (cI, 40, .inl fK)), ((ma 9), .inl (cI, 40, .inl fNS)), ((ma 13), .inl (cI, 40, .inl fBs)), ((ma 15), .inl (cI, 40, .inl fEs)), ((ma 17), .inl (cI, 24, .inl fTb)), ((ma 18), .inl (cI, 80, .inl fSe)), ((ma 19), .inl (cI, 80, .inl fSs)), (h0, .inr (11, MO ma sv_thrown sv_length sv_nodes sv_many sv_directories sv_runsFrom sv_runs sv_read sv_wrong sv_isNamed sv_goes sv_goesSize sv_goesAt sv_targetParts sv_isRoot)), ((ma 16), .inl (cJ, 46080, .inr (.inl G_60)))] := hD
                            have hP := hP.sub (ws' := [((ma 1), .inl (cI, 40, .inl fK)), ((ma 9), .inl (cI, 40, .inl fNS)), ((ma 13), .inl (cI, 40, .inl fBs)), ((ma 15), .inl (cI, 40, .inl fEs)), ((ma 17), .inl (cI, 24, .inl fTb)), (h0, .inr (11, MO ma sv_thrown sv_length sv_nodes sv_many sv_directories sv_runsFrom sv_runs sv_read sv_wrong sv_isNamed sv_goes sv_goesSize sv_goesAt sv_targetParts sv_isRoot)), ((ma 16), .inl (cJ, 46080, .inr (.inl G_60))), ((ma 18), .inl (cI, 80, .inl fSe)), ((ma 19), .inl (cI, 80, .inl fSs))]) [0, 1, 2, 3, 4, 7, 8, 5, 6] rfl
                            have hD := hD.sub (ws' := [((ma 1), .inl (cI, 40, .inl fK)), ((ma 9), .inl (cI, 40, .inl fNS)), ((ma 13), .inl (cI, 40, .inl fBs)), ((ma 15), .inl (cI, 40, .inl fEs)), ((ma 17), .inl (cI, 24, .inl fTb)), (h0, .inr (11, MO ma sv_thrown sv_length sv_nodes sv_many sv_directories sv_runsFrom sv_runs sv_read sv_wrong sv_isNamed sv_goes sv_goesSize sv_goesAt sv_targetParts sv_isRoot)), ((ma 16), .inl (cJ, 46080, .inr (.inl G_60))), ((ma 18), .inl (cI, 80, .inl fSe)), ((ma 19), .inl (cI, 80, .inl fSs))]) [0, 1, 2, 3, 4, 7, 8, 5, 6] (by decide +kernel) rfl
                            have hl := lv_sub hl [0, 1, 2, 3] rfl
                            exact kk317 _ G_60 _ _ _ rfl  hP hD hS hl
                          · skip
                            have g305_157 : ¬ 16 ≤ v58.toInt := fun h8 => h_9 ((i_le (by decide) rfl).mpr h8)
                            refine lv_bipush (v := 48) hx hb d_DiscMakerModel_describe_308 (by decide) ?_
                            refine lv_goto (tgt := 314) hx hb d_DiscMakerModel_describe_310 (by decide) ?_
                            have hPc := hP.sub (ws' := [(h0, .inr (11, MO ma sv_thrown sv_length sv_nodes sv_many sv_directories sv_runsFrom sv_runs sv_read sv_wrong sv_isNamed sv_goes sv_goesSize sv_goesAt sv_targetParts sv_isRoot)), ((ma 16), .inl (cJ, 46080, .inr (.inl nC)))]) [5, 6] rfl
                            have hDc := hD.sub (ws' := [(h0, .inr (11, MO ma sv_thrown sv_length sv_nodes sv_many sv_directories sv_runsFrom sv_runs sv_read sv_wrong sv_isNamed sv_goes sv_goesSize sv_goesAt sv_targetParts sv_isRoot)), ((ma 16), .inl (cJ, 46080, .inr (.inl nC)))]) [5, 6] (by decide +kernel) rfl
                            have hFc := va_free (wc := [(h0, .inr (11, MO ma sv_thrown sv_length sv_nodes sv_many sv_directories sv_runsFrom sv_runs sv_read sv_wrong sv_isNamed sv_goes sv_goesSize sv_goesAt sv_targetParts sv_isRoot)), ((ma 16), .inl (cJ, 46080, .inr (.inl nC)))]) hD hS hA [5, 6] rfl
                            have hkc : 0 ≤ 0 := by decide
                            have hks : 0 ≤ 0 := by decide
                            refine va_callv (va_runV (C := "DiscMakerModel") (As := [.int v56, .int 48]) (rest := []) ⟨hx, hb, hml, hown, hts⟩ (m_set l D cB cI cJ cZ cN cF H.size h0 ma sv_thrown sv_length sv_nodes sv_many sv_directories sv_runsFrom sv_runs sv_read sv_wrong sv_isNamed sv_goes sv_goesSize sv_goesAt sv_targetParts sv_isRoot nC v56 48 (by (try dsimp only); first | assumption | omega | trivial) (by (try dsimp only); first | assumption | omega | trivial)) (cwV 2 hts (lg_goodV k1727 k1729 k79 k125 kc_DiscMakerModel_set) rfl rfl rfl (by decide +kernel) ⟨Nat.le_of_ble_eq_true rfl, Nat.le_of_ble_eq_true rfl⟩) ⟨fun a U g mk q => by obtain ⟨q0, q1, qP, qK, qN, qD⟩ := q; exact ⟨q0, q1, qP, va_K.moved (u := U) (U := U.calling g mk a) (Vm.Alike.refl U.vm) qK, qN.calling, qD⟩, va_recv hK hP (ci := 11) (q0 := 5) rfl rfl, fun U hU hW => ⟨rfl, by rw [hU], by rw [hU]; exact hPc, va_K.moved hW.alike hK, NN.warm hW hN, hDc.weaken (fun _ _ _ _ => trivial)⟩⟩ rfl rfl hl.1 rfl (lv_room (Nat.le_of_ble_eq_true rfl)) d_DiscMakerModel_describe_314 ⟨hkc, hks⟩) hS (fun q _ h => hFc q h) hFc (fun u t H1 locs ht hvm hp_r61 hB hz1 hk1 hS => ?_)
                            obtain ⟨G_62, rfl⟩ : ∃ z, z = u := ⟨_, rfl⟩
                            obtain ⟨hP1, hD1⟩ := hB
                            rw [ht] at hP1
                            obtain ⟨hP, hD⟩ := va_join (wr := [((ma 1), .inl (cI, 40, .inl fK)), ((ma 9), .inl (cI, 40, .inl fNS)), ((ma 13), .inl (cI, 40, .inl fBs)), ((ma 15), .inl (cI, 40, .inl fEs)), ((ma 17), .inl (cI, 24, .inl fTb)), ((ma 18), .inl (cI, 80, .inl fSe)), ((ma 19), .inl (cI, 80, .inl fSs))]) (w1 := [(h0, .inr (11, MO ma sv_thrown sv_length sv_nodes sv_many sv_directories sv_runsFrom sv_runs sv_read sv_wrong sv_isNamed sv_goes sv_goesSize sv_goesAt sv_targetParts sv_isRoot)), ((ma 16), .inl (cJ, 46080, .inr (.inl G_62)))]) hP hD [5, 6] [0, 1, 2, 3, 4, 7, 8] rfl rfl (by decide +kernel) (by decide +kernel) hk1 hFc hP1 hD1
                            clear hPc hDc hFc hP1 hD1 hk1 hz1 hkc hks
                            generalize H1 = H at hP hS ⊢
                            have hP : va_P D CL [((ma 1), .inl (cI, 40, .inl fK)), ((ma 9), .inl (cI, 40, .inl fNS)), ((ma 13), .inl (cI, 40, .inl fBs)), ((ma 15), .inl (cI, 40, .inl fEs)), ((ma 17), .inl (cI, 24, .inl fTb)), ((ma 18), .inl (cI, 80, .inl fSe)), ((ma 19), .inl (cI, 80, .inl fSs)), (h0, .inr (11, MO ma sv_thrown sv_length sv_nodes sv_many sv_directories sv_runsFrom sv_runs sv_read sv_wrong sv_isNamed sv_goes sv_goesSize sv_goesAt sv_targetParts sv_isRoot)), ((ma 16), .inl (cJ, 46080, .inr (.inl G_62)))] H := hP
                            have hD : va_D A [((ma 1), .inl (cI, 40, .inl fK)), ((ma 9), .inl (cI, 40, .inl fNS)), ((ma 13), .inl (cI, 40, .inl fBs)), ((ma 15), .inl (cI, 40, .inl fEs)), ((ma 17), .inl (cI, 24, .inl fTb)), ((ma 18), .inl (cI, 80, .inl fSe)), ((ma 19), .inl (cI, 80, .inl fSs)), (h0, .inr (11, MO ma sv_thrown sv_length sv_nodes sv_many sv_directories sv_runsFrom sv_runs sv_read sv_wrong sv_isNamed sv_goes sv_goesSize sv_goesAt sv_targetParts sv_isRoot)), ((ma 16), .inl (cJ, 46080, .inr (.inl G_62)))] := hD
                            have hP := hP.sub (ws' := [((ma 1), .inl (cI, 40, .inl fK)), ((ma 9), .inl (cI, 40, .inl fNS)), ((ma 13), .inl (cI, 40, .inl fBs)), ((ma 15), .inl (cI, 40, .inl fEs)), ((ma 17), .inl (cI, 24, .inl fTb)), (h0, .inr (11, MO ma sv_thrown sv_length sv_nodes sv_many sv_directories sv_runsFrom sv_runs sv_read sv_wrong sv_isNamed sv_goes sv_goesSize sv_goesAt sv_targetParts sv_isRoot)), ((ma 16), .inl (cJ, 46080, .inr (.inl G_62))), ((ma 18), .inl (cI, 80, .inl fSe)), ((ma 19), .inl (cI, 80, .inl fSs))]) [0, 1, 2, 3, 4, 7, 8, 5, 6] rfl
                            have hD := hD.sub (ws' := [((ma 1), .inl (cI, 40, .inl fK)), ((ma 9), .inl (cI, 40, .inl fNS)), ((ma 13), .inl (cI, 40, .inl fBs)), ((ma 15), .inl (cI, 40, .inl fEs)), ((ma 17), .inl (cI, 24, .inl fTb)), (h0, .inr (11, MO ma sv_thrown sv_length sv_nodes sv_many sv_directories sv_runsFrom sv_runs sv_read sv_wrong sv_isNamed sv_goes sv_goesSize sv_goesAt sv_targetParts sv_isRoot)), ((ma 16), .inl (cJ, 46080, .inr (.inl G_62))), ((ma 18), .inl (cI, 80, .inl fSe)), ((ma 19), .inl (cI, 80, .inl fSs))]) [0, 1, 2, 3, 4, 7, 8, 5, 6] (by decide +kernel) rfl
                            have hl := lv_sub hl [0, 1, 2, 3] rfl
                            exact kk317 _ G_62 _ _ _ rfl  hP hD hS hl
                    · skip
                      intro kk285
                      have hP := hP.sub (ws' := [((ma 1), .inl (cI, 40, .inl fK)), ((ma 9), .inl (cI, 40, .inl fNS)), ((ma 13), .inl (cI, 40, .inl fBs)), ((ma 15), .inl (cI, 40, .inl fEs)), ((ma 17), .inl (cI, 24, .inl fTb)), (h0, .inr (11, MO ma sv_thrown sv_length sv_nodes sv_many sv_directories sv_runsFrom sv_runs sv_read sv_wrong sv_isNamed sv_goes sv_goesSize sv_goesAt sv_targetParts sv_isRoot)), ((ma 16), .inl (cJ, 46080, .inr (.inl nB))), ((ma 18), .inl (cI, 80, .inl fSe)), ((ma 19), .inl (cI, 80, .inl fSs))]) [0, 1, 2, 3, 4, 5, 6, 7, 8] rfl
                      have hD := hD.sub (ws' := [((ma 1), .inl (cI, 40, .inl fK)), ((ma 9), .inl (cI, 40, .inl fNS)), ((ma 13), .inl (cI, 40, .inl fBs)), ((ma 15), .inl (cI, 40, .inl fEs)), ((ma 17), .inl (cI, 24, .inl fTb)), (h0, .inr (11, MO ma sv_thrown sv_length sv_nodes sv_many sv_directories sv_runsFrom sv_runs sv_read sv_wrong sv_isNamed sv_goes sv_goesSize sv_goesAt sv_targetParts sv_isRoot)), ((ma 16), .inl (cJ, 46080, .inr (.inl nB))), ((ma 18), .inl (cI, 80, .inl fSe)), ((ma 19), .inl (cI, 80, .inl fSs))]) [0, 1, 2, 3, 4, 5, 6, 7, 8] (by decide +kernel) rfl
                      have hl := lv_sub hl [1, 2, 3, 0] rfl
                      exact kk285 _ 0 nB _ _ _ rfl ((by (try dsimp only); first | assumption | omega | trivial)) hP hD hS hl
                  · skip
                    have g265_129 : ¬ 813 ≤ kb.toInt := fun h8 => h_9 ((i_le (by decide) rfl).mpr h8)
                    refine lv_aload_n hx hb d_DiscMakerModel_describe_268 rfl (lv_at hl 0 rfl) ?_
                    refine lv_iload_n hx hb d_DiscMakerModel_describe_269 rfl (lv_at hl 2 rfl) ?_
                    refine lv_iload_n hx hb d_DiscMakerModel_describe_270 rfl (lv_at hl 3 rfl) ?_
                    refine lv_iadd hx hb d_DiscMakerModel_describe_271 ?_
                    refine lv_topi (fun v63 e_v63 => ?_)
                    have t_v63 : v63.toInt = v2.toInt + kb.toInt := by rw [e_v63]; exact i_add rfl rfl (by omega) (by omega)
                    refine lv_bipush (v := 32) hx hb d_DiscMakerModel_describe_272 (by decide) ?_
                    have hPc := hP.sub (ws' := [(h0, .inr (11, MO ma sv_thrown sv_length sv_nodes sv_many sv_directories sv_runsFrom sv_runs sv_read sv_wrong sv_isNamed sv_goes sv_goesSize sv_goesAt sv_targetParts sv_isRoot)), ((ma 16), .inl (cJ, 46080, .inr (.inl nB)))]) [5, 6] rfl
                    have hDc := hD.sub (ws' := [(h0, .inr (11, MO ma sv_thrown sv_length sv_nodes sv_many sv_directories sv_runsFrom sv_runs sv_read sv_wrong sv_isNamed sv_goes sv_goesSize sv_goesAt sv_targetParts sv_isRoot)), ((ma 16), .inl (cJ, 46080, .inr (.inl nB)))]) [5, 6] (by decide +kernel) rfl
                    have hFc := va_free (wc := [(h0, .inr (11, MO ma sv_thrown sv_length sv_nodes sv_many sv_directories sv_runsFrom sv_runs sv_read sv_wrong sv_isNamed sv_goes sv_goesSize sv_goesAt sv_targetParts sv_isRoot)), ((ma 16), .inl (cJ, 46080, .inr (.inl nB)))]) hD hS hA [5, 6] rfl
                    have hkc : 0 ≤ 0 := by decide
                    have hks : 0 ≤ 0 := by decide
                    refine va_callv (va_runV (C := "DiscMakerModel") (As := [.int v63, .int 32]) (rest := []) ⟨hx, hb, hml, hown, hts⟩ (m_set l D cB cI cJ cZ cN cF H.size h0 ma sv_thrown sv_length sv_nodes sv_many sv_directories sv_runsFrom sv_runs sv_read sv_wrong sv_isNamed sv_goes sv_goesSize sv_goesAt sv_targetParts sv_isRoot nB v63 32 (by (try dsimp only); first | assumption | omega | trivial) (by (try dsimp only); first | assumption | omega | trivial)) (cwV 2 hts (lg_goodV k1727 k1729 k79 k125 kc_DiscMakerModel_set) rfl rfl rfl (by decide +kernel) ⟨Nat.le_of_ble_eq_true rfl, Nat.le_of_ble_eq_true rfl⟩) ⟨fun a U g mk q => by obtain ⟨q0, q1, qP, qK, qN, qD⟩ := q; exact ⟨q0, q1, qP, va_K.moved (u := U) (U := U.calling g mk a) (Vm.Alike.refl U.vm) qK, qN.calling, qD⟩, va_recv hK hP (ci := 11) (q0 := 5) rfl rfl, fun U hU hW => ⟨rfl, by rw [hU], by rw [hU]; exact hPc, va_K.moved hW.alike hK, NN.warm hW hN, hDc.weaken (fun _ _ _ _ => trivial)⟩⟩ rfl rfl hl.1 rfl (lv_room (Nat.le_of_ble_eq_true rfl)) d_DiscMakerModel_describe_274 ⟨hkc, hks⟩) hS (fun q _ h => hFc q h) hFc (fun u t H1 locs ht hvm hp_r64 hB hz1 hk1 hS => ?_)
                    obtain ⟨G_65, rfl⟩ : ∃ z, z = u := ⟨_, rfl⟩
                    obtain ⟨hP1, hD1⟩ := hB
                    rw [ht] at hP1
                    obtain ⟨hP, hD⟩ := va_join (wr := [((ma 1), .inl (cI, 40, .inl fK)), ((ma 9), .inl (cI, 40, .inl fNS)), ((ma 13), .inl (cI, 40, .inl fBs)), ((ma 15), .inl (cI, 40, .inl fEs)), ((ma 17), .inl (cI, 24, .inl fTb)), ((ma 18), .inl (cI, 80, .inl fSe)), ((ma 19), .inl (cI, 80, .inl fSs))]) (w1 := [(h0, .inr (11, MO ma sv_thrown sv_length sv_nodes sv_many sv_directories sv_runsFrom sv_runs sv_read sv_wrong sv_isNamed sv_goes sv_goesSize sv_goesAt sv_targetParts sv_isRoot)), ((ma 16), .inl (cJ, 46080, .inr (.inl G_65)))]) hP hD [5, 6] [0, 1, 2, 3, 4, 7, 8] rfl rfl (by decide +kernel) (by decide +kernel) hk1 hFc hP1 hD1
                    clear hPc hDc hFc hP1 hD1 hk1 hz1 hkc hks
                    generalize H1 = H at hP hS ⊢
                    have hP : va_P D CL [((ma 1), .inl (cI, 40, .inl fK)), ((ma 9), .inl (cI, 40, .inl fNS)), ((ma 13), .inl (cI, 40, .inl fBs)), ((ma 15), .inl (cI, 40, .inl fEs)), ((ma 17), .inl (cI, 24, .inl fTb)), ((ma 18), .inl (cI, 80, .inl fSe)), ((ma 19), .inl (cI, 80, .inl fSs)), (h0, .inr (11, MO ma sv_thrown sv_length sv_nodes sv_many sv_directories sv_runsFrom sv_runs sv_read sv_wrong sv_isNamed sv_goes sv_goesSize sv_goesAt sv_targetParts sv_isRoot)), ((ma 16), .inl (cJ, 46080, .inr (.inl G_65)))] H := hP
                    have hD : va_D A [((ma 1), .inl (cI, 40, .inl fK)), ((ma 9), .inl (cI, 40, .inl fNS)), ((ma 13), .inl (cI, 40, .inl fBs)), ((ma 15), .inl (cI, 40, .inl fEs)), ((ma 17), .inl (cI, 24, .inl fTb)), ((ma 18), .inl (cI, 80, .inl fSe)), ((ma 19), .inl (cI, 80, .inl fSs)), (h0, .inr (11, MO ma sv_thrown sv_length sv_nodes sv_many sv_directories sv_runsFrom sv_runs sv_read sv_wrong sv_isNamed sv_goes sv_goesSize sv_goesAt sv_targetParts sv_isRoot)), ((ma 16), .inl (cJ, 46080, .inr (.inl G_65)))] := hD
                    obtain ⟨v66, e_v66⟩ : ∃ z : Int32, z = kb + 1 := ⟨_, rfl⟩
                    refine lv_iinc (v := v66) hx hb d_DiscMakerModel_describe_277 hl (k := 3) rfl e_v66.symm (by decide +kernel) rfl (fun ls hl => ?_)
                    have t_v66 : v66.toInt = kb.toInt + 1 := by rw [e_v66]; exact i_add rfl (by decide) (by omega) (by omega)
                    have hl : lv_has ls 4 [(3, .int v66), (0, .ref h0), (1, .int tx), (2, .int v2)] := hl
                    refine lv_goto (tgt := 261) hx hb d_DiscMakerModel_describe_280 (by decide) ?_
                    have hP := hP.sub (ws' := [((ma 1), .inl (cI, 40, .inl fK)), ((ma 9), .inl (cI, 40, .inl fNS)), ((ma 13), .inl (cI, 40, .inl fBs)), ((ma 15), .inl (cI, 40, .inl fEs)), ((ma 17), .inl (cI, 24, .inl fTb)), (h0, .inr (11, MO ma sv_thrown sv_length sv_nodes sv_many sv_directories sv_runsFrom sv_runs sv_read sv_wrong sv_isNamed sv_goes sv_goesSize sv_goesAt sv_targetParts sv_isRoot)), ((ma 16), .inl (cJ, 46080, .inr (.inl G_65))), ((ma 18), .inl (cI, 80, .inl fSe)), ((ma 19), .inl (cI, 80, .inl fSs))]) [0, 1, 2, 3, 4, 7, 8, 5, 6] rfl
                    have hD := hD.sub (ws' := [((ma 1), .inl (cI, 40, .inl fK)), ((ma 9), .inl (cI, 40, .inl fNS)), ((ma 13), .inl (cI, 40, .inl fBs)), ((ma 15), .inl (cI, 40, .inl fEs)), ((ma 17), .inl (cI, 24, .inl fTb)), (h0, .inr (11, MO ma sv_thrown sv_length sv_nodes sv_many sv_directories sv_runsFrom sv_runs sv_read sv_wrong sv_isNamed sv_goes sv_goesSize sv_goesAt sv_targetParts sv_isRoot)), ((ma 16), .inl (cJ, 46080, .inr (.inl G_65))), ((ma 18), .inl (cI, 80, .inl fSe)), ((ma 19), .inl (cI, 80, .inl fSs))]) [0, 1, 2, 3, 4, 7, 8, 5, 6] (by decide +kernel) rfl
                    have hl := lv_sub hl [1, 2, 3, 0] rfl
                    exact ih261 _ (by first | omega | (dsimp only; omega)) v66 G_65 _ _ _ rfl ((by (try dsimp only); first | assumption | omega | trivial)) hP hD hS hl
                · skip
                  intro kk261
                  have hP := hP.sub (ws' := [((ma 1), .inl (cI, 40, .inl fK)), ((ma 9), .inl (cI, 40, .inl fNS)), ((ma 13), .inl (cI, 40, .inl fBs)), ((ma 15), .inl (cI, 40, .inl fEs)), ((ma 17), .inl (cI, 24, .inl fTb)), (h0, .inr (11, MO ma sv_thrown sv_length sv_nodes sv_many sv_directories sv_runsFrom sv_runs sv_read sv_wrong sv_isNamed sv_goes sv_goesSize sv_goesAt sv_targetParts sv_isRoot)), ((ma 16), .inl (cJ, 46080, .inr (.inl G_50))), ((ma 18), .inl (cI, 80, .inl fSe)), ((ma 19), .inl (cI, 80, .inl fSs))]) [0, 1, 2, 3, 4, 5, 6, 7, 8] rfl
                  have hD := hD.sub (ws' := [((ma 1), .inl (cI, 40, .inl fK)), ((ma 9), .inl (cI, 40, .inl fNS)), ((ma 13), .inl (cI, 40, .inl fBs)), ((ma 15), .inl (cI, 40, .inl fEs)), ((ma 17), .inl (cI, 24, .inl fTb)), (h0, .inr (11, MO ma sv_thrown sv_length sv_nodes sv_many sv_directories sv_runsFrom sv_runs sv_read sv_wrong sv_isNamed sv_goes sv_goesSize sv_goesAt sv_targetParts sv_isRoot)), ((ma 16), .inl (cJ, 46080, .inr (.inl G_50))), ((ma 18), .inl (cI, 80, .inl fSe)), ((ma 19), .inl (cI, 80, .inl fSs))]) [0, 1, 2, 3, 4, 5, 6, 7, 8] (by decide +kernel) rfl
                  have hl := lv_sub hl [1, 2, 3, 0] rfl
                  exact kk261 _ 190 G_50 _ _ _ rfl ((by (try dsimp only); first | assumption | omega | trivial)) hP hD hS hl
              · skip
                intro kk167
                refine lv_iload_n hx hb d_DiscMakerModel_describe_132 rfl (lv_at hl 1 rfl) ?_
                refine lv_iconst (v := 1) hx hb d_DiscMakerModel_describe_133 (by decide) ?_
                refine lv_icmp_ne (tgt := 167) hx hb d_DiscMakerModel_describe_134 (by decide) (fun h_9 => ?_) (fun h_9 => ?_)
                · skip
                  have g134_176 : ¬ tx.toInt = 1 := fun h8 => h_9 ((i_eq rfl (by decide)).mpr h8)
                  have hP := hP.sub (ws' := [((ma 1), .inl (cI, 40, .inl fK)), ((ma 9), .inl (cI, 40, .inl fNS)), ((ma 13), .inl (cI, 40, .inl fBs)), ((ma 15), .inl (cI, 40, .inl fEs)), ((ma 17), .inl (cI, 24, .inl fTb)), ((ma 18), .inl (cI, 80, .inl fSe)), ((ma 19), .inl (cI, 80, .inl fSs)), (h0, .inr (11, MO ma sv_thrown sv_length sv_nodes sv_many sv_directories sv_runsFrom sv_runs sv_read sv_wrong sv_isNamed sv_goes sv_goesSize sv_goesAt sv_targetParts sv_isRoot)), ((ma 16), .inl (cJ, 46080, .inr (.inl G_23)))]) [0, 1, 2, 3, 4, 5, 6, 7, 8] rfl
                  have hD := hD.sub (ws' := [((ma 1), .inl (cI, 40, .inl fK)), ((ma 9), .inl (cI, 40, .inl fNS)), ((ma 13), .inl (cI, 40, .inl fBs)), ((ma 15), .inl (cI, 40, .inl fEs)), ((ma 17), .inl (cI, 24, .inl fTb)), ((ma 18), .inl (cI, 80, .inl fSe)), ((ma 19), .inl (cI, 80, .inl fSs)), (h0, .inr (11, MO ma sv_thrown sv_length sv_nodes sv_many sv_directories sv_runsFrom sv_runs sv_read sv_wrong sv_isNamed sv_goes sv_goesSize sv_goesAt sv_targetParts sv_isRoot)), ((ma 16), .inl (cJ, 46080, .inr (.inl G_23)))]) [0, 1, 2, 3, 4, 5, 6, 7, 8] (by decide +kernel) rfl
                  have hl := lv_sub hl [0, 1, 2, 3] rfl
                  exact kk167 _ G_23 _ _ _ rfl  hP hD hS hl
                · skip
                  have g134_176 : tx.toInt = 1 := (i_eq rfl (by decide)).mp h_9
                  refine lv_aload_n hx hb d_DiscMakerModel_describe_137 rfl (lv_at hl 0 rfl) ?_
                  refine lv_iload_n hx hb d_DiscMakerModel_describe_138 rfl (lv_at hl 2 rfl) ?_
                  refine lv_bipush (v := 88) hx hb d_DiscMakerModel_describe_139 (by decide) ?_
                  refine lv_iadd hx hb d_DiscMakerModel_describe_141 ?_
                  refine lv_topi (fun v67 e_v67 => ?_)
                  have t_v67 : v67.toInt = v2.toInt + 88 := by rw [e_v67]; exact i_add rfl (by decide) (by omega) (by omega)
                  refine lv_bipush (v := 37) hx hb d_DiscMakerModel_describe_142 (by decide) ?_
                  have hPc := hP.sub (ws' := [(h0, .inr (11, MO ma sv_thrown sv_length sv_nodes sv_many sv_directories sv_runsFrom sv_runs sv_read sv_wrong sv_isNamed sv_goes sv_goesSize sv_goesAt sv_targetParts sv_isRoot)), ((ma 16), .inl (cJ, 46080, .inr (.inl G_23)))]) [7, 8] rfl
                  have hDc := hD.sub (ws' := [(h0, .inr (11, MO ma sv_thrown sv_length sv_nodes sv_many sv_directories sv_runsFrom sv_runs sv_read sv_wrong sv_isNamed sv_goes sv_goesSize sv_goesAt sv_targetParts sv_isRoot)), ((ma 16), .inl (cJ, 46080, .inr (.inl G_23)))]) [7, 8] (by decide +kernel) rfl
                  have hFc := va_free (wc := [(h0, .inr (11, MO ma sv_thrown sv_length sv_nodes sv_many sv_directories sv_runsFrom sv_runs sv_read sv_wrong sv_isNamed sv_goes sv_goesSize sv_goesAt sv_targetParts sv_isRoot)), ((ma 16), .inl (cJ, 46080, .inr (.inl G_23)))]) hD hS hA [7, 8] rfl
                  have hkc : 0 ≤ 0 := by decide
                  have hks : 0 ≤ 0 := by decide
                  refine va_callv (va_runV (C := "DiscMakerModel") (As := [.int v67, .int 37]) (rest := []) ⟨hx, hb, hml, hown, hts⟩ (m_set l D cB cI cJ cZ cN cF H.size h0 ma sv_thrown sv_length sv_nodes sv_many sv_directories sv_runsFrom sv_runs sv_read sv_wrong sv_isNamed sv_goes sv_goesSize sv_goesAt sv_targetParts sv_isRoot G_23 v67 37 (by (try dsimp only); first | assumption | omega | trivial) (by (try dsimp only); first | assumption | omega | trivial)) (cwV 2 hts (lg_goodV k1727 k1729 k79 k125 kc_DiscMakerModel_set) rfl rfl rfl (by decide +kernel) ⟨Nat.le_of_ble_eq_true rfl, Nat.le_of_ble_eq_true rfl⟩) ⟨fun a U g mk q => by obtain ⟨q0, q1, qP, qK, qN, qD⟩ := q; exact ⟨q0, q1, qP, va_K.moved (u := U) (U := U.calling g mk a) (Vm.Alike.refl U.vm) qK, qN.calling, qD⟩, va_recv hK hP (ci := 11) (q0 := 7) rfl rfl, fun U hU hW => ⟨rfl, by rw [hU], by rw [hU]; exact hPc, va_K.moved hW.alike hK, NN.warm hW hN, hDc.weaken (fun _ _ _ _ => trivial)⟩⟩ rfl rfl hl.1 rfl (lv_room (Nat.le_of_ble_eq_true rfl)) d_DiscMakerModel_describe_144 ⟨hkc, hks⟩) hS (fun q _ h => hFc q h) hFc (fun u t H1 locs ht hvm hp_r68 hB hz1 hk1 hS => ?_)
                  obtain ⟨G_69, rfl⟩ : ∃ z, z = u := ⟨_, rfl⟩
                  obtain ⟨hP1, hD1⟩ := hB
                  rw [ht] at hP1
                  obtain ⟨hP, hD⟩ := va_join (wr := [((ma 1), .inl (cI, 40, .inl fK)), ((ma 9), .inl (cI, 40, .inl fNS)), ((ma 13), .inl (cI, 40, .inl fBs)), ((ma 15), .inl (cI, 40, .inl fEs)), ((ma 17), .inl (cI, 24, .inl fTb)), ((ma 18), .inl (cI, 80, .inl fSe)), ((ma 19), .inl (cI, 80, .inl fSs))]) (w1 := [(h0, .inr (11, MO ma sv_thrown sv_length sv_nodes sv_many sv_directories sv_runsFrom sv_runs sv_read sv_wrong sv_isNamed sv_goes sv_goesSize sv_goesAt sv_targetParts sv_isRoot)), ((ma 16), .inl (cJ, 46080, .inr (.inl G_69)))]) hP hD [7, 8] [0, 1, 2, 3, 4, 5, 6] rfl rfl (by decide +kernel) (by decide +kernel) hk1 hFc hP1 hD1
                  clear hPc hDc hFc hP1 hD1 hk1 hz1 hkc hks
                  generalize H1 = H at hP hS ⊢
                  have hP : va_P D CL [((ma 1), .inl (cI, 40, .inl fK)), ((ma 9), .inl (cI, 40, .inl fNS)), ((ma 13), .inl (cI, 40, .inl fBs)), ((ma 15), .inl (cI, 40, .inl fEs)), ((ma 17), .inl (cI, 24, .inl fTb)), ((ma 18), .inl (cI, 80, .inl fSe)), ((ma 19), .inl (cI, 80, .inl fSs)), (h0, .inr (11, MO ma sv_thrown sv_length sv_nodes sv_many sv_directories sv_runsFrom sv_runs sv_read sv_wrong sv_isNamed sv_goes sv_goesSize sv_goesAt sv_targetParts sv_isRoot)), ((ma 16), .inl (cJ, 46080, .inr (.inl G_69)))] H := hP
                  have hD : va_D A [((ma 1), .inl (cI, 40, .inl fK)), ((ma 9), .inl (cI, 40, .inl fNS)), ((ma 13), .inl (cI, 40, .inl fBs)), ((ma 15), .inl (cI, 40, .inl fEs)), ((ma 17), .inl (cI, 24, .inl fTb)), ((ma 18), .inl (cI, 80, .inl fSe)), ((ma 19), .inl (cI, 80, .inl fSs)), (h0, .inr (11, MO ma sv_thrown sv_length sv_nodes sv_many sv_directories sv_runsFrom sv_runs sv_read sv_wrong sv_isNamed sv_goes sv_goesSize sv_goesAt sv_targetParts sv_isRoot)), ((ma 16), .inl (cJ, 46080, .inr (.inl G_69)))] := hD
                  refine lv_aload_n hx hb d_DiscMakerModel_describe_147 rfl (lv_at hl 0 rfl) ?_
                  refine lv_iload_n hx hb d_DiscMakerModel_describe_148 rfl (lv_at hl 2 rfl) ?_
                  refine lv_bipush (v := 89) hx hb d_DiscMakerModel_describe_149 (by decide) ?_
                  refine lv_iadd hx hb d_DiscMakerModel_describe_151 ?_
                  refine lv_topi (fun v70 e_v70 => ?_)
                  have t_v70 : v70.toInt = v2.toInt + 89 := by rw [e_v70]; exact i_add rfl (by decide) (by omega) (by omega)
                  refine lv_bipush (v := 47) hx hb d_DiscMakerModel_describe_152 (by decide) ?_
                  have hPc := hP.sub (ws' := [(h0, .inr (11, MO ma sv_thrown sv_length sv_nodes sv_many sv_directories sv_runsFrom sv_runs sv_read sv_wrong sv_isNamed sv_goes sv_goesSize sv_goesAt sv_targetParts sv_isRoot)), ((ma 16), .inl (cJ, 46080, .inr (.inl G_69)))]) [7, 8] rfl
                  have hDc := hD.sub (ws' := [(h0, .inr (11, MO ma sv_thrown sv_length sv_nodes sv_many sv_directories sv_runsFrom sv_runs sv_read sv_wrong sv_isNamed sv_goes sv_goesSize sv_goesAt sv_targetParts sv_isRoot)), ((ma 16), .inl (cJ, 46080, .inr (.inl G_69)))]) [7, 8] (by decide +kernel) rfl
                  have hFc := va_free (wc := [(h0, .inr (11, MO ma sv_thrown sv_length sv_nodes sv_many sv_directories sv_runsFrom sv_runs sv_read sv_wrong sv_isNamed sv_goes sv_goesSize sv_goesAt sv_targetParts sv_isRoot)), ((ma 16), .inl (cJ, 46080, .inr (.inl G_69)))]) hD hS hA [7, 8] rfl
                  have hkc : 0 ≤ 0 := by decide
                  have hks : 0 ≤ 0 := by decide
                  refine va_callv (va_runV (C := "DiscMakerModel") (As := [.int v70, .int 47]) (rest := []) ⟨hx, hb, hml, hown, hts⟩ (m_set l D cB cI cJ cZ cN cF H.size h0 ma sv_thrown sv_length sv_nodes sv_many sv_directories sv_runsFrom sv_runs sv_read sv_wrong sv_isNamed sv_goes sv_goesSize sv_goesAt sv_targetParts sv_isRoot G_69 v70 47 (by (try dsimp only); first | assumption | omega | trivial) (by (try dsimp only); first | assumption | omega | trivial)) (cwV 2 hts (lg_goodV k1727 k1729 k79 k125 kc_DiscMakerModel_set) rfl rfl rfl (by decide +kernel) ⟨Nat.le_of_ble_eq_true rfl, Nat.le_of_ble_eq_true rfl⟩) ⟨fun a U g mk q => by obtain ⟨q0, q1, qP, qK, qN, qD⟩ := q; exact ⟨q0, q1, qP, va_K.moved (u := U) (U := U.calling g mk a) (Vm.Alike.refl U.vm) qK, qN.calling, qD⟩, va_recv hK hP (ci := 11) (q0 := 7) rfl rfl, fun U hU hW => ⟨rfl, by rw [hU], by rw [hU]; exact hPc, va_K.moved hW.alike hK, NN.warm hW hN, hDc.weaken (fun _ _ _ _ => trivial)⟩⟩ rfl rfl hl.1 rfl (lv_room (Nat.le_of_ble_eq_true rfl)) d_DiscMakerModel_describe_154 ⟨hkc, hks⟩) hS (fun q _ h => hFc q h) hFc (fun u t H1 locs ht hvm hp_r71 hB hz1 hk1 hS => ?_)
                  obtain ⟨G_72, rfl⟩ : ∃ z, z = u := ⟨_, rfl⟩
                  obtain ⟨hP1, hD1⟩ := hB
                  rw [ht] at hP1
                  obtain ⟨hP, hD⟩ := va_join (wr := [((ma 1), .inl (cI, 40, .inl fK)), ((ma 9), .inl (cI, 40, .inl fNS)), ((ma 13), .inl (cI, 40, .inl fBs)), ((ma 15), .inl (cI, 40, .inl fEs)), ((ma 17), .inl (cI, 24, .inl fTb)), ((ma 18), .inl (cI, 80, .inl fSe)), ((ma 19), .inl (cI, 80, .inl fSs))]) (w1 := [(h0, .inr (11, MO ma sv_thrown sv_length sv_nodes sv_many sv_directories sv_runsFrom sv_runs sv_read sv_wrong sv_isNamed sv_goes sv_goesSize sv_goesAt sv_targetParts sv_isRoot)), ((ma 16), .inl (cJ, 46080, .inr (.inl G_72)))]) hP hD [7, 8] [0, 1, 2, 3, 4, 5, 6] rfl rfl (by decide +kernel) (by decide +kernel) hk1 hFc hP1 hD1
                  clear hPc hDc hFc hP1 hD1 hk1 hz1 hkc hks
                  generalize H1 = H at hP hS ⊢
                  have hP : va_P D CL [((ma 1), .inl (cI, 40, .inl fK)), ((ma 9), .inl (cI, 40, .inl fNS)), ((ma 13), .inl (cI, 40, .inl fBs)), ((ma 15), .inl (cI, 40, .inl fEs)), ((ma 17), .inl (cI, 24, .inl fTb)), ((ma 18), .inl (cI, 80, .inl fSe)), ((ma 19), .inl (cI, 80, .inl fSs)), (h0, .inr (11, MO ma sv_thrown sv_length sv_nodes sv_many sv_directories sv_runsFrom sv_runs sv_read sv_wrong sv_isNamed sv_goes sv_goesSize sv_goesAt sv_targetParts sv_isRoot)), ((ma 16), .inl (cJ, 46080, .inr (.inl G_72)))] H := hP
                  have hD : va_D A [((ma 1), .inl (cI, 40, .inl fK)), ((ma 9), .inl (cI, 40, .inl fNS)), ((ma 13), .inl (cI, 40, .inl fBs)), ((ma 15), .inl (cI, 40, .inl fEs)), ((ma 17), .inl (cI, 24, .inl fTb)), ((ma 18), .inl (cI, 80, .inl fSe)), ((ma 19), .inl (cI, 80, .inl fSs)), (h0, .inr (11, MO ma sv_thrown sv_length sv_nodes sv_many sv_directories sv_runsFrom sv_runs sv_read sv_wrong sv_isNamed sv_goes sv_goesSize sv_goesAt sv_targetParts sv_isRoot)), ((ma 16), .inl (cJ, 46080, .inr (.inl G_72)))] := hD
                  refine lv_aload_n hx hb d_DiscMakerModel_describe_157 rfl (lv_at hl 0 rfl) ?_
                  refine lv_iload_n hx hb d_DiscMakerModel_describe_158 rfl (lv_at hl 2 rfl) ?_
                  refine lv_bipush (v := 90) hx hb d_DiscMakerModel_describe_159 (by decide) ?_
                  refine lv_iadd hx hb d_DiscMakerModel_describe_161 ?_
                  refine lv_topi (fun v73 e_v73 => ?_)
                  have t_v73 : v73.toInt = v2.toInt + 90 := by rw [e_v73]; exact i_add rfl (by decide) (by omega) (by omega)
                  refine lv_bipush (v := 69) hx hb d_DiscMakerModel_describe_162 (by decide) ?_
                  have hPc := hP.sub (ws' := [(h0, .inr (11, MO ma sv_thrown sv_length sv_nodes sv_many sv_directories sv_runsFrom sv_runs sv_read sv_wrong sv_isNamed sv_goes sv_goesSize sv_goesAt sv_targetParts sv_isRoot)), ((ma 16), .inl (cJ, 46080, .inr (.inl G_72)))]) [7, 8] rfl
                  have hDc := hD.sub (ws' := [(h0, .inr (11, MO ma sv_thrown sv_length sv_nodes sv_many sv_directories sv_runsFrom sv_runs sv_read sv_wrong sv_isNamed sv_goes sv_goesSize sv_goesAt sv_targetParts sv_isRoot)), ((ma 16), .inl (cJ, 46080, .inr (.inl G_72)))]) [7, 8] (by decide +kernel) rfl
                  have hFc := va_free (wc := [(h0, .inr (11, MO ma sv_thrown sv_length sv_nodes sv_many sv_directories sv_runsFrom sv_runs sv_read sv_wrong sv_isNamed sv_goes sv_goesSize sv_goesAt sv_targetParts sv_isRoot)), ((ma 16), .inl (cJ, 46080, .inr (.inl G_72)))]) hD hS hA [7, 8] rfl
                  have hkc : 0 ≤ 0 := by decide
                  have hks : 0 ≤ 0 := by decide
                  refine va_callv (va_runV (C := "DiscMakerModel") (As := [.int v73, .int 69]) (rest := []) ⟨hx, hb, hml, hown, hts⟩ (m_set l D cB cI cJ cZ cN cF H.size h0 ma sv_thrown sv_length sv_nodes sv_many sv_directories sv_runsFrom sv_runs sv_read sv_wrong sv_isNamed sv_goes sv_goesSize sv_goesAt sv_targetParts sv_isRoot G_72 v73 69 (by (try dsimp only); first | assumption | omega | trivial) (by (try dsimp only); first | assumption | omega | trivial)) (cwV 2 hts (lg_goodV k1727 k1729 k79 k125 kc_DiscMakerModel_set) rfl rfl rfl (by decide +kernel) ⟨Nat.le_of_ble_eq_true rfl, Nat.le_of_ble_eq_true rfl⟩) ⟨fun a U g mk q => by obtain ⟨q0, q1, qP, qK, qN, qD⟩ := q; exact ⟨q0, q1, qP, va_K.moved (u := U) (U := U.calling g mk a) (Vm.Alike.refl U.vm) qK, qN.calling, qD⟩, va_recv hK hP (ci := 11) (q0 := 7) rfl rfl, fun U hU hW => ⟨rfl, by rw [hU], by rw [hU]; exact hPc, va_K.moved hW.alike hK, NN.warm hW hN, hDc.weaken (fun _ _ _ _ => trivial)⟩⟩ rfl rfl hl.1 rfl (lv_room (Nat.le_of_ble_eq_true rfl)) d_DiscMakerModel_describe_164 ⟨hkc, hks⟩) hS (fun q _ h => hFc q h) hFc (fun u t H1 locs ht hvm hp_r74 hB hz1 hk1 hS => ?_)
                  obtain ⟨G_75, rfl⟩ : ∃ z, z = u := ⟨_, rfl⟩
                  obtain ⟨hP1, hD1⟩ := hB
                  rw [ht] at hP1
                  obtain ⟨hP, hD⟩ := va_join (wr := [((ma 1), .inl (cI, 40, .inl fK)), ((ma 9), .inl (cI, 40, .inl fNS)), ((ma 13), .inl (cI, 40, .inl fBs)), ((ma 15), .inl (cI, 40, .inl fEs)), ((ma 17), .inl (cI, 24, .inl fTb)), ((ma 18), .inl (cI, 80, .inl fSe)), ((ma 19), .inl (cI, 80, .inl fSs))]) (w1 := [(h0, .inr (11, MO ma sv_thrown sv_length sv_nodes sv_many sv_directories sv_runsFrom sv_runs sv_read sv_wrong sv_isNamed sv_goes sv_goesSize sv_goesAt sv_targetParts sv_isRoot)), ((ma 16), .inl (cJ, 46080, .inr (.inl G_75)))]) hP hD [7, 8] [0, 1, 2, 3, 4, 5, 6] rfl rfl (by decide +kernel) (by decide +kernel) hk1 hFc hP1 hD1
                  clear hPc hDc hFc hP1 hD1 hk1 hz1 hkc hks
                  generalize H1 = H at hP hS ⊢
                  have hP : va_P D CL [((ma 1), .inl (cI, 40, .inl fK)), ((ma 9), .inl (cI, 40, .inl fNS)), ((ma 13), .inl (cI, 40, .inl fBs)), ((ma 15), .inl (cI, 40, .inl fEs)), ((ma 17), .inl (cI, 24, .inl fTb)), ((ma 18), .inl (cI, 80, .inl fSe)), ((ma 19), .inl (cI, 80, .inl fSs)), (h0, .inr (11, MO ma sv_thrown sv_length sv_nodes sv_many sv_directories sv_runsFrom sv_runs sv_read sv_wrong sv_isNamed sv_goes sv_goesSize sv_goesAt sv_targetParts sv_isRoot)), ((ma 16), .inl (cJ, 46080, .inr (.inl G_75)))] H := hP
                  have hD : va_D A [((ma 1), .inl (cI, 40, .inl fK)), ((ma 9), .inl (cI, 40, .inl fNS)), ((ma 13), .inl (cI, 40, .inl fBs)), ((ma 15), .inl (cI, 40, .inl fEs)), ((ma 17), .inl (cI, 24, .inl fTb)), ((ma 18), .inl (cI, 80, .inl fSe)), ((ma 19), .inl (cI, 80, .inl fSs)), (h0, .inr (11, MO ma sv_thrown sv_length sv_nodes sv_many sv_directories sv_runsFrom sv_runs sv_read sv_wrong sv_isNamed sv_goes sv_goesSize sv_goesAt sv_targetParts sv_isRoot)), ((ma 16), .inl (cJ, 46080, .inr (.inl G_75)))] := hD
                  have hP := hP.sub (ws' := [((ma 1), .inl (cI, 40, .inl fK)), ((ma 9), .inl (cI, 40, .inl fNS)), ((ma 13), .inl (cI, 40, .inl fBs)), ((ma 15), .inl (cI, 40, .inl fEs)), ((ma 17), .inl (cI, 24, .inl fTb)), ((ma 18), .inl (cI, 80, .inl fSe)), ((ma 19), .inl (cI, 80, .inl fSs)), (h0, .inr (11, MO ma sv_thrown sv_length sv_nodes sv_many sv_directories sv_runsFrom sv_runs sv_read sv_wrong sv_isNamed sv_goes sv_goesSize sv_goesAt sv_targetParts sv_isRoot)), ((ma 16), .inl (cJ, 46080, .inr (.inl G_75)))]) [0, 1, 2, 3, 4, 5, 6, 7, 8] rfl
                  have hD := hD.sub (ws' := [((ma 1), .inl (cI, 40, .inl fK)), ((ma 9), .inl (cI, 40, .inl fNS)), ((ma 13), .inl (cI, 40, .inl fBs)), ((ma 15), .inl (cI, 40, .inl fEs)), ((ma 17), .inl (cI, 24, .inl fTb)), ((ma 18), .inl (cI, 80, .inl fSe)), ((ma 19), .inl (cI, 80, .inl fSs)), (h0, .inr (11, MO ma sv_thrown sv_length sv_nodes sv_many sv_directories sv_runsFrom sv_runs sv_read sv_wrong sv_isNamed sv_goes sv_goesSize sv_goesAt sv_targetParts sv_isRoot)), ((ma 16), .inl (cJ, 46080, .inr (.inl G_75)))]) [0, 1, 2, 3, 4, 5, 6, 7, 8] (by decide +kernel) rfl
                  have hl := lv_sub hl [0, 1, 2, 3] rfl
                  exact kk167 _ G_75 _ _ _ rfl  hP hD hS hl
            · skip
              have g101_58 : ¬ 72 ≤ ka.toInt := fun h8 => h_9 ((i_le (by decide) rfl).mpr h8)
              refine lv_aload_n hx hb d_DiscMakerModel_describe_104 rfl (lv_at hl 0 rfl) ?_
              refine lv_iload_n hx hb d_DiscMakerModel_describe_105 rfl (lv_at hl 2 rfl) ?_
              refine lv_iload_n hx hb d_DiscMakerModel_describe_106 rfl (lv_at hl 3 rfl) ?_
              refine lv_iadd hx hb d_DiscMakerModel_describe_107 ?_
              refine lv_topi (fun v76 e_v76 => ?_)
              have t_v76 : v76.toInt = v2.toInt + ka.toInt := by rw [e_v76]; exact i_add rfl rfl (by omega) (by omega)
              refine lv_bipush (v := 32) hx hb d_DiscMakerModel_describe_108 (by decide) ?_
              have hPc := hP.sub (ws' := [(h0, .inr (11, MO ma sv_thrown sv_length sv_nodes sv_many sv_directories sv_runsFrom sv_runs sv_read sv_wrong sv_isNamed sv_goes sv_goesSize sv_goesAt sv_targetParts sv_isRoot)), ((ma 16), .inl (cJ, 46080, .inr (.inl nA)))]) [7, 8] rfl
              have hDc := hD.sub (ws' := [(h0, .inr (11, MO ma sv_thrown sv_length sv_nodes sv_many sv_directories sv_runsFrom sv_runs sv_read sv_wrong sv_isNamed sv_goes sv_goesSize sv_goesAt sv_targetParts sv_isRoot)), ((ma 16), .inl (cJ, 46080, .inr (.inl nA)))]) [7, 8] (by decide +kernel) rfl
              have hFc := va_free (wc := [(h0, .inr (11, MO ma sv_thrown sv_length sv_nodes sv_many sv_directories sv_runsFrom sv_runs sv_read sv_wrong sv_isNamed sv_goes sv_goesSize sv_goesAt sv_targetParts sv_isRoot)), ((ma 16), .inl (cJ, 46080, .inr (.inl nA)))]) hD hS hA [7, 8] rfl
              have hkc : 0 ≤ 0 := by decide
              have hks : 0 ≤ 0 := by decide
              refine va_callv (va_runV (C := "DiscMakerModel") (As := [.int v76, .int 32]) (rest := []) ⟨hx, hb, hml, hown, hts⟩ (m_set l D cB cI cJ cZ cN cF H.size h0 ma sv_thrown sv_length sv_nodes sv_many sv_directories sv_runsFrom sv_runs sv_read sv_wrong sv_isNamed sv_goes sv_goesSize sv_goesAt sv_targetParts sv_isRoot nA v76 32 (by (try dsimp only); first | assumption | omega | trivial) (by (try dsimp only); first | assumption | omega | trivial)) (cwV 2 hts (lg_goodV k1727 k1729 k79 k125 kc_DiscMakerModel_set) rfl rfl rfl (by decide +kernel) ⟨Nat.le_of_ble_eq_true rfl, Nat.le_of_ble_eq_true rfl⟩) ⟨fun a U g mk q => by obtain ⟨q0, q1, qP, qK, qN, qD⟩ := q; exact ⟨q0, q1, qP, va_K.moved (u := U) (U := U.calling g mk a) (Vm.Alike.refl U.vm) qK, qN.calling, qD⟩, va_recv hK hP (ci := 11) (q0 := 7) rfl rfl, fun U hU hW => ⟨rfl, by rw [hU], by rw [hU]; exact hPc, va_K.moved hW.alike hK, NN.warm hW hN, hDc.weaken (fun _ _ _ _ => trivial)⟩⟩ rfl rfl hl.1 rfl (lv_room (Nat.le_of_ble_eq_true rfl)) d_DiscMakerModel_describe_110 ⟨hkc, hks⟩) hS (fun q _ h => hFc q h) hFc (fun u t H1 locs ht hvm hp_r77 hB hz1 hk1 hS => ?_)
              obtain ⟨G_78, rfl⟩ : ∃ z, z = u := ⟨_, rfl⟩
              obtain ⟨hP1, hD1⟩ := hB
              rw [ht] at hP1
              obtain ⟨hP, hD⟩ := va_join (wr := [((ma 1), .inl (cI, 40, .inl fK)), ((ma 9), .inl (cI, 40, .inl fNS)), ((ma 13), .inl (cI, 40, .inl fBs)), ((ma 15), .inl (cI, 40, .inl fEs)), ((ma 17), .inl (cI, 24, .inl fTb)), ((ma 18), .inl (cI, 80, .inl fSe)), ((ma 19), .inl (cI, 80, .inl fSs))]) (w1 := [(h0, .inr (11, MO ma sv_thrown sv_length sv_nodes sv_many sv_directories sv_runsFrom sv_runs sv_read sv_wrong sv_isNamed sv_goes sv_goesSize sv_goesAt sv_targetParts sv_isRoot)), ((ma 16), .inl (cJ, 46080, .inr (.inl G_78)))]) hP hD [7, 8] [0, 1, 2, 3, 4, 5, 6] rfl rfl (by decide +kernel) (by decide +kernel) hk1 hFc hP1 hD1
              clear hPc hDc hFc hP1 hD1 hk1 hz1 hkc hks
              generalize H1 = H at hP hS ⊢
              have hP : va_P D CL [((ma 1), .inl (cI, 40, .inl fK)), ((ma 9), .inl (cI, 40, .inl fNS)), ((ma 13), .inl (cI, 40, .inl fBs)), ((ma 15), .inl (cI, 40, .inl fEs)), ((ma 17), .inl (cI, 24, .inl fTb)), ((ma 18), .inl (cI, 80, .inl fSe)), ((ma 19), .inl (cI, 80, .inl fSs)), (h0, .inr (11, MO ma sv_thrown sv_length sv_nodes sv_many sv_directories sv_runsFrom sv_runs sv_read sv_wrong sv_isNamed sv_goes sv_goesSize sv_goesAt sv_targetParts sv_isRoot)), ((ma 16), .inl (cJ, 46080, .inr (.inl G_78)))] H := hP
              have hD : va_D A [((ma 1), .inl (cI, 40, .inl fK)), ((ma 9), .inl (cI, 40, .inl fNS)), ((ma 13), .inl (cI, 40, .inl fBs)), ((ma 15), .inl (cI, 40, .inl fEs)), ((ma 17), .inl (cI, 24, .inl fTb)), ((ma 18), .inl (cI, 80, .inl fSe)), ((ma 19), .inl (cI, 80, .inl fSs)), (h0, .inr (11, MO ma sv_thrown sv_length sv_nodes sv_many sv_directories sv_runsFrom sv_runs sv_read sv_wrong sv_isNamed sv_goes sv_goesSize sv_goesAt sv_targetParts sv_isRoot)), ((ma 16), .inl (cJ, 46080, .inr (.inl G_78)))] := hD
              obtain ⟨v79, e_v79⟩ : ∃ z : Int32, z = ka + 1 := ⟨_, rfl⟩
              refine lv_iinc (v := v79) hx hb d_DiscMakerModel_describe_113 hl (k := 3) rfl e_v79.symm (by decide +kernel) rfl (fun ls hl => ?_)
              have t_v79 : v79.toInt = ka.toInt + 1 := by rw [e_v79]; exact i_add rfl (by decide) (by omega) (by omega)
              have hl : lv_has ls 4 [(3, .int v79), (0, .ref h0), (1, .int tx), (2, .int v2)] := hl
              refine lv_goto (tgt := 98) hx hb d_DiscMakerModel_describe_116 (by decide) ?_
              have hP := hP.sub (ws' := [((ma 1), .inl (cI, 40, .inl fK)), ((ma 9), .inl (cI, 40, .inl fNS)), ((ma 13), .inl (cI, 40, .inl fBs)), ((ma 15), .inl (cI, 40, .inl fEs)), ((ma 17), .inl (cI, 24, .inl fTb)), ((ma 18), .inl (cI, 80, .inl fSe)), ((ma 19), .inl (cI, 80, .inl fSs)), (h0, .inr (11, MO ma sv_thrown sv_length sv_nodes sv_many sv_directories sv_runsFrom sv_runs sv_read sv_wrong sv_isNamed sv_goes sv_goesSize sv_goesAt sv_targetParts sv_isRoot)), ((ma 16), .inl (cJ, 46080, .inr (.inl G_78)))]) [0, 1, 2, 3, 4, 5, 6, 7, 8] rfl
              have hD := hD.sub (ws' := [((ma 1), .inl (cI, 40, .inl fK)), ((ma 9), .inl (cI, 40, .inl fNS)), ((ma 13), .inl (cI, 40, .inl fBs)), ((ma 15), .inl (cI, 40, .inl fEs)), ((ma 17), .inl (cI, 24, .inl fTb)), ((ma 18), .inl (cI, 80, .inl fSe)), ((ma 19), .inl (cI, 80, .inl fSs)), (h0, .inr (11, MO ma sv_thrown sv_length sv_nodes sv_many sv_directories sv_runsFrom sv_runs sv_read sv_wrong sv_isNamed sv_goes sv_goesSize sv_goesAt sv_targetParts sv_isRoot)), ((ma 16), .inl (cJ, 46080, .inr (.inl G_78)))]) [0, 1, 2, 3, 4, 5, 6, 7, 8] (by decide +kernel) rfl
              have hl := lv_sub hl [1, 2, 3, 0] rfl
              exact ih98 _ (by first | omega | (dsimp only; omega)) v79 G_78 _ _ _ rfl ((by (try dsimp only); first | assumption | omega | trivial)) hP hD hS hl
          · skip
            intro kk98
            have hP := hP.sub (ws' := [((ma 1), .inl (cI, 40, .inl fK)), ((ma 9), .inl (cI, 40, .inl fNS)), ((ma 13), .inl (cI, 40, .inl fBs)), ((ma 15), .inl (cI, 40, .inl fEs)), ((ma 17), .inl (cI, 24, .inl fTb)), ((ma 18), .inl (cI, 80, .inl fSe)), ((ma 19), .inl (cI, 80, .inl fSs)), (h0, .inr (11, MO ma sv_thrown sv_length sv_nodes sv_many sv_directories sv_runsFrom sv_runs sv_read sv_wrong sv_isNamed sv_goes sv_goesSize sv_goesAt sv_targetParts sv_isRoot)), ((ma 16), .inl (cJ, 46080, .inr (.inl G_20)))]) [0, 1, 2, 3, 4, 5, 6, 7, 8] rfl
            have hD := hD.sub (ws' := [((ma 1), .inl (cI, 40, .inl fK)), ((ma 9), .inl (cI, 40, .inl fNS)), ((ma 13), .inl (cI, 40, .inl fBs)), ((ma 15), .inl (cI, 40, .inl fEs)), ((ma 17), .inl (cI, 24, .inl fTb)), ((ma 18), .inl (cI, 80, .inl fSe)), ((ma 19), .inl (cI, 80, .inl fSs)), (h0, .inr (11, MO ma sv_thrown sv_length sv_nodes sv_many sv_directories sv_runsFrom sv_runs sv_read sv_wrong sv_isNamed sv_goes sv_goesSize sv_goesAt sv_targetParts sv_isRoot)), ((ma 16), .inl (cJ, 46080, .inr (.inl G_20)))]) [0, 1, 2, 3, 4, 5, 6, 7, 8] (by decide +kernel) rfl
            have hl := lv_sub hl [1, 2, 3, 0] rfl
            exact kk98 _ 8 G_20 _ _ _ rfl ((by (try dsimp only); first | assumption | omega | trivial)) hP hD hS hl
        · skip
          have g91_53 : tx.toInt = 2 := (i_eq rfl (by decide)).mp h_9
          have hP9 := hP.sub (ws' := [(h0, .inr (11, MO ma sv_thrown sv_length sv_nodes sv_many sv_directories sv_runsFrom sv_runs sv_read sv_wrong sv_isNamed sv_goes sv_goesSize sv_goesAt sv_targetParts sv_isRoot)), ((ma 16), .inl (cJ, 46080, .inr (.inl G_20))), ((ma 1), .inl (cI, 40, .inl fK)), ((ma 9), .inl (cI, 40, .inl fNS)), ((ma 13), .inl (cI, 40, .inl fBs)), ((ma 15), .inl (cI, 40, .inl fEs)), ((ma 17), .inl (cI, 24, .inl fTb)), ((ma 18), .inl (cI, 80, .inl fSe)), ((ma 19), .inl (cI, 80, .inl fSs))]) [7, 8, 0, 1, 2, 3, 4, 5, 6] rfl
          have hD9 := hD.sub (ws' := [(h0, .inr (11, MO ma sv_thrown sv_length sv_nodes sv_many sv_directories sv_runsFrom sv_runs sv_read sv_wrong sv_isNamed sv_goes sv_goesSize sv_goesAt sv_targetParts sv_isRoot)), ((ma 16), .inl (cJ, 46080, .inr (.inl G_20))), ((ma 1), .inl (cI, 40, .inl fK)), ((ma 9), .inl (cI, 40, .inl fNS)), ((ma 13), .inl (cI, 40, .inl fBs)), ((ma 15), .inl (cI, 40, .inl fEs)), ((ma 17), .inl (cI, 24, .inl fTb)), ((ma 18), .inl (cI, 80, .inl fSe)), ((ma 19), .inl (cI, 80, .inl fSs))]) [7, 8, 0, 1, 2, 3, 4, 5, 6] (by decide +kernel) rfl
          exact W.vret hx hb hr (fun t ht hW => ⟨⟨G_20, rfl, trivial, by rw [ht]; exact hP9, hD9⟩, hS.F ht⟩) hS.2.2 d_DiscMakerModel_describe_94
      · skip
        intro kk35
        refine lv_iload_n hx hb d_DiscMakerModel_describe_18 rfl (lv_at hl 2 rfl) ?_
        refine lv_iconst (v := 2) hx hb d_DiscMakerModel_describe_19 (by decide) ?_
        refine lv_icmp_ge (tgt := 29) hx hb d_DiscMakerModel_describe_20 (by decide) (fun h_9 => ?_) (fun h_9 => ?_)
        · skip
          have g20_209 : 2 ≤ tx.toInt := (i_le (by decide) rfl).mp h_9
          refine lv_sipush (v := 255) hx hb d_DiscMakerModel_describe_29 (by decide) ?_
          have hPc := hP.sub (ws' := [(h0, .inr (11, MO ma sv_thrown sv_length sv_nodes sv_many sv_directories sv_runsFrom sv_runs sv_read sv_wrong sv_isNamed sv_goes sv_goesSize sv_goesAt sv_targetParts sv_isRoot)), ((ma 16), .inl (cJ, 46080, .inr (.inl lF)))]) [0, 1] rfl
          have hDc := hD.sub (ws' := [(h0, .inr (11, MO ma sv_thrown sv_length sv_nodes sv_many sv_directories sv_runsFrom sv_runs sv_read sv_wrong sv_isNamed sv_goes sv_goesSize sv_goesAt sv_targetParts sv_isRoot)), ((ma 16), .inl (cJ, 46080, .inr (.inl lF)))]) [0, 1] (by decide +kernel) rfl
          have hFc := va_free (wc := [(h0, .inr (11, MO ma sv_thrown sv_length sv_nodes sv_many sv_directories sv_runsFrom sv_runs sv_read sv_wrong sv_isNamed sv_goes sv_goesSize sv_goesAt sv_targetParts sv_isRoot)), ((ma 16), .inl (cJ, 46080, .inr (.inl lF)))]) hD hS hA [0, 1] rfl
          have hkc : 0 ≤ 0 := by decide
          have hks : 0 ≤ 0 := by decide
          refine va_callv (va_runV (C := "DiscMakerModel") (As := [.int v2, .int 255]) (rest := []) ⟨hx, hb, hml, hown, hts⟩ (m_set l D cB cI cJ cZ cN cF H.size h0 ma sv_thrown sv_length sv_nodes sv_many sv_directories sv_runsFrom sv_runs sv_read sv_wrong sv_isNamed sv_goes sv_goesSize sv_goesAt sv_targetParts sv_isRoot lF v2 255 (by (try dsimp only); first | assumption | omega | trivial) (by (try dsimp only); first | assumption | omega | trivial)) (cwV 2 hts (lg_goodV k1727 k1729 k79 k125 kc_DiscMakerModel_set) rfl rfl rfl (by decide +kernel) ⟨Nat.le_of_ble_eq_true rfl, Nat.le_of_ble_eq_true rfl⟩) ⟨fun a U g mk q => by obtain ⟨q0, q1, qP, qK, qN, qD⟩ := q; exact ⟨q0, q1, qP, va_K.moved (u := U) (U := U.calling g mk a) (Vm.Alike.refl U.vm) qK, qN.calling, qD⟩, va_recv hK hP (ci := 11) (q0 := 0) rfl rfl, fun U hU hW => ⟨rfl, by rw [hU], by rw [hU]; exact hPc, va_K.moved hW.alike hK, NN.warm hW hN, hDc.weaken (fun _ _ _ _ => trivial)⟩⟩ rfl rfl hl.1 rfl (lv_room (Nat.le_of_ble_eq_true rfl)) d_DiscMakerModel_describe_32 ⟨hkc, hks⟩) hS (fun q _ h => hFc q h) hFc (fun u t H1 locs ht hvm hp_r80 hB hz1 hk1 hS => ?_)
          obtain ⟨G_81, rfl⟩ : ∃ z, z = u := ⟨_, rfl⟩
          obtain ⟨hP1, hD1⟩ := hB
          rw [ht] at hP1
          obtain ⟨hP, hD⟩ := va_join (wr := [((ma 1), .inl (cI, 40, .inl fK)), ((ma 9), .inl (cI, 40, .inl fNS)), ((ma 13), .inl (cI, 40, .inl fBs)), ((ma 15), .inl (cI, 40, .inl fEs)), ((ma 17), .inl (cI, 24, .inl fTb)), ((ma 18), .inl (cI, 80, .inl fSe)), ((ma 19), .inl (cI, 80, .inl fSs))]) (w1 := [(h0, .inr (11, MO ma sv_thrown sv_length sv_nodes sv_many sv_directories sv_runsFrom sv_runs sv_read sv_wrong sv_isNamed sv_goes sv_goesSize sv_goesAt sv_targetParts sv_isRoot)), ((ma 16), .inl (cJ, 46080, .inr (.inl G_81)))]) hP hD [0, 1] [2, 3, 4, 5, 6, 7, 8] rfl rfl (by decide +kernel) (by decide +kernel) hk1 hFc hP1 hD1
          clear hPc hDc hFc hP1 hD1 hk1 hz1 hkc hks
          generalize H1 = H at hP hS ⊢
          have hP : va_P D CL [((ma 1), .inl (cI, 40, .inl fK)), ((ma 9), .inl (cI, 40, .inl fNS)), ((ma 13), .inl (cI, 40, .inl fBs)), ((ma 15), .inl (cI, 40, .inl fEs)), ((ma 17), .inl (cI, 24, .inl fTb)), ((ma 18), .inl (cI, 80, .inl fSe)), ((ma 19), .inl (cI, 80, .inl fSs)), (h0, .inr (11, MO ma sv_thrown sv_length sv_nodes sv_many sv_directories sv_runsFrom sv_runs sv_read sv_wrong sv_isNamed sv_goes sv_goesSize sv_goesAt sv_targetParts sv_isRoot)), ((ma 16), .inl (cJ, 46080, .inr (.inl G_81)))] H := hP
          have hD : va_D A [((ma 1), .inl (cI, 40, .inl fK)), ((ma 9), .inl (cI, 40, .inl fNS)), ((ma 13), .inl (cI, 40, .inl fBs)), ((ma 15), .inl (cI, 40, .inl fEs)), ((ma 17), .inl (cI, 24, .inl fTb)), ((ma 18), .inl (cI, 80, .inl fSe)), ((ma 19), .inl (cI, 80, .inl fSs)), (h0, .inr (11, MO ma sv_thrown sv_length sv_nodes sv_many sv_directories sv_runsFrom sv_runs sv_read sv_wrong sv_isNamed sv_goes sv_goesSize sv_goesAt sv_targetParts sv_isRoot)), ((ma 16), .inl (cJ, 46080, .inr (.inl G_81)))] := hD
          have hP := hP.sub (ws' := [(h0, .inr (11, MO ma sv_thrown sv_length sv_nodes sv_many sv_directories sv_runsFrom sv_runs sv_read sv_wrong sv_isNamed sv_goes sv_goesSize sv_goesAt sv_targetParts sv_isRoot)), ((ma 16), .inl (cJ, 46080, .inr (.inl G_81))), ((ma 1), .inl (cI, 40, .inl fK)), ((ma 9), .inl (cI, 40, .inl fNS)), ((ma 13), .inl (cI, 40, .inl fBs)), ((ma 15), .inl (cI, 40, .inl fEs)), ((ma 17), .inl (cI, 24, .inl fTb)), ((ma 18), .inl (cI, 80, .inl fSe)), ((ma 19), .inl (cI, 80, .inl fSs))]) [7, 8, 0, 1, 2, 3, 4, 5, 6] rfl
          have hD := hD.sub (ws' := [(h0, .inr (11, MO ma sv_thrown sv_length sv_nodes sv_many sv_directories sv_runsFrom sv_runs sv_read sv_wrong sv_isNamed sv_goes sv_goesSize sv_goesAt sv_targetParts sv_isRoot)), ((ma 16), .inl (cJ, 46080, .inr (.inl G_81))), ((ma 1), .inl (cI, 40, .inl fK)), ((ma 9), .inl (cI, 40, .inl fNS)), ((ma 13), .inl (cI, 40, .inl fBs)), ((ma 15), .inl (cI, 40, .inl fEs)), ((ma 17), .inl (cI, 24, .inl fTb)), ((ma 18), .inl (cI, 80, .inl fSe)), ((ma 19), .inl (cI, 80, .inl fSs))]) [7, 8, 0, 1, 2, 3, 4, 5, 6] (by decide +kernel) rfl
          have hl := lv_sub hl [1, 2, 0] rfl
          exact kk35 _ G_81 _ _ _ rfl  hP hD hS hl
        · skip
          have g20_209 : ¬ 2 ≤ tx.toInt := fun h8 => h_9 ((i_le (by decide) rfl).mpr h8)
          refine lv_iload_n hx hb d_DiscMakerModel_describe_23 rfl (lv_at hl 2 rfl) ?_
          refine lv_iconst (v := 1) hx hb d_DiscMakerModel_describe_24 (by decide) ?_
          refine lv_iadd hx hb d_DiscMakerModel_describe_25 ?_
          refine lv_topi (fun v82 e_v82 => ?_)
          have t_v82 : v82.toInt = tx.toInt + 1 := by rw [e_v82]; exact i_add rfl (by decide) (by omega) (by omega)
          refine lv_goto (tgt := 32) hx hb d_DiscMakerModel_describe_26 (by decide) ?_
          have hPc := hP.sub (ws' := [(h0, .inr (11, MO ma sv_thrown sv_length sv_nodes sv_many sv_directories sv_runsFrom sv_runs sv_read sv_wrong sv_isNamed sv_goes sv_goesSize sv_goesAt sv_targetParts sv_isRoot)), ((ma 16), .inl (cJ, 46080, .inr (.inl lF)))]) [0, 1] rfl
          have hDc := hD.sub (ws' := [(h0, .inr (11, MO ma sv_thrown sv_length sv_nodes sv_many sv_directories sv_runsFrom sv_runs sv_read sv_wrong sv_isNamed sv_goes sv_goesSize sv_goesAt sv_targetParts sv_isRoot)), ((ma 16), .inl (cJ, 46080, .inr (.inl lF)))]) [0, 1] (by decide +kernel) rfl
          have hFc := va_free (wc := [(h0, .inr (11, MO ma sv_thrown sv_length sv_nodes sv_many sv_directories sv_runsFrom sv_runs sv_read sv_wrong sv_isNamed sv_goes sv_goesSize sv_goesAt sv_targetParts sv_isRoot)), ((ma 16), .inl (cJ, 46080, .inr (.inl lF)))]) hD hS hA [0, 1] rfl
          have hkc : 0 ≤ 0 := by decide
          have hks : 0 ≤ 0 := by decide
          refine va_callv (va_runV (C := "DiscMakerModel") (As := [.int v2, .int v82]) (rest := []) ⟨hx, hb, hml, hown, hts⟩ (m_set l D cB cI cJ cZ cN cF H.size h0 ma sv_thrown sv_length sv_nodes sv_many sv_directories sv_runsFrom sv_runs sv_read sv_wrong sv_isNamed sv_goes sv_goesSize sv_goesAt sv_targetParts sv_isRoot lF v2 v82 (by (try dsimp only); first | assumption | omega | trivial) (by (try dsimp only); first | assumption | omega | trivial)) (cwV 2 hts (lg_goodV k1727 k1729 k79 k125 kc_DiscMakerModel_set) rfl rfl rfl (by decide +kernel) ⟨Nat.le_of_ble_eq_true rfl, Nat.le_of_ble_eq_true rfl⟩) ⟨fun a U g mk q => by obtain ⟨q0, q1, qP, qK, qN, qD⟩ := q; exact ⟨q0, q1, qP, va_K.moved (u := U) (U := U.calling g mk a) (Vm.Alike.refl U.vm) qK, qN.calling, qD⟩, va_recv hK hP (ci := 11) (q0 := 0) rfl rfl, fun U hU hW => ⟨rfl, by rw [hU], by rw [hU]; exact hPc, va_K.moved hW.alike hK, NN.warm hW hN, hDc.weaken (fun _ _ _ _ => trivial)⟩⟩ rfl rfl hl.1 rfl (lv_room (Nat.le_of_ble_eq_true rfl)) d_DiscMakerModel_describe_32 ⟨hkc, hks⟩) hS (fun q _ h => hFc q h) hFc (fun u t H1 locs ht hvm hp_r83 hB hz1 hk1 hS => ?_)
          obtain ⟨G_84, rfl⟩ : ∃ z, z = u := ⟨_, rfl⟩
          obtain ⟨hP1, hD1⟩ := hB
          rw [ht] at hP1
          obtain ⟨hP, hD⟩ := va_join (wr := [((ma 1), .inl (cI, 40, .inl fK)), ((ma 9), .inl (cI, 40, .inl fNS)), ((ma 13), .inl (cI, 40, .inl fBs)), ((ma 15), .inl (cI, 40, .inl fEs)), ((ma 17), .inl (cI, 24, .inl fTb)), ((ma 18), .inl (cI, 80, .inl fSe)), ((ma 19), .inl (cI, 80, .inl fSs))]) (w1 := [(h0, .inr (11, MO ma sv_thrown sv_length sv_nodes sv_many sv_directories sv_runsFrom sv_runs sv_read sv_wrong sv_isNamed sv_goes sv_goesSize sv_goesAt sv_targetParts sv_isRoot)), ((ma 16), .inl (cJ, 46080, .inr (.inl G_84)))]) hP hD [0, 1] [2, 3, 4, 5, 6, 7, 8] rfl rfl (by decide +kernel) (by decide +kernel) hk1 hFc hP1 hD1
          clear hPc hDc hFc hP1 hD1 hk1 hz1 hkc hks
          generalize H1 = H at hP hS ⊢
          have hP : va_P D CL [((ma 1), .inl (cI, 40, .inl fK)), ((ma 9), .inl (cI, 40, .inl fNS)), ((ma 13), .inl (cI, 40, .inl fBs)), ((ma 15), .inl (cI, 40, .inl fEs)), ((ma 17), .inl (cI, 24, .inl fTb)), ((ma 18), .inl (cI, 80, .inl fSe)), ((ma 19), .inl (cI, 80, .inl fSs)), (h0, .inr (11, MO ma sv_thrown sv_length sv_nodes sv_many sv_directories sv_runsFrom sv_runs sv_read sv_wrong sv_isNamed sv_goes sv_goesSize sv_goesAt sv_targetParts sv_isRoot)), ((ma 16), .inl (cJ, 46080, .inr (.inl G_84)))] H := hP
          have hD : va_D A [((ma 1), .inl (cI, 40, .inl fK)), ((ma 9), .inl (cI, 40, .inl fNS)), ((ma 13), .inl (cI, 40, .inl fBs)), ((ma 15), .inl (cI, 40, .inl fEs)), ((ma 17), .inl (cI, 24, .inl fTb)), ((ma 18), .inl (cI, 80, .inl fSe)), ((ma 19), .inl (cI, 80, .inl fSs)), (h0, .inr (11, MO ma sv_thrown sv_length sv_nodes sv_many sv_directories sv_runsFrom sv_runs sv_read sv_wrong sv_isNamed sv_goes sv_goesSize sv_goesAt sv_targetParts sv_isRoot)), ((ma 16), .inl (cJ, 46080, .inr (.inl G_84)))] := hD
          have hP := hP.sub (ws' := [(h0, .inr (11, MO ma sv_thrown sv_length sv_nodes sv_many sv_directories sv_runsFrom sv_runs sv_read sv_wrong sv_isNamed sv_goes sv_goesSize sv_goesAt sv_targetParts sv_isRoot)), ((ma 16), .inl (cJ, 46080, .inr (.inl G_84))), ((ma 1), .inl (cI, 40, .inl fK)), ((ma 9), .inl (cI, 40, .inl fNS)), ((ma 13), .inl (cI, 40, .inl fBs)), ((ma 15), .inl (cI, 40, .inl fEs)), ((ma 17), .inl (cI, 24, .inl fTb)), ((ma 18), .inl (cI, 80, .inl fSe)), ((ma 19), .inl (cI, 80, .inl fSs))]) [7, 8, 0, 1, 2, 3, 4, 5, 6] rfl
          have hD := hD.sub (ws' := [(h0, .inr (11, MO ma sv_thrown sv_length sv_nodes sv_many sv_directories sv_runsFrom sv_runs sv_read sv_wrong sv_isNamed sv_goes sv_goesSize sv_goesAt sv_targetParts sv_isRoot)), ((ma 16), .inl (cJ, 46080, .inr (.inl G_84))), ((ma 1), .inl (cI, 40, .inl fK)), ((ma 9), .inl (cI, 40, .inl fNS)), ((ma 13), .inl (cI, 40, .inl fBs)), ((ma 15), .inl (cI, 40, .inl fEs)), ((ma 17), .inl (cI, 24, .inl fTb)), ((ma 18), .inl (cI, 80, .inl fSe)), ((ma 19), .inl (cI, 80, .inl fSs))]) [7, 8, 0, 1, 2, 3, 4, 5, 6] (by decide +kernel) rfl
          have hl := lv_sub hl [1, 2, 0] rfl
          exact kk35 _ G_84 _ _ _ rfl  hP hD hS hl
  · skip
    intro kk2
    have hP := hP.sub (ws' := [(h0, .inr (11, MO ma sv_thrown sv_length sv_nodes sv_many sv_directories sv_runsFrom sv_runs sv_read sv_wrong sv_isNamed sv_goes sv_goesSize sv_goesAt sv_targetParts sv_isRoot)), ((ma 16), .inl (cJ, 46080, .inr (.inl F))), ((ma 1), .inl (cI, 40, .inl fK)), ((ma 9), .inl (cI, 40, .inl fNS)), ((ma 13), .inl (cI, 40, .inl fBs)), ((ma 15), .inl (cI, 40, .inl fEs)), ((ma 17), .inl (cI, 24, .inl fTb)), ((ma 18), .inl (cI, 80, .inl fSe)), ((ma 19), .inl (cI, 80, .inl fSs))]) [0, 1, 2, 3, 4, 5, 6, 7, 8] rfl
    have hD := hD.sub (ws' := [(h0, .inr (11, MO ma sv_thrown sv_length sv_nodes sv_many sv_directories sv_runsFrom sv_runs sv_read sv_wrong sv_isNamed sv_goes sv_goesSize sv_goesAt sv_targetParts sv_isRoot)), ((ma 16), .inl (cJ, 46080, .inr (.inl F))), ((ma 1), .inl (cI, 40, .inl fK)), ((ma 9), .inl (cI, 40, .inl fNS)), ((ma 13), .inl (cI, 40, .inl fBs)), ((ma 15), .inl (cI, 40, .inl fEs)), ((ma 17), .inl (cI, 24, .inl fTb)), ((ma 18), .inl (cI, 80, .inl fSe)), ((ma 19), .inl (cI, 80, .inl fSs))]) [0, 1, 2, 3, 4, 5, 6, 7, 8] (by decide +kernel) rfl
    have hl := lv_sub hl [1, 0] rfl
    exact kk2 _ 0 F _ _ _ rfl ((by (try dsimp only); first | assumption | omega | trivial)) hP hD hS hl
