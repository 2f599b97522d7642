theorem d_DiscMakerModel_lay_0 : decode b_DiscMakerModel_lay 0 = .ok (.aload_n 0, 1) := by decide +kernel
theorem d_DiscMakerModel_lay_1 : decode b_DiscMakerModel_lay 1 = .ok (.iload_n 1, 1) := by decide +kernel
theorem d_DiscMakerModel_lay_2 : decode b_DiscMakerModel_lay 2 = .ok (.iload_n 2, 1) := by decide +kernel
theorem d_DiscMakerModel_lay_3 : decode b_DiscMakerModel_lay 3 = .ok (.iload_n 3, 1) := by decide +kernel
theorem d_DiscMakerModel_lay_4 : decode b_DiscMakerModel_lay 4 = .ok (.invokevirtual 213, 3) := by decide +kernel
theorem d_DiscMakerModel_lay_7 : decode b_DiscMakerModel_lay 7 = .ok (.istore 5, 2) := by decide +kernel
theorem d_DiscMakerModel_lay_9 : decode b_DiscMakerModel_lay 9 = .ok (.iload 5, 2) := by decide +kernel
theorem d_DiscMakerModel_lay_11 : decode b_DiscMakerModel_lay 11 = .ok (.ifCond .ne 5, 3) := by decide +kernel
theorem d_DiscMakerModel_lay_14 : decode b_DiscMakerModel_lay 14 = .ok (.iconst 0, 1) := by decide +kernel
theorem d_DiscMakerModel_lay_15 : decode b_DiscMakerModel_lay 15 = .ok (.ireturn, 1) := by decide +kernel
theorem d_DiscMakerModel_lay_16 : decode b_DiscMakerModel_lay 16 = .ok (.iload_n 1, 1) := by decide +kernel
theorem d_DiscMakerModel_lay_17 : decode b_DiscMakerModel_lay 17 = .ok (.ifCond .ne 40, 3) := by decide +kernel
theorem d_DiscMakerModel_lay_20 : decode b_DiscMakerModel_lay 20 = .ok (.aload_n 0, 1) := by decide +kernel
theorem d_DiscMakerModel_lay_21 : decode b_DiscMakerModel_lay 21 = .ok (.iload 4, 2) := by decide +kernel
theorem d_DiscMakerModel_lay_23 : decode b_DiscMakerModel_lay 23 = .ok (.bipush 83, 2) := by decide +kernel
theorem d_DiscMakerModel_lay_25 : decode b_DiscMakerModel_lay 25 = .ok (.bipush 80, 2) := by decide +kernel
theorem d_DiscMakerModel_lay_27 : decode b_DiscMakerModel_lay 27 = .ok (.bipush 7, 2) := by decide +kernel
theorem d_DiscMakerModel_lay_29 : decode b_DiscMakerModel_lay 29 = .ok (.invokevirtual 258, 3) := by decide +kernel
theorem d_DiscMakerModel_lay_32 : decode b_DiscMakerModel_lay 32 = .ok (.aload_n 0, 1) := by decide +kernel
theorem d_DiscMakerModel_lay_33 : decode b_DiscMakerModel_lay 33 = .ok (.iload 4, 2) := by decide +kernel
theorem d_DiscMakerModel_lay_35 : decode b_DiscMakerModel_lay 35 = .ok (.iconst 4, 1) := by decide +kernel
theorem d_DiscMakerModel_lay_36 : decode b_DiscMakerModel_lay 36 = .ok (.iadd, 1) := by decide +kernel
theorem d_DiscMakerModel_lay_37 : decode b_DiscMakerModel_lay 37 = .ok (.sipush 190, 3) := by decide +kernel
theorem d_DiscMakerModel_lay_40 : decode b_DiscMakerModel_lay 40 = .ok (.invokevirtual 192, 3) := by decide +kernel
theorem d_DiscMakerModel_lay_43 : decode b_DiscMakerModel_lay 43 = .ok (.aload_n 0, 1) := by decide +kernel
theorem d_DiscMakerModel_lay_44 : decode b_DiscMakerModel_lay 44 = .ok (.iload 4, 2) := by decide +kernel
theorem d_DiscMakerModel_lay_46 : decode b_DiscMakerModel_lay 46 = .ok (.iconst 5, 1) := by decide +kernel
theorem d_DiscMakerModel_lay_47 : decode b_DiscMakerModel_lay 47 = .ok (.iadd, 1) := by decide +kernel
theorem d_DiscMakerModel_lay_48 : decode b_DiscMakerModel_lay 48 = .ok (.sipush 239, 3) := by decide +kernel
theorem d_DiscMakerModel_lay_51 : decode b_DiscMakerModel_lay 51 = .ok (.invokevirtual 192, 3) := by decide +kernel
theorem d_DiscMakerModel_lay_54 : decode b_DiscMakerModel_lay 54 = .ok (.goto 204, 3) := by decide +kernel
theorem d_DiscMakerModel_lay_57 : decode b_DiscMakerModel_lay 57 = .ok (.iload_n 1, 1) := by decide +kernel
theorem d_DiscMakerModel_lay_58 : decode b_DiscMakerModel_lay 58 = .ok (.iconst 1, 1) := by decide +kernel
theorem d_DiscMakerModel_lay_59 : decode b_DiscMakerModel_lay 59 = .ok (.if_icmp .ne 119, 3) := by decide +kernel
theorem d_DiscMakerModel_lay_62 : decode b_DiscMakerModel_lay 62 = .ok (.aload_n 0, 1) := by decide +kernel
theorem d_DiscMakerModel_lay_63 : decode b_DiscMakerModel_lay 63 = .ok (.iload 4, 2) := by decide +kernel
theorem d_DiscMakerModel_lay_65 : decode b_DiscMakerModel_lay 65 = .ok (.bipush 80, 2) := by decide +kernel
theorem d_DiscMakerModel_lay_67 : decode b_DiscMakerModel_lay 67 = .ok (.bipush 88, 2) := by decide +kernel
theorem d_DiscMakerModel_lay_69 : decode b_DiscMakerModel_lay 69 = .ok (.bipush 36, 2) := by decide +kernel
theorem d_DiscMakerModel_lay_71 : decode b_DiscMakerModel_lay 71 = .ok (.invokevirtual 258, 3) := by decide +kernel
theorem d_DiscMakerModel_lay_74 : decode b_DiscMakerModel_lay 74 = .ok (.aload_n 0, 1) := by decide +kernel
theorem d_DiscMakerModel_lay_75 : decode b_DiscMakerModel_lay 75 = .ok (.iload 4, 2) := by decide +kernel
theorem d_DiscMakerModel_lay_77 : decode b_DiscMakerModel_lay 77 = .ok (.iconst 4, 1) := by decide +kernel
theorem d_DiscMakerModel_lay_78 : decode b_DiscMakerModel_lay 78 = .ok (.iadd, 1) := by decide +kernel
theorem d_DiscMakerModel_lay_79 : decode b_DiscMakerModel_lay 79 = .ok (.iconst 4, 1) := by decide +kernel
theorem d_DiscMakerModel_lay_80 : decode b_DiscMakerModel_lay 80 = .ok (.aload_n 0, 1) := by decide +kernel
theorem d_DiscMakerModel_lay_81 : decode b_DiscMakerModel_lay 81 = .ok (.getfield 13, 3) := by decide +kernel
theorem d_DiscMakerModel_lay_84 : decode b_DiscMakerModel_lay 84 = .ok (.iload_n 3, 1) := by decide +kernel
theorem d_DiscMakerModel_lay_85 : decode b_DiscMakerModel_lay 85 = .ok (.iaload, 1) := by decide +kernel
theorem d_DiscMakerModel_lay_86 : decode b_DiscMakerModel_lay 86 = .ok (.ifCond .ne 9, 3) := by decide +kernel
theorem d_DiscMakerModel_lay_89 : decode b_DiscMakerModel_lay 89 = .ok (.sipush 16384, 3) := by decide +kernel
theorem d_DiscMakerModel_lay_92 : decode b_DiscMakerModel_lay 92 = .ok (.goto 22, 3) := by decide +kernel
theorem d_DiscMakerModel_lay_95 : decode b_DiscMakerModel_lay 95 = .ok (.aload_n 0, 1) := by decide +kernel
theorem d_DiscMakerModel_lay_96 : decode b_DiscMakerModel_lay 96 = .ok (.getfield 13, 3) := by decide +kernel
theorem d_DiscMakerModel_lay_99 : decode b_DiscMakerModel_lay 99 = .ok (.iload_n 3, 1) := by decide +kernel
theorem d_DiscMakerModel_lay_100 : decode b_DiscMakerModel_lay 100 = .ok (.iaload, 1) := by decide +kernel
theorem d_DiscMakerModel_lay_101 : decode b_DiscMakerModel_lay 101 = .ok (.iconst 1, 1) := by decide +kernel
theorem d_DiscMakerModel_lay_102 : decode b_DiscMakerModel_lay 102 = .ok (.if_icmp .ne 9, 3) := by decide +kernel
theorem d_DiscMakerModel_lay_105 : decode b_DiscMakerModel_lay 105 = .ok (.ldc_w 264, 3) := by decide +kernel
theorem d_DiscMakerModel_lay_108 : decode b_DiscMakerModel_lay 108 = .ok (.goto 6, 3) := by decide +kernel
theorem d_DiscMakerModel_lay_111 : decode b_DiscMakerModel_lay 111 = .ok (.ldc_w 265, 3) := by decide +kernel
theorem d_DiscMakerModel_lay_114 : decode b_DiscMakerModel_lay 114 = .ok (.aload_n 0, 1) := by decide +kernel
theorem d_DiscMakerModel_lay_115 : decode b_DiscMakerModel_lay 115 = .ok (.getfield 20, 3) := by decide +kernel
theorem d_DiscMakerModel_lay_118 : decode b_DiscMakerModel_lay 118 = .ok (.iload_n 3, 1) := by decide +kernel
theorem d_DiscMakerModel_lay_119 : decode b_DiscMakerModel_lay 119 = .ok (.iaload, 1) := by decide +kernel
theorem d_DiscMakerModel_lay_120 : decode b_DiscMakerModel_lay 120 = .ok (.sipush 4096, 3) := by decide +kernel
theorem d_DiscMakerModel_lay_123 : decode b_DiscMakerModel_lay 123 = .ok (.irem, 1) := by decide +kernel
theorem d_DiscMakerModel_lay_124 : decode b_DiscMakerModel_lay 124 = .ok (.iadd, 1) := by decide +kernel
theorem d_DiscMakerModel_lay_125 : decode b_DiscMakerModel_lay 125 = .ok (.invokevirtual 244, 3) := by decide +kernel
theorem d_DiscMakerModel_lay_128 : decode b_DiscMakerModel_lay 128 = .ok (.aload_n 0, 1) := by decide +kernel
theorem d_DiscMakerModel_lay_129 : decode b_DiscMakerModel_lay 129 = .ok (.iload 4, 2) := by decide +kernel
theorem d_DiscMakerModel_lay_131 : decode b_DiscMakerModel_lay 131 = .ok (.bipush 12, 2) := by decide +kernel
theorem d_DiscMakerModel_lay_133 : decode b_DiscMakerModel_lay 133 = .ok (.iadd, 1) := by decide +kernel
theorem d_DiscMakerModel_lay_134 : decode b_DiscMakerModel_lay 134 = .ok (.iconst 4, 1) := by decide +kernel
theorem d_DiscMakerModel_lay_135 : decode b_DiscMakerModel_lay 135 = .ok (.aload_n 0, 1) := by decide +kernel
theorem d_DiscMakerModel_lay_136 : decode b_DiscMakerModel_lay 136 = .ok (.iload_n 3, 1) := by decide +kernel
theorem d_DiscMakerModel_lay_137 : decode b_DiscMakerModel_lay 137 = .ok (.invokevirtual 266, 3) := by decide +kernel
theorem d_DiscMakerModel_lay_140 : decode b_DiscMakerModel_lay 140 = .ok (.invokevirtual 244, 3) := by decide +kernel
theorem d_DiscMakerModel_lay_143 : decode b_DiscMakerModel_lay 143 = .ok (.aload_n 0, 1) := by decide +kernel
theorem d_DiscMakerModel_lay_144 : decode b_DiscMakerModel_lay 144 = .ok (.iload 4, 2) := by decide +kernel
theorem d_DiscMakerModel_lay_146 : decode b_DiscMakerModel_lay 146 = .ok (.bipush 20, 2) := by decide +kernel
theorem d_DiscMakerModel_lay_148 : decode b_DiscMakerModel_lay 148 = .ok (.iadd, 1) := by decide +kernel
theorem d_DiscMakerModel_lay_149 : decode b_DiscMakerModel_lay 149 = .ok (.iconst 4, 1) := by decide +kernel
theorem d_DiscMakerModel_lay_150 : decode b_DiscMakerModel_lay 150 = .ok (.aload_n 0, 1) := by decide +kernel
theorem d_DiscMakerModel_lay_151 : decode b_DiscMakerModel_lay 151 = .ok (.getfield 23, 3) := by decide +kernel
theorem d_DiscMakerModel_lay_154 : decode b_DiscMakerModel_lay 154 = .ok (.iload_n 3, 1) := by decide +kernel
theorem d_DiscMakerModel_lay_155 : decode b_DiscMakerModel_lay 155 = .ok (.iaload, 1) := by decide +kernel
theorem d_DiscMakerModel_lay_156 : decode b_DiscMakerModel_lay 156 = .ok (.invokevirtual 244, 3) := by decide +kernel
theorem d_DiscMakerModel_lay_159 : decode b_DiscMakerModel_lay 159 = .ok (.aload_n 0, 1) := by decide +kernel
theorem d_DiscMakerModel_lay_160 : decode b_DiscMakerModel_lay 160 = .ok (.iload 4, 2) := by decide +kernel
theorem d_DiscMakerModel_lay_162 : decode b_DiscMakerModel_lay 162 = .ok (.bipush 28, 2) := by decide +kernel
theorem d_DiscMakerModel_lay_164 : decode b_DiscMakerModel_lay 164 = .ok (.iadd, 1) := by decide +kernel
theorem d_DiscMakerModel_lay_165 : decode b_DiscMakerModel_lay 165 = .ok (.iconst 4, 1) := by decide +kernel
theorem d_DiscMakerModel_lay_166 : decode b_DiscMakerModel_lay 166 = .ok (.aload_n 0, 1) := by decide +kernel
theorem d_DiscMakerModel_lay_167 : decode b_DiscMakerModel_lay 167 = .ok (.getfield 26, 3) := by decide +kernel
theorem d_DiscMakerModel_lay_170 : decode b_DiscMakerModel_lay 170 = .ok (.iload_n 3, 1) := by decide +kernel
theorem d_DiscMakerModel_lay_171 : decode b_DiscMakerModel_lay 171 = .ok (.iaload, 1) := by decide +kernel
theorem d_DiscMakerModel_lay_172 : decode b_DiscMakerModel_lay 172 = .ok (.invokevirtual 244, 3) := by decide +kernel
theorem d_DiscMakerModel_lay_175 : decode b_DiscMakerModel_lay 175 = .ok (.goto 83, 3) := by decide +kernel
theorem d_DiscMakerModel_lay_178 : decode b_DiscMakerModel_lay 178 = .ok (.iload_n 1, 1) := by decide +kernel
theorem d_DiscMakerModel_lay_179 : decode b_DiscMakerModel_lay 179 = .ok (.iconst 2, 1) := by decide +kernel
theorem d_DiscMakerModel_lay_180 : decode b_DiscMakerModel_lay 180 = .ok (.if_icmp .ne 56, 3) := by decide +kernel
theorem d_DiscMakerModel_lay_183 : decode b_DiscMakerModel_lay 183 = .ok (.aload_n 0, 1) := by decide +kernel
theorem d_DiscMakerModel_lay_184 : decode b_DiscMakerModel_lay 184 = .ok (.iload 4, 2) := by decide +kernel
theorem d_DiscMakerModel_lay_186 : decode b_DiscMakerModel_lay 186 = .ok (.bipush 78, 2) := by decide +kernel
theorem d_DiscMakerModel_lay_188 : decode b_DiscMakerModel_lay 188 = .ok (.bipush 77, 2) := by decide +kernel
theorem d_DiscMakerModel_lay_190 : decode b_DiscMakerModel_lay 190 = .ok (.iload 5, 2) := by decide +kernel
theorem d_DiscMakerModel_lay_192 : decode b_DiscMakerModel_lay 192 = .ok (.invokevirtual 258, 3) := by decide +kernel
theorem d_DiscMakerModel_lay_195 : decode b_DiscMakerModel_lay 195 = .ok (.iconst 0, 1) := by decide +kernel
theorem d_DiscMakerModel_lay_196 : decode b_DiscMakerModel_lay 196 = .ok (.istore 6, 2) := by decide +kernel
theorem d_DiscMakerModel_lay_198 : decode b_DiscMakerModel_lay 198 = .ok (.iload 6, 2) := by decide +kernel
theorem d_DiscMakerModel_lay_200 : decode b_DiscMakerModel_lay 200 = .ok (.aload_n 0, 1) := by decide +kernel
theorem d_DiscMakerModel_lay_201 : decode b_DiscMakerModel_lay 201 = .ok (.getfield 38, 3) := by decide +kernel
theorem d_DiscMakerModel_lay_204 : decode b_DiscMakerModel_lay 204 = .ok (.iload_n 3, 1) := by decide +kernel
theorem d_DiscMakerModel_lay_205 : decode b_DiscMakerModel_lay 205 = .ok (.iaload, 1) := by decide +kernel
theorem d_DiscMakerModel_lay_206 : decode b_DiscMakerModel_lay 206 = .ok (.if_icmp .ge 27, 3) := by decide +kernel
theorem d_DiscMakerModel_lay_209 : decode b_DiscMakerModel_lay 209 = .ok (.aload_n 0, 1) := by decide +kernel
theorem d_DiscMakerModel_lay_210 : decode b_DiscMakerModel_lay 210 = .ok (.iload 4, 2) := by decide +kernel
theorem d_DiscMakerModel_lay_212 : decode b_DiscMakerModel_lay 212 = .ok (.iconst 5, 1) := by decide +kernel
theorem d_DiscMakerModel_lay_213 : decode b_DiscMakerModel_lay 213 = .ok (.iadd, 1) := by decide +kernel
theorem d_DiscMakerModel_lay_214 : decode b_DiscMakerModel_lay 214 = .ok (.iload 6, 2) := by decide +kernel
theorem d_DiscMakerModel_lay_216 : decode b_DiscMakerModel_lay 216 = .ok (.iadd, 1) := by decide +kernel
theorem d_DiscMakerModel_lay_217 : decode b_DiscMakerModel_lay 217 = .ok (.aload_n 0, 1) := by decide +kernel
theorem d_DiscMakerModel_lay_218 : decode b_DiscMakerModel_lay 218 = .ok (.iload_n 3, 1) := by decide +kernel
theorem d_DiscMakerModel_lay_219 : decode b_DiscMakerModel_lay 219 = .ok (.iload 6, 2) := by decide +kernel
theorem d_DiscMakerModel_lay_221 : decode b_DiscMakerModel_lay 221 = .ok (.invokevirtual 131, 3) := by decide +kernel
theorem d_DiscMakerModel_lay_224 : decode b_DiscMakerModel_lay 224 = .ok (.invokevirtual 192, 3) := by decide +kernel
theorem d_DiscMakerModel_lay_227 : decode b_DiscMakerModel_lay 227 = .ok (.iinc 6 1, 3) := by decide +kernel
theorem d_DiscMakerModel_lay_230 : decode b_DiscMakerModel_lay 230 = .ok (.goto (-32), 3) := by decide +kernel
theorem d_DiscMakerModel_lay_233 : decode b_DiscMakerModel_lay 233 = .ok (.goto 25, 3) := by decide +kernel
theorem d_DiscMakerModel_lay_236 : decode b_DiscMakerModel_lay 236 = .ok (.aload_n 0, 1) := by decide +kernel
theorem d_DiscMakerModel_lay_237 : decode b_DiscMakerModel_lay 237 = .ok (.iload 4, 2) := by decide +kernel
theorem d_DiscMakerModel_lay_239 : decode b_DiscMakerModel_lay 239 = .ok (.bipush 83, 2) := by decide +kernel
theorem d_DiscMakerModel_lay_241 : decode b_DiscMakerModel_lay 241 = .ok (.bipush 76, 2) := by decide +kernel
theorem d_DiscMakerModel_lay_243 : decode b_DiscMakerModel_lay 243 = .ok (.iload 5, 2) := by decide +kernel
theorem d_DiscMakerModel_lay_245 : decode b_DiscMakerModel_lay 245 = .ok (.invokevirtual 258, 3) := by decide +kernel
theorem d_DiscMakerModel_lay_248 : decode b_DiscMakerModel_lay 248 = .ok (.aload_n 0, 1) := by decide +kernel
theorem d_DiscMakerModel_lay_249 : decode b_DiscMakerModel_lay 249 = .ok (.iload_n 3, 1) := by decide +kernel
theorem d_DiscMakerModel_lay_250 : decode b_DiscMakerModel_lay 250 = .ok (.iload 4, 2) := by decide +kernel
theorem d_DiscMakerModel_lay_252 : decode b_DiscMakerModel_lay 252 = .ok (.iconst 5, 1) := by decide +kernel
theorem d_DiscMakerModel_lay_253 : decode b_DiscMakerModel_lay 253 = .ok (.iadd, 1) := by decide +kernel
theorem d_DiscMakerModel_lay_254 : decode b_DiscMakerModel_lay 254 = .ok (.invokevirtual 203, 3) := by decide +kernel
theorem d_DiscMakerModel_lay_257 : decode b_DiscMakerModel_lay 257 = .ok (.pop, 1) := by decide +kernel
theorem d_DiscMakerModel_lay_258 : decode b_DiscMakerModel_lay 258 = .ok (.iload 5, 2) := by decide +kernel
theorem d_DiscMakerModel_lay_260 : decode b_DiscMakerModel_lay 260 = .ok (.ireturn, 1) := by decide +kernel
set_option maxHeartbeats 4000000 in
set_option maxRecDepth 100000 in
theorem m_lay (l : Launch) (D : va_G) (cB cI cJ cZ cN cF : ClassId) (sz : Nat) (h0 : Nat) (ma : Nat → Nat) (sv_thrown sv_length sv_nodes sv_many sv_directories sv_runsFrom sv_runs sv_read sv_wrong sv_isNamed sv_goes sv_goesSize sv_goesAt sv_targetParts sv_isRoot : Int32) (F : Nat → Int64) (fK : Nat → Int32) (fP : Nat → Int32) (fM : Nat → Int32) (fO : Nat → Int32) (fG : Nat → Int32) (fN : Nat → Int32) (fNS : Nat → Int32) (fT : Nat → Int32) (fTS : Nat → Int32) (x : Int32) (y : Int32) (z : Int32) (w : Int32) (hn : 1 ≤ sv_nodes.toInt ∧ sv_nodes.toInt ≤ 40) (hz0 : 0 ≤ z.toInt ∧ z.toInt < 40) (hx0 : 0 ≤ x.toInt ∧ x.toInt ≤ 3) (hw0 : 0 ≤ w.toInt ∧ w.toInt + 1000 ≤ 368640) (hKi : Rg 0 2 40 fK) (hNS : Rg 0 30 40 fNS) (hTS : Rg 0 200 40 fTS) : Met l y_DiscMakerModel_lay w_DiscMakerModel_lay ({ frames := 4, cells := 0, slots := 0, locals := 99 }) (va_Pc [.ref h0, .int x, .int y, .int z, .int w] (fun U => U.heap.size = sz ∧ va_P D CL [(h0, .inr (11, MO ma sv_thrown sv_length sv_nodes sv_many sv_directories sv_runsFrom sv_runs sv_read sv_wrong sv_isNamed sv_goes sv_goesSize sv_goesAt sv_targetParts sv_isRoot)), ((ma 16), .inl (cJ, 46080, .inr (.inl F))), ((ma 1), .inl (cI, 40, .inl fK)), ((ma 2), .inl (cI, 40, .inl fP)), ((ma 3), .inl (cI, 40, .inl fM)), ((ma 4), .inl (cI, 40, .inl fO)), ((ma 5), .inl (cI, 40, .inl fG)), ((ma 8), .inl (cB, 1200, .inl fN)), ((ma 9), .inl (cI, 40, .inl fNS)), ((ma 10), .inl (cB, 8000, .inl fT)), ((ma 11), .inl (cI, 40, .inl fTS))] U.heap ∧ va_K D CL (TY cB cI cJ cZ cN cF) U ∧ NN U ∧ va_D (fun _ => True) [(h0, .inr (11, MO ma sv_thrown sv_length sv_nodes sv_many sv_directories sv_runsFrom sv_runs sv_read sv_wrong sv_isNamed sv_goes sv_goesSize sv_goesAt sv_targetParts sv_isRoot)), ((ma 16), .inl (cJ, 46080, .inr (.inl F))), ((ma 1), .inl (cI, 40, .inl fK)), ((ma 2), .inl (cI, 40, .inl fP)), ((ma 3), .inl (cI, 40, .inl fM)), ((ma 4), .inl (cI, 40, .inl fO)), ((ma 5), .inl (cI, 40, .inl fG)), ((ma 8), .inl (cB, 1200, .inl fN)), ((ma 9), .inl (cI, 40, .inl fNS)), ((ma 10), .inl (cB, 8000, .inl fT)), ((ma 11), .inl (cI, 40, .inl fTS))])) (va_Qi (fun (r : Int32) (u : (Nat → Int64)) => match u with | G => (0 ≤ r.toInt ∧ r.toInt ≤ 308)) (fun (u : (Nat → Int64)) (t : State) => match u with | G => va_P D CL [(h0, .inr (11, MO ma sv_thrown sv_length sv_nodes sv_many sv_directories sv_runsFrom sv_runs sv_read sv_wrong sv_isNamed sv_goes sv_goesSize sv_goesAt sv_targetParts sv_isRoot)), ((ma 16), .inl (cJ, 46080, .inr (.inl G))), ((ma 1), .inl (cI, 40, .inl fK)), ((ma 2), .inl (cI, 40, .inl fP)), ((ma 3), .inl (cI, 40, .inl fM)), ((ma 4), .inl (cI, 40, .inl fO)), ((ma 5), .inl (cI, 40, .inl fG)), ((ma 8), .inl (cB, 1200, .inl fN)), ((ma 9), .inl (cI, 40, .inl fNS)), ((ma 10), .inl (cB, 8000, .inl fT)), ((ma 11), .inl (cI, 40, .inl fTS))] t.heap ∧ va_D (va_A [(h0, .inr (11, MO ma sv_thrown sv_length sv_nodes sv_many sv_directories sv_runsFrom sv_runs sv_read sv_wrong sv_isNamed sv_goes sv_goesSize sv_goesAt sv_targetParts sv_isRoot)), ((ma 16), .inl (cJ, 46080, .inr (.inl F))), ((ma 1), .inl (cI, 40, .inl fK)), ((ma 2), .inl (cI, 40, .inl fP)), ((ma 3), .inl (cI, 40, .inl fM)), ((ma 4), .inl (cI, 40, .inl fO)), ((ma 5), .inl (cI, 40, .inl fG)), ((ma 8), .inl (cB, 1200, .inl fN)), ((ma 9), .inl (cI, 40, .inl fNS)), ((ma 10), .inl (cB, 8000, .inl fT)), ((ma 11), .inl (cI, 40, .inl fTS))] sz) [(h0, .inr (11, MO ma sv_thrown sv_length sv_nodes sv_many sv_directories sv_runsFrom sv_runs sv_read sv_wrong sv_isNamed sv_goes sv_goesSize sv_goesAt sv_targetParts sv_isRoot)), ((ma 16), .inl (cJ, 46080, .inr (.inl G))), ((ma 1), .inl (cI, 40, .inl fK)), ((ma 2), .inl (cI, 40, .inl fP)), ((ma 3), .inl (cI, 40, .inl fM)), ((ma 4), .inl (cI, 40, .inl fO)), ((ma 5), .inl (cI, 40, .inl fG)), ((ma 8), .inl (cB, 1200, .inl fN)), ((ma 9), .inl (cI, 40, .inl fNS)), ((ma 10), .inl (cB, 8000, .inl fT)), ((ma 11), .inl (cI, 40, .inl fTS))]) (va_A [(h0, .inr (11, MO ma sv_thrown sv_length sv_nodes sv_many sv_directories sv_runsFrom sv_runs sv_read sv_wrong sv_isNamed sv_goes sv_goesSize sv_goesAt sv_targetParts sv_isRoot)), ((ma 16), .inl (cJ, 46080, .inr (.inl F))), ((ma 1), .inl (cI, 40, .inl fK)), ((ma 2), .inl (cI, 40, .inl fP)), ((ma 3), .inl (cI, 40, .inl fM)), ((ma 4), .inl (cI, 40, .inl fO)), ((ma 5), .inl (cI, 40, .inl fG)), ((ma 8), .inl (cB, 1200, .inl fN)), ((ma 9), .inl (cI, 40, .inl fNS)), ((ma 10), .inl (cB, 8000, .inl fT)), ((ma 11), .inl (cI, 40, .inl fTS))] sz)) 0 0 (va_A [(h0, .inr (11, MO ma sv_thrown sv_length sv_nodes sv_many sv_directories sv_runsFrom sv_runs sv_read sv_wrong sv_isNamed sv_goes sv_goesSize sv_goesAt sv_targetParts sv_isRoot)), ((ma 16), .inl (cJ, 46080, .inr (.inl F))), ((ma 1), .inl (cI, 40, .inl fK)), ((ma 2), .inl (cI, 40, .inl fP)), ((ma 3), .inl (cI, 40, .inl fM)), ((ma 4), .inl (cI, 40, .inl fO)), ((ma 5), .inl (cI, 40, .inl fG)), ((ma 8), .inl (cB, 1200, .inl fN)), ((ma 9), .inl (cI, 40, .inl fNS)), ((ma 10), .inl (cB, 8000, .inl fT)), ((ma 11), .inl (cI, 40, .inl fTS))] sz) := by
  refine Met.ofW (cc := b_DiscMakerModel_lay) (maxL := 7) (ret := some .int) (by decide) rfl ?_
  intro p e s m args below meth c s₁ B hml hv
  obtain ⟨rfl, hsz, hP, hK, hN, hD0⟩ := hv
  have hx := B.exec
  have hb := B.bytes
  have hr := B.returns
  have hts := atoms_spec (ws := w_DiscMakerModel_lay) B.pre
  have ht9 := fun (w : Cond) (h : w ∈ lw_g) => hts w (List.mem_cons_of_mem _ h)
  have hown : s.vm.findClass "DiscMakerModel" = some m.cls := findClass_of_methodNamed B.named
  have hlocks := B.notSynchronized
  subst hsz
  have hD := hD0.self (sz := s.heap.size)
  generalize hAe : va_A [(h0, .inr (11, MO ma sv_thrown sv_length sv_nodes sv_many sv_directories sv_runsFrom sv_runs sv_read sv_wrong sv_isNamed sv_goes sv_goesSize sv_goesAt sv_targetParts sv_isRoot)), ((ma 16), .inl (cJ, 46080, .inr (.inl F))), ((ma 1), .inl (cI, 40, .inl fK)), ((ma 2), .inl (cI, 40, .inl fP)), ((ma 3), .inl (cI, 40, .inl fM)), ((ma 4), .inl (cI, 40, .inl fO)), ((ma 5), .inl (cI, 40, .inl fG)), ((ma 8), .inl (cB, 1200, .inl fN)), ((ma 9), .inl (cI, 40, .inl fNS)), ((ma 10), .inl (cB, 8000, .inl fT)), ((ma 11), .inl (cI, 40, .inl fTS))] s.heap.size = A at hD ⊢
  have hA : ∀ q : Nat, s.heap.size ≤ q → A q := fun q h => by rw [← hAe]; exact Or.inr h
  have hS : va_S A s.heap s.heap [] := va_S.rf
  have hP : va_P D CL [(h0, .inr (11, MO ma sv_thrown sv_length sv_nodes sv_many sv_directories sv_runsFrom sv_runs sv_read sv_wrong sv_isNamed sv_goes sv_goesSize sv_goesAt sv_targetParts sv_isRoot)), ((ma 16), .inl (cJ, 46080, .inr (.inl F))), ((ma 1), .inl (cI, 40, .inl fK)), ((ma 2), .inl (cI, 40, .inl fP)), ((ma 3), .inl (cI, 40, .inl fM)), ((ma 4), .inl (cI, 40, .inl fO)), ((ma 5), .inl (cI, 40, .inl fG)), ((ma 8), .inl (cB, 1200, .inl fN)), ((ma 9), .inl (cI, 40, .inl fNS)), ((ma 10), .inl (cB, 8000, .inl fT)), ((ma 11), .inl (cI, 40, .inl fTS))] s.heap := hP
  have hl := lv_entry [.ref h0, .int x, .int y, .int z, .int w] (n := 7) (Nat.le_of_ble_eq_true rfl)
  rw [lg_entry_eq]
  generalize (lg_sl [.ref h0, .int x, .int y, .int z, .int w] ++ List.replicate (7 - (lg_sl [.ref h0, .int x, .int y, .int z, .int w]).length) Slot.unset).toArray = ls at hl ⊢
  have hl : lv_has ls 7 [(0, .ref h0), (1, .int x), (2, .int y), (3, .int z), (4, .int w)] := hl
  have L_m1 : ((-1) : Int32).toInt = (-1) := by decide
  have L_0 : (0 : Int32).toInt = 0 := by decide
  have L_1 : (1 : Int32).toInt = 1 := by decide
  have L_2 : (2 : Int32).toInt = 2 := by decide
  have L_4 : (4 : Int32).toInt = 4 := by decide
  have L_5 : (5 : Int32).toInt = 5 := by decide
  have L_7 : (7 : Int32).toInt = 7 := by decide
  have L_12 : (12 : Int32).toInt = 12 := by decide
  have L_20 : (20 : Int32).toInt = 20 := by decide
  have L_28 : (28 : Int32).toInt = 28 := by decide
  have L_36 : (36 : Int32).toInt = 36 := by decide
  have L_76 : (76 : Int32).toInt = 76 := by decide
  have L_77 : (77 : Int32).toInt = 77 := by decide
  have L_78 : (78 : Int32).toInt = 78 := by decide
  have L_80 : (80 : Int32).toInt = 80 := by decide
  have L_83 : (83 : Int32).toInt = 83 := by decide
  have L_88 : (88 : Int32).toInt = 88 := by decide
  have L_190 : (190 : Int32).toInt = 190 := by decide
  have L_239 : (239 : Int32).toInt = 239 := by decide
  have L_4096 : (4096 : Int32).toInt = 4096 := by decide
  have L_16384 : (16384 : Int32).toInt = 16384 := by decide
  have L_32768 : (32768 : Int32).toInt = 32768 := by decide
  have L_40960 : (40960 : Int32).toInt = 40960 := by decide
  refine lv_aload_n hx hb d_DiscMakerModel_lay_0 rfl (lv_at hl 0 rfl) ?_
  refine lv_iload_n hx hb d_DiscMakerModel_lay_1 rfl (lv_at hl 1 rfl) ?_
  refine lv_iload_n hx hb d_DiscMakerModel_lay_2 rfl (lv_at hl 2 rfl) ?_
  refine lv_iload_n hx hb d_DiscMakerModel_lay_3 rfl (lv_at hl 3 rfl) ?_
  have hPc := hP.sub (ws' := [(h0, .inr (11, MO ma sv_thrown sv_length sv_nodes sv_many sv_directories sv_runsFrom sv_runs sv_read sv_wrong sv_isNamed sv_goes sv_goesSize sv_goesAt sv_targetParts sv_isRoot)), ((ma 16), .inl (cJ, 46080, .inr (.inl F))), ((ma 1), .inl (cI, 40, .inl fK)), ((ma 9), .inl (cI, 40, .inl fNS)), ((ma 10), .inl (cB, 8000, .inl fT)), ((ma 11), .inl (cI, 40, .inl fTS))]) [0, 1, 2, 8, 9, 10] rfl
  have hDc := hD.sub (ws' := [(h0, .inr (11, MO ma sv_thrown sv_length sv_nodes sv_many sv_directories sv_runsFrom sv_runs sv_read sv_wrong sv_isNamed sv_goes sv_goesSize sv_goesAt sv_targetParts sv_isRoot)), ((ma 16), .inl (cJ, 46080, .inr (.inl F))), ((ma 1), .inl (cI, 40, .inl fK)), ((ma 9), .inl (cI, 40, .inl fNS)), ((ma 10), .inl (cB, 8000, .inl fT)), ((ma 11), .inl (cI, 40, .inl fTS))]) [0, 1, 2, 8, 9, 10] (by decide +kernel) rfl
  have hFc := va_free (wc := [(h0, .inr (11, MO ma sv_thrown sv_length sv_nodes sv_many sv_directories sv_runsFrom sv_runs sv_read sv_wrong sv_isNamed sv_goes sv_goesSize sv_goesAt sv_targetParts sv_isRoot)), ((ma 16), .inl (cJ, 46080, .inr (.inl F))), ((ma 1), .inl (cI, 40, .inl fK)), ((ma 9), .inl (cI, 40, .inl fNS)), ((ma 10), .inl (cB, 8000, .inl fT)), ((ma 11), .inl (cI, 40, .inl fTS))]) hD hS hA [0, 1, 2, 8, 9, 10] rfl
  have hkc : 0 ≤ 0 := by decide
  have hks : 0 ≤ 0 := by decide
  refine va_calli (va_runV (C := "DiscMakerModel") (As := [.int x, .int y, .int z]) (rest := []) ⟨hx, hb, hml, hown, hts⟩ (m_partSize l D cB cI cJ cZ cN cF s.heap.size h0 ma sv_thrown sv_length sv_nodes sv_many sv_directories sv_runsFrom sv_runs sv_read sv_wrong sv_isNamed sv_goes sv_goesSize sv_goesAt sv_targetParts sv_isRoot F fK fNS fT fTS x y z (by (try dsimp only); first | assumption | omega | trivial) (by (try dsimp only); first | assumption | omega | trivial) (by (try dsimp only); first | assumption | omega | trivial) (by (try dsimp only); first | assumption | omega | trivial) (by (try dsimp only); first | assumption | omega | trivial)) (cwV 3 hts (lg_goodV k1715 k1717 k76 k125 kc_DiscMakerModel_partSize) rfl rfl rfl (by decide +kernel) ⟨Nat.le_of_ble_eq_true rfl, Nat.le_of_ble_eq_true rfl⟩) ⟨fun a U g mk q => by obtain ⟨q0, q1, qP, qK, qN, qD⟩ := q; exact ⟨q0, q1, qP, va_K.moved (u := U) (U := U.calling g mk a) (Vm.Alike.refl U.vm) qK, qN.calling, qD⟩, va_recv hK hP (ci := 11) (q0 := 0) rfl rfl, fun U hU hW => ⟨rfl, by rw [hU], by rw [hU]; exact hPc, va_K.moved hW.alike hK, NN.warm hW hN, hDc.weaken (fun _ _ _ _ => trivial)⟩⟩ rfl rfl hl.1 rfl (lv_room (Nat.le_of_ble_eq_true rfl)) d_DiscMakerModel_lay_4 ⟨hkc, hks⟩) hS (fun q _ h => hFc q h) hFc (fun r1 u t H1 locs ht hvm hp_r1 hB hz1 hk1 hS => ?_)
  obtain ⟨G_2, rfl⟩ : ∃ z, z = u := ⟨_, rfl⟩
  obtain ⟨hP1, hD1⟩ := hB
  rw [ht] at hP1
  obtain ⟨hP, hD⟩ := va_join (wr := [((ma 2), .inl (cI, 40, .inl fP)), ((ma 3), .inl (cI, 40, .inl fM)), ((ma 4), .inl (cI, 40, .inl fO)), ((ma 5), .inl (cI, 40, .inl fG)), ((ma 8), .inl (cB, 1200, .inl fN))]) (w1 := [(h0, .inr (11, MO ma sv_thrown sv_length sv_nodes sv_many sv_directories sv_runsFrom sv_runs sv_read sv_wrong sv_isNamed sv_goes sv_goesSize sv_goesAt sv_targetParts sv_isRoot)), ((ma 16), .inl (cJ, 46080, .inr (.inl G_2))), ((ma 1), .inl (cI, 40, .inl fK)), ((ma 9), .inl (cI, 40, .inl fNS)), ((ma 10), .inl (cB, 8000, .inl fT)), ((ma 11), .inl (cI, 40, .inl fTS))]) hP hD [0, 1, 2, 8, 9, 10] [3, 4, 5, 6, 7] rfl rfl (by decide +kernel) (by decide +kernel) hk1 hFc hP1 hD1
  clear hPc hDc hFc hP1 hD1 hk1 hz1 hkc hks
  generalize H1 = H at hP hS ⊢
  have hP : va_P D CL [((ma 2), .inl (cI, 40, .inl fP)), ((ma 3), .inl (cI, 40, .inl fM)), ((ma 4), .inl (cI, 40, .inl fO)), ((ma 5), .inl (cI, 40, .inl fG)), ((ma 8), .inl (cB, 1200, .inl fN)), (h0, .inr (11, MO ma sv_thrown sv_length sv_nodes sv_many sv_directories sv_runsFrom sv_runs sv_read sv_wrong sv_isNamed sv_goes sv_goesSize sv_goesAt sv_targetParts sv_isRoot)), ((ma 16), .inl (cJ, 46080, .inr (.inl G_2))), ((ma 1), .inl (cI, 40, .inl fK)), ((ma 9), .inl (cI, 40, .inl fNS)), ((ma 10), .inl (cB, 8000, .inl fT)), ((ma 11), .inl (cI, 40, .inl fTS))] H := hP
  have hD : va_D A [((ma 2), .inl (cI, 40, .inl fP)), ((ma 3), .inl (cI, 40, .inl fM)), ((ma 4), .inl (cI, 40, .inl fO)), ((ma 5), .inl (cI, 40, .inl fG)), ((ma 8), .inl (cB, 1200, .inl fN)), (h0, .inr (11, MO ma sv_thrown sv_length sv_nodes sv_many sv_directories sv_runsFrom sv_runs sv_read sv_wrong sv_isNamed sv_goes sv_goesSize sv_goesAt sv_targetParts sv_isRoot)), ((ma 16), .inl (cJ, 46080, .inr (.inl G_2))), ((ma 1), .inl (cI, 40, .inl fK)), ((ma 9), .inl (cI, 40, .inl fNS)), ((ma 10), .inl (cB, 8000, .inl fT)), ((ma 11), .inl (cI, 40, .inl fTS))] := hD
  try dsimp only at hp_r1
  obtain ⟨hv_3, hr_4⟩ := hp_r1
  refine lv_istore hx hb d_DiscMakerModel_lay_7 hl (by decide) rfl (fun ls hl => ?_)
  have hl : lv_has ls 7 [(5, .int r1), (0, .ref h0), (1, .int x), (2, .int y), (3, .int z), (4, .int w)] := hl
  refine lv_iload hx hb d_DiscMakerModel_lay_9 (lv_at hl 0 rfl) ?_
  refine lv_if_ne (tgt := 16) hx hb d_DiscMakerModel_lay_11 (by decide) (fun h_9 => ?_) (fun h_9 => ?_)
  · skip
    have g11_8 : ¬ r1.toInt = 0 := fun h8 => h_9 ((i_eq rfl (by decide)).mpr h8)
    refine lv_iload_n hx hb d_DiscMakerModel_lay_16 rfl (lv_at hl 2 rfl) ?_
    refine lv_if_ne (tgt := 57) hx hb d_DiscMakerModel_lay_17 (by decide) (fun h_9 => ?_) (fun h_9 => ?_)
    · skip
      have g17_10 : ¬ x.toInt = 0 := fun h8 => h_9 ((i_eq rfl (by decide)).mpr h8)
      refine lv_iload_n hx hb d_DiscMakerModel_lay_57 rfl (lv_at hl 2 rfl) ?_
      refine lv_iconst (v := 1) hx hb d_DiscMakerModel_lay_58 (by decide) ?_
      refine lv_icmp_ne (tgt := 178) hx hb d_DiscMakerModel_lay_59 (by decide) (fun h_9 => ?_) (fun h_9 => ?_)
      · skip
        have g59_13 : ¬ x.toInt = 1 := fun h8 => h_9 ((i_eq rfl (by decide)).mpr h8)
        refine lv_iload_n hx hb d_DiscMakerModel_lay_178 rfl (lv_at hl 2 rfl) ?_
        refine lv_iconst (v := 2) hx hb d_DiscMakerModel_lay_179 (by decide) ?_
        refine lv_icmp_ne (tgt := 236) hx hb d_DiscMakerModel_lay_180 (by decide) (fun h_9 => ?_) (fun h_9 => ?_)
        · skip
          have g180_16 : ¬ x.toInt = 2 := fun h8 => h_9 ((i_eq rfl (by decide)).mpr h8)
          refine lv_aload_n hx hb d_DiscMakerModel_lay_236 rfl (lv_at hl 1 rfl) ?_
          refine lv_iload hx hb d_DiscMakerModel_lay_237 (lv_at hl 5 rfl) ?_
          refine lv_bipush (v := 83) hx hb d_DiscMakerModel_lay_239 (by decide) ?_
          refine lv_bipush (v := 76) hx hb d_DiscMakerModel_lay_241 (by decide) ?_
          refine lv_iload hx hb d_DiscMakerModel_lay_243 (lv_at hl 0 rfl) ?_
          have hPc := hP.sub (ws' := [(h0, .inr (11, MO ma sv_thrown sv_length sv_nodes sv_many sv_directories sv_runsFrom sv_runs sv_read sv_wrong sv_isNamed sv_goes sv_goesSize sv_goesAt sv_targetParts sv_isRoot)), ((ma 16), .inl (cJ, 46080, .inr (.inl G_2)))]) [5, 6] rfl
          have hDc := hD.sub (ws' := [(h0, .inr (11, MO ma sv_thrown sv_length sv_nodes sv_many sv_directories sv_runsFrom sv_runs sv_read sv_wrong sv_isNamed sv_goes sv_goesSize sv_goesAt sv_targetParts sv_isRoot)), ((ma 16), .inl (cJ, 46080, .inr (.inl G_2)))]) [5, 6] (by decide +kernel) rfl
          have hFc := va_free (wc := [(h0, .inr (11, MO ma sv_thrown sv_length sv_nodes sv_many sv_directories sv_runsFrom sv_runs sv_read sv_wrong sv_isNamed sv_goes sv_goesSize sv_goesAt sv_targetParts sv_isRoot)), ((ma 16), .inl (cJ, 46080, .inr (.inl G_2)))]) hD hS hA [5, 6] rfl
          have hkc : 0 ≤ 0 := by decide
          have hks : 0 ≤ 0 := by decide
          refine va_callv (va_runV (C := "DiscMakerModel") (As := [.int w, .int 83, .int 76, .int r1]) (rest := []) ⟨hx, hb, hml, hown, hts⟩ (m_letters l D cB cI cJ cZ cN cF H.size h0 ma sv_thrown sv_length sv_nodes sv_many sv_directories sv_runsFrom sv_runs sv_read sv_wrong sv_isNamed sv_goes sv_goesSize sv_goesAt sv_targetParts sv_isRoot G_2 w 83 76 r1 (by (try dsimp only); first | assumption | omega | trivial) (by (try dsimp only); first | assumption | omega | trivial)) (cwV 4 hts (lg_goodV k1764 k1766 k87 k125 kc_DiscMakerModel_letters) rfl rfl rfl (by decide +kernel) ⟨Nat.le_of_ble_eq_true rfl, Nat.le_of_ble_eq_true rfl⟩) ⟨fun a U g mk q => by obtain ⟨q0, q1, qP, qK, qN, qD⟩ := q; exact ⟨q0, q1, qP, va_K.moved (u := U) (U := U.calling g mk a) (Vm.Alike.refl U.vm) qK, qN.calling, qD⟩, va_recv hK hP (ci := 11) (q0 := 5) rfl rfl, fun U hU hW => ⟨rfl, by rw [hU], by rw [hU]; exact hPc, va_K.moved hW.alike hK, NN.warm hW hN, hDc.weaken (fun _ _ _ _ => trivial)⟩⟩ rfl rfl hl.1 rfl (lv_room (Nat.le_of_ble_eq_true rfl)) d_DiscMakerModel_lay_245 ⟨hkc, hks⟩) hS (fun q _ h => hFc q h) hFc (fun u t H1 locs ht hvm hp_r5 hB hz1 hk1 hS => ?_)
          obtain ⟨G_6, rfl⟩ : ∃ z, z = u := ⟨_, rfl⟩
          obtain ⟨hP1, hD1⟩ := hB
          rw [ht] at hP1
          obtain ⟨hP, hD⟩ := va_join (wr := [((ma 2), .inl (cI, 40, .inl fP)), ((ma 3), .inl (cI, 40, .inl fM)), ((ma 4), .inl (cI, 40, .inl fO)), ((ma 5), .inl (cI, 40, .inl fG)), ((ma 8), .inl (cB, 1200, .inl fN)), ((ma 1), .inl (cI, 40, .inl fK)), ((ma 9), .inl (cI, 40, .inl fNS)), ((ma 10), .inl (cB, 8000, .inl fT)), ((ma 11), .inl (cI, 40, .inl fTS))]) (w1 := [(h0, .inr (11, MO ma sv_thrown sv_length sv_nodes sv_many sv_directories sv_runsFrom sv_runs sv_read sv_wrong sv_isNamed sv_goes sv_goesSize sv_goesAt sv_targetParts sv_isRoot)), ((ma 16), .inl (cJ, 46080, .inr (.inl G_6)))]) hP hD [5, 6] [0, 1, 2, 3, 4, 7, 8, 9, 10] rfl rfl (by decide +kernel) (by decide +kernel) hk1 hFc hP1 hD1
          clear hPc hDc hFc hP1 hD1 hk1 hz1 hkc hks
          generalize H1 = H at hP hS ⊢
          have hP : va_P D CL [((ma 2), .inl (cI, 40, .inl fP)), ((ma 3), .inl (cI, 40, .inl fM)), ((ma 4), .inl (cI, 40, .inl fO)), ((ma 5), .inl (cI, 40, .inl fG)), ((ma 8), .inl (cB, 1200, .inl fN)), ((ma 1), .inl (cI, 40, .inl fK)), ((ma 9), .inl (cI, 40, .inl fNS)), ((ma 10), .inl (cB, 8000, .inl fT)), ((ma 11), .inl (cI, 40, .inl fTS)), (h0, .inr (11, MO ma sv_thrown sv_length sv_nodes sv_many sv_directories sv_runsFrom sv_runs sv_read sv_wrong sv_isNamed sv_goes sv_goesSize sv_goesAt sv_targetParts sv_isRoot)), ((ma 16), .inl (cJ, 46080, .inr (.inl G_6)))] H := hP
          have hD : va_D A [((ma 2), .inl (cI, 40, .inl fP)), ((ma 3), .inl (cI, 40, .inl fM)), ((ma 4), .inl (cI, 40, .inl fO)), ((ma 5), .inl (cI, 40, .inl fG)), ((ma 8), .inl (cB, 1200, .inl fN)), ((ma 1), .inl (cI, 40, .inl fK)), ((ma 9), .inl (cI, 40, .inl fNS)), ((ma 10), .inl (cB, 8000, .inl fT)), ((ma 11), .inl (cI, 40, .inl fTS)), (h0, .inr (11, MO ma sv_thrown sv_length sv_nodes sv_many sv_directories sv_runsFrom sv_runs sv_read sv_wrong sv_isNamed sv_goes sv_goesSize sv_goesAt sv_targetParts sv_isRoot)), ((ma 16), .inl (cJ, 46080, .inr (.inl G_6)))] := hD
          refine lv_aload_n hx hb d_DiscMakerModel_lay_248 rfl (lv_at hl 1 rfl) ?_
          refine lv_iload_n hx hb d_DiscMakerModel_lay_249 rfl (lv_at hl 4 rfl) ?_
          refine lv_iload hx hb d_DiscMakerModel_lay_250 (lv_at hl 5 rfl) ?_
          refine lv_iconst (v := 5) hx hb d_DiscMakerModel_lay_252 (by decide) ?_
          refine lv_iadd hx hb d_DiscMakerModel_lay_253 ?_
          refine lv_topi (fun v7 e_v7 => ?_)
          have t_v7 : v7.toInt = w.toInt + 5 := by rw [e_v7]; exact i_add rfl (by decide) (by omega) (by omega)
          have hPc := hP.sub (ws' := [(h0, .inr (11, MO ma sv_thrown sv_length sv_nodes sv_many sv_directories sv_runsFrom sv_runs sv_read sv_wrong sv_isNamed sv_goes sv_goesSize sv_goesAt sv_targetParts sv_isRoot)), ((ma 16), .inl (cJ, 46080, .inr (.inl G_6))), ((ma 10), .inl (cB, 8000, .inl fT)), ((ma 11), .inl (cI, 40, .inl fTS))]) [9, 10, 7, 8] rfl
          have hDc := hD.sub (ws' := [(h0, .inr (11, MO ma sv_thrown sv_length sv_nodes sv_many sv_directories sv_runsFrom sv_runs sv_read sv_wrong sv_isNamed sv_goes sv_goesSize sv_goesAt sv_targetParts sv_isRoot)), ((ma 16), .inl (cJ, 46080, .inr (.inl G_6))), ((ma 10), .inl (cB, 8000, .inl fT)), ((ma 11), .inl (cI, 40, .inl fTS))]) [9, 10, 7, 8] (by decide +kernel) rfl
          have hFc := va_free (wc := [(h0, .inr (11, MO ma sv_thrown sv_length sv_nodes sv_many sv_directories sv_runsFrom sv_runs sv_read sv_wrong sv_isNamed sv_goes sv_goesSize sv_goesAt sv_targetParts sv_isRoot)), ((ma 16), .inl (cJ, 46080, .inr (.inl G_6))), ((ma 10), .inl (cB, 8000, .inl fT)), ((ma 11), .inl (cI, 40, .inl fTS))]) hD hS hA [9, 10, 7, 8] rfl
          have hkc : 0 ≤ 0 := by decide
          have hks : 0 ≤ 0 := by decide
          refine va_calli (va_runV (C := "DiscMakerModel") (As := [.int z, .int v7]) (rest := []) ⟨hx, hb, hml, hown, hts⟩ (m_components l D cB cI cJ cZ cN cF H.size h0 ma sv_thrown sv_length sv_nodes sv_many sv_directories sv_runsFrom sv_runs sv_read sv_wrong sv_isNamed sv_goes sv_goesSize sv_goesAt sv_targetParts sv_isRoot G_6 fT fTS z v7 (by (try dsimp only); first | assumption | omega | trivial) (by (try dsimp only); first | assumption | omega | trivial) (by (try dsimp only); first | assumption | omega | trivial)) (cwV 2 hts (lg_goodV k1719 k1721 k77 k125 kc_DiscMakerModel_components) rfl rfl rfl (by decide +kernel) ⟨Nat.le_of_ble_eq_true rfl, Nat.le_of_ble_eq_true rfl⟩) ⟨fun a U g mk q => by obtain ⟨q0, q1, qP, qK, qN, qD⟩ := q; exact ⟨q0, q1, qP, va_K.moved (u := U) (U := U.calling g mk a) (Vm.Alike.refl U.vm) qK, qN.calling, qD⟩, va_recv hK hP (ci := 11) (q0 := 9) rfl rfl, fun U hU hW => ⟨rfl, by rw [hU], by rw [hU]; exact hPc, va_K.moved hW.alike hK, NN.warm hW hN, hDc.weaken (fun _ _ _ _ => trivial)⟩⟩ rfl rfl hl.1 rfl (lv_room (Nat.le_of_ble_eq_true rfl)) d_DiscMakerModel_lay_254 ⟨hkc, hks⟩) hS (fun q _ h => hFc q h) hFc (fun r8 u t H1 locs ht hvm hp_r8 hB hz1 hk1 hS => ?_)
          obtain ⟨G_9, rfl⟩ : ∃ z, z = u := ⟨_, rfl⟩
          obtain ⟨hP1, hD1⟩ := hB
          rw [ht] at hP1
          obtain ⟨hP, hD⟩ := va_join (wr := [((ma 2), .inl (cI, 40, .inl fP)), ((ma 3), .inl (cI, 40, .inl fM)), ((ma 4), .inl (cI, 40, .inl fO)), ((ma 5), .inl (cI, 40, .inl fG)), ((ma 8), .inl (cB, 1200, .inl fN)), ((ma 1), .inl (cI, 40, .inl fK)), ((ma 9), .inl (cI, 40, .inl fNS))]) (w1 := [(h0, .inr (11, MO ma sv_thrown sv_length sv_nodes sv_many sv_directories sv_runsFrom sv_runs sv_read sv_wrong sv_isNamed sv_goes sv_goesSize sv_goesAt sv_targetParts sv_isRoot)), ((ma 16), .inl (cJ, 46080, .inr (.inl G_9))), ((ma 10), .inl (cB, 8000, .inl fT)), ((ma 11), .inl (cI, 40, .inl fTS))]) hP hD [9, 10, 7, 8] [0, 1, 2, 3, 4, 5, 6] rfl rfl (by decide +kernel) (by decide +kernel) hk1 hFc hP1 hD1
          clear hPc hDc hFc hP1 hD1 hk1 hz1 hkc hks
          generalize H1 = H at hP hS ⊢
          have hP : va_P D CL [((ma 2), .inl (cI, 40, .inl fP)), ((ma 3), .inl (cI, 40, .inl fM)), ((ma 4), .inl (cI, 40, .inl fO)), ((ma 5), .inl (cI, 40, .inl fG)), ((ma 8), .inl (cB, 1200, .inl fN)), ((ma 1), .inl (cI, 40, .inl fK)), ((ma 9), .inl (cI, 40, .inl fNS)), (h0, .inr (11, MO ma sv_thrown sv_length sv_nodes sv_many sv_directories sv_runsFrom sv_runs sv_read sv_wrong sv_isNamed sv_goes sv_goesSize sv_goesAt sv_targetParts sv_isRoot)), ((ma 16), .inl (cJ, 46080, .inr (.inl G_9))), ((ma 10), .inl (cB, 8000, .inl fT)), ((ma 11), .inl (cI, 40, .inl fTS))] H := hP
          have hD : va_D A [((ma 2), .inl (cI, 40, .inl fP)), ((ma 3), .inl (cI, 40, .inl fM)), ((ma 4), .inl (cI, 40, .inl fO)), ((ma 5), .inl (cI, 40, .inl fG)), ((ma 8), .inl (cB, 1200, .inl fN)), ((ma 1), .inl (cI, 40, .inl fK)), ((ma 9), .inl (cI, 40, .inl fNS)), (h0, .inr (11, MO ma sv_thrown sv_length sv_nodes sv_many sv_directories sv_runsFrom sv_runs sv_read sv_wrong sv_isNamed sv_goes sv_goesSize sv_goesAt sv_targetParts sv_isRoot)), ((ma 16), .inl (cJ, 46080, .inr (.inl G_9))), ((ma 10), .inl (cB, 8000, .inl fT)), ((ma 11), .inl (cI, 40, .inl fTS))] := hD
          try dsimp only at hp_r8
          obtain ⟨hv_10, hr_11⟩ := hp_r8
          refine lv_pop hx hb d_DiscMakerModel_lay_257 rfl ?_
          refine lv_iload hx hb d_DiscMakerModel_lay_258 (lv_at hl 0 rfl) ?_
          have hP9 := hP.sub (ws' := [(h0, .inr (11, MO ma sv_thrown sv_length sv_nodes sv_many sv_directories sv_runsFrom sv_runs sv_read sv_wrong sv_isNamed sv_goes sv_goesSize sv_goesAt sv_targetParts sv_isRoot)), ((ma 16), .inl (cJ, 46080, .inr (.inl G_9))), ((ma 1), .inl (cI, 40, .inl fK)), ((ma 2), .inl (cI, 40, .inl fP)), ((ma 3), .inl (cI, 40, .inl fM)), ((ma 4), .inl (cI, 40, .inl fO)), ((ma 5), .inl (cI, 40, .inl fG)), ((ma 8), .inl (cB, 1200, .inl fN)), ((ma 9), .inl (cI, 40, .inl fNS)), ((ma 10), .inl (cB, 8000, .inl fT)), ((ma 11), .inl (cI, 40, .inl fTS))]) [7, 8, 5, 0, 1, 2, 3, 4, 6, 9, 10] rfl
          have hD9 := hD.sub (ws' := [(h0, .inr (11, MO ma sv_thrown sv_length sv_nodes sv_many sv_directories sv_runsFrom sv_runs sv_read sv_wrong sv_isNamed sv_goes sv_goesSize sv_goesAt sv_targetParts sv_isRoot)), ((ma 16), .inl (cJ, 46080, .inr (.inl G_9))), ((ma 1), .inl (cI, 40, .inl fK)), ((ma 2), .inl (cI, 40, .inl fP)), ((ma 3), .inl (cI, 40, .inl fM)), ((ma 4), .inl (cI, 40, .inl fO)), ((ma 5), .inl (cI, 40, .inl fG)), ((ma 8), .inl (cB, 1200, .inl fN)), ((ma 9), .inl (cI, 40, .inl fNS)), ((ma 10), .inl (cB, 8000, .inl fT)), ((ma 11), .inl (cI, 40, .inl fTS))]) [7, 8, 5, 0, 1, 2, 3, 4, 6, 9, 10] (by decide +kernel) rfl
          exact W.iret (v := r1) hx hb hr (fun t ht hW => ⟨⟨r1, G_9, rfl, (by (try dsimp only); first | assumption | omega | trivial), by rw [ht]; exact hP9, hD9⟩, hS.F ht⟩) hS.2.2 d_DiscMakerModel_lay_260
        · skip
          have g180_16 : x.toInt = 2 := (i_eq rfl (by decide)).mp h_9
          refine lv_aload_n hx hb d_DiscMakerModel_lay_183 rfl (lv_at hl 1 rfl) ?_
          refine lv_iload hx hb d_DiscMakerModel_lay_184 (lv_at hl 5 rfl) ?_
          refine lv_bipush (v := 78) hx hb d_DiscMakerModel_lay_186 (by decide) ?_
          refine lv_bipush (v := 77) hx hb d_DiscMakerModel_lay_188 (by decide) ?_
          refine lv_iload hx hb d_DiscMakerModel_lay_190 (lv_at hl 0 rfl) ?_
          have hPc := hP.sub (ws' := [(h0, .inr (11, MO ma sv_thrown sv_length sv_nodes sv_many sv_directories sv_runsFrom sv_runs sv_read sv_wrong sv_isNamed sv_goes sv_goesSize sv_goesAt sv_targetParts sv_isRoot)), ((ma 16), .inl (cJ, 46080, .inr (.inl G_2)))]) [5, 6] rfl
          have hDc := hD.sub (ws' := [(h0, .inr (11, MO ma sv_thrown sv_length sv_nodes sv_many sv_directories sv_runsFrom sv_runs sv_read sv_wrong sv_isNamed sv_goes sv_goesSize sv_goesAt sv_targetParts sv_isRoot)), ((ma 16), .inl (cJ, 46080, .inr (.inl G_2)))]) [5, 6] (by decide +kernel) rfl
          have hFc := va_free (wc := [(h0, .inr (11, MO ma sv_thrown sv_length sv_nodes sv_many sv_directories sv_runsFrom sv_runs sv_read sv_wrong sv_isNamed sv_goes sv_goesSize sv_goesAt sv_targetParts sv_isRoot)), ((ma 16), .inl (cJ, 46080, .inr (.inl G_2)))]) hD hS hA [5, 6] rfl
          have hkc : 0 ≤ 0 := by decide
          have hks : 0 ≤ 0 := by decide
          refine va_callv (va_runV (C := "DiscMakerModel") (As := [.int w, .int 78, .int 77, .int r1]) (rest := []) ⟨hx, hb, hml, hown, hts⟩ (m_letters l D cB cI cJ cZ cN cF H.size h0 ma sv_thrown sv_length sv_nodes sv_many sv_directories sv_runsFrom sv_runs sv_read sv_wrong sv_isNamed sv_goes sv_goesSize sv_goesAt sv_targetParts sv_isRoot G_2 w 78 77 r1 (by (try dsimp only); first | assumption | omega | trivial) (by (try dsimp only); first | assumption | omega | trivial)) (cwV 4 hts (lg_goodV k1764 k1766 k87 k125 kc_DiscMakerModel_letters) rfl rfl rfl (by decide +kernel) ⟨Nat.le_of_ble_eq_true rfl, Nat.le_of_ble_eq_true rfl⟩) ⟨fun a U g mk q => by obtain ⟨q0, q1, qP, qK, qN, qD⟩ := q; exact ⟨q0, q1, qP, va_K.moved (u := U) (U := U.calling g mk a) (Vm.Alike.refl U.vm) qK, qN.calling, qD⟩, va_recv hK hP (ci := 11) (q0 := 5) rfl rfl, fun U hU hW => ⟨rfl, by rw [hU], by rw [hU]; exact hPc, va_K.moved hW.alike hK, NN.warm hW hN, hDc.weaken (fun _ _ _ _ => trivial)⟩⟩ rfl rfl hl.1 rfl (lv_room (Nat.le_of_ble_eq_true rfl)) d_DiscMakerModel_lay_192 ⟨hkc, hks⟩) hS (fun q _ h => hFc q h) hFc (fun u t H1 locs ht hvm hp_r12 hB hz1 hk1 hS => ?_)
          obtain ⟨G_13, rfl⟩ : ∃ z, z = u := ⟨_, rfl⟩
          obtain ⟨hP1, hD1⟩ := hB
          rw [ht] at hP1
          obtain ⟨hP, hD⟩ := va_join (wr := [((ma 2), .inl (cI, 40, .inl fP)), ((ma 3), .inl (cI, 40, .inl fM)), ((ma 4), .inl (cI, 40, .inl fO)), ((ma 5), .inl (cI, 40, .inl fG)), ((ma 8), .inl (cB, 1200, .inl fN)), ((ma 1), .inl (cI, 40, .inl fK)), ((ma 9), .inl (cI, 40, .inl fNS)), ((ma 10), .inl (cB, 8000, .inl fT)), ((ma 11), .inl (cI, 40, .inl fTS))]) (w1 := [(h0, .inr (11, MO ma sv_thrown sv_length sv_nodes sv_many sv_directories sv_runsFrom sv_runs sv_read sv_wrong sv_isNamed sv_goes sv_goesSize sv_goesAt sv_targetParts sv_isRoot)), ((ma 16), .inl (cJ, 46080, .inr (.inl G_13)))]) hP hD [5, 6] [0, 1, 2, 3, 4, 7, 8, 9, 10] rfl rfl (by decide +kernel) (by decide +kernel) hk1 hFc hP1 hD1
          clear hPc hDc hFc hP1 hD1 hk1 hz1 hkc hks
          generalize H1 = H at hP hS ⊢
          have hP : va_P D CL [((ma 2), .inl (cI, 40, .inl fP)), ((ma 3), .inl (cI, 40, .inl fM)), ((ma 4), .inl (cI, 40, .inl fO)), ((ma 5), .inl (cI, 40, .inl fG)), ((ma 8), .inl (cB, 1200, .inl fN)), ((ma 1), .inl (cI, 40, .inl fK)), ((ma 9), .inl (cI, 40, .inl fNS)), ((ma 10), .inl (cB, 8000, .inl fT)), ((ma 11), .inl (cI, 40, .inl fTS)), (h0, .inr (11, MO ma sv_thrown sv_length sv_nodes sv_many sv_directories sv_runsFrom sv_runs sv_read sv_wrong sv_isNamed sv_goes sv_goesSize sv_goesAt sv_targetParts sv_isRoot)), ((ma 16), .inl (cJ, 46080, .inr (.inl G_13)))] H := hP
          have hD : va_D A [((ma 2), .inl (cI, 40, .inl fP)), ((ma 3), .inl (cI, 40, .inl fM)), ((ma 4), .inl (cI, 40, .inl fO)), ((ma 5), .inl (cI, 40, .inl fG)), ((ma 8), .inl (cB, 1200, .inl fN)), ((ma 1), .inl (cI, 40, .inl fK)), ((ma 9), .inl (cI, 40, .inl fNS)), ((ma 10), .inl (cB, 8000, .inl fT)), ((ma 11), .inl (cI, 40, .inl fTS)), (h0, .inr (11, MO ma sv_thrown sv_length sv_nodes sv_many sv_directories sv_runsFrom sv_runs sv_read sv_wrong sv_isNamed sv_goes sv_goesSize sv_goesAt sv_targetParts sv_isRoot)), ((ma 16), .inl (cJ, 46080, .inr (.inl G_13)))] := hD
          refine lv_iconst (v := 0) hx hb d_DiscMakerModel_lay_195 (by decide) ?_
          refine lv_istore hx hb d_DiscMakerModel_lay_196 hl (by decide) rfl (fun ls hl => ?_)
          have hl : lv_has ls 7 [(6, .int 0), (5, .int r1), (0, .ref h0), (1, .int x), (2, .int y), (3, .int z), (4, .int w)] := hl
          refine zz_labM (B := fun (lk : Nat) (K : Heap → List Loc → Array Slot → List Value → Prop) => ∀ (k6 : Int32) (lF : Nat → Int64) (H : Heap) (locs : List Loc) (ls : Array Slot), lk = (31 - k6.toInt).toNat → (0 ≤ k6.toInt ∧ k6.toInt ≤ 30) → va_P D CL [((ma 2), .inl (cI, 40, .inl fP)), ((ma 3), .inl (cI, 40, .inl fM)), ((ma 4), .inl (cI, 40, .inl fO)), ((ma 5), .inl (cI, 40, .inl fG)), ((ma 8), .inl (cB, 1200, .inl fN)), ((ma 1), .inl (cI, 40, .inl fK)), ((ma 9), .inl (cI, 40, .inl fNS)), ((ma 10), .inl (cB, 8000, .inl fT)), ((ma 11), .inl (cI, 40, .inl fTS)), (h0, .inr (11, MO ma sv_thrown sv_length sv_nodes sv_many sv_directories sv_runsFrom sv_runs sv_read sv_wrong sv_isNamed sv_goes sv_goesSize sv_goesAt sv_targetParts sv_isRoot)), ((ma 16), .inl (cJ, 46080, .inr (.inl lF)))] H → va_D A [((ma 2), .inl (cI, 40, .inl fP)), ((ma 3), .inl (cI, 40, .inl fM)), ((ma 4), .inl (cI, 40, .inl fO)), ((ma 5), .inl (cI, 40, .inl fG)), ((ma 8), .inl (cB, 1200, .inl fN)), ((ma 1), .inl (cI, 40, .inl fK)), ((ma 9), .inl (cI, 40, .inl fNS)), ((ma 10), .inl (cB, 8000, .inl fT)), ((ma 11), .inl (cI, 40, .inl fTS)), (h0, .inr (11, MO ma sv_thrown sv_length sv_nodes sv_many sv_directories sv_runsFrom sv_runs sv_read sv_wrong sv_isNamed sv_goes sv_goesSize sv_goesAt sv_targetParts sv_isRoot)), ((ma 16), .inl (cJ, 46080, .inr (.inl lF)))] → va_S A s.heap H locs → lv_has ls 7 [(0, .ref h0), (1, .int x), (2, .int y), (3, .int z), (4, .int w), (5, .int r1), (6, .int k6)] → K H locs ls []) 198 ?_ ?_
          · skip
            intro lk ih198 k6 lF H locs ls hm198 f1 hP hD hS hl
            refine lv_iload hx hb d_DiscMakerModel_lay_198 (lv_at hl 6 rfl) ?_
            refine lv_aload_n hx hb d_DiscMakerModel_lay_200 rfl (lv_at hl 0 rfl) ?_
            refine va_get (D := D) (ci := 11) (v := .ref (ma 9)) (C := "DiscMakerModel") (T := F_DiscMakerModel) (N := 48) hx hb ht9 in_DiscMakerModel hown hK hP 9 rfl rfl 12 (by decide) (ht9 _ k1443) (fun _ h9 => h9) rfl d_DiscMakerModel_lay_201 ?_
            refine lv_iload_n hx hb d_DiscMakerModel_lay_204 rfl (lv_at hl 3 rfl) ?_
            refine va_iald hx hb hK hP 6 1 rfl rfl (vp_in_iff.mpr ⟨by omega, by omega⟩) d_DiscMakerModel_lay_205 ?_
            refine lv_topi (fun v14 e_v14 => ?_)
            have t_v14 : 0 ≤ v14.toInt ∧ v14.toInt ≤ 30 := by
              rw [e_v14]; exact hNS _ (by have := i_cl (a := z) (by omega); omega)
            refine lv_icmp_ge (tgt := 233) hx hb d_DiscMakerModel_lay_206 (by decide) (fun h_9 => ?_) (fun h_9 => ?_)
            · skip
              have g206_45 : v14.toInt ≤ k6.toInt := (i_le rfl rfl).mp h_9
              refine lv_goto (tgt := 258) hx hb d_DiscMakerModel_lay_233 (by decide) ?_
              refine lv_iload hx hb d_DiscMakerModel_lay_258 (lv_at hl 5 rfl) ?_
              have hP9 := hP.sub (ws' := [(h0, .inr (11, MO ma sv_thrown sv_length sv_nodes sv_many sv_directories sv_runsFrom sv_runs sv_read sv_wrong sv_isNamed sv_goes sv_goesSize sv_goesAt sv_targetParts sv_isRoot)), ((ma 16), .inl (cJ, 46080, .inr (.inl lF))), ((ma 1), .inl (cI, 40, .inl fK)), ((ma 2), .inl (cI, 40, .inl fP)), ((ma 3), .inl (cI, 40, .inl fM)), ((ma 4), .inl (cI, 40, .inl fO)), ((ma 5), .inl (cI, 40, .inl fG)), ((ma 8), .inl (cB, 1200, .inl fN)), ((ma 9), .inl (cI, 40, .inl fNS)), ((ma 10), .inl (cB, 8000, .inl fT)), ((ma 11), .inl (cI, 40, .inl fTS))]) [9, 10, 5, 0, 1, 2, 3, 4, 6, 7, 8] rfl
              have hD9 := hD.sub (ws' := [(h0, .inr (11, MO ma sv_thrown sv_length sv_nodes sv_many sv_directories sv_runsFrom sv_runs sv_read sv_wrong sv_isNamed sv_goes sv_goesSize sv_goesAt sv_targetParts sv_isRoot)), ((ma 16), .inl (cJ, 46080, .inr (.inl lF))), ((ma 1), .inl (cI, 40, .inl fK)), ((ma 2), .inl (cI, 40, .inl fP)), ((ma 3), .inl (cI, 40, .inl fM)), ((ma 4), .inl (cI, 40, .inl fO)), ((ma 5), .inl (cI, 40, .inl fG)), ((ma 8), .inl (cB, 1200, .inl fN)), ((ma 9), .inl (cI, 40, .inl fNS)), ((ma 10), .inl (cB, 8000, .inl fT)), ((ma 11), .inl (cI, 40, .inl fTS))]) [9, 10, 5, 0, 1, 2, 3, 4, 6, 7, 8] (by decide +kernel) rfl
              exact W.iret (v := r1) hx hb hr (fun t ht hW => ⟨⟨r1, lF, rfl, (by (try dsimp only); first | assumption | omega | trivial), by rw [ht]; exact hP9, hD9⟩, hS.F ht⟩) hS.2.2 d_DiscMakerModel_lay_260
            · skip
              have g206_45 : ¬ v14.toInt ≤ k6.toInt := fun h8 => h_9 ((i_le rfl rfl).mpr h8)
              refine lv_aload_n hx hb d_DiscMakerModel_lay_209 rfl (lv_at hl 0 rfl) ?_
              refine lv_iload hx hb d_DiscMakerModel_lay_210 (lv_at hl 4 rfl) ?_
              refine lv_iconst (v := 5) hx hb d_DiscMakerModel_lay_212 (by decide) ?_
              refine lv_iadd hx hb d_DiscMakerModel_lay_213 ?_
              refine lv_topi (fun v15 e_v15 => ?_)
              have t_v15 : v15.toInt = w.toInt + 5 := by rw [e_v15]; exact i_add rfl (by decide) (by omega) (by omega)
              refine lv_iload hx hb d_DiscMakerModel_lay_214 (lv_at hl 6 rfl) ?_
              refine lv_iadd hx hb d_DiscMakerModel_lay_216 ?_
              refine lv_topi (fun v16 e_v16 => ?_)
              have t_v16 : v16.toInt = v15.toInt + k6.toInt := by rw [e_v16]; exact i_add rfl rfl (by omega) (by omega)
              refine lv_aload_n hx hb d_DiscMakerModel_lay_217 rfl (lv_at hl 0 rfl) ?_
              refine lv_iload_n hx hb d_DiscMakerModel_lay_218 rfl (lv_at hl 3 rfl) ?_
              refine lv_iload hx hb d_DiscMakerModel_lay_219 (lv_at hl 6 rfl) ?_
              have hPc := hP.sub (ws' := [(h0, .inr (11, MO ma sv_thrown sv_length sv_nodes sv_many sv_directories sv_runsFrom sv_runs sv_read sv_wrong sv_isNamed sv_goes sv_goesSize sv_goesAt sv_targetParts sv_isRoot)), ((ma 8), .inl (cB, 1200, .inl fN)), ((ma 9), .inl (cI, 40, .inl fNS))]) [9, 4, 6] rfl
              have hDc := hD.sub (ws' := [(h0, .inr (11, MO ma sv_thrown sv_length sv_nodes sv_many sv_directories sv_runsFrom sv_runs sv_read sv_wrong sv_isNamed sv_goes sv_goesSize sv_goesAt sv_targetParts sv_isRoot)), ((ma 8), .inl (cB, 1200, .inl fN)), ((ma 9), .inl (cI, 40, .inl fNS))]) [9, 4, 6] (by decide +kernel) rfl
              have hFc := va_free (wc := [(h0, .inr (11, MO ma sv_thrown sv_length sv_nodes sv_many sv_directories sv_runsFrom sv_runs sv_read sv_wrong sv_isNamed sv_goes sv_goesSize sv_goesAt sv_targetParts sv_isRoot)), ((ma 8), .inl (cB, 1200, .inl fN)), ((ma 9), .inl (cI, 40, .inl fNS))]) hD hS hA [9, 4, 6] rfl
              have hkc : 0 ≤ 0 := by decide
              have hks : 0 ≤ 0 := by decide
              refine va_calli (va_runV (C := "DiscMakerModel") (As := [.int z, .int k6]) (rest := [.int v16, .ref h0]) ⟨hx, hb, hml, hown, hts⟩ (m_nameOf l D cB cI cJ cZ cN cF H.size h0 ma sv_thrown sv_length sv_nodes sv_many sv_directories sv_runsFrom sv_runs sv_read sv_wrong sv_isNamed sv_goes sv_goesSize sv_goesAt sv_targetParts sv_isRoot fN fNS z k6 (by (try dsimp only); first | assumption | omega | trivial) (by (try dsimp only); first | assumption | omega | trivial) (by (try dsimp only); first | assumption | omega | trivial)) (cwV 2 hts (lg_goodV k1616 k1618 k56 k125 kc_DiscMakerModel_nameOf) rfl rfl rfl (by decide +kernel) ⟨Nat.le_of_ble_eq_true rfl, Nat.le_of_ble_eq_true rfl⟩) ⟨fun a U g mk q => by obtain ⟨q0, q1, qP, qK, qN, qD⟩ := q; exact ⟨q0, q1, qP, va_K.moved (u := U) (U := U.calling g mk a) (Vm.Alike.refl U.vm) qK, qN.calling, qD⟩, va_recv hK hP (ci := 11) (q0 := 9) rfl rfl, fun U hU hW => ⟨rfl, by rw [hU], by rw [hU]; exact hPc, va_K.moved hW.alike hK, NN.warm hW hN, hDc.weaken (fun _ _ _ _ => trivial)⟩⟩ rfl rfl hl.1 rfl (lv_room (Nat.le_of_ble_eq_true rfl)) d_DiscMakerModel_lay_221 ⟨hkc, hks⟩) hS (fun q _ h => hFc q h) hFc (fun r17 u t H1 locs ht hvm hp_r17 hB hz1 hk1 hS => ?_)
              obtain ⟨hP1, hD1⟩ := hB
              rw [ht] at hP1
              obtain ⟨hP, hD⟩ := va_join (wr := [((ma 2), .inl (cI, 40, .inl fP)), ((ma 3), .inl (cI, 40, .inl fM)), ((ma 4), .inl (cI, 40, .inl fO)), ((ma 5), .inl (cI, 40, .inl fG)), ((ma 1), .inl (cI, 40, .inl fK)), ((ma 10), .inl (cB, 8000, .inl fT)), ((ma 11), .inl (cI, 40, .inl fTS)), ((ma 16), .inl (cJ, 46080, .inr (.inl lF)))]) (w1 := [(h0, .inr (11, MO ma sv_thrown sv_length sv_nodes sv_many sv_directories sv_runsFrom sv_runs sv_read sv_wrong sv_isNamed sv_goes sv_goesSize sv_goesAt sv_targetParts sv_isRoot)), ((ma 8), .inl (cB, 1200, .inl fN)), ((ma 9), .inl (cI, 40, .inl fNS))]) hP hD [9, 4, 6] [0, 1, 2, 3, 5, 7, 8, 10] rfl rfl (by decide +kernel) (by decide +kernel) hk1 hFc hP1 hD1
              clear hPc hDc hFc hP1 hD1 hk1 hz1 hkc hks
              generalize H1 = H at hP hS ⊢
              have hP : va_P D CL [((ma 2), .inl (cI, 40, .inl fP)), ((ma 3), .inl (cI, 40, .inl fM)), ((ma 4), .inl (cI, 40, .inl fO)), ((ma 5), .inl (cI, 40, .inl fG)), ((ma 1), .inl (cI, 40, .inl fK)), ((ma 10), .inl (cB, 8000, .inl fT)), ((ma 11), .inl (cI, 40, .inl fTS)), ((ma 16), .inl (cJ, 46080, .inr (.inl lF))), (h0, .inr (11, MO ma sv_thrown sv_length sv_nodes sv_many sv_directories sv_runsFrom sv_runs sv_read sv_wrong sv_isNamed sv_goes sv_goesSize sv_goesAt sv_targetParts sv_isRoot)), ((ma 8), .inl (cB, 1200, .inl fN)), ((ma 9), .inl (cI, 40, .inl fNS))] H := hP
              have hD : va_D A [((ma 2), .inl (cI, 40, .inl fP)), ((ma 3), .inl (cI, 40, .inl fM)), ((ma 4), .inl (cI, 40, .inl fO)), ((ma 5), .inl (cI, 40, .inl fG)), ((ma 1), .inl (cI, 40, .inl fK)), ((ma 10), .inl (cB, 8000, .inl fT)), ((ma 11), .inl (cI, 40, .inl fTS)), ((ma 16), .inl (cJ, 46080, .inr (.inl lF))), (h0, .inr (11, MO ma sv_thrown sv_length sv_nodes sv_many sv_directories sv_runsFrom sv_runs sv_read sv_wrong sv_isNamed sv_goes sv_goesSize sv_goesAt sv_targetParts sv_isRoot)), ((ma 8), .inl (cB, 1200, .inl fN)), ((ma 9), .inl (cI, 40, .inl fNS))] := hD
              try dsimp only at hp_r17
              obtain ⟨hr_18, hv_19⟩ := hp_r17
              have hPc := hP.sub (ws' := [(h0, .inr (11, MO ma sv_thrown sv_length sv_nodes sv_many sv_directories sv_runsFrom sv_runs sv_read sv_wrong sv_isNamed sv_goes sv_goesSize sv_goesAt sv_targetParts sv_isRoot)), ((ma 16), .inl (cJ, 46080, .inr (.inl lF)))]) [8, 7] rfl
              have hDc := hD.sub (ws' := [(h0, .inr (11, MO ma sv_thrown sv_length sv_nodes sv_many sv_directories sv_runsFrom sv_runs sv_read sv_wrong sv_isNamed sv_goes sv_goesSize sv_goesAt sv_targetParts sv_isRoot)), ((ma 16), .inl (cJ, 46080, .inr (.inl lF)))]) [8, 7] (by decide +kernel) rfl
              have hFc := va_free (wc := [(h0, .inr (11, MO ma sv_thrown sv_length sv_nodes sv_many sv_directories sv_runsFrom sv_runs sv_read sv_wrong sv_isNamed sv_goes sv_goesSize sv_goesAt sv_targetParts sv_isRoot)), ((ma 16), .inl (cJ, 46080, .inr (.inl lF)))]) hD hS hA [8, 7] rfl
              have hkc : 0 ≤ 0 := by decide
              have hks : 0 ≤ 0 := by decide
              refine va_callv (va_runV (C := "DiscMakerModel") (As := [.int v16, .int r17]) (rest := []) ⟨hx, hb, hml, hown, hts⟩ (m_set l D cB cI cJ cZ cN cF H.size h0 ma sv_thrown sv_length sv_nodes sv_many sv_directories sv_runsFrom sv_runs sv_read sv_wrong sv_isNamed sv_goes sv_goesSize sv_goesAt sv_targetParts sv_isRoot lF v16 r17 (by (try dsimp only); first | assumption | omega | trivial) (by (try dsimp only); first | assumption | omega | trivial)) (cwV 2 hts (lg_goodV k1727 k1729 k79 k125 kc_DiscMakerModel_set) rfl rfl rfl (by decide +kernel) ⟨Nat.le_of_ble_eq_true rfl, Nat.le_of_ble_eq_true rfl⟩) ⟨fun a U g mk q => by obtain ⟨q0, q1, qP, qK, qN, qD⟩ := q; exact ⟨q0, q1, qP, va_K.moved (u := U) (U := U.calling g mk a) (Vm.Alike.refl U.vm) qK, qN.calling, qD⟩, va_recv hK hP (ci := 11) (q0 := 8) rfl rfl, fun U hU hW => ⟨rfl, by rw [hU], by rw [hU]; exact hPc, va_K.moved hW.alike hK, NN.warm hW hN, hDc.weaken (fun _ _ _ _ => trivial)⟩⟩ rfl rfl hl.1 rfl (lv_room (Nat.le_of_ble_eq_true rfl)) d_DiscMakerModel_lay_224 ⟨hkc, hks⟩) hS (fun q _ h => hFc q h) hFc (fun u t H1 locs ht hvm hp_r20 hB hz1 hk1 hS => ?_)
              obtain ⟨G_21, rfl⟩ : ∃ z, z = u := ⟨_, rfl⟩
              obtain ⟨hP1, hD1⟩ := hB
              rw [ht] at hP1
              obtain ⟨hP, hD⟩ := va_join (wr := [((ma 2), .inl (cI, 40, .inl fP)), ((ma 3), .inl (cI, 40, .inl fM)), ((ma 4), .inl (cI, 40, .inl fO)), ((ma 5), .inl (cI, 40, .inl fG)), ((ma 1), .inl (cI, 40, .inl fK)), ((ma 10), .inl (cB, 8000, .inl fT)), ((ma 11), .inl (cI, 40, .inl fTS)), ((ma 8), .inl (cB, 1200, .inl fN)), ((ma 9), .inl (cI, 40, .inl fNS))]) (w1 := [(h0, .inr (11, MO ma sv_thrown sv_length sv_nodes sv_many sv_directories sv_runsFrom sv_runs sv_read sv_wrong sv_isNamed sv_goes sv_goesSize sv_goesAt sv_targetParts sv_isRoot)), ((ma 16), .inl (cJ, 46080, .inr (.inl G_21)))]) hP hD [8, 7] [0, 1, 2, 3, 4, 5, 6, 9, 10] rfl rfl (by decide +kernel) (by decide +kernel) hk1 hFc hP1 hD1
              clear hPc hDc hFc hP1 hD1 hk1 hz1 hkc hks
              generalize H1 = H at hP hS ⊢
              have hP : va_P D CL [((ma 2), .inl (cI, 40, .inl fP)), ((ma 3), .inl (cI, 40, .inl fM)), ((ma 4), .inl (cI, 40, .inl fO)), ((ma 5), .inl (cI, 40, .inl fG)), ((ma 1), .inl (cI, 40, .inl fK)), ((ma 10), .inl (cB, 8000, .inl fT)), ((ma 11), .inl (cI, 40, .inl fTS)), ((ma 8), .inl (cB, 1200, .inl fN)), ((ma 9), .inl (cI, 40, .inl fNS)), (h0, .inr (11, MO ma sv_thrown sv_length sv_nodes sv_many sv_directories sv_runsFrom sv_runs sv_read sv_wrong sv_isNamed sv_goes sv_goesSize sv_goesAt sv_targetParts sv_isRoot)), ((ma 16), .inl (cJ, 46080, .inr (.inl G_21)))] H := hP
              have hD : va_D A [((ma 2), .inl (cI, 40, .inl fP)), ((ma 3), .inl (cI, 40, .inl fM)), ((ma 4), .inl (cI, 40, .inl fO)), ((ma 5), .inl (cI, 40, .inl fG)), ((ma 1), .inl (cI, 40, .inl fK)), ((ma 10), .inl (cB, 8000, .inl fT)), ((ma 11), .inl (cI, 40, .inl fTS)), ((ma 8), .inl (cB, 1200, .inl fN)), ((ma 9), .inl (cI, 40, .inl fNS)), (h0, .inr (11, MO ma sv_thrown sv_length sv_nodes sv_many sv_directories sv_runsFrom sv_runs sv_read sv_wrong sv_isNamed sv_goes sv_goesSize sv_goesAt sv_targetParts sv_isRoot)), ((ma 16), .inl (cJ, 46080, .inr (.inl G_21)))] := hD
              obtain ⟨v22, e_v22⟩ : ∃ z : Int32, z = k6 + 1 := ⟨_, rfl⟩
              refine lv_iinc (v := v22) hx hb d_DiscMakerModel_lay_227 hl (k := 6) rfl e_v22.symm (by decide +kernel) rfl (fun ls hl => ?_)
              have t_v22 : v22.toInt = k6.toInt + 1 := by rw [e_v22]; exact i_add rfl (by decide) (by omega) (by omega)
              have hl : lv_has ls 7 [(6, .int v22), (0, .ref h0), (1, .int x), (2, .int y), (3, .int z), (4, .int w), (5, .int r1)] := hl
              refine lv_goto (tgt := 198) hx hb d_DiscMakerModel_lay_230 (by decide) ?_
              have hP := hP.sub (ws' := [((ma 2), .inl (cI, 40, .inl fP)), ((ma 3), .inl (cI, 40, .inl fM)), ((ma 4), .inl (cI, 40, .inl fO)), ((ma 5), .inl (cI, 40, .inl fG)), ((ma 8), .inl (cB, 1200, .inl fN)), ((ma 1), .inl (cI, 40, .inl fK)), ((ma 9), .inl (cI, 40, .inl fNS)), ((ma 10), .inl (cB, 8000, .inl fT)), ((ma 11), .inl (cI, 40, .inl fTS)), (h0, .inr (11, MO ma sv_thrown sv_length sv_nodes sv_many sv_directories sv_runsFrom sv_runs sv_read sv_wrong sv_isNamed sv_goes sv_goesSize sv_goesAt sv_targetParts sv_isRoot)), ((ma 16), .inl (cJ, 46080, .inr (.inl G_21)))]) [0, 1, 2, 3, 7, 4, 8, 5, 6, 9, 10] rfl
              have hD := hD.sub (ws' := [((ma 2), .inl (cI, 40, .inl fP)), ((ma 3), .inl (cI, 40, .inl fM)), ((ma 4), .inl (cI, 40, .inl fO)), ((ma 5), .inl (cI, 40, .inl fG)), ((ma 8), .inl (cB, 1200, .inl fN)), ((ma 1), .inl (cI, 40, .inl fK)), ((ma 9), .inl (cI, 40, .inl fNS)), ((ma 10), .inl (cB, 8000, .inl fT)), ((ma 11), .inl (cI, 40, .inl fTS)), (h0, .inr (11, MO ma sv_thrown sv_length sv_nodes sv_many sv_directories sv_runsFrom sv_runs sv_read sv_wrong sv_isNamed sv_goes sv_goesSize sv_goesAt sv_targetParts sv_isRoot)), ((ma 16), .inl (cJ, 46080, .inr (.inl G_21)))]) [0, 1, 2, 3, 7, 4, 8, 5, 6, 9, 10] (by decide +kernel) rfl
              have hl := lv_sub hl [1, 2, 3, 4, 5, 6, 0] rfl
              exact ih198 _ (by first | omega | (dsimp only; omega)) v22 G_21 _ _ _ rfl ((by (try dsimp only); first | assumption | omega | trivial)) hP hD hS hl
          · skip
            intro kk198
            have hP := hP.sub (ws' := [((ma 2), .inl (cI, 40, .inl fP)), ((ma 3), .inl (cI, 40, .inl fM)), ((ma 4), .inl (cI, 40, .inl fO)), ((ma 5), .inl (cI, 40, .inl fG)), ((ma 8), .inl (cB, 1200, .inl fN)), ((ma 1), .inl (cI, 40, .inl fK)), ((ma 9), .inl (cI, 40, .inl fNS)), ((ma 10), .inl (cB, 8000, .inl fT)), ((ma 11), .inl (cI, 40, .inl fTS)), (h0, .inr (11, MO ma sv_thrown sv_length sv_nodes sv_many sv_directories sv_runsFrom sv_runs sv_read sv_wrong sv_isNamed sv_goes sv_goesSize sv_goesAt sv_targetParts sv_isRoot)), ((ma 16), .inl (cJ, 46080, .inr (.inl G_13)))]) [0, 1, 2, 3, 4, 5, 6, 7, 8, 9, 10] rfl
            have hD := hD.sub (ws' := [((ma 2), .inl (cI, 40, .inl fP)), ((ma 3), .inl (cI, 40, .inl fM)), ((ma 4), .inl (cI, 40, .inl fO)), ((ma 5), .inl (cI, 40, .inl fG)), ((ma 8), .inl (cB, 1200, .inl fN)), ((ma 1), .inl (cI, 40, .inl fK)), ((ma 9), .inl (cI, 40, .inl fNS)), ((ma 10), .inl (cB, 8000, .inl fT)), ((ma 11), .inl (cI, 40, .inl fTS)), (h0, .inr (11, MO ma sv_thrown sv_length sv_nodes sv_many sv_directories sv_runsFrom sv_runs sv_read sv_wrong sv_isNamed sv_goes sv_goesSize sv_goesAt sv_targetParts sv_isRoot)), ((ma 16), .inl (cJ, 46080, .inr (.inl G_13)))]) [0, 1, 2, 3, 4, 5, 6, 7, 8, 9, 10] (by decide +kernel) rfl
            have hl := lv_sub hl [2, 3, 4, 5, 6, 1, 0] rfl
            exact kk198 _ 0 G_13 _ _ _ rfl ((by (try dsimp only); first | assumption | omega | trivial)) hP hD hS hl
      · skip
        have g59_13 : x.toInt = 1 := (i_eq rfl (by decide)).mp h_9
        refine lv_aload_n hx hb d_DiscMakerModel_lay_62 rfl (lv_at hl 1 rfl) ?_
        refine lv_iload hx hb d_DiscMakerModel_lay_63 (lv_at hl 5 rfl) ?_
        refine lv_bipush (v := 80) hx hb d_DiscMakerModel_lay_65 (by decide) ?_
        refine lv_bipush (v := 88) hx hb d_DiscMakerModel_lay_67 (by decide) ?_
        refine lv_bipush (v := 36) hx hb d_DiscMakerModel_lay_69 (by decide) ?_
        have hPc := hP.sub (ws' := [(h0, .inr (11, MO ma sv_thrown sv_length sv_nodes sv_many sv_directories sv_runsFrom sv_runs sv_read sv_wrong sv_isNamed sv_goes sv_goesSize sv_goesAt sv_targetParts sv_isRoot)), ((ma 16), .inl (cJ, 46080, .inr (.inl G_2)))]) [5, 6] rfl
        have hDc := hD.sub (ws' := [(h0, .inr (11, MO ma sv_thrown sv_length sv_nodes sv_many sv_directories sv_runsFrom sv_runs sv_read sv_wrong sv_isNamed sv_goes sv_goesSize sv_goesAt sv_targetParts sv_isRoot)), ((ma 16), .inl (cJ, 46080, .inr (.inl G_2)))]) [5, 6] (by decide +kernel) rfl
        have hFc := va_free (wc := [(h0, .inr (11, MO ma sv_thrown sv_length sv_nodes sv_many sv_directories sv_runsFrom sv_runs sv_read sv_wrong sv_isNamed sv_goes sv_goesSize sv_goesAt sv_targetParts sv_isRoot)), ((ma 16), .inl (cJ, 46080, .inr (.inl G_2)))]) hD hS hA [5, 6] rfl
        have hkc : 0 ≤ 0 := by decide
        have hks : 0 ≤ 0 := by decide
        refine va_callv (va_runV (C := "DiscMakerModel") (As := [.int w, .int 80, .int 88, .int 36]) (rest := []) ⟨hx, hb, hml, hown, hts⟩ (m_letters l D cB cI cJ cZ cN cF H.size h0 ma sv_thrown sv_length sv_nodes sv_many sv_directories sv_runsFrom sv_runs sv_read sv_wrong sv_isNamed sv_goes sv_goesSize sv_goesAt sv_targetParts sv_isRoot G_2 w 80 88 36 (by (try dsimp only); first | assumption | omega | trivial) (by (try dsimp only); first | assumption | omega | trivial)) (cwV 4 hts (lg_goodV k1764 k1766 k87 k125 kc_DiscMakerModel_letters) rfl rfl rfl (by decide +kernel) ⟨Nat.le_of_ble_eq_true rfl, Nat.le_of_ble_eq_true rfl⟩) ⟨fun a U g mk q => by obtain ⟨q0, q1, qP, qK, qN, qD⟩ := q; exact ⟨q0, q1, qP, va_K.moved (u := U) (U := U.calling g mk a) (Vm.Alike.refl U.vm) qK, qN.calling, qD⟩, va_recv hK hP (ci := 11) (q0 := 5) rfl rfl, fun U hU hW => ⟨rfl, by rw [hU], by rw [hU]; exact hPc, va_K.moved hW.alike hK, NN.warm hW hN, hDc.weaken (fun _ _ _ _ => trivial)⟩⟩ rfl rfl hl.1 rfl (lv_room (Nat.le_of_ble_eq_true rfl)) d_DiscMakerModel_lay_71 ⟨hkc, hks⟩) hS (fun q _ h => hFc q h) hFc (fun u t H1 locs ht hvm hp_r23 hB hz1 hk1 hS => ?_)
        obtain ⟨G_24, rfl⟩ : ∃ z, z = u := ⟨_, rfl⟩
        obtain ⟨hP1, hD1⟩ := hB
        rw [ht] at hP1
        obtain ⟨hP, hD⟩ := va_join (wr := [((ma 2), .inl (cI, 40, .inl fP)), ((ma 3), .inl (cI, 40, .inl fM)), ((ma 4), .inl (cI, 40, .inl fO)), ((ma 5), .inl (cI, 40, .inl fG)), ((ma 8), .inl (cB, 1200, .inl fN)), ((ma 1), .inl (cI, 40, .inl fK)), ((ma 9), .inl (cI, 40, .inl fNS)), ((ma 10), .inl (cB, 8000, .inl fT)), ((ma 11), .inl (cI, 40, .inl fTS))]) (w1 := [(h0, .inr (11, MO ma sv_thrown sv_length sv_nodes sv_many sv_directories sv_runsFrom sv_runs sv_read sv_wrong sv_isNamed sv_goes sv_goesSize sv_goesAt sv_targetParts sv_isRoot)), ((ma 16), .inl (cJ, 46080, .inr (.inl G_24)))]) hP hD [5, 6] [0, 1, 2, 3, 4, 7, 8, 9, 10] rfl rfl (by decide +kernel) (by decide +kernel) hk1 hFc hP1 hD1
        clear hPc hDc hFc hP1 hD1 hk1 hz1 hkc hks
        generalize H1 = H at hP hS ⊢
        have hP : va_P D CL [((ma 2), .inl (cI, 40, .inl fP)), ((ma 3), .inl (cI, 40, .inl fM)), ((ma 4), .inl (cI, 40, .inl fO)), ((ma 5), .inl (cI, 40, .inl fG)), ((ma 8), .inl (cB, 1200, .inl fN)), ((ma 1), .inl (cI, 40, .inl fK)), ((ma 9), .inl (cI, 40, .inl fNS)), ((ma 10), .inl (cB, 8000, .inl fT)), ((ma 11), .inl (cI, 40, .inl fTS)), (h0, .inr (11, MO ma sv_thrown sv_length sv_nodes sv_many sv_directories sv_runsFrom sv_runs sv_read sv_wrong sv_isNamed sv_goes sv_goesSize sv_goesAt sv_targetParts sv_isRoot)), ((ma 16), .inl (cJ, 46080, .inr (.inl G_24)))] H := hP
        have hD : va_D A [((ma 2), .inl (cI, 40, .inl fP)), ((ma 3), .inl (cI, 40, .inl fM)), ((ma 4), .inl (cI, 40, .inl fO)), ((ma 5), .inl (cI, 40, .inl fG)), ((ma 8), .inl (cB, 1200, .inl fN)), ((ma 1), .inl (cI, 40, .inl fK)), ((ma 9), .inl (cI, 40, .inl fNS)), ((ma 10), .inl (cB, 8000, .inl fT)), ((ma 11), .inl (cI, 40, .inl fTS)), (h0, .inr (11, MO ma sv_thrown sv_length sv_nodes sv_many sv_directories sv_runsFrom sv_runs sv_read sv_wrong sv_isNamed sv_goes sv_goesSize sv_goesAt sv_targetParts sv_isRoot)), ((ma 16), .inl (cJ, 46080, .inr (.inl G_24)))] := hD
        refine lv_aload_n hx hb d_DiscMakerModel_lay_74 rfl (lv_at hl 1 rfl) ?_
        refine lv_iload hx hb d_DiscMakerModel_lay_75 (lv_at hl 5 rfl) ?_
        refine lv_iconst (v := 4) hx hb d_DiscMakerModel_lay_77 (by decide) ?_
        refine lv_iadd hx hb d_DiscMakerModel_lay_78 ?_
        refine lv_topi (fun v25 e_v25 => ?_)
        have t_v25 : v25.toInt = w.toInt + 4 := by rw [e_v25]; exact i_add rfl (by decide) (by omega) (by omega)
        refine lv_iconst (v := 4) hx hb d_DiscMakerModel_lay_79 (by decide) ?_
        refine lv_aload_n hx hb d_DiscMakerModel_lay_80 rfl (lv_at hl 1 rfl) ?_
        refine va_get (D := D) (ci := 11) (v := .ref (ma 1)) (C := "DiscMakerModel") (T := F_DiscMakerModel) (N := 48) hx hb ht9 in_DiscMakerModel hown hK hP 9 rfl rfl 4 (by decide) (ht9 _ k1435) (fun _ h9 => h9) rfl d_DiscMakerModel_lay_81 ?_
        refine lv_iload_n hx hb d_DiscMakerModel_lay_84 rfl (lv_at hl 4 rfl) ?_
        refine va_iald hx hb hK hP 5 1 rfl rfl (vp_in_iff.mpr ⟨by omega, by omega⟩) d_DiscMakerModel_lay_85 ?_
        refine lv_topi (fun v26 e_v26 => ?_)
        have t_v26 : 0 ≤ v26.toInt ∧ v26.toInt ≤ 2 := by
          rw [e_v26]; exact hKi _ (by have := i_cl (a := z) (by omega); omega)
        refine lv_if_ne (tgt := 95) hx hb d_DiscMakerModel_lay_86 (by decide) (fun h_9 => ?_) (fun h_9 => ?_)
        · skip
          have g86_78 : ¬ v26.toInt = 0 := fun h8 => h_9 ((i_eq rfl (by decide)).mpr h8)
          refine lv_aload_n hx hb d_DiscMakerModel_lay_95 rfl (lv_at hl 1 rfl) ?_
          refine va_get (D := D) (ci := 11) (v := .ref (ma 1)) (C := "DiscMakerModel") (T := F_DiscMakerModel) (N := 48) hx hb ht9 in_DiscMakerModel hown hK hP 9 rfl rfl 4 (by decide) (ht9 _ k1435) (fun _ h9 => h9) rfl d_DiscMakerModel_lay_96 ?_
          refine lv_iload_n hx hb d_DiscMakerModel_lay_99 rfl (lv_at hl 4 rfl) ?_
          refine va_iald hx hb hK hP 5 1 rfl rfl (vp_in_iff.mpr ⟨by omega, by omega⟩) d_DiscMakerModel_lay_100 ?_
          refine lv_topi (fun v27 e_v27 => ?_)
          have t_v27 : 0 ≤ v27.toInt ∧ v27.toInt ≤ 2 := by
            rw [e_v27]; exact hKi _ (by have := i_cl (a := z) (by omega); omega)
          have q_v27 : v27.toInt = v26.toInt := by rw [e_v27, e_v26]
          refine lv_iconst (v := 1) hx hb d_DiscMakerModel_lay_101 (by decide) ?_
          refine lv_icmp_ne (tgt := 111) hx hb d_DiscMakerModel_lay_102 (by decide) (fun h_9 => ?_) (fun h_9 => ?_)
          · skip
            have g102_84 : ¬ v27.toInt = 1 := fun h8 => h_9 ((i_eq rfl (by decide)).mpr h8)
            refine lv_ldcw (v := 40960) hx hb hown (ht9 _ k1769) d_DiscMakerModel_lay_111 ?_
            refine lv_aload_n hx hb d_DiscMakerModel_lay_114 rfl (lv_at hl 1 rfl) ?_
            refine va_get (D := D) (ci := 11) (v := .ref (ma 3)) (C := "DiscMakerModel") (T := F_DiscMakerModel) (N := 48) hx hb ht9 in_DiscMakerModel hown hK hP 9 rfl rfl 6 (by decide) (ht9 _ k1437) (fun _ h9 => h9) rfl d_DiscMakerModel_lay_115 ?_
            refine lv_iload_n hx hb d_DiscMakerModel_lay_118 rfl (lv_at hl 4 rfl) ?_
            refine va_iald hx hb hK hP 1 1 rfl rfl (vp_in_iff.mpr ⟨by omega, by omega⟩) d_DiscMakerModel_lay_119 ?_
            refine lv_topi (fun v28 e_v28 => ?_)
            refine lv_sipush (v := 4096) hx hb d_DiscMakerModel_lay_120 (by decide) ?_
            refine lv_irem hx hb d_DiscMakerModel_lay_123 (by decide) ?_
            refine lv_topi (fun v29 e_v29 => ?_)
            refine lv_iadd hx hb d_DiscMakerModel_lay_124 ?_
            refine lv_topi (fun v30 e_v30 => ?_)
            have hPc := hP.sub (ws' := [(h0, .inr (11, MO ma sv_thrown sv_length sv_nodes sv_many sv_directories sv_runsFrom sv_runs sv_read sv_wrong sv_isNamed sv_goes sv_goesSize sv_goesAt sv_targetParts sv_isRoot)), ((ma 16), .inl (cJ, 46080, .inr (.inl G_24)))]) [9, 10] rfl
            have hDc := hD.sub (ws' := [(h0, .inr (11, MO ma sv_thrown sv_length sv_nodes sv_many sv_directories sv_runsFrom sv_runs sv_read sv_wrong sv_isNamed sv_goes sv_goesSize sv_goesAt sv_targetParts sv_isRoot)), ((ma 16), .inl (cJ, 46080, .inr (.inl G_24)))]) [9, 10] (by decide +kernel) rfl
            have hFc := va_free (wc := [(h0, .inr (11, MO ma sv_thrown sv_length sv_nodes sv_many sv_directories sv_runsFrom sv_runs sv_read sv_wrong sv_isNamed sv_goes sv_goesSize sv_goesAt sv_targetParts sv_isRoot)), ((ma 16), .inl (cJ, 46080, .inr (.inl G_24)))]) hD hS hA [9, 10] rfl
            have hkc : 0 ≤ 0 := by decide
            have hks : 0 ≤ 0 := by decide
            refine va_callv (va_runV (C := "DiscMakerModel") (As := [.int v25, .int 4, .int v30]) (rest := []) ⟨hx, hb, hml, hown, hts⟩ (m_both l D cB cI cJ cZ cN cF H.size h0 ma sv_thrown sv_length sv_nodes sv_many sv_directories sv_runsFrom sv_runs sv_read sv_wrong sv_isNamed sv_goes sv_goesSize sv_goesAt sv_targetParts sv_isRoot G_24 v25 4 v30 (by (try dsimp only); first | assumption | omega | trivial) (by (try dsimp only); first | assumption | omega | trivial) (by (try dsimp only); first | assumption | omega | trivial)) (cwV 3 hts (lg_goodV k1740 k1742 k81 k125 kc_DiscMakerModel_both) rfl rfl rfl (by decide +kernel) ⟨Nat.le_of_ble_eq_true rfl, Nat.le_of_ble_eq_true rfl⟩) ⟨fun a U g mk q => by obtain ⟨q0, q1, qP, qK, qN, qD⟩ := q; exact ⟨q0, q1, qP, va_K.moved (u := U) (U := U.calling g mk a) (Vm.Alike.refl U.vm) qK, qN.calling, qD⟩, va_recv hK hP (ci := 11) (q0 := 9) rfl rfl, fun U hU hW => ⟨rfl, by rw [hU], by rw [hU]; exact hPc, va_K.moved hW.alike hK, NN.warm hW hN, hDc.weaken (fun _ _ _ _ => trivial)⟩⟩ rfl rfl hl.1 rfl (lv_room (Nat.le_of_ble_eq_true rfl)) d_DiscMakerModel_lay_125 ⟨hkc, hks⟩) hS (fun q _ h => hFc q h) hFc (fun u t H1 locs ht hvm hp_r31 hB hz1 hk1 hS => ?_)
            obtain ⟨G_32, rfl⟩ : ∃ z, z = u := ⟨_, rfl⟩
            obtain ⟨hP1, hD1⟩ := hB
            rw [ht] at hP1
            obtain ⟨hP, hD⟩ := va_join (wr := [((ma 2), .inl (cI, 40, .inl fP)), ((ma 3), .inl (cI, 40, .inl fM)), ((ma 4), .inl (cI, 40, .inl fO)), ((ma 5), .inl (cI, 40, .inl fG)), ((ma 8), .inl (cB, 1200, .inl fN)), ((ma 1), .inl (cI, 40, .inl fK)), ((ma 9), .inl (cI, 40, .inl fNS)), ((ma 10), .inl (cB, 8000, .inl fT)), ((ma 11), .inl (cI, 40, .inl fTS))]) (w1 := [(h0, .inr (11, MO ma sv_thrown sv_length sv_nodes sv_many sv_directories sv_runsFrom sv_runs sv_read sv_wrong sv_isNamed sv_goes sv_goesSize sv_goesAt sv_targetParts sv_isRoot)), ((ma 16), .inl (cJ, 46080, .inr (.inl G_32)))]) hP hD [9, 10] [0, 1, 2, 3, 4, 5, 6, 7, 8] rfl rfl (by decide +kernel) (by decide +kernel) hk1 hFc hP1 hD1
            clear hPc hDc hFc hP1 hD1 hk1 hz1 hkc hks
            generalize H1 = H at hP hS ⊢
            have hP : va_P D CL [((ma 2), .inl (cI, 40, .inl fP)), ((ma 3), .inl (cI, 40, .inl fM)), ((ma 4), .inl (cI, 40, .inl fO)), ((ma 5), .inl (cI, 40, .inl fG)), ((ma 8), .inl (cB, 1200, .inl fN)), ((ma 1), .inl (cI, 40, .inl fK)), ((ma 9), .inl (cI, 40, .inl fNS)), ((ma 10), .inl (cB, 8000, .inl fT)), ((ma 11), .inl (cI, 40, .inl fTS)), (h0, .inr (11, MO ma sv_thrown sv_length sv_nodes sv_many sv_directories sv_runsFrom sv_runs sv_read sv_wrong sv_isNamed sv_goes sv_goesSize sv_goesAt sv_targetParts sv_isRoot)), ((ma 16), .inl (cJ, 46080, .inr (.inl G_32)))] H := hP
            have hD : va_D A [((ma 2), .inl (cI, 40, .inl fP)), ((ma 3), .inl (cI, 40, .inl fM)), ((ma 4), .inl (cI, 40, .inl fO)), ((ma 5), .inl (cI, 40, .inl fG)), ((ma 8), .inl (cB, 1200, .inl fN)), ((ma 1), .inl (cI, 40, .inl fK)), ((ma 9), .inl (cI, 40, .inl fNS)), ((ma 10), .inl (cB, 8000, .inl fT)), ((ma 11), .inl (cI, 40, .inl fTS)), (h0, .inr (11, MO ma sv_thrown sv_length sv_nodes sv_many sv_directories sv_runsFrom sv_runs sv_read sv_wrong sv_isNamed sv_goes sv_goesSize sv_goesAt sv_targetParts sv_isRoot)), ((ma 16), .inl (cJ, 46080, .inr (.inl G_32)))] := hD
            refine lv_aload_n hx hb d_DiscMakerModel_lay_128 rfl (lv_at hl 1 rfl) ?_
            refine lv_iload hx hb d_DiscMakerModel_lay_129 (lv_at hl 5 rfl) ?_
            refine lv_bipush (v := 12) hx hb d_DiscMakerModel_lay_131 (by decide) ?_
            refine lv_iadd hx hb d_DiscMakerModel_lay_133 ?_
            refine lv_topi (fun v33 e_v33 => ?_)
            have t_v33 : v33.toInt = w.toInt + 12 := by rw [e_v33]; exact i_add rfl (by decide) (by omega) (by omega)
            refine lv_iconst (v := 4) hx hb d_DiscMakerModel_lay_134 (by decide) ?_
            refine lv_aload_n hx hb d_DiscMakerModel_lay_135 rfl (lv_at hl 1 rfl) ?_
            refine lv_iload_n hx hb d_DiscMakerModel_lay_136 rfl (lv_at hl 4 rfl) ?_
            have hPc := hP.sub (ws' := [(h0, .inr (11, MO ma sv_thrown sv_length sv_nodes sv_many sv_directories sv_runsFrom sv_runs sv_read sv_wrong sv_isNamed sv_goes sv_goesSize sv_goesAt sv_targetParts sv_isRoot)), ((ma 1), .inl (cI, 40, .inl fK)), ((ma 2), .inl (cI, 40, .inl fP))]) [9, 5, 0] rfl
            have hDc := hD.sub (ws' := [(h0, .inr (11, MO ma sv_thrown sv_length sv_nodes sv_many sv_directories sv_runsFrom sv_runs sv_read sv_wrong sv_isNamed sv_goes sv_goesSize sv_goesAt sv_targetParts sv_isRoot)), ((ma 1), .inl (cI, 40, .inl fK)), ((ma 2), .inl (cI, 40, .inl fP))]) [9, 5, 0] (by decide +kernel) rfl
            have hFc := va_free (wc := [(h0, .inr (11, MO ma sv_thrown sv_length sv_nodes sv_many sv_directories sv_runsFrom sv_runs sv_read sv_wrong sv_isNamed sv_goes sv_goesSize sv_goesAt sv_targetParts sv_isRoot)), ((ma 1), .inl (cI, 40, .inl fK)), ((ma 2), .inl (cI, 40, .inl fP))]) hD hS hA [9, 5, 0] rfl
            have hkc : 0 ≤ 0 := by decide
            have hks : 0 ≤ 0 := by decide
            refine va_calli (va_runV (C := "DiscMakerModel") (As := [.int z]) (rest := [.int 4, .int v33, .ref h0]) ⟨hx, hb, hml, hown, hts⟩ (m_links l D cB cI cJ cZ cN cF H.size h0 ma sv_thrown sv_length sv_nodes sv_many sv_directories sv_runsFrom sv_runs sv_read sv_wrong sv_isNamed sv_goes sv_goesSize sv_goesAt sv_targetParts sv_isRoot fK fP z (by (try dsimp only); first | assumption | omega | trivial) (by (try dsimp only); first | assumption | omega | trivial)) (cwV 1 hts (lg_goodV k1770 k1772 k88 k125 kc_DiscMakerModel_links) rfl rfl rfl (by decide +kernel) ⟨Nat.le_of_ble_eq_true rfl, Nat.le_of_ble_eq_true rfl⟩) ⟨fun a U g mk q => by obtain ⟨q0, q1, qP, qK, qN, qD⟩ := q; exact ⟨q0, q1, qP, va_K.moved (u := U) (U := U.calling g mk a) (Vm.Alike.refl U.vm) qK, qN.calling, qD⟩, va_recv hK hP (ci := 11) (q0 := 9) rfl rfl, fun U hU hW => ⟨rfl, by rw [hU], by rw [hU]; exact hPc, va_K.moved hW.alike hK, NN.warm hW hN, hDc.weaken (fun _ _ _ _ => trivial)⟩⟩ rfl rfl hl.1 rfl (lv_room (Nat.le_of_ble_eq_true rfl)) d_DiscMakerModel_lay_137 ⟨hkc, hks⟩) hS (fun q _ h => hFc q h) hFc (fun r34 u t H1 locs ht hvm hp_r34 hB hz1 hk1 hS => ?_)
            obtain ⟨hP1, hD1⟩ := hB
            rw [ht] at hP1
            obtain ⟨hP, hD⟩ := va_join (wr := [((ma 3), .inl (cI, 40, .inl fM)), ((ma 4), .inl (cI, 40, .inl fO)), ((ma 5), .inl (cI, 40, .inl fG)), ((ma 8), .inl (cB, 1200, .inl fN)), ((ma 9), .inl (cI, 40, .inl fNS)), ((ma 10), .inl (cB, 8000, .inl fT)), ((ma 11), .inl (cI, 40, .inl fTS)), ((ma 16), .inl (cJ, 46080, .inr (.inl G_32)))]) (w1 := [(h0, .inr (11, MO ma sv_thrown sv_length sv_nodes sv_many sv_directories sv_runsFrom sv_runs sv_read sv_wrong sv_isNamed sv_goes sv_goesSize sv_goesAt sv_targetParts sv_isRoot)), ((ma 1), .inl (cI, 40, .inl fK)), ((ma 2), .inl (cI, 40, .inl fP))]) hP hD [9, 5, 0] [1, 2, 3, 4, 6, 7, 8, 10] rfl rfl (by decide +kernel) (by decide +kernel) hk1 hFc hP1 hD1
            clear hPc hDc hFc hP1 hD1 hk1 hz1 hkc hks
            generalize H1 = H at hP hS ⊢
            have hP : va_P D CL [((ma 3), .inl (cI, 40, .inl fM)), ((ma 4), .inl (cI, 40, .inl fO)), ((ma 5), .inl (cI, 40, .inl fG)), ((ma 8), .inl (cB, 1200, .inl fN)), ((ma 9), .inl (cI, 40, .inl fNS)), ((ma 10), .inl (cB, 8000, .inl fT)), ((ma 11), .inl (cI, 40, .inl fTS)), ((ma 16), .inl (cJ, 46080, .inr (.inl G_32))), (h0, .inr (11, MO ma sv_thrown sv_length sv_nodes sv_many sv_directories sv_runsFrom sv_runs sv_read sv_wrong sv_isNamed sv_goes sv_goesSize sv_goesAt sv_targetParts sv_isRoot)), ((ma 1), .inl (cI, 40, .inl fK)), ((ma 2), .inl (cI, 40, .inl fP))] H := hP
            have hD : va_D A [((ma 3), .inl (cI, 40, .inl fM)), ((ma 4), .inl (cI, 40, .inl fO)), ((ma 5), .inl (cI, 40, .inl fG)), ((ma 8), .inl (cB, 1200, .inl fN)), ((ma 9), .inl (cI, 40, .inl fNS)), ((ma 10), .inl (cB, 8000, .inl fT)), ((ma 11), .inl (cI, 40, .inl fTS)), ((ma 16), .inl (cJ, 46080, .inr (.inl G_32))), (h0, .inr (11, MO ma sv_thrown sv_length sv_nodes sv_many sv_directories sv_runsFrom sv_runs sv_read sv_wrong sv_isNamed sv_goes sv_goesSize sv_goesAt sv_targetParts sv_isRoot)), ((ma 1), .inl (cI, 40, .inl fK)), ((ma 2), .inl (cI, 40, .inl fP))] := hD
            have hPc := hP.sub (ws' := [(h0, .inr (11, MO ma sv_thrown sv_length sv_nodes sv_many sv_directories sv_runsFrom sv_runs sv_read sv_wrong sv_isNamed sv_goes sv_goesSize sv_goesAt sv_targetParts sv_isRoot)), ((ma 16), .inl (cJ, 46080, .inr (.inl G_32)))]) [8, 7] rfl
            have hDc := hD.sub (ws' := [(h0, .inr (11, MO ma sv_thrown sv_length sv_nodes sv_many sv_directories sv_runsFrom sv_runs sv_read sv_wrong sv_isNamed sv_goes sv_goesSize sv_goesAt sv_targetParts sv_isRoot)), ((ma 16), .inl (cJ, 46080, .inr (.inl G_32)))]) [8, 7] (by decide +kernel) rfl
            have hFc := va_free (wc := [(h0, .inr (11, MO ma sv_thrown sv_length sv_nodes sv_many sv_directories sv_runsFrom sv_runs sv_read sv_wrong sv_isNamed sv_goes sv_goesSize sv_goesAt sv_targetParts sv_isRoot)), ((ma 16), .inl (cJ, 46080, .inr (.inl G_32)))]) hD hS hA [8, 7] rfl
            have hkc : 0 ≤ 0 := by decide
            have hks : 0 ≤ 0 := by decide
            refine va_callv (va_runV (C := "DiscMakerModel") (As := [.int v33, .int 4, .int r34]) (rest := []) ⟨hx, hb, hml, hown, hts⟩ (m_both l D cB cI cJ cZ cN cF H.size h0 ma sv_thrown sv_length sv_nodes sv_many sv_directories sv_runsFrom sv_runs sv_read sv_wrong sv_isNamed sv_goes sv_goesSize sv_goesAt sv_targetParts sv_isRoot G_32 v33 4 r34 (by (try dsimp only); first | assumption | omega | trivial) (by (try dsimp only); first | assumption | omega | trivial) (by (try dsimp only); first | assumption | omega | trivial)) (cwV 3 hts (lg_goodV k1740 k1742 k81 k125 kc_DiscMakerModel_both) rfl rfl rfl (by decide +kernel) ⟨Nat.le_of_ble_eq_true rfl, Nat.le_of_ble_eq_true rfl⟩) ⟨fun a U g mk q => by obtain ⟨q0, q1, qP, qK, qN, qD⟩ := q; exact ⟨q0, q1, qP, va_K.moved (u := U) (U := U.calling g mk a) (Vm.Alike.refl U.vm) qK, qN.calling, qD⟩, va_recv hK hP (ci := 11) (q0 := 8) rfl rfl, fun U hU hW => ⟨rfl, by rw [hU], by rw [hU]; exact hPc, va_K.moved hW.alike hK, NN.warm hW hN, hDc.weaken (fun _ _ _ _ => trivial)⟩⟩ rfl rfl hl.1 rfl (lv_room (Nat.le_of_ble_eq_true rfl)) d_DiscMakerModel_lay_140 ⟨hkc, hks⟩) hS (fun q _ h => hFc q h) hFc (fun u t H1 locs ht hvm hp_r35 hB hz1 hk1 hS => ?_)
            obtain ⟨G_36, rfl⟩ : ∃ z, z = u := ⟨_, rfl⟩
            obtain ⟨hP1, hD1⟩ := hB
            rw [ht] at hP1
            obtain ⟨hP, hD⟩ := va_join (wr := [((ma 3), .inl (cI, 40, .inl fM)), ((ma 4), .inl (cI, 40, .inl fO)), ((ma 5), .inl (cI, 40, .inl fG)), ((ma 8), .inl (cB, 1200, .inl fN)), ((ma 9), .inl (cI, 40, .inl fNS)), ((ma 10), .inl (cB, 8000, .inl fT)), ((ma 11), .inl (cI, 40, .inl fTS)), ((ma 1), .inl (cI, 40, .inl fK)), ((ma 2), .inl (cI, 40, .inl fP))]) (w1 := [(h0, .inr (11, MO ma sv_thrown sv_length sv_nodes sv_many sv_directories sv_runsFrom sv_runs sv_read sv_wrong sv_isNamed sv_goes sv_goesSize sv_goesAt sv_targetParts sv_isRoot)), ((ma 16), .inl (cJ, 46080, .inr (.inl G_36)))]) hP hD [8, 7] [0, 1, 2, 3, 4, 5, 6, 9, 10] rfl rfl (by decide +kernel) (by decide +kernel) hk1 hFc hP1 hD1
            clear hPc hDc hFc hP1 hD1 hk1 hz1 hkc hks
            generalize H1 = H at hP hS ⊢
            have hP : va_P D CL [((ma 3), .inl (cI, 40, .inl fM)), ((ma 4), .inl (cI, 40, .inl fO)), ((ma 5), .inl (cI, 40, .inl fG)), ((ma 8), .inl (cB, 1200, .inl fN)), ((ma 9), .inl (cI, 40, .inl fNS)), ((ma 10), .inl (cB, 8000, .inl fT)), ((ma 11), .inl (cI, 40, .inl fTS)), ((ma 1), .inl (cI, 40, .inl fK)), ((ma 2), .inl (cI, 40, .inl fP)), (h0, .inr (11, MO ma sv_thrown sv_length sv_nodes sv_many sv_directories sv_runsFrom sv_runs sv_read sv_wrong sv_isNamed sv_goes sv_goesSize sv_goesAt sv_targetParts sv_isRoot)), ((ma 16), .inl (cJ, 46080, .inr (.inl G_36)))] H := hP
            have hD : va_D A [((ma 3), .inl (cI, 40, .inl fM)), ((ma 4), .inl (cI, 40, .inl fO)), ((ma 5), .inl (cI, 40, .inl fG)), ((ma 8), .inl (cB, 1200, .inl fN)), ((ma 9), .inl (cI, 40, .inl fNS)), ((ma 10), .inl (cB, 8000, .inl fT)), ((ma 11), .inl (cI, 40, .inl fTS)), ((ma 1), .inl (cI, 40, .inl fK)), ((ma 2), .inl (cI, 40, .inl fP)), (h0, .inr (11, MO ma sv_thrown sv_length sv_nodes sv_many sv_directories sv_runsFrom sv_runs sv_read sv_wrong sv_isNamed sv_goes sv_goesSize sv_goesAt sv_targetParts sv_isRoot)), ((ma 16), .inl (cJ, 46080, .inr (.inl G_36)))] := hD
            refine lv_aload_n hx hb d_DiscMakerModel_lay_143 rfl (lv_at hl 1 rfl) ?_
            refine lv_iload hx hb d_DiscMakerModel_lay_144 (lv_at hl 5 rfl) ?_
            refine lv_bipush (v := 20) hx hb d_DiscMakerModel_lay_146 (by decide) ?_
            refine lv_iadd hx hb d_DiscMakerModel_lay_148 ?_
            refine lv_topi (fun v37 e_v37 => ?_)
            have t_v37 : v37.toInt = w.toInt + 20 := by rw [e_v37]; exact i_add rfl (by decide) (by omega) (by omega)
            refine lv_iconst (v := 4) hx hb d_DiscMakerModel_lay_149 (by decide) ?_
            refine lv_aload_n hx hb d_DiscMakerModel_lay_150 rfl (lv_at hl 1 rfl) ?_
            refine va_get (D := D) (ci := 11) (v := .ref (ma 4)) (C := "DiscMakerModel") (T := F_DiscMakerModel) (N := 48) hx hb ht9 in_DiscMakerModel hown hK hP 9 rfl rfl 7 (by decide) (ht9 _ k1438) (fun _ h9 => h9) rfl d_DiscMakerModel_lay_151 ?_
            refine lv_iload_n hx hb d_DiscMakerModel_lay_154 rfl (lv_at hl 4 rfl) ?_
            refine va_iald hx hb hK hP 1 1 rfl rfl (vp_in_iff.mpr ⟨by omega, by omega⟩) d_DiscMakerModel_lay_155 ?_
            refine lv_topi (fun v38 e_v38 => ?_)
            have hPc := hP.sub (ws' := [(h0, .inr (11, MO ma sv_thrown sv_length sv_nodes sv_many sv_directories sv_runsFrom sv_runs sv_read sv_wrong sv_isNamed sv_goes sv_goesSize sv_goesAt sv_targetParts sv_isRoot)), ((ma 16), .inl (cJ, 46080, .inr (.inl G_36)))]) [9, 10] rfl
            have hDc := hD.sub (ws' := [(h0, .inr (11, MO ma sv_thrown sv_length sv_nodes sv_many sv_directories sv_runsFrom sv_runs sv_read sv_wrong sv_isNamed sv_goes sv_goesSize sv_goesAt sv_targetParts sv_isRoot)), ((ma 16), .inl (cJ, 46080, .inr (.inl G_36)))]) [9, 10] (by decide +kernel) rfl
            have hFc := va_free (wc := [(h0, .inr (11, MO ma sv_thrown sv_length sv_nodes sv_many sv_directories sv_runsFrom sv_runs sv_read sv_wrong sv_isNamed sv_goes sv_goesSize sv_goesAt sv_targetParts sv_isRoot)), ((ma 16), .inl (cJ, 46080, .inr (.inl G_36)))]) hD hS hA [9, 10] rfl
            have hkc : 0 ≤ 0 := by decide
            have hks : 0 ≤ 0 := by decide
            refine va_callv (va_runV (C := "DiscMakerModel") (As := [.int v37, .int 4, .int v38]) (rest := []) ⟨hx, hb, hml, hown, hts⟩ (m_both l D cB cI cJ cZ cN cF H.size h0 ma sv_thrown sv_length sv_nodes sv_many sv_directories sv_runsFrom sv_runs sv_read sv_wrong sv_isNamed sv_goes sv_goesSize sv_goesAt sv_targetParts sv_isRoot G_36 v37 4 v38 (by (try dsimp only); first | assumption | omega | trivial) (by (try dsimp only); first | assumption | omega | trivial) (by (try dsimp only); first | assumption | omega | trivial)) (cwV 3 hts (lg_goodV k1740 k1742 k81 k125 kc_DiscMakerModel_both) rfl rfl rfl (by decide +kernel) ⟨Nat.le_of_ble_eq_true rfl, Nat.le_of_ble_eq_true rfl⟩) ⟨fun a U g mk q => by obtain ⟨q0, q1, qP, qK, qN, qD⟩ := q; exact ⟨q0, q1, qP, va_K.moved (u := U) (U := U.calling g mk a) (Vm.Alike.refl U.vm) qK, qN.calling, qD⟩, va_recv hK hP (ci := 11) (q0 := 9) rfl rfl, fun U hU hW => ⟨rfl, by rw [hU], by rw [hU]; exact hPc, va_K.moved hW.alike hK, NN.warm hW hN, hDc.weaken (fun _ _ _ _ => trivial)⟩⟩ rfl rfl hl.1 rfl (lv_room (Nat.le_of_ble_eq_true rfl)) d_DiscMakerModel_lay_156 ⟨hkc, hks⟩) hS (fun q _ h => hFc q h) hFc (fun u t H1 locs ht hvm hp_r39 hB hz1 hk1 hS => ?_)
            obtain ⟨G_40, rfl⟩ : ∃ z, z = u := ⟨_, rfl⟩
            obtain ⟨hP1, hD1⟩ := hB
            rw [ht] at hP1
            obtain ⟨hP, hD⟩ := va_join (wr := [((ma 3), .inl (cI, 40, .inl fM)), ((ma 4), .inl (cI, 40, .inl fO)), ((ma 5), .inl (cI, 40, .inl fG)), ((ma 8), .inl (cB, 1200, .inl fN)), ((ma 9), .inl (cI, 40, .inl fNS)), ((ma 10), .inl (cB, 8000, .inl fT)), ((ma 11), .inl (cI, 40, .inl fTS)), ((ma 1), .inl (cI, 40, .inl fK)), ((ma 2), .inl (cI, 40, .inl fP))]) (w1 := [(h0, .inr (11, MO ma sv_thrown sv_length sv_nodes sv_many sv_directories sv_runsFrom sv_runs sv_read sv_wrong sv_isNamed sv_goes sv_goesSize sv_goesAt sv_targetParts sv_isRoot)), ((ma 16), .inl (cJ, 46080, .inr (.inl G_40)))]) hP hD [9, 10] [0, 1, 2, 3, 4, 5, 6, 7, 8] rfl rfl (by decide +kernel) (by decide +kernel) hk1 hFc hP1 hD1
            clear hPc hDc hFc hP1 hD1 hk1 hz1 hkc hks
            generalize H1 = H at hP hS ⊢
            have hP : va_P D CL [((ma 3), .inl (cI, 40, .inl fM)), ((ma 4), .inl (cI, 40, .inl fO)), ((ma 5), .inl (cI, 40, .inl fG)), ((ma 8), .inl (cB, 1200, .inl fN)), ((ma 9), .inl (cI, 40, .inl fNS)), ((ma 10), .inl (cB, 8000, .inl fT)), ((ma 11), .inl (cI, 40, .inl fTS)), ((ma 1), .inl (cI, 40, .inl fK)), ((ma 2), .inl (cI, 40, .inl fP)), (h0, .inr (11, MO ma sv_thrown sv_length sv_nodes sv_many sv_directories sv_runsFrom sv_runs sv_read sv_wrong sv_isNamed sv_goes sv_goesSize sv_goesAt sv_targetParts sv_isRoot)), ((ma 16), .inl (cJ, 46080, .inr (.inl G_40)))] H := hP
            have hD : va_D A [((ma 3), .inl (cI, 40, .inl fM)), ((ma 4), .inl (cI, 40, .inl fO)), ((ma 5), .inl (cI, 40, .inl fG)), ((ma 8), .inl (cB, 1200, .inl fN)), ((ma 9), .inl (cI, 40, .inl fNS)), ((ma 10), .inl (cB, 8000, .inl fT)), ((ma 11), .inl (cI, 40, .inl fTS)), ((ma 1), .inl (cI, 40, .inl fK)), ((ma 2), .inl (cI, 40, .inl fP)), (h0, .inr (11, MO ma sv_thrown sv_length sv_nodes sv_many sv_directories sv_runsFrom sv_runs sv_read sv_wrong sv_isNamed sv_goes sv_goesSize sv_goesAt sv_targetParts sv_isRoot)), ((ma 16), .inl (cJ, 46080, .inr (.inl G_40)))] := hD
            refine lv_aload_n hx hb d_DiscMakerModel_lay_159 rfl (lv_at hl 1 rfl) ?_
            refine lv_iload hx hb d_DiscMakerModel_lay_160 (lv_at hl 5 rfl) ?_
            refine lv_bipush (v := 28) hx hb d_DiscMakerModel_lay_162 (by decide) ?_
            refine lv_iadd hx hb d_DiscMakerModel_lay_164 ?_
            refine lv_topi (fun v41 e_v41 => ?_)
            have t_v41 : v41.toInt = w.toInt + 28 := by rw [e_v41]; exact i_add rfl (by decide) (by omega) (by omega)
            refine lv_iconst (v := 4) hx hb d_DiscMakerModel_lay_165 (by decide) ?_
            refine lv_aload_n hx hb d_DiscMakerModel_lay_166 rfl (lv_at hl 1 rfl) ?_
            refine va_get (D := D) (ci := 11) (v := .ref (ma 5)) (C := "DiscMakerModel") (T := F_DiscMakerModel) (N := 48) hx hb ht9 in_DiscMakerModel hown hK hP 9 rfl rfl 8 (by decide) (ht9 _ k1439) (fun _ h9 => h9) rfl d_DiscMakerModel_lay_167 ?_
            refine lv_iload_n hx hb d_DiscMakerModel_lay_170 rfl (lv_at hl 4 rfl) ?_
            refine va_iald hx hb hK hP 2 1 rfl rfl (vp_in_iff.mpr ⟨by omega, by omega⟩) d_DiscMakerModel_lay_171 ?_
            refine lv_topi (fun v42 e_v42 => ?_)
            have hPc := hP.sub (ws' := [(h0, .inr (11, MO ma sv_thrown sv_length sv_nodes sv_many sv_directories sv_runsFrom sv_runs sv_read sv_wrong sv_isNamed sv_goes sv_goesSize sv_goesAt sv_targetParts sv_isRoot)), ((ma 16), .inl (cJ, 46080, .inr (.inl G_40)))]) [9, 10] rfl
            have hDc := hD.sub (ws' := [(h0, .inr (11, MO ma sv_thrown sv_length sv_nodes sv_many sv_directories sv_runsFrom sv_runs sv_read sv_wrong sv_isNamed sv_goes sv_goesSize sv_goesAt sv_targetParts sv_isRoot)), ((ma 16), .inl (cJ, 46080, .inr (.inl G_40)))]) [9, 10] (by decide +kernel) rfl
            have hFc := va_free (wc := [(h0, .inr (11, MO ma sv_thrown sv_length sv_nodes sv_many sv_directories sv_runsFrom sv_runs sv_read sv_wrong sv_isNamed sv_goes sv_goesSize sv_goesAt sv_targetParts sv_isRoot)), ((ma 16), .inl (cJ, 46080, .inr (.inl G_40)))]) hD hS hA [9, 10] rfl
            have hkc : 0 ≤ 0 := by decide
            have hks : 0 ≤ 0 := by decide
            refine va_callv (va_runV (C := "DiscMakerModel") (As := [.int v41, .int 4, .int v42]) (rest := []) ⟨hx, hb, hml, hown, hts⟩ (m_both l D cB cI cJ cZ cN cF H.size h0 ma sv_thrown sv_length sv_nodes sv_many sv_directories sv_runsFrom sv_runs sv_read sv_wrong sv_isNamed sv_goes sv_goesSize sv_goesAt sv_targetParts sv_isRoot G_40 v41 4 v42 (by (try dsimp only); first | assumption | omega | trivial) (by (try dsimp only); first | assumption | omega | trivial) (by (try dsimp only); first | assumption | omega | trivial)) (cwV 3 hts (lg_goodV k1740 k1742 k81 k125 kc_DiscMakerModel_both) rfl rfl rfl (by decide +kernel) ⟨Nat.le_of_ble_eq_true rfl, Nat.le_of_ble_eq_true rfl⟩) ⟨fun a U g mk q => by obtain ⟨q0, q1, qP, qK, qN, qD⟩ := q; exact ⟨q0, q1, qP, va_K.moved (u := U) (U := U.calling g mk a) (Vm.Alike.refl U.vm) qK, qN.calling, qD⟩, va_recv hK hP (ci := 11) (q0 := 9) rfl rfl, fun U hU hW => ⟨rfl, by rw [hU], by rw [hU]; exact hPc, va_K.moved hW.alike hK, NN.warm hW hN, hDc.weaken (fun _ _ _ _ => trivial)⟩⟩ rfl rfl hl.1 rfl (lv_room (Nat.le_of_ble_eq_true rfl)) d_DiscMakerModel_lay_172 ⟨hkc, hks⟩) hS (fun q _ h => hFc q h) hFc (fun u t H1 locs ht hvm hp_r43 hB hz1 hk1 hS => ?_)
            obtain ⟨G_44, rfl⟩ : ∃ z, z = u := ⟨_, rfl⟩
            obtain ⟨hP1, hD1⟩ := hB
            rw [ht] at hP1
            obtain ⟨hP, hD⟩ := va_join (wr := [((ma 3), .inl (cI, 40, .inl fM)), ((ma 4), .inl (cI, 40, .inl fO)), ((ma 5), .inl (cI, 40, .inl fG)), ((ma 8), .inl (cB, 1200, .inl fN)), ((ma 9), .inl (cI, 40, .inl fNS)), ((ma 10), .inl (cB, 8000, .inl fT)), ((ma 11), .inl (cI, 40, .inl fTS)), ((ma 1), .inl (cI, 40, .inl fK)), ((ma 2), .inl (cI, 40, .inl fP))]) (w1 := [(h0, .inr (11, MO ma sv_thrown sv_length sv_nodes sv_many sv_directories sv_runsFrom sv_runs sv_read sv_wrong sv_isNamed sv_goes sv_goesSize sv_goesAt sv_targetParts sv_isRoot)), ((ma 16), .inl (cJ, 46080, .inr (.inl G_44)))]) hP hD [9, 10] [0, 1, 2, 3, 4, 5, 6, 7, 8] rfl rfl (by decide +kernel) (by decide +kernel) hk1 hFc hP1 hD1
            clear hPc hDc hFc hP1 hD1 hk1 hz1 hkc hks
            generalize H1 = H at hP hS ⊢
            have hP : va_P D CL [((ma 3), .inl (cI, 40, .inl fM)), ((ma 4), .inl (cI, 40, .inl fO)), ((ma 5), .inl (cI, 40, .inl fG)), ((ma 8), .inl (cB, 1200, .inl fN)), ((ma 9), .inl (cI, 40, .inl fNS)), ((ma 10), .inl (cB, 8000, .inl fT)), ((ma 11), .inl (cI, 40, .inl fTS)), ((ma 1), .inl (cI, 40, .inl fK)), ((ma 2), .inl (cI, 40, .inl fP)), (h0, .inr (11, MO ma sv_thrown sv_length sv_nodes sv_many sv_directories sv_runsFrom sv_runs sv_read sv_wrong sv_isNamed sv_goes sv_goesSize sv_goesAt sv_targetParts sv_isRoot)), ((ma 16), .inl (cJ, 46080, .inr (.inl G_44)))] H := hP
            have hD : va_D A [((ma 3), .inl (cI, 40, .inl fM)), ((ma 4), .inl (cI, 40, .inl fO)), ((ma 5), .inl (cI, 40, .inl fG)), ((ma 8), .inl (cB, 1200, .inl fN)), ((ma 9), .inl (cI, 40, .inl fNS)), ((ma 10), .inl (cB, 8000, .inl fT)), ((ma 11), .inl (cI, 40, .inl fTS)), ((ma 1), .inl (cI, 40, .inl fK)), ((ma 2), .inl (cI, 40, .inl fP)), (h0, .inr (11, MO ma sv_thrown sv_length sv_nodes sv_many sv_directories sv_runsFrom sv_runs sv_read sv_wrong sv_isNamed sv_goes sv_goesSize sv_goesAt sv_targetParts sv_isRoot)), ((ma 16), .inl (cJ, 46080, .inr (.inl G_44)))] := hD
            refine lv_goto (tgt := 258) hx hb d_DiscMakerModel_lay_175 (by decide) ?_
            refine lv_iload hx hb d_DiscMakerModel_lay_258 (lv_at hl 0 rfl) ?_
            have hP9 := hP.sub (ws' := [(h0, .inr (11, MO ma sv_thrown sv_length sv_nodes sv_many sv_directories sv_runsFrom sv_runs sv_read sv_wrong sv_isNamed sv_goes sv_goesSize sv_goesAt sv_targetParts sv_isRoot)), ((ma 16), .inl (cJ, 46080, .inr (.inl G_44))), ((ma 1), .inl (cI, 40, .inl fK)), ((ma 2), .inl (cI, 40, .inl fP)), ((ma 3), .inl (cI, 40, .inl fM)), ((ma 4), .inl (cI, 40, .inl fO)), ((ma 5), .inl (cI, 40, .inl fG)), ((ma 8), .inl (cB, 1200, .inl fN)), ((ma 9), .inl (cI, 40, .inl fNS)), ((ma 10), .inl (cB, 8000, .inl fT)), ((ma 11), .inl (cI, 40, .inl fTS))]) [9, 10, 7, 8, 0, 1, 2, 3, 4, 5, 6] rfl
            have hD9 := hD.sub (ws' := [(h0, .inr (11, MO ma sv_thrown sv_length sv_nodes sv_many sv_directories sv_runsFrom sv_runs sv_read sv_wrong sv_isNamed sv_goes sv_goesSize sv_goesAt sv_targetParts sv_isRoot)), ((ma 16), .inl (cJ, 46080, .inr (.inl G_44))), ((ma 1), .inl (cI, 40, .inl fK)), ((ma 2), .inl (cI, 40, .inl fP)), ((ma 3), .inl (cI, 40, .inl fM)), ((ma 4), .inl (cI, 40, .inl fO)), ((ma 5), .inl (cI, 40, .inl fG)), ((ma 8), .inl (cB, 1200, .inl fN)), ((ma 9), .inl (cI, 40, .inl fNS)), ((ma 10), .inl (cB, 8000, .inl fT)), ((ma 11), .inl (cI, 40, .inl fTS))]) [9, 10, 7, 8, 0, 1, 2, 3, 4, 5, 6] (by decide +kernel) rfl
            exact W.iret (v := r1) hx hb hr (fun t ht hW => ⟨⟨r1, G_44, rfl, (by (try dsimp only); first | assumption | omega | trivial), by rw [ht]; exact hP9, hD9⟩, hS.F ht⟩) hS.2.2 d_DiscMakerModel_lay_260
          · skip
            have g102_84 : v27.toInt = 1 := (i_eq rfl (by decide)).mp h_9
            refine lv_ldcw (v := 32768) hx hb hown (ht9 _ k1768) d_DiscMakerModel_lay_105 ?_
            refine lv_goto (tgt := 114) hx hb d_DiscMakerModel_lay_108 (by decide) ?_
            refine lv_aload_n hx hb d_DiscMakerModel_lay_114 rfl (lv_at hl 1 rfl) ?_
            refine va_get (D := D) (ci := 11) (v := .ref (ma 3)) (C := "DiscMakerModel") (T := F_DiscMakerModel) (N := 48) hx hb ht9 in_DiscMakerModel hown hK hP 9 rfl rfl 6 (by decide) (ht9 _ k1437) (fun _ h9 => h9) rfl d_DiscMakerModel_lay_115 ?_
            refine lv_iload_n hx hb d_DiscMakerModel_lay_118 rfl (lv_at hl 4 rfl) ?_
            refine va_iald hx hb hK hP 1 1 rfl rfl (vp_in_iff.mpr ⟨by omega, by omega⟩) d_DiscMakerModel_lay_119 ?_
            refine lv_topi (fun v45 e_v45 => ?_)
            refine lv_sipush (v := 4096) hx hb d_DiscMakerModel_lay_120 (by decide) ?_
            refine lv_irem hx hb d_DiscMakerModel_lay_123 (by decide) ?_
            refine lv_topi (fun v46 e_v46 => ?_)
            refine lv_iadd hx hb d_DiscMakerModel_lay_124 ?_
            refine lv_topi (fun v47 e_v47 => ?_)
            have hPc := hP.sub (ws' := [(h0, .inr (11, MO ma sv_thrown sv_length sv_nodes sv_many sv_directories sv_runsFrom sv_runs sv_read sv_wrong sv_isNamed sv_goes sv_goesSize sv_goesAt sv_targetParts sv_isRoot)), ((ma 16), .inl (cJ, 46080, .inr (.inl G_24)))]) [9, 10] rfl
            have hDc := hD.sub (ws' := [(h0, .inr (11, MO ma sv_thrown sv_length sv_nodes sv_many sv_directories sv_runsFrom sv_runs sv_read sv_wrong sv_isNamed sv_goes sv_goesSize sv_goesAt sv_targetParts sv_isRoot)), ((ma 16), .inl (cJ, 46080, .inr (.inl G_24)))]) [9, 10] (by decide +kernel) rfl
            have hFc := va_free (wc := [(h0, .inr (11, MO ma sv_thrown sv_length sv_nodes sv_many sv_directories sv_runsFrom sv_runs sv_read sv_wrong sv_isNamed sv_goes sv_goesSize sv_goesAt sv_targetParts sv_isRoot)), ((ma 16), .inl (cJ, 46080, .inr (.inl G_24)))]) hD hS hA [9, 10] rfl
            have hkc : 0 ≤ 0 := by decide
            have hks : 0 ≤ 0 := by decide
            refine va_callv (va_runV (C := "DiscMakerModel") (As := [.int v25, .int 4, .int v47]) (rest := []) ⟨hx, hb, hml, hown, hts⟩ (m_both l D cB cI cJ cZ cN cF H.size h0 ma sv_thrown sv_length sv_nodes sv_many sv_directories sv_runsFrom sv_runs sv_read sv_wrong sv_isNamed sv_goes sv_goesSize sv_goesAt sv_targetParts sv_isRoot G_24 v25 4 v47 (by (try dsimp only); first | assumption | omega | trivial) (by (try dsimp only); first | assumption | omega | trivial) (by (try dsimp only); first | assumption | omega | trivial)) (cwV 3 hts (lg_goodV k1740 k1742 k81 k125 kc_DiscMakerModel_both) rfl rfl rfl (by decide +kernel) ⟨Nat.le_of_ble_eq_true rfl, Nat.le_of_ble_eq_true rfl⟩) ⟨fun a U g mk q => by obtain ⟨q0, q1, qP, qK, qN, qD⟩ := q; exact ⟨q0, q1, qP, va_K.moved (u := U) (U := U.calling g mk a) (Vm.Alike.refl U.vm) qK, qN.calling, qD⟩, va_recv hK hP (ci := 11) (q0 := 9) rfl rfl, fun U hU hW => ⟨rfl, by rw [hU], by rw [hU]; exact hPc, va_K.moved hW.alike hK, NN.warm hW hN, hDc.weaken (fun _ _ _ _ => trivial)⟩⟩ rfl rfl hl.1 rfl (lv_room (Nat.le_of_ble_eq_true rfl)) d_DiscMakerModel_lay_125 ⟨hkc, hks⟩) hS (fun q _ h => hFc q h) hFc (fun u t H1 locs ht hvm hp_r48 hB hz1 hk1 hS => ?_)
            obtain ⟨G_49, rfl⟩ : ∃ z, z = u := ⟨_, rfl⟩
            obtain ⟨hP1, hD1⟩ := hB
            rw [ht] at hP1
            obtain ⟨hP, hD⟩ := va_join (wr := [((ma 2), .inl (cI, 40, .inl fP)), ((ma 3), .inl (cI, 40, .inl fM)), ((ma 4), .inl (cI, 40, .inl fO)), ((ma 5), .inl (cI, 40, .inl fG)), ((ma 8), .inl (cB, 1200, .inl fN)), ((ma 1), .inl (cI, 40, .inl fK)), ((ma 9), .inl (cI, 40, .inl fNS)), ((ma 10), .inl (cB, 8000, .inl fT)), ((ma 11), .inl (cI, 40, .inl fTS))]) (w1 := [(h0, .inr (11, MO ma sv_thrown sv_length sv_nodes sv_many sv_directories sv_runsFrom sv_runs sv_read sv_wrong sv_isNamed sv_goes sv_goesSize sv_goesAt sv_targetParts sv_isRoot)), ((ma 16), .inl (cJ, 46080, .inr (.inl G_49)))]) hP hD [9, 10] [0, 1, 2, 3, 4, 5, 6, 7, 8] rfl rfl (by decide +kernel) (by decide +kernel) hk1 hFc hP1 hD1
            clear hPc hDc hFc hP1 hD1 hk1 hz1 hkc hks
            generalize H1 = H at hP hS ⊢
            have hP : va_P D CL [((ma 2), .inl (cI, 40, .inl fP)), ((ma 3), .inl (cI, 40, .inl fM)), ((ma 4), .inl (cI, 40, .inl fO)), ((ma 5), .inl (cI, 40, .inl fG)), ((ma 8), .inl (cB, 1200, .inl fN)), ((ma 1), .inl (cI, 40, .inl fK)), ((ma 9), .inl (cI, 40, .inl fNS)), ((ma 10), .inl (cB, 8000, .inl fT)), ((ma 11), .inl (cI, 40, .inl fTS)), (h0, .inr (11, MO ma sv_thrown sv_length sv_nodes sv_many sv_directories sv_runsFrom sv_runs sv_read sv_wrong sv_isNamed sv_goes sv_goesSize sv_goesAt sv_targetParts sv_isRoot)), ((ma 16), .inl (cJ, 46080, .inr (.inl G_49)))] H := hP
            have hD : va_D A [((ma 2), .inl (cI, 40, .inl fP)), ((ma 3), .inl (cI, 40, .inl fM)), ((ma 4), .inl (cI, 40, .inl fO)), ((ma 5), .inl (cI, 40, .inl fG)), ((ma 8), .inl (cB, 1200, .inl fN)), ((ma 1), .inl (cI, 40, .inl fK)), ((ma 9), .inl (cI, 40, .inl fNS)), ((ma 10), .inl (cB, 8000, .inl fT)), ((ma 11), .inl (cI, 40, .inl fTS)), (h0, .inr (11, MO ma sv_thrown sv_length sv_nodes sv_many sv_directories sv_runsFrom sv_runs sv_read sv_wrong sv_isNamed sv_goes sv_goesSize sv_goesAt sv_targetParts sv_isRoot)), ((ma 16), .inl (cJ, 46080, .inr (.inl G_49)))] := hD
            refine lv_aload_n hx hb d_DiscMakerModel_lay_128 rfl (lv_at hl 1 rfl) ?_
            refine lv_iload hx hb d_DiscMakerModel_lay_129 (lv_at hl 5 rfl) ?_
            refine lv_bipush (v := 12) hx hb d_DiscMakerModel_lay_131 (by decide) ?_
            refine lv_iadd hx hb d_DiscMakerModel_lay_133 ?_
            refine lv_topi (fun v50 e_v50 => ?_)
            have t_v50 : v50.toInt = w.toInt + 12 := by rw [e_v50]; exact i_add rfl (by decide) (by omega) (by omega)
            refine lv_iconst (v := 4) hx hb d_DiscMakerModel_lay_134 (by decide) ?_
            refine lv_aload_n hx hb d_DiscMakerModel_lay_135 rfl (lv_at hl 1 rfl) ?_
            refine lv_iload_n hx hb d_DiscMakerModel_lay_136 rfl (lv_at hl 4 rfl) ?_
            have hPc := hP.sub (ws' := [(h0, .inr (11, MO ma sv_thrown sv_length sv_nodes sv_many sv_directories sv_runsFrom sv_runs sv_read sv_wrong sv_isNamed sv_goes sv_goesSize sv_goesAt sv_targetParts sv_isRoot)), ((ma 1), .inl (cI, 40, .inl fK)), ((ma 2), .inl (cI, 40, .inl fP))]) [9, 5, 0] rfl
            have hDc := hD.sub (ws' := [(h0, .inr (11, MO ma sv_thrown sv_length sv_nodes sv_many sv_directories sv_runsFrom sv_runs sv_read sv_wrong sv_isNamed sv_goes sv_goesSize sv_goesAt sv_targetParts sv_isRoot)), ((ma 1), .inl (cI, 40, .inl fK)), ((ma 2), .inl (cI, 40, .inl fP))]) [9, 5, 0] (by decide +kernel) rfl
            have hFc := va_free (wc := [(h0, .inr (11, MO ma sv_thrown sv_length sv_nodes sv_many sv_directories sv_runsFrom sv_runs sv_read sv_wrong sv_isNamed sv_goes sv_goesSize sv_goesAt sv_targetParts sv_isRoot)), ((ma 1), .inl (cI, 40, .inl fK)), ((ma 2), .inl (cI, 40, .inl fP))]) hD hS hA [9, 5, 0] rfl
            have hkc : 0 ≤ 0 := by decide
            have hks : 0 ≤ 0 := by decide
            refine va_calli (va_runV (C := "DiscMakerModel") (As := [.int z]) (rest := [.int 4, .int v50, .ref h0]) ⟨hx, hb, hml, hown, hts⟩ (m_links l D cB cI cJ cZ cN cF H.size h0 ma sv_thrown sv_length sv_nodes sv_many sv_directories sv_runsFrom sv_runs sv_read sv_wrong sv_isNamed sv_goes sv_goesSize sv_goesAt sv_targetParts sv_isRoot fK fP z (by (try dsimp only); first | assumption | omega | trivial) (by (try dsimp only); first | assumption | omega | trivial)) (cwV 1 hts (lg_goodV k1770 k1772 k88 k125 kc_DiscMakerModel_links) rfl rfl rfl (by decide +kernel) ⟨Nat.le_of_ble_eq_true rfl, Nat.le_of_ble_eq_true rfl⟩) ⟨fun a U g mk q => by obtain ⟨q0, q1, qP, qK, qN, qD⟩ := q; exact ⟨q0, q1, qP, va_K.moved (u := U) (U := U.calling g mk a) (Vm.Alike.refl U.vm) qK, qN.calling, qD⟩, va_recv hK hP (ci := 11) (q0 := 9) rfl rfl, fun U hU hW => ⟨rfl, by rw [hU], by rw [hU]; exact hPc, va_K.moved hW.alike hK, NN.warm hW hN, hDc.weaken (fun _ _ _ _ => trivial)⟩⟩ rfl rfl hl.1 rfl (lv_room (Nat.le_of_ble_eq_true rfl)) d_DiscMakerModel_lay_137 ⟨hkc, hks⟩) hS (fun q _ h => hFc q h) hFc (fun r51 u t H1 locs ht hvm hp_r51 hB hz1 hk1 hS => ?_)
            obtain ⟨hP1, hD1⟩ := hB
            rw [ht] at hP1
            obtain ⟨hP, hD⟩ := va_join (wr := [((ma 3), .inl (cI, 40, .inl fM)), ((ma 4), .inl (cI, 40, .inl fO)), ((ma 5), .inl (cI, 40, .inl fG)), ((ma 8), .inl (cB, 1200, .inl fN)), ((ma 9), .inl (cI, 40, .inl fNS)), ((ma 10), .inl (cB, 8000, .inl fT)), ((ma 11), .inl (cI, 40, .inl fTS)), ((ma 16), .inl (cJ, 46080, .inr (.inl G_49)))]) (w1 := [(h0, .inr (11, MO ma sv_thrown sv_length sv_nodes sv_many sv_directories sv_runsFrom sv_runs sv_read sv_wrong sv_isNamed sv_goes sv_goesSize sv_goesAt sv_targetParts sv_isRoot)), ((ma 1), .inl (cI, 40, .inl fK)), ((ma 2), .inl (cI, 40, .inl fP))]) hP hD [9, 5, 0] [1, 2, 3, 4, 6, 7, 8, 10] rfl rfl (by decide +kernel) (by decide +kernel) hk1 hFc hP1 hD1
            clear hPc hDc hFc hP1 hD1 hk1 hz1 hkc hks
            generalize H1 = H at hP hS ⊢
            have hP : va_P D CL [((ma 3), .inl (cI, 40, .inl fM)), ((ma 4), .inl (cI, 40, .inl fO)), ((ma 5), .inl (cI, 40, .inl fG)), ((ma 8), .inl (cB, 1200, .inl fN)), ((ma 9), .inl (cI, 40, .inl fNS)), ((ma 10), .inl (cB, 8000, .inl fT)), ((ma 11), .inl (cI, 40, .inl fTS)), ((ma 16), .inl (cJ, 46080, .inr (.inl G_49))), (h0, .inr (11, MO ma sv_thrown sv_length sv_nodes sv_many sv_directories sv_runsFrom sv_runs sv_read sv_wrong sv_isNamed sv_goes sv_goesSize sv_goesAt sv_targetParts sv_isRoot)), ((ma 1), .inl (cI, 40, .inl fK)), ((ma 2), .inl (cI, 40, .inl fP))] H := hP
            have hD : va_D A [((ma 3), .inl (cI, 40, .inl fM)), ((ma 4), .inl (cI, 40, .inl fO)), ((ma 5), .inl (cI, 40, .inl fG)), ((ma 8), .inl (cB, 1200, .inl fN)), ((ma 9), .inl (cI, 40, .inl fNS)), ((ma 10), .inl (cB, 8000, .inl fT)), ((ma 11), .inl (cI, 40, .inl fTS)), ((ma 16), .inl (cJ, 46080, .inr (.inl G_49))), (h0, .inr (11, MO ma sv_thrown sv_length sv_nodes sv_many sv_directories sv_runsFrom sv_runs sv_read sv_wrong sv_isNamed sv_goes sv_goesSize sv_goesAt sv_targetParts sv_isRoot)), ((ma 1), .inl (cI, 40, .inl fK)), ((ma 2), .inl (cI, 40, .inl fP))] := hD
            have hPc := hP.sub (ws' := [(h0, .inr (11, MO ma sv_thrown sv_length sv_nodes sv_many sv_directories sv_runsFrom sv_runs sv_read sv_wrong sv_isNamed sv_goes sv_goesSize sv_goesAt sv_targetParts sv_isRoot)), ((ma 16), .inl (cJ, 46080, .inr (.inl G_49)))]) [8, 7] rfl
            have hDc := hD.sub (ws' := [(h0, .inr (11, MO ma sv_thrown sv_length sv_nodes sv_many sv_directories sv_runsFrom sv_runs sv_read sv_wrong sv_isNamed sv_goes sv_goesSize sv_goesAt sv_targetParts sv_isRoot)), ((ma 16), .inl (cJ, 46080, .inr (.inl G_49)))]) [8, 7] (by decide +kernel) rfl
            have hFc := va_free (wc := [(h0, .inr (11, MO ma sv_thrown sv_length sv_nodes sv_many sv_directories sv_runsFrom sv_runs sv_read sv_wrong sv_isNamed sv_goes sv_goesSize sv_goesAt sv_targetParts sv_isRoot)), ((ma 16), .inl (cJ, 46080, .inr (.inl G_49)))]) hD hS hA [8, 7] rfl
            have hkc : 0 ≤ 0 := by decide
            have hks : 0 ≤ 0 := by decide
            refine va_callv (va_runV (C := "DiscMakerModel") (As := [.int v50, .int 4, .int r51]) (rest := []) ⟨hx, hb, hml, hown, hts⟩ (m_both l D cB cI cJ cZ cN cF H.size h0 ma sv_thrown sv_length sv_nodes sv_many sv_directories sv_runsFrom sv_runs sv_read sv_wrong sv_isNamed sv_goes sv_goesSize sv_goesAt sv_targetParts sv_isRoot G_49 v50 4 r51 (by (try dsimp only); first | assumption | omega | trivial) (by (try dsimp only); first | assumption | omega | trivial) (by (try dsimp only); first | assumption | omega | trivial)) (cwV 3 hts (lg_goodV k1740 k1742 k81 k125 kc_DiscMakerModel_both) rfl rfl rfl (by decide +kernel) ⟨Nat.le_of_ble_eq_true rfl, Nat.le_of_ble_eq_true rfl⟩) ⟨fun a U g mk q => by obtain ⟨q0, q1, qP, qK, qN, qD⟩ := q; exact ⟨q0, q1, qP, va_K.moved (u := U) (U := U.calling g mk a) (Vm.Alike.refl U.vm) qK, qN.calling, qD⟩, va_recv hK hP (ci := 11) (q0 := 8) rfl rfl, fun U hU hW => ⟨rfl, by rw [hU], by rw [hU]; exact hPc, va_K.moved hW.alike hK, NN.warm hW hN, hDc.weaken (fun _ _ _ _ => trivial)⟩⟩ rfl rfl hl.1 rfl (lv_room (Nat.le_of_ble_eq_true rfl)) d_DiscMakerModel_lay_140 ⟨hkc, hks⟩) hS (fun q _ h => hFc q h) hFc (fun u t H1 locs ht hvm hp_r52 hB hz1 hk1 hS => ?_)
            obtain ⟨G_53, rfl⟩ : ∃ z, z = u := ⟨_, rfl⟩
            obtain ⟨hP1, hD1⟩ := hB
            rw [ht] at hP1
            obtain ⟨hP, hD⟩ := va_join (wr := [((ma 3), .inl (cI, 40, .inl fM)), ((ma 4), .inl (cI, 40, .inl fO)), ((ma 5), .inl (cI, 40, .inl fG)), ((ma 8), .inl (cB, 1200, .inl fN)), ((ma 9), .inl (cI, 40, .inl fNS)), ((ma 10), .inl (cB, 8000, .inl fT)), ((ma 11), .inl (cI, 40, .inl fTS)), ((ma 1), .inl (cI, 40, .inl fK)), ((ma 2), .inl (cI, 40, .inl fP))]) (w1 := [(h0, .inr (11, MO ma sv_thrown sv_length sv_nodes sv_many sv_directories sv_runsFrom sv_runs sv_read sv_wrong sv_isNamed sv_goes sv_goesSize sv_goesAt sv_targetParts sv_isRoot)), ((ma 16), .inl (cJ, 46080, .inr (.inl G_53)))]) hP hD [8, 7] [0, 1, 2, 3, 4, 5, 6, 9, 10] rfl rfl (by decide +kernel) (by decide +kernel) hk1 hFc hP1 hD1
            clear hPc hDc hFc hP1 hD1 hk1 hz1 hkc hks
            generalize H1 = H at hP hS ⊢
            have hP : va_P D CL [((ma 3), .inl (cI, 40, .inl fM)), ((ma 4), .inl (cI, 40, .inl fO)), ((ma 5), .inl (cI, 40, .inl fG)), ((ma 8), .inl (cB, 1200, .inl fN)), ((ma 9), .inl (cI, 40, .inl fNS)), ((ma 10), .inl (cB, 8000, .inl fT)), ((ma 11), .inl (cI, 40, .inl fTS)), ((ma 1), .inl (cI, 40, .inl fK)), ((ma 2), .inl (cI, 40, .inl fP)), (h0, .inr (11, MO ma sv_thrown sv_length sv_nodes sv_many sv_directories sv_runsFrom sv_runs sv_read sv_wrong sv_isNamed sv_goes sv_goesSize sv_goesAt sv_targetParts sv_isRoot)), ((ma 16), .inl (cJ, 46080, .inr (.inl G_53)))] H := hP
            have hD : va_D A [((ma 3), .inl (cI, 40, .inl fM)), ((ma 4), .inl (cI, 40, .inl fO)), ((ma 5), .inl (cI, 40, .inl fG)), ((ma 8), .inl (cB, 1200, .inl fN)), ((ma 9), .inl (cI, 40, .inl fNS)), ((ma 10), .inl (cB, 8000, .inl fT)), ((ma 11), .inl (cI, 40, .inl fTS)), ((ma 1), .inl (cI, 40, .inl fK)), ((ma 2), .inl (cI, 40, .inl fP)), (h0, .inr (11, MO ma sv_thrown sv_length sv_nodes sv_many sv_directories sv_runsFrom sv_runs sv_read sv_wrong sv_isNamed sv_goes sv_goesSize sv_goesAt sv_targetParts sv_isRoot)), ((ma 16), .inl (cJ, 46080, .inr (.inl G_53)))] := hD
            refine lv_aload_n hx hb d_DiscMakerModel_lay_143 rfl (lv_at hl 1 rfl) ?_
            refine lv_iload hx hb d_DiscMakerModel_lay_144 (lv_at hl 5 rfl) ?_
            refine lv_bipush (v := 20) hx hb d_DiscMakerModel_lay_146 (by decide) ?_
            refine lv_iadd hx hb d_DiscMakerModel_lay_148 ?_
            refine lv_topi (fun v54 e_v54 => ?_)
            have t_v54 : v54.toInt = w.toInt + 20 := by rw [e_v54]; exact i_add rfl (by decide) (by omega) (by omega)
            refine lv_iconst (v := 4) hx hb d_DiscMakerModel_lay_149 (by decide) ?_
            refine lv_aload_n hx hb d_DiscMakerModel_lay_150 rfl (lv_at hl 1 rfl) ?_
            refine va_get (D := D) (ci := 11) (v := .ref (ma 4)) (C := "DiscMakerModel") (T := F_DiscMakerModel) (N := 48) hx hb ht9 in_DiscMakerModel hown hK hP 9 rfl rfl 7 (by decide) (ht9 _ k1438) (fun _ h9 => h9) rfl d_DiscMakerModel_lay_151 ?_
            refine lv_iload_n hx hb d_DiscMakerModel_lay_154 rfl (lv_at hl 4 rfl) ?_
            refine va_iald hx hb hK hP 1 1 rfl rfl (vp_in_iff.mpr ⟨by omega, by omega⟩) d_DiscMakerModel_lay_155 ?_
            refine lv_topi (fun v55 e_v55 => ?_)
            have hPc := hP.sub (ws' := [(h0, .inr (11, MO ma sv_thrown sv_length sv_nodes sv_many sv_directories sv_runsFrom sv_runs sv_read sv_wrong sv_isNamed sv_goes sv_goesSize sv_goesAt sv_targetParts sv_isRoot)), ((ma 16), .inl (cJ, 46080, .inr (.inl G_53)))]) [9, 10] rfl
            have hDc := hD.sub (ws' := [(h0, .inr (11, MO ma sv_thrown sv_length sv_nodes sv_many sv_directories sv_runsFrom sv_runs sv_read sv_wrong sv_isNamed sv_goes sv_goesSize sv_goesAt sv_targetParts sv_isRoot)), ((ma 16), .inl (cJ, 46080, .inr (.inl G_53)))]) [9, 10] (by decide +kernel) rfl
            have hFc := va_free (wc := [(h0, .inr (11, MO ma sv_thrown sv_length sv_nodes sv_many sv_directories sv_runsFrom sv_runs sv_read sv_wrong sv_isNamed sv_goes sv_goesSize sv_goesAt sv_targetParts sv_isRoot)), ((ma 16), .inl (cJ, 46080, .inr (.inl G_53)))]) hD hS hA [9, 10] rfl
            have hkc : 0 ≤ 0 := by decide
            have hks : 0 ≤ 0 := by decide
            refine va_callv (va_runV (C := "DiscMakerModel") (As := [.int v54, .int 4, .int v55]) (rest := []) ⟨hx, hb, hml, hown, hts⟩ (m_both l D cB cI cJ cZ cN cF H.size h0 ma sv_thrown sv_length sv_nodes sv_many sv_directories sv_runsFrom sv_runs sv_read sv_wrong sv_isNamed sv_goes sv_goesSize sv_goesAt sv_targetParts sv_isRoot G_53 v54 4 v55 (by (try dsimp only); first | assumption | omega | trivial) (by (try dsimp only); first | assumption | omega | trivial) (by (try dsimp only); first | assumption | omega | trivial)) (cwV 3 hts (lg_goodV k1740 k1742 k81 k125 kc_DiscMakerModel_both) rfl rfl rfl (by decide +kernel) ⟨Nat.le_of_ble_eq_true rfl, Nat.le_of_ble_eq_true rfl⟩) ⟨fun a U g mk q => by obtain ⟨q0, q1, qP, qK, qN, qD⟩ := q; exact ⟨q0, q1, qP, va_K.moved (u := U) (U := U.calling g mk a) (Vm.Alike.refl U.vm) qK, qN.calling, qD⟩, va_recv hK hP (ci := 11) (q0 := 9) rfl rfl, fun U hU hW => ⟨rfl, by rw [hU], by rw [hU]; exact hPc, va_K.moved hW.alike hK, NN.warm hW hN, hDc.weaken (fun _ _ _ _ => trivial)⟩⟩ rfl rfl hl.1 rfl (lv_room (Nat.le_of_ble_eq_true rfl)) d_DiscMakerModel_lay_156 ⟨hkc, hks⟩) hS (fun q _ h => hFc q h) hFc (fun u t H1 locs ht hvm hp_r56 hB hz1 hk1 hS => ?_)
            obtain ⟨G_57, rfl⟩ : ∃ z, z = u := ⟨_, rfl⟩
            obtain ⟨hP1, hD1⟩ := hB
            rw [ht] at hP1
            obtain ⟨hP, hD⟩ := va_join (wr := [((ma 3), .inl (cI, 40, .inl fM)), ((ma 4), .inl (cI, 40, .inl fO)), ((ma 5), .inl (cI, 40, .inl fG)), ((ma 8), .inl (cB, 1200, .inl fN)), ((ma 9), .inl (cI, 40, .inl fNS)), ((ma 10), .inl (cB, 8000, .inl fT)), ((ma 11), .inl (cI, 40, .inl fTS)), ((ma 1), .inl (cI, 40, .inl fK)), ((ma 2), .inl (cI, 40, .inl fP))]) (w1 := [(h0, .inr (11, MO ma sv_thrown sv_length sv_nodes sv_many sv_directories sv_runsFrom sv_runs sv_read sv_wrong sv_isNamed sv_goes sv_goesSize sv_goesAt sv_targetParts sv_isRoot)), ((ma 16), .inl (cJ, 46080, .inr (.inl G_57)))]) hP hD [9, 10] [0, 1, 2, 3, 4, 5, 6, 7, 8] rfl rfl (by decide +kernel) (by decide +kernel) hk1 hFc hP1 hD1
            clear hPc hDc hFc hP1 hD1 hk1 hz1 hkc hks
            generalize H1 = H at hP hS ⊢
            have hP : va_P D CL [((ma 3), .inl (cI, 40, .inl fM)), ((ma 4), .inl (cI, 40, .inl fO)), ((ma 5), .inl (cI, 40, .inl fG)), ((ma 8), .inl (cB, 1200, .inl fN)), ((ma 9), .inl (cI, 40, .inl fNS)), ((ma 10), .inl (cB, 8000, .inl fT)), ((ma 11), .inl (cI, 40, .inl fTS)), ((ma 1), .inl (cI, 40, .inl fK)), ((ma 2), .inl (cI, 40, .inl fP)), (h0, .inr (11, MO ma sv_thrown sv_length sv_nodes sv_many sv_directories sv_runsFrom sv_runs sv_read sv_wrong sv_isNamed sv_goes sv_goesSize sv_goesAt sv_targetParts sv_isRoot)), ((ma 16), .inl (cJ, 46080, .inr (.inl G_57)))] H := hP
            have hD : va_D A [((ma 3), .inl (cI, 40, .inl fM)), ((ma 4), .inl (cI, 40, .inl fO)), ((ma 5), .inl (cI, 40, .inl fG)), ((ma 8), .inl (cB, 1200, .inl fN)), ((ma 9), .inl (cI, 40, .inl fNS)), ((ma 10), .inl (cB, 8000, .inl fT)), ((ma 11), .inl (cI, 40, .inl fTS)), ((ma 1), .inl (cI, 40, .inl fK)), ((ma 2), .inl (cI, 40, .inl fP)), (h0, .inr (11, MO ma sv_thrown sv_length sv_nodes sv_many sv_directories sv_runsFrom sv_runs sv_read sv_wrong sv_isNamed sv_goes sv_goesSize sv_goesAt sv_targetParts sv_isRoot)), ((ma 16), .inl (cJ, 46080, .inr (.inl G_57)))] := hD
            refine lv_aload_n hx hb d_DiscMakerModel_lay_159 rfl (lv_at hl 1 rfl) ?_
            refine lv_iload hx hb d_DiscMakerModel_lay_160 (lv_at hl 5 rfl) ?_
            refine lv_bipush (v := 28) hx hb d_DiscMakerModel_lay_162 (by decide) ?_
            refine lv_iadd hx hb d_DiscMakerModel_lay_164 ?_
            refine lv_topi (fun v58 e_v58 => ?_)
            have t_v58 : v58.toInt = w.toInt + 28 := by rw [e_v58]; exact i_add rfl (by decide) (by omega) (by omega)
            refine lv_iconst (v := 4) hx hb d_DiscMakerModel_lay_165 (by decide) ?_
            refine lv_aload_n hx hb d_DiscMakerModel_lay_166 rfl (lv_at hl 1 rfl) ?_
            refine va_get (D := D) (ci := 11) (v := .ref (ma 5)) (C := "DiscMakerModel") (T := F_DiscMakerModel) (N := 48) hx hb ht9 in_DiscMakerModel hown hK hP 9 rfl rfl 8 (by decide) (ht9 _ k1439) (fun _ h9 => h9) rfl d_DiscMakerModel_lay_167 ?_
            refine lv_iload_n hx hb d_DiscMakerModel_lay_170 rfl (lv_at hl 4 rfl) ?_
            refine va_iald hx hb hK hP 2 1 rfl rfl (vp_in_iff.mpr ⟨by omega, by omega⟩) d_DiscMakerModel_lay_171 ?_
            refine lv_topi (fun v59 e_v59 => ?_)
            have hPc := hP.sub (ws' := [(h0, .inr (11, MO ma sv_thrown sv_length sv_nodes sv_many sv_directories sv_runsFrom sv_runs sv_read sv_wrong sv_isNamed sv_goes sv_goesSize sv_goesAt sv_targetParts sv_isRoot)), ((ma 16), .inl (cJ, 46080, .inr (.inl G_57)))]) [9, 10] rfl
            have hDc := hD.sub (ws' := [(h0, .inr (11, MO ma sv_thrown sv_length sv_nodes sv_many sv_directories sv_runsFrom sv_runs sv_read sv_wrong sv_isNamed sv_goes sv_goesSize sv_goesAt sv_targetParts sv_isRoot)), ((ma 16), .inl (cJ, 46080, .inr (.inl G_57)))]) [9, 10] (by decide +kernel) rfl
            have hFc := va_free (wc := [(h0, .inr (11, MO ma sv_thrown sv_length sv_nodes sv_many sv_directories sv_runsFrom sv_runs sv_read sv_wrong sv_isNamed sv_goes sv_goesSize sv_goesAt sv_targetParts sv_isRoot)), ((ma 16), .inl (cJ, 46080, .inr (.inl G_57)))]) hD hS hA [9, 10] rfl
            have hkc : 0 ≤ 0 := by decide
            have hks : 0 ≤ 0 := by decide
            refine va_callv (va_runV (C := "DiscMakerModel") (As := [.int v58, .int 4, .int v59]) (rest := []) ⟨hx, hb, hml, hown, hts⟩ (m_both l D cB cI cJ cZ cN cF H.size h0 ma sv_thrown sv_length sv_nodes sv_many sv_directories sv_runsFrom sv_runs sv_read sv_wrong sv_isNamed sv_goes sv_goesSize sv_goesAt sv_targetParts sv_isRoot G_57 v58 4 v59 (by (try dsimp only); first | assumption | omega | trivial) (by (try dsimp only); first | assumption | omega | trivial) (by (try dsimp only); first | assumption | omega | trivial)) (cwV 3 hts (lg_goodV k1740 k1742 k81 k125 kc_DiscMakerModel_both) rfl rfl rfl (by decide +kernel) ⟨Nat.le_of_ble_eq_true rfl, Nat.le_of_ble_eq_true rfl⟩) ⟨fun a U g mk q => by obtain ⟨q0, q1, qP, qK, qN, qD⟩ := q; exact ⟨q0, q1, qP, va_K.moved (u := U) (U := U.calling g mk a) (Vm.Alike.refl U.vm) qK, qN.calling, qD⟩, va_recv hK hP (ci := 11) (q0 := 9) rfl rfl, fun U hU hW => ⟨rfl, by rw [hU], by rw [hU]; exact hPc, va_K.moved hW.alike hK, NN.warm hW hN, hDc.weaken (fun _ _ _ _ => trivial)⟩⟩ rfl rfl hl.1 rfl (lv_room (Nat.le_of_ble_eq_true rfl)) d_DiscMakerModel_lay_172 ⟨hkc, hks⟩) hS (fun q _ h => hFc q h) hFc (fun u t H1 locs ht hvm hp_r60 hB hz1 hk1 hS => ?_)
            obtain ⟨G_61, rfl⟩ : ∃ z, z = u := ⟨_, rfl⟩
            obtain ⟨hP1, hD1⟩ := hB
            rw [ht] at hP1
            obtain ⟨hP, hD⟩ := va_join (wr := [((ma 3), .inl (cI, 40, .inl fM)), ((ma 4), .inl (cI, 40, .inl fO)), ((ma 5), .inl (cI, 40, .inl fG)), ((ma 8), .inl (cB, 1200, .inl fN)), ((ma 9), .inl (cI, 40, .inl fNS)), ((ma 10), .inl (cB, 8000, .inl fT)), ((ma 11), .inl (cI, 40, .inl fTS)), ((ma 1), .inl (cI, 40, .inl fK)), ((ma 2), .inl (cI, 40, .inl fP))]) (w1 := [(h0, .inr (11, MO ma sv_thrown sv_length sv_nodes sv_many sv_directories sv_runsFrom sv_runs sv_read sv_wrong sv_isNamed sv_goes sv_goesSize sv_goesAt sv_targetParts sv_isRoot)), ((ma 16), .inl (cJ, 46080, .inr (.inl G_61)))]) hP hD [9, 10] [0, 1, 2, 3, 4, 5, 6, 7, 8] rfl rfl (by decide +kernel) (by decide +kernel) hk1 hFc hP1 hD1
            clear hPc hDc hFc hP1 hD1 hk1 hz1 hkc hks
            generalize H1 = H at hP hS ⊢
            have hP : va_P D CL [((ma 3), .inl (cI, 40, .inl fM)), ((ma 4), .inl (cI, 40, .inl fO)), ((ma 5), .inl (cI, 40, .inl fG)), ((ma 8), .inl (cB, 1200, .inl fN)), ((ma 9), .inl (cI, 40, .inl fNS)), ((ma 10), .inl (cB, 8000, .inl fT)), ((ma 11), .inl (cI, 40, .inl fTS)), ((ma 1), .inl (cI, 40, .inl fK)), ((ma 2), .inl (cI, 40, .inl fP)), (h0, .inr (11, MO ma sv_thrown sv_length sv_nodes sv_many sv_directories sv_runsFrom sv_runs sv_read sv_wrong sv_isNamed sv_goes sv_goesSize sv_goesAt sv_targetParts sv_isRoot)), ((ma 16), .inl (cJ, 46080, .inr (.inl G_61)))] H := hP
            have hD : va_D A [((ma 3), .inl (cI, 40, .inl fM)), ((ma 4), .inl (cI, 40, .inl fO)), ((ma 5), .inl (cI, 40, .inl fG)), ((ma 8), .inl (cB, 1200, .inl fN)), ((ma 9), .inl (cI, 40, .inl fNS)), ((ma 10), .inl (cB, 8000, .inl fT)), ((ma 11), .inl (cI, 40, .inl fTS)), ((ma 1), .inl (cI, 40, .inl fK)), ((ma 2), .inl (cI, 40, .inl fP)), (h0, .inr (11, MO ma sv_thrown sv_length sv_nodes sv_many sv_directories sv_runsFrom sv_runs sv_read sv_wrong sv_isNamed sv_goes sv_goesSize sv_goesAt sv_targetParts sv_isRoot)), ((ma 16), .inl (cJ, 46080, .inr (.inl G_61)))] := hD
            refine lv_goto (tgt := 258) hx hb d_DiscMakerModel_lay_175 (by decide) ?_
            refine lv_iload hx hb d_DiscMakerModel_lay_258 (lv_at hl 0 rfl) ?_
            have hP9 := hP.sub (ws' := [(h0, .inr (11, MO ma sv_thrown sv_length sv_nodes sv_many sv_directories sv_runsFrom sv_runs sv_read sv_wrong sv_isNamed sv_goes sv_goesSize sv_goesAt sv_targetParts sv_isRoot)), ((ma 16), .inl (cJ, 46080, .inr (.inl G_61))), ((ma 1), .inl (cI, 40, .inl fK)), ((ma 2), .inl (cI, 40, .inl fP)), ((ma 3), .inl (cI, 40, .inl fM)), ((ma 4), .inl (cI, 40, .inl fO)), ((ma 5), .inl (cI, 40, .inl fG)), ((ma 8), .inl (cB, 1200, .inl fN)), ((ma 9), .inl (cI, 40, .inl fNS)), ((ma 10), .inl (cB, 8000, .inl fT)), ((ma 11), .inl (cI, 40, .inl fTS))]) [9, 10, 7, 8, 0, 1, 2, 3, 4, 5, 6] rfl
            have hD9 := hD.sub (ws' := [(h0, .inr (11, MO ma sv_thrown sv_length sv_nodes sv_many sv_directories sv_runsFrom sv_runs sv_read sv_wrong sv_isNamed sv_goes sv_goesSize sv_goesAt sv_targetParts sv_isRoot)), ((ma 16), .inl (cJ, 46080, .inr (.inl G_61))), ((ma 1), .inl (cI, 40, .inl fK)), ((ma 2), .inl (cI, 40, .inl fP)), ((ma 3), .inl (cI, 40, .inl fM)), ((ma 4), .inl (cI, 40, .inl fO)), ((ma 5), .inl (cI, 40, .inl fG)), ((ma 8), .inl (cB, 1200, .inl fN)), ((ma 9), .inl (cI, 40, .inl fNS)), ((ma 10), .inl (cB, 8000, .inl fT)), ((ma 11), .inl (cI, 40, .inl fTS))]) [9, 10, 7, 8, 0, 1, 2, 3, 4, 5, 6] (by decide +kernel) rfl
            exact W.iret (v := r1) hx hb hr (fun t ht hW => ⟨⟨r1, G_61, rfl, (by (try dsimp only); first | assumption | omega | trivial), by rw [ht]; exact hP9, hD9⟩, hS.F ht⟩) hS.2.2 d_DiscMakerModel_lay_260
        · skip
          have g86_78 : v26.toInt = 0 := (i_eq rfl (by decide)).mp h_9
          refine lv_sipush (v := 16384) hx hb d_DiscMakerModel_lay_89 (by decide) ?_
          refine lv_goto (tgt := 114) hx hb d_DiscMakerModel_lay_92 (by decide) ?_
          refine lv_aload_n hx hb d_DiscMakerModel_lay_114 rfl (lv_at hl 1 rfl) ?_
          refine va_get (D := D) (ci := 11) (v := .ref (ma 3)) (C := "DiscMakerModel") (T := F_DiscMakerModel) (N := 48) hx hb ht9 in_DiscMakerModel hown hK hP 9 rfl rfl 6 (by decide) (ht9 _ k1437) (fun _ h9 => h9) rfl d_DiscMakerModel_lay_115 ?_
          refine lv_iload_n hx hb d_DiscMakerModel_lay_118 rfl (lv_at hl 4 rfl) ?_
          refine va_iald hx hb hK hP 1 1 rfl rfl (vp_in_iff.mpr ⟨by omega, by omega⟩) d_DiscMakerModel_lay_119 ?_
          refine lv_topi (fun v62 e_v62 => ?_)
          refine lv_sipush (v := 4096) hx hb d_DiscMakerModel_lay_120 (by decide) ?_
          refine lv_irem hx hb d_DiscMakerModel_lay_123 (by decide) ?_
          refine lv_topi (fun v63 e_v63 => ?_)
          refine lv_iadd hx hb d_DiscMakerModel_lay_124 ?_
          refine lv_topi (fun v64 e_v64 => ?_)
          have hPc := hP.sub (ws' := [(h0, .inr (11, MO ma sv_thrown sv_length sv_nodes sv_many sv_directories sv_runsFrom sv_runs sv_read sv_wrong sv_isNamed sv_goes sv_goesSize sv_goesAt sv_targetParts sv_isRoot)), ((ma 16), .inl (cJ, 46080, .inr (.inl G_24)))]) [9, 10] rfl
          have hDc := hD.sub (ws' := [(h0, .inr (11, MO ma sv_thrown sv_length sv_nodes sv_many sv_directories sv_runsFrom sv_runs sv_read sv_wrong sv_isNamed sv_goes sv_goesSize sv_goesAt sv_targetParts sv_isRoot)), ((ma 16), .inl (cJ, 46080, .inr (.inl G_24)))]) [9, 10] (by decide +kernel) rfl
          have hFc := va_free (wc := [(h0, .inr (11, MO ma sv_thrown sv_length sv_nodes sv_many sv_directories sv_runsFrom sv_runs sv_read sv_wrong sv_isNamed sv_goes sv_goesSize sv_goesAt sv_targetParts sv_isRoot)), ((ma 16), .inl (cJ, 46080, .inr (.inl G_24)))]) hD hS hA [9, 10] rfl
          have hkc : 0 ≤ 0 := by decide
          have hks : 0 ≤ 0 := by decide
          refine va_callv (va_runV (C := "DiscMakerModel") (As := [.int v25, .int 4, .int v64]) (rest := []) ⟨hx, hb, hml, hown, hts⟩ (m_both l D cB cI cJ cZ cN cF H.size h0 ma sv_thrown sv_length sv_nodes sv_many sv_directories sv_runsFrom sv_runs sv_read sv_wrong sv_isNamed sv_goes sv_goesSize sv_goesAt sv_targetParts sv_isRoot G_24 v25 4 v64 (by (try dsimp only); first | assumption | omega | trivial) (by (try dsimp only); first | assumption | omega | trivial) (by (try dsimp only); first | assumption | omega | trivial)) (cwV 3 hts (lg_goodV k1740 k1742 k81 k125 kc_DiscMakerModel_both) rfl rfl rfl (by decide +kernel) ⟨Nat.le_of_ble_eq_true rfl, Nat.le_of_ble_eq_true rfl⟩) ⟨fun a U g mk q => by obtain ⟨q0, q1, qP, qK, qN, qD⟩ := q; exact ⟨q0, q1, qP, va_K.moved (u := U) (U := U.calling g mk a) (Vm.Alike.refl U.vm) qK, qN.calling, qD⟩, va_recv hK hP (ci := 11) (q0 := 9) rfl rfl, fun U hU hW => ⟨rfl, by rw [hU], by rw [hU]; exact hPc, va_K.moved hW.alike hK, NN.warm hW hN, hDc.weaken (fun _ _ _ _ => trivial)⟩⟩ rfl rfl hl.1 rfl (lv_room (Nat.le_of_ble_eq_true rfl)) d_DiscMakerModel_lay_125 ⟨hkc, hks⟩) hS (fun q _ h => hFc q h) hFc (fun u t H1 locs ht hvm hp_r65 hB hz1 hk1 hS => ?_)
          obtain ⟨G_66, rfl⟩ : ∃ z, z = u := ⟨_, rfl⟩
          obtain ⟨hP1, hD1⟩ := hB
          rw [ht] at hP1
          obtain ⟨hP, hD⟩ := va_join (wr := [((ma 2), .inl (cI, 40, .inl fP)), ((ma 3), .inl (cI, 40, .inl fM)), ((ma 4), .inl (cI, 40, .inl fO)), ((ma 5), .inl (cI, 40, .inl fG)), ((ma 8), .inl (cB, 1200, .inl fN)), ((ma 1), .inl (cI, 40, .inl fK)), ((ma 9), .inl (cI, 40, .inl fNS)), ((ma 10), .inl (cB, 8000, .inl fT)), ((ma 11), .inl (cI, 40, .inl fTS))]) (w1 := [(h0, .inr (11, MO ma sv_thrown sv_length sv_nodes sv_many sv_directories sv_runsFrom sv_runs sv_read sv_wrong sv_isNamed sv_goes sv_goesSize sv_goesAt sv_targetParts sv_isRoot)), ((ma 16), .inl (cJ, 46080, .inr (.inl G_66)))]) hP hD [9, 10] [0, 1, 2, 3, 4, 5, 6, 7, 8] rfl rfl (by decide +kernel) (by decide +kernel) hk1 hFc hP1 hD1
          clear hPc hDc hFc hP1 hD1 hk1 hz1 hkc hks
          generalize H1 = H at hP hS ⊢
          have hP : va_P D CL [((ma 2), .inl (cI, 40, .inl fP)), ((ma 3), .inl (cI, 40, .inl fM)), ((ma 4), .inl (cI, 40, .inl fO)), ((ma 5), .inl (cI, 40, .inl fG)), ((ma 8), .inl (cB, 1200, .inl fN)), ((ma 1), .inl (cI, 40, .inl fK)), ((ma 9), .inl (cI, 40, .inl fNS)), ((ma 10), .inl (cB, 8000, .inl fT)), ((ma 11), .inl (cI, 40, .inl fTS)), (h0, .inr (11, MO ma sv_thrown sv_length sv_nodes sv_many sv_directories sv_runsFrom sv_runs sv_read sv_wrong sv_isNamed sv_goes sv_goesSize sv_goesAt sv_targetParts sv_isRoot)), ((ma 16), .inl (cJ, 46080, .inr (.inl G_66)))] H := hP
          have hD : va_D A [((ma 2), .inl (cI, 40, .inl fP)), ((ma 3), .inl (cI, 40, .inl fM)), ((ma 4), .inl (cI, 40, .inl fO)), ((ma 5), .inl (cI, 40, .inl fG)), ((ma 8), .inl (cB, 1200, .inl fN)), ((ma 1), .inl (cI, 40, .inl fK)), ((ma 9), .inl (cI, 40, .inl fNS)), ((ma 10), .inl (cB, 8000, .inl fT)), ((ma 11), .inl (cI, 40, .inl fTS)), (h0, .inr (11, MO ma sv_thrown sv_length sv_nodes sv_many sv_directories sv_runsFrom sv_runs sv_read sv_wrong sv_isNamed sv_goes sv_goesSize sv_goesAt sv_targetParts sv_isRoot)), ((ma 16), .inl (cJ, 46080, .inr (.inl G_66)))] := hD
          refine lv_aload_n hx hb d_DiscMakerModel_lay_128 rfl (lv_at hl 1 rfl) ?_
          refine lv_iload hx hb d_DiscMakerModel_lay_129 (lv_at hl 5 rfl) ?_
          refine lv_bipush (v := 12) hx hb d_DiscMakerModel_lay_131 (by decide) ?_
          refine lv_iadd hx hb d_DiscMakerModel_lay_133 ?_
          refine lv_topi (fun v67 e_v67 => ?_)
          have t_v67 : v67.toInt = w.toInt + 12 := by rw [e_v67]; exact i_add rfl (by decide) (by omega) (by omega)
          refine lv_iconst (v := 4) hx hb d_DiscMakerModel_lay_134 (by decide) ?_
          refine lv_aload_n hx hb d_DiscMakerModel_lay_135 rfl (lv_at hl 1 rfl) ?_
          refine lv_iload_n hx hb d_DiscMakerModel_lay_136 rfl (lv_at hl 4 rfl) ?_
          have hPc := hP.sub (ws' := [(h0, .inr (11, MO ma sv_thrown sv_length sv_nodes sv_many sv_directories sv_runsFrom sv_runs sv_read sv_wrong sv_isNamed sv_goes sv_goesSize sv_goesAt sv_targetParts sv_isRoot)), ((ma 1), .inl (cI, 40, .inl fK)), ((ma 2), .inl (cI, 40, .inl fP))]) [9, 5, 0] rfl
          have hDc := hD.sub (ws' := [(h0, .inr (11, MO ma sv_thrown sv_length sv_nodes sv_many sv_directories sv_runsFrom sv_runs sv_read sv_wrong sv_isNamed sv_goes sv_goesSize sv_goesAt sv_targetParts sv_isRoot)), ((ma 1), .inl (cI, 40, .inl fK)), ((ma 2), .inl (cI, 40, .inl fP))]) [9, 5, 0] (by decide +kernel) rfl
          have hFc := va_free (wc := [(h0, .inr (11, MO ma sv_thrown sv_length sv_nodes sv_many sv_directories sv_runsFrom sv_runs sv_read sv_wrong sv_isNamed sv_goes sv_goesSize sv_goesAt sv_targetParts sv_isRoot)), ((ma 1), .inl (cI, 40, .inl fK)), ((ma 2), .inl (cI, 40, .inl fP))]) hD hS hA [9, 5, 0] rfl
          have hkc : 0 ≤ 0 := by decide
          have hks : 0 ≤ 0 := by decide
          refine va_calli (va_runV (C := "DiscMakerModel") (As := [.int z]) (rest := [.int 4, .int v67, .ref h0]) ⟨hx, hb, hml, hown, hts⟩ (m_links l D cB cI cJ cZ cN cF H.size h0 ma sv_thrown sv_length sv_nodes sv_many sv_directories sv_runsFrom sv_runs sv_read sv_wrong sv_isNamed sv_goes sv_goesSize sv_goesAt sv_targetParts sv_isRoot fK fP z (by (try dsimp only); first | assumption | omega | trivial) (by (try dsimp only); first | assumption | omega | trivial)) (cwV 1 hts (lg_goodV k1770 k1772 k88 k125 kc_DiscMakerModel_links) rfl rfl rfl (by decide +kernel) ⟨Nat.le_of_ble_eq_true rfl, Nat.le_of_ble_eq_true rfl⟩) ⟨fun a U g mk q => by obtain ⟨q0, q1, qP, qK, qN, qD⟩ := q; exact ⟨q0, q1, qP, va_K.moved (u := U) (U := U.calling g mk a) (Vm.Alike.refl U.vm) qK, qN.calling, qD⟩, va_recv hK hP (ci := 11) (q0 := 9) rfl rfl, fun U hU hW => ⟨rfl, by rw [hU], by rw [hU]; exact hPc, va_K.moved hW.alike hK, NN.warm hW hN, hDc.weaken (fun _ _ _ _ => trivial)⟩⟩ rfl rfl hl.1 rfl (lv_room (Nat.le_of_ble_eq_true rfl)) d_DiscMakerModel_lay_137 ⟨hkc, hks⟩) hS (fun q _ h => hFc q h) hFc (fun r68 u t H1 locs ht hvm hp_r68 hB hz1 hk1 hS => ?_)
          obtain ⟨hP1, hD1⟩ := hB
          rw [ht] at hP1
          obtain ⟨hP, hD⟩ := va_join (wr := [((ma 3), .inl (cI, 40, .inl fM)), ((ma 4), .inl (cI, 40, .inl fO)), ((ma 5), .inl (cI, 40, .inl fG)), ((ma 8), .inl (cB, 1200, .inl fN)), ((ma 9), .inl (cI, 40, .inl fNS)), ((ma 10), .inl (cB, 8000, .inl fT)), ((ma 11), .inl (cI, 40, .inl fTS)), ((ma 16), .inl (cJ, 46080, .inr (.inl G_66)))]) (w1 := [(h0, .inr (11, MO ma sv_thrown sv_length sv_nodes sv_many sv_directories sv_runsFrom sv_runs sv_read sv_wrong sv_isNamed sv_goes sv_goesSize sv_goesAt sv_targetParts sv_isRoot)), ((ma 1), .inl (cI, 40, .inl fK)), ((ma 2), .inl (cI, 40, .inl fP))]) hP hD [9, 5, 0] [1, 2, 3, 4, 6, 7, 8, 10] rfl rfl (by decide +kernel) (by decide +kernel) hk1 hFc hP1 hD1
          clear hPc hDc hFc hP1 hD1 hk1 hz1 hkc hks
          generalize H1 = H at hP hS ⊢
          have hP : va_P D CL [((ma 3), .inl (cI, 40, .inl fM)), ((ma 4), .inl (cI, 40, .inl fO)), ((ma 5), .inl (cI, 40, .inl fG)), ((ma 8), .inl (cB, 1200, .inl fN)), ((ma 9), .inl (cI, 40, .inl fNS)), ((ma 10), .inl (cB, 8000, .inl fT)), ((ma 11), .inl (cI, 40, .inl fTS)), ((ma 16), .inl (cJ, 46080, .inr (.inl G_66))), (h0, .inr (11, MO ma sv_thrown sv_length sv_nodes sv_many sv_directories sv_runsFrom sv_runs sv_read sv_wrong sv_isNamed sv_goes sv_goesSize sv_goesAt sv_targetParts sv_isRoot)), ((ma 1), .inl (cI, 40, .inl fK)), ((ma 2), .inl (cI, 40, .inl fP))] H := hP
          have hD : va_D A [((ma 3), .inl (cI, 40, .inl fM)), ((ma 4), .inl (cI, 40, .inl fO)), ((ma 5), .inl (cI, 40, .inl fG)), ((ma 8), .inl (cB, 1200, .inl fN)), ((ma 9), .inl (cI, 40, .inl fNS)), ((ma 10), .inl (cB, 8000, .inl fT)), ((ma 11), .inl (cI, 40, .inl fTS)), ((ma 16), .inl (cJ, 46080, .inr (.inl G_66))), (h0, .inr (11, MO ma sv_thrown sv_length sv_nodes sv_many sv_directories sv_runsFrom sv_runs sv_read sv_wrong sv_isNamed sv_goes sv_goesSize sv_goesAt sv_targetParts sv_isRoot)), ((ma 1), .inl (cI, 40, .inl fK)), ((ma 2), .inl (cI, 40, .inl fP))] := hD
          have hPc := hP.sub (ws' := [(h0, .inr (11, MO ma sv_thrown sv_length sv_nodes sv_many sv_directories sv_runsFrom sv_runs sv_read sv_wrong sv_isNamed sv_goes sv_goesSize sv_goesAt sv_targetParts sv_isRoot)), ((ma 16), .inl (cJ, 46080, .inr (.inl G_66)))]) [8, 7] rfl
          have hDc := hD.sub (ws' := [(h0, .inr (11, MO ma sv_thrown sv_length sv_nodes sv_many sv_directories sv_runsFrom sv_runs sv_read sv_wrong sv_isNamed sv_goes sv_goesSize sv_goesAt sv_targetParts sv_isRoot)), ((ma 16), .inl (cJ, 46080, .inr (.inl G_66)))]) [8, 7] (by decide +kernel) rfl
          have hFc := va_free (wc := [(h0, .inr (11, MO ma sv_thrown sv_length sv_nodes sv_many sv_directories sv_runsFrom sv_runs sv_read sv_wrong sv_isNamed sv_goes sv_goesSize sv_goesAt sv_targetParts sv_isRoot)), ((ma 16), .inl (cJ, 46080, .inr (.inl G_66)))]) hD hS hA [8, 7] rfl
          have hkc : 0 ≤ 0 := by decide
          have hks : 0 ≤ 0 := by decide
          refine va_callv (va_runV (C := "DiscMakerModel") (As := [.int v67, .int 4, .int r68]) (rest := []) ⟨hx, hb, hml, hown, hts⟩ (m_both l D cB cI cJ cZ cN cF H.size h0 ma sv_thrown sv_length sv_nodes sv_many sv_directories sv_runsFrom sv_runs sv_read sv_wrong sv_isNamed sv_goes sv_goesSize sv_goesAt sv_targetParts sv_isRoot G_66 v67 4 r68 (by (try dsimp only); first | assumption | omega | trivial) (by (try dsimp only); first | assumption | omega | trivial) (by (try dsimp only); first | assumption | omega | trivial)) (cwV 3 hts (lg_goodV k1740 k1742 k81 k125 kc_DiscMakerModel_both) rfl rfl rfl (by decide +kernel) ⟨Nat.le_of_ble_eq_true rfl, Nat.le_of_ble_eq_true rfl⟩) ⟨fun a U g mk q => by obtain ⟨q0, q1, qP, qK, qN, qD⟩ := q; exact ⟨q0, q1, qP, va_K.moved (u := U) (U := U.calling g mk a) (Vm.Alike.refl U.vm) qK, qN.calling, qD⟩, va_recv hK hP (ci := 11) (q0 := 8) rfl rfl, fun U hU hW => ⟨rfl, by rw [hU], by rw [hU]; exact hPc, va_K.moved hW.alike hK, NN.warm hW hN, hDc.weaken (fun _ _ _ _ => trivial)⟩⟩ rfl rfl hl.1 rfl (lv_room (Nat.le_of_ble_eq_true rfl)) d_DiscMakerModel_lay_140 ⟨hkc, hks⟩) hS (fun q _ h => hFc q h) hFc (fun u t H1 locs ht hvm hp_r69 hB hz1 hk1 hS => ?_)
          obtain ⟨G_70, rfl⟩ : ∃ z, z = u := ⟨_, rfl⟩
          obtain ⟨hP1, hD1⟩ := hB
          rw [ht] at hP1
          obtain ⟨hP, hD⟩ := va_join (wr := [((ma 3), .inl (cI, 40, .inl fM)), ((ma 4), .inl (cI, 40, .inl fO)), ((ma 5), .inl (cI, 40, .inl fG)), ((ma 8), .inl (cB, 1200, .inl fN)), ((ma 9), .inl (cI, 40, .inl fNS)), ((ma 10), .inl (cB, 8000, .inl fT)), ((ma 11), .inl (cI, 40, .inl fTS)), ((ma 1), .inl (cI, 40, .inl fK)), ((ma 2), .inl (cI, 40, .inl fP))]) (w1 := [(h0, .inr (11, MO ma sv_thrown sv_length sv_nodes sv_many sv_directories sv_runsFrom sv_runs sv_read sv_wrong sv_isNamed sv_goes sv_goesSize sv_goesAt sv_targetParts sv_isRoot)), ((ma 16), .inl (cJ, 46080, .inr (.inl G_70)))]) hP hD [8, 7] [0, 1, 2, 3, 4, 5, 6, 9, 10] rfl rfl (by decide +kernel) (by decide +kernel) hk1 hFc hP1 hD1
          clear hPc hDc hFc hP1 hD1 hk1 hz1 hkc hks
          generalize H1 = H at hP hS ⊢
          have hP : va_P D CL [((ma 3), .inl (cI, 40, .inl fM)), ((ma 4), .inl (cI, 40, .inl fO)), ((ma 5), .inl (cI, 40, .inl fG)), ((ma 8), .inl (cB, 1200, .inl fN)), ((ma 9), .inl (cI, 40, .inl fNS)), ((ma 10), .inl (cB, 8000, .inl fT)), ((ma 11), .inl (cI, 40, .inl fTS)), ((ma 1), .inl (cI, 40, .inl fK)), ((ma 2), .inl (cI, 40, .inl fP)), (h0, .inr (11, MO ma sv_thrown sv_length sv_nodes sv_many sv_directories sv_runsFrom sv_runs sv_read sv_wrong sv_isNamed sv_goes sv_goesSize sv_goesAt sv_targetParts sv_isRoot)), ((ma 16), .inl (cJ, 46080, .inr (.inl G_70)))] H := hP
          have hD : va_D A [((ma 3), .inl (cI, 40, .inl fM)), ((ma 4), .inl (cI, 40, .inl fO)), ((ma 5), .inl (cI, 40, .inl fG)), ((ma 8), .inl (cB, 1200, .inl fN)), ((ma 9), .inl (cI, 40, .inl fNS)), ((ma 10), .inl (cB, 8000, .inl fT)), ((ma 11), .inl (cI, 40, .inl fTS)), ((ma 1), .inl (cI, 40, .inl fK)), ((ma 2), .inl (cI, 40, .inl fP)), (h0, .inr (11, MO ma sv_thrown sv_length sv_nodes sv_many sv_directories sv_runsFrom sv_runs sv_read sv_wrong sv_isNamed sv_goes sv_goesSize sv_goesAt sv_targetParts sv_isRoot)), ((ma 16), .inl (cJ, 46080, .inr (.inl G_70)))] := hD
          refine lv_aload_n hx hb d_DiscMakerModel_lay_143 rfl (lv_at hl 1 rfl) ?_
          refine lv_iload hx hb d_DiscMakerModel_lay_144 (lv_at hl 5 rfl) ?_
          refine lv_bipush (v := 20) hx hb d_DiscMakerModel_lay_146 (by decide) ?_
          refine lv_iadd hx hb d_DiscMakerModel_lay_148 ?_
          refine lv_topi (fun v71 e_v71 => ?_)
          have t_v71 : v71.toInt = w.toInt + 20 := by rw [e_v71]; exact i_add rfl (by decide) (by omega) (by omega)
          refine lv_iconst (v := 4) hx hb d_DiscMakerModel_lay_149 (by decide) ?_
          refine lv_aload_n hx hb d_DiscMakerModel_lay_150 rfl (lv_at hl 1 rfl) ?_
          refine va_get (D := D) (ci := 11) (v := .ref (ma 4)) (C := "DiscMakerModel") (T := F_DiscMakerModel) (N := 48) hx hb ht9 in_DiscMakerModel hown hK hP 9 rfl rfl 7 (by decide) (ht9 _ k1438) (fun _ h9 => h9) rfl d_DiscMakerModel_lay_151 ?_
          refine lv_iload_n hx hb d_DiscMakerModel_lay_154 rfl (lv_at hl 4 rfl) ?_
          refine va_iald hx hb hK hP 1 1 rfl rfl (vp_in_iff.mpr ⟨by omega, by omega⟩) d_DiscMakerModel_lay_155 ?_
          refine lv_topi (fun v72 e_v72 => ?_)
          have hPc := hP.sub (ws' := [(h0, .inr (11, MO ma sv_thrown sv_length sv_nodes sv_many sv_directories sv_runsFrom sv_runs sv_read sv_wrong sv_isNamed sv_goes sv_goesSize sv_goesAt sv_targetParts sv_isRoot)), ((ma 16), .inl (cJ, 46080, .inr (.inl G_70)))]) [9, 10] rfl
          have hDc := hD.sub (ws' := [(h0, .inr (11, MO ma sv_thrown sv_length sv_nodes sv_many sv_directories sv_runsFrom sv_runs sv_read sv_wrong sv_isNamed sv_goes sv_goesSize sv_goesAt sv_targetParts sv_isRoot)), ((ma 16), .inl (cJ, 46080, .inr (.inl G_70)))]) [9, 10] (by decide +kernel) rfl
          have hFc := va_free (wc := [(h0, .inr (11, MO ma sv_thrown sv_length sv_nodes sv_many sv_directories sv_runsFrom sv_runs sv_read sv_wrong sv_isNamed sv_goes sv_goesSize sv_goesAt sv_targetParts sv_isRoot)), ((ma 16), .inl (cJ, 46080, .inr (.inl G_70)))]) hD hS hA [9, 10] rfl
          have hkc : 0 ≤ 0 := by decide
          have hks : 0 ≤ 0 := by decide
          refine va_callv (va_runV (C := "DiscMakerModel") (As := [.int v71, .int 4, .int v72]) (rest := []) ⟨hx, hb, hml, hown, hts⟩ (m_both l D cB cI cJ cZ cN cF H.size h0 ma sv_thrown sv_length sv_nodes sv_many sv_directories sv_runsFrom sv_runs sv_read sv_wrong sv_isNamed sv_goes sv_goesSize sv_goesAt sv_targetParts sv_isRoot G_70 v71 4 v72 (by (try dsimp only); first | assumption | omega | trivial) (by (try dsimp only); first | assumption | omega | trivial) (by (try dsimp only); first | assumption | omega | trivial)) (cwV 3 hts (lg_goodV k1740 k1742 k81 k125 kc_DiscMakerModel_both) rfl rfl rfl (by decide +kernel) ⟨Nat.le_of_ble_eq_true rfl, Nat.le_of_ble_eq_true rfl⟩) ⟨fun a U g mk q => by obtain ⟨q0, q1, qP, qK, qN, qD⟩ := q; exact ⟨q0, q1, qP, va_K.moved (u := U) (U := U.calling g mk a) (Vm.Alike.refl U.vm) qK, qN.calling, qD⟩, va_recv hK hP (ci := 11) (q0 := 9) rfl rfl, fun U hU hW => ⟨rfl, by rw [hU], by rw [hU]; exact hPc, va_K.moved hW.alike hK, NN.warm hW hN, hDc.weaken (fun _ _ _ _ => trivial)⟩⟩ rfl rfl hl.1 rfl (lv_room (Nat.le_of_ble_eq_true rfl)) d_DiscMakerModel_lay_156 ⟨hkc, hks⟩) hS (fun q _ h => hFc q h) hFc (fun u t H1 locs ht hvm hp_r73 hB hz1 hk1 hS => ?_)
          obtain ⟨G_74, rfl⟩ : ∃ z, z = u := ⟨_, rfl⟩
          obtain ⟨hP1, hD1⟩ := hB
          rw [ht] at hP1
          obtain ⟨hP, hD⟩ := va_join (wr := [((ma 3), .inl (cI, 40, .inl fM)), ((ma 4), .inl (cI, 40, .inl fO)), ((ma 5), .inl (cI, 40, .inl fG)), ((ma 8), .inl (cB, 1200, .inl fN)), ((ma 9), .inl (cI, 40, .inl fNS)), ((ma 10), .inl (cB, 8000, .inl fT)), ((ma 11), .inl (cI, 40, .inl fTS)), ((ma 1), .inl (cI, 40, .inl fK)), ((ma 2), .inl (cI, 40, .inl fP))]) (w1 := [(h0, .inr (11, MO ma sv_thrown sv_length sv_nodes sv_many sv_directories sv_runsFrom sv_runs sv_read sv_wrong sv_isNamed sv_goes sv_goesSize sv_goesAt sv_targetParts sv_isRoot)), ((ma 16), .inl (cJ, 46080, .inr (.inl G_74)))]) hP hD [9, 10] [0, 1, 2, 3, 4, 5, 6, 7, 8] rfl rfl (by decide +kernel) (by decide +kernel) hk1 hFc hP1 hD1
          clear hPc hDc hFc hP1 hD1 hk1 hz1 hkc hks
          generalize H1 = H at hP hS ⊢
          have hP : va_P D CL [((ma 3), .inl (cI, 40, .inl fM)), ((ma 4), .inl (cI, 40, .inl fO)), ((ma 5), .inl (cI, 40, .inl fG)), ((ma 8), .inl (cB, 1200, .inl fN)), ((ma 9), .inl (cI, 40, .inl fNS)), ((ma 10), .inl (cB, 8000, .inl fT)), ((ma 11), .inl (cI, 40, .inl fTS)), ((ma 1), .inl (cI, 40, .inl fK)), ((ma 2), .inl (cI, 40, .inl fP)), (h0, .inr (11, MO ma sv_thrown sv_length sv_nodes sv_many sv_directories sv_runsFrom sv_runs sv_read sv_wrong sv_isNamed sv_goes sv_goesSize sv_goesAt sv_targetParts sv_isRoot)), ((ma 16), .inl (cJ, 46080, .inr (.inl G_74)))] H := hP
          have hD : va_D A [((ma 3), .inl (cI, 40, .inl fM)), ((ma 4), .inl (cI, 40, .inl fO)), ((ma 5), .inl (cI, 40, .inl fG)), ((ma 8), .inl (cB, 1200, .inl fN)), ((ma 9), .inl (cI, 40, .inl fNS)), ((ma 10), .inl (cB, 8000, .inl fT)), ((ma 11), .inl (cI, 40, .inl fTS)), ((ma 1), .inl (cI, 40, .inl fK)), ((ma 2), .inl (cI, 40, .inl fP)), (h0, .inr (11, MO ma sv_thrown sv_length sv_nodes sv_many sv_directories sv_runsFrom sv_runs sv_read sv_wrong sv_isNamed sv_goes sv_goesSize sv_goesAt sv_targetParts sv_isRoot)), ((ma 16), .inl (cJ, 46080, .inr (.inl G_74)))] := hD
          refine lv_aload_n hx hb d_DiscMakerModel_lay_159 rfl (lv_at hl 1 rfl) ?_
          refine lv_iload hx hb d_DiscMakerModel_lay_160 (lv_at hl 5 rfl) ?_
          refine lv_bipush (v := 28) hx hb d_DiscMakerModel_lay_162 (by decide) ?_
          refine lv_iadd hx hb d_DiscMakerModel_lay_164 ?_
          refine lv_topi (fun v75 e_v75 => ?_)
          have t_v75 : v75.toInt = w.toInt + 28 := by rw [e_v75]; exact i_add rfl (by decide) (by omega) (by omega)
          refine lv_iconst (v := 4) hx hb d_DiscMakerModel_lay_165 (by decide) ?_
          refine lv_aload_n hx hb d_DiscMakerModel_lay_166 rfl (lv_at hl 1 rfl) ?_
          refine va_get (D := D) (ci := 11) (v := .ref (ma 5)) (C := "DiscMakerModel") (T := F_DiscMakerModel) (N := 48) hx hb ht9 in_DiscMakerModel hown hK hP 9 rfl rfl 8 (by decide) (ht9 _ k1439) (fun _ h9 => h9) rfl d_DiscMakerModel_lay_167 ?_
          refine lv_iload_n hx hb d_DiscMakerModel_lay_170 rfl (lv_at hl 4 rfl) ?_
          refine va_iald hx hb hK hP 2 1 rfl rfl (vp_in_iff.mpr ⟨by omega, by omega⟩) d_DiscMakerModel_lay_171 ?_
          refine lv_topi (fun v76 e_v76 => ?_)
          have hPc := hP.sub (ws' := [(h0, .inr (11, MO ma sv_thrown sv_length sv_nodes sv_many sv_directories sv_runsFrom sv_runs sv_read sv_wrong sv_isNamed sv_goes sv_goesSize sv_goesAt sv_targetParts sv_isRoot)), ((ma 16), .inl (cJ, 46080, .inr (.inl G_74)))]) [9, 10] rfl
          have hDc := hD.sub (ws' := [(h0, .inr (11, MO ma sv_thrown sv_length sv_nodes sv_many sv_directories sv_runsFrom sv_runs sv_read sv_wrong sv_isNamed sv_goes sv_goesSize sv_goesAt sv_targetParts sv_isRoot)), ((ma 16), .inl (cJ, 46080, .inr (.inl G_74)))]) [9, 10] (by decide +kernel) rfl
          have hFc := va_free (wc := [(h0, .inr (11, MO ma sv_thrown sv_length sv_nodes sv_many sv_directories sv_runsFrom sv_runs sv_read sv_wrong sv_isNamed sv_goes sv_goesSize sv_goesAt sv_targetParts sv_isRoot)), ((ma 16), .inl (cJ, 46080, .inr (.inl G_74)))]) hD hS hA [9, 10] rfl
          have hkc : 0 ≤ 0 := by decide
          have hks : 0 ≤ 0 := by decide
          refine va_callv (va_runV (C := "DiscMakerModel") (As := [.int v75, .int 4, .int v76]) (rest := []) ⟨hx, hb, hml, hown, hts⟩ (m_both l D cB cI cJ cZ cN cF H.size h0 ma sv_thrown sv_length sv_nodes sv_many sv_directories sv_runsFrom sv_runs sv_read sv_wrong sv_isNamed sv_goes sv_goesSize sv_goesAt sv_targetParts sv_isRoot G_74 v75 4 v76 (by (try dsimp only); first | assumption | omega | trivial) (by (try dsimp only); first | assumption | omega | trivial) (by (try dsimp only); first | assumption | omega | trivial)) (cwV 3 hts (lg_goodV k1740 k1742 k81 k125 kc_DiscMakerModel_both) rfl rfl rfl (by decide +kernel) ⟨Nat.le_of_ble_eq_true rfl, Nat.le_of_ble_eq_true rfl⟩) ⟨fun a U g mk q => by obtain ⟨q0, q1, qP, qK, qN, qD⟩ := q; exact ⟨q0, q1, qP, va_K.moved (u := U) (U := U.calling g mk a) (Vm.Alike.refl U.vm) qK, qN.calling, qD⟩, va_recv hK hP (ci := 11) (q0 := 9) rfl rfl, fun U hU hW => ⟨rfl, by rw [hU], by rw [hU]; exact hPc, va_K.moved hW.alike hK, NN.warm hW hN, hDc.weaken (fun _ _ _ _ => trivial)⟩⟩ rfl rfl hl.1 rfl (lv_room (Nat.le_of_ble_eq_true rfl)) d_DiscMakerModel_lay_172 ⟨hkc, hks⟩) hS (fun q _ h => hFc q h) hFc (fun u t H1 locs ht hvm hp_r77 hB hz1 hk1 hS => ?_)
          obtain ⟨G_78, rfl⟩ : ∃ z, z = u := ⟨_, rfl⟩
          obtain ⟨hP1, hD1⟩ := hB
          rw [ht] at hP1
          obtain ⟨hP, hD⟩ := va_join (wr := [((ma 3), .inl (cI, 40, .inl fM)), ((ma 4), .inl (cI, 40, .inl fO)), ((ma 5), .inl (cI, 40, .inl fG)), ((ma 8), .inl (cB, 1200, .inl fN)), ((ma 9), .inl (cI, 40, .inl fNS)), ((ma 10), .inl (cB, 8000, .inl fT)), ((ma 11), .inl (cI, 40, .inl fTS)), ((ma 1), .inl (cI, 40, .inl fK)), ((ma 2), .inl (cI, 40, .inl fP))]) (w1 := [(h0, .inr (11, MO ma sv_thrown sv_length sv_nodes sv_many sv_directories sv_runsFrom sv_runs sv_read sv_wrong sv_isNamed sv_goes sv_goesSize sv_goesAt sv_targetParts sv_isRoot)), ((ma 16), .inl (cJ, 46080, .inr (.inl G_78)))]) hP hD [9, 10] [0, 1, 2, 3, 4, 5, 6, 7, 8] rfl rfl (by decide +kernel) (by decide +kernel) hk1 hFc hP1 hD1
          clear hPc hDc hFc hP1 hD1 hk1 hz1 hkc hks
          generalize H1 = H at hP hS ⊢
          have hP : va_P D CL [((ma 3), .inl (cI, 40, .inl fM)), ((ma 4), .inl (cI, 40, .inl fO)), ((ma 5), .inl (cI, 40, .inl fG)), ((ma 8), .inl (cB, 1200, .inl fN)), ((ma 9), .inl (cI, 40, .inl fNS)), ((ma 10), .inl (cB, 8000, .inl fT)), ((ma 11), .inl (cI, 40, .inl fTS)), ((ma 1), .inl (cI, 40, .inl fK)), ((ma 2), .inl (cI, 40, .inl fP)), (h0, .inr (11, MO ma sv_thrown sv_length sv_nodes sv_many sv_directories sv_runsFrom sv_runs sv_read sv_wrong sv_isNamed sv_goes sv_goesSize sv_goesAt sv_targetParts sv_isRoot)), ((ma 16), .inl (cJ, 46080, .inr (.inl G_78)))] H := hP
          have hD : va_D A [((ma 3), .inl (cI, 40, .inl fM)), ((ma 4), .inl (cI, 40, .inl fO)), ((ma 5), .inl (cI, 40, .inl fG)), ((ma 8), .inl (cB, 1200, .inl fN)), ((ma 9), .inl (cI, 40, .inl fNS)), ((ma 10), .inl (cB, 8000, .inl fT)), ((ma 11), .inl (cI, 40, .inl fTS)), ((ma 1), .inl (cI, 40, .inl fK)), ((ma 2), .inl (cI, 40, .inl fP)), (h0, .inr (11, MO ma sv_thrown sv_length sv_nodes sv_many sv_directories sv_runsFrom sv_runs sv_read sv_wrong sv_isNamed sv_goes sv_goesSize sv_goesAt sv_targetParts sv_isRoot)), ((ma 16), .inl (cJ, 46080, .inr (.inl G_78)))] := hD
          refine lv_goto (tgt := 258) hx hb d_DiscMakerModel_lay_175 (by decide) ?_
          refine lv_iload hx hb d_DiscMakerModel_lay_258 (lv_at hl 0 rfl) ?_
          have hP9 := hP.sub (ws' := [(h0, .inr (11, MO ma sv_thrown sv_length sv_nodes sv_many sv_directories sv_runsFrom sv_runs sv_read sv_wrong sv_isNamed sv_goes sv_goesSize sv_goesAt sv_targetParts sv_isRoot)), ((ma 16), .inl (cJ, 46080, .inr (.inl G_78))), ((ma 1), .inl (cI, 40, .inl fK)), ((ma 2), .inl (cI, 40, .inl fP)), ((ma 3), .inl (cI, 40, .inl fM)), ((ma 4), .inl (cI, 40, .inl fO)), ((ma 5), .inl (cI, 40, .inl fG)), ((ma 8), .inl (cB, 1200, .inl fN)), ((ma 9), .inl (cI, 40, .inl fNS)), ((ma 10), .inl (cB, 8000, .inl fT)), ((ma 11), .inl (cI, 40, .inl fTS))]) [9, 10, 7, 8, 0, 1, 2, 3, 4, 5, 6] rfl
          have hD9 := hD.sub (ws' := [(h0, .inr (11, MO ma sv_thrown sv_length sv_nodes sv_many sv_directories sv_runsFrom sv_runs sv_read sv_wrong sv_isNamed sv_goes sv_goesSize sv_goesAt sv_targetParts sv_isRoot)), ((ma 16), .inl (cJ, 46080, .inr (.inl G_78))), ((ma 1), .inl (cI, 40, .inl fK)), ((ma 2), .inl (cI, 40, .inl fP)), ((ma 3), .inl (cI, 40, .inl fM)), ((ma 4), .inl (cI, 40, .inl fO)), ((ma 5), .inl (cI, 40, .inl fG)), ((ma 8), .inl (cB, 1200, .inl fN)), ((ma 9), .inl (cI, 40, .inl fNS)), ((ma 10), .inl (cB, 8000, .inl fT)), ((ma 11), .inl (cI, 40, .inl fTS))]) [9, 10, 7, 8, 0, 1, 2, 3, 4, 5, 6] (by decide +kernel) rfl
          exact W.iret (v := r1) hx hb hr (fun t ht hW => ⟨⟨r1, G_78, rfl, (by (try dsimp only); first | assumption | omega | trivial), by rw [ht]; exact hP9, hD9⟩, hS.F ht⟩) hS.2.2 d_DiscMakerModel_lay_260
    · skip
      have g17_10 : x.toInt = 0 := (i_eq rfl (by decide)).mp h_9
      refine lv_aload_n hx hb d_DiscMakerModel_lay_20 rfl (lv_at hl 1 rfl) ?_
      refine lv_iload hx hb d_DiscMakerModel_lay_21 (lv_at hl 5 rfl) ?_
      refine lv_bipush (v := 83) hx hb d_DiscMakerModel_lay_23 (by decide) ?_
      refine lv_bipush (v := 80) hx hb d_DiscMakerModel_lay_25 (by decide) ?_
      refine lv_bipush (v := 7) hx hb d_DiscMakerModel_lay_27 (by decide) ?_
      have hPc := hP.sub (ws' := [(h0, .inr (11, MO ma sv_thrown sv_length sv_nodes sv_many sv_directories sv_runsFrom sv_runs sv_read sv_wrong sv_isNamed sv_goes sv_goesSize sv_goesAt sv_targetParts sv_isRoot)), ((ma 16), .inl (cJ, 46080, .inr (.inl G_2)))]) [5, 6] rfl
      have hDc := hD.sub (ws' := [(h0, .inr (11, MO ma sv_thrown sv_length sv_nodes sv_many sv_directories sv_runsFrom sv_runs sv_read sv_wrong sv_isNamed sv_goes sv_goesSize sv_goesAt sv_targetParts sv_isRoot)), ((ma 16), .inl (cJ, 46080, .inr (.inl G_2)))]) [5, 6] (by decide +kernel) rfl
      have hFc := va_free (wc := [(h0, .inr (11, MO ma sv_thrown sv_length sv_nodes sv_many sv_directories sv_runsFrom sv_runs sv_read sv_wrong sv_isNamed sv_goes sv_goesSize sv_goesAt sv_targetParts sv_isRoot)), ((ma 16), .inl (cJ, 46080, .inr (.inl G_2)))]) hD hS hA [5, 6] rfl
      have hkc : 0 ≤ 0 := by decide
      have hks : 0 ≤ 0 := by decide
      refine va_callv (va_runV (C := "DiscMakerModel") (As := [.int w, .int 83, .int 80, .int 7]) (rest := []) ⟨hx, hb, hml, hown, hts⟩ (m_letters l D cB cI cJ cZ cN cF H.size h0 ma sv_thrown sv_length sv_nodes sv_many sv_directories sv_runsFrom sv_runs sv_read sv_wrong sv_isNamed sv_goes sv_goesSize sv_goesAt sv_targetParts sv_isRoot G_2 w 83 80 7 (by (try dsimp only); first | assumption | omega | trivial) (by (try dsimp only); first | assumption | omega | trivial)) (cwV 4 hts (lg_goodV k1764 k1766 k87 k125 kc_DiscMakerModel_letters) rfl rfl rfl (by decide +kernel) ⟨Nat.le_of_ble_eq_true rfl, Nat.le_of_ble_eq_true rfl⟩) ⟨fun a U g mk q => by obtain ⟨q0, q1, qP, qK, qN, qD⟩ := q; exact ⟨q0, q1, qP, va_K.moved (u := U) (U := U.calling g mk a) (Vm.Alike.refl U.vm) qK, qN.calling, qD⟩, va_recv hK hP (ci := 11) (q0 := 5) rfl rfl, fun U hU hW => ⟨rfl, by rw [hU], by rw [hU]; exact hPc, va_K.moved hW.alike hK, NN.warm hW hN, hDc.weaken (fun _ _ _ _ => trivial)⟩⟩ rfl rfl hl.1 rfl (lv_room (Nat.le_of_ble_eq_true rfl)) d_DiscMakerModel_lay_29 ⟨hkc, hks⟩) hS (fun q _ h => hFc q h) hFc (fun u t H1 locs ht hvm hp_r79 hB hz1 hk1 hS => ?_)
      obtain ⟨G_80, rfl⟩ : ∃ z, z = u := ⟨_, rfl⟩
      obtain ⟨hP1, hD1⟩ := hB
      rw [ht] at hP1
      obtain ⟨hP, hD⟩ := va_join (wr := [((ma 2), .inl (cI, 40, .inl fP)), ((ma 3), .inl (cI, 40, .inl fM)), ((ma 4), .inl (cI, 40, .inl fO)), ((ma 5), .inl (cI, 40, .inl fG)), ((ma 8), .inl (cB, 1200, .inl fN)), ((ma 1), .inl (cI, 40, .inl fK)), ((ma 9), .inl (cI, 40, .inl fNS)), ((ma 10), .inl (cB, 8000, .inl fT)), ((ma 11), .inl (cI, 40, .inl fTS))]) (w1 := [(h0, .inr (11, MO ma sv_thrown sv_length sv_nodes sv_many sv_directories sv_runsFrom sv_runs sv_read sv_wrong sv_isNamed sv_goes sv_goesSize sv_goesAt sv_targetParts sv_isRoot)), ((ma 16), .inl (cJ, 46080, .inr (.inl G_80)))]) hP hD [5, 6] [0, 1, 2, 3, 4, 7, 8, 9, 10] rfl rfl (by decide +kernel) (by decide +kernel) hk1 hFc hP1 hD1
      clear hPc hDc hFc hP1 hD1 hk1 hz1 hkc hks
      generalize H1 = H at hP hS ⊢
      have hP : va_P D CL [((ma 2), .inl (cI, 40, .inl fP)), ((ma 3), .inl (cI, 40, .inl fM)), ((ma 4), .inl (cI, 40, .inl fO)), ((ma 5), .inl (cI, 40, .inl fG)), ((ma 8), .inl (cB, 1200, .inl fN)), ((ma 1), .inl (cI, 40, .inl fK)), ((ma 9), .inl (cI, 40, .inl fNS)), ((ma 10), .inl (cB, 8000, .inl fT)), ((ma 11), .inl (cI, 40, .inl fTS)), (h0, .inr (11, MO ma sv_thrown sv_length sv_nodes sv_many sv_directories sv_runsFrom sv_runs sv_read sv_wrong sv_isNamed sv_goes sv_goesSize sv_goesAt sv_targetParts sv_isRoot)), ((ma 16), .inl (cJ, 46080, .inr (.inl G_80)))] H := hP
      have hD : va_D A [((ma 2), .inl (cI, 40, .inl fP)), ((ma 3), .inl (cI, 40, .inl fM)), ((ma 4), .inl (cI, 40, .inl fO)), ((ma 5), .inl (cI, 40, .inl fG)), ((ma 8), .inl (cB, 1200, .inl fN)), ((ma 1), .inl (cI, 40, .inl fK)), ((ma 9), .inl (cI, 40, .inl fNS)), ((ma 10), .inl (cB, 8000, .inl fT)), ((ma 11), .inl (cI, 40, .inl fTS)), (h0, .inr (11, MO ma sv_thrown sv_length sv_nodes sv_many sv_directories sv_runsFrom sv_runs sv_read sv_wrong sv_isNamed sv_goes sv_goesSize sv_goesAt sv_targetParts sv_isRoot)), ((ma 16), .inl (cJ, 46080, .inr (.inl G_80)))] := hD
      refine lv_aload_n hx hb d_DiscMakerModel_lay_32 rfl (lv_at hl 1 rfl) ?_
      refine lv_iload hx hb d_DiscMakerModel_lay_33 (lv_at hl 5 rfl) ?_
      refine lv_iconst (v := 4) hx hb d_DiscMakerModel_lay_35 (by decide) ?_
      refine lv_iadd hx hb d_DiscMakerModel_lay_36 ?_
      refine lv_topi (fun v81 e_v81 => ?_)
      have t_v81 : v81.toInt = w.toInt + 4 := by rw [e_v81]; exact i_add rfl (by decide) (by omega) (by omega)
      refine lv_sipush (v := 190) hx hb d_DiscMakerModel_lay_37 (by decide) ?_
      have hPc := hP.sub (ws' := [(h0, .inr (11, MO ma sv_thrown sv_length sv_nodes sv_many sv_directories sv_runsFrom sv_runs sv_read sv_wrong sv_isNamed sv_goes sv_goesSize sv_goesAt sv_targetParts sv_isRoot)), ((ma 16), .inl (cJ, 46080, .inr (.inl G_80)))]) [9, 10] rfl
      have hDc := hD.sub (ws' := [(h0, .inr (11, MO ma sv_thrown sv_length sv_nodes sv_many sv_directories sv_runsFrom sv_runs sv_read sv_wrong sv_isNamed sv_goes sv_goesSize sv_goesAt sv_targetParts sv_isRoot)), ((ma 16), .inl (cJ, 46080, .inr (.inl G_80)))]) [9, 10] (by decide +kernel) rfl
      have hFc := va_free (wc := [(h0, .inr (11, MO ma sv_thrown sv_length sv_nodes sv_many sv_directories sv_runsFrom sv_runs sv_read sv_wrong sv_isNamed sv_goes sv_goesSize sv_goesAt sv_targetParts sv_isRoot)), ((ma 16), .inl (cJ, 46080, .inr (.inl G_80)))]) hD hS hA [9, 10] rfl
      have hkc : 0 ≤ 0 := by decide
      have hks : 0 ≤ 0 := by decide
      refine va_callv (va_runV (C := "DiscMakerModel") (As := [.int v81, .int 190]) (rest := []) ⟨hx, hb, hml, hown, hts⟩ (m_set l D cB cI cJ cZ cN cF H.size h0 ma sv_thrown sv_length sv_nodes sv_many sv_directories sv_runsFrom sv_runs sv_read sv_wrong sv_isNamed sv_goes sv_goesSize sv_goesAt sv_targetParts sv_isRoot G_80 v81 190 (by (try dsimp only); first | assumption | omega | trivial) (by (try dsimp only); first | assumption | omega | trivial)) (cwV 2 hts (lg_goodV k1727 k1729 k79 k125 kc_DiscMakerModel_set) rfl rfl rfl (by decide +kernel) ⟨Nat.le_of_ble_eq_true rfl, Nat.le_of_ble_eq_true rfl⟩) ⟨fun a U g mk q => by obtain ⟨q0, q1, qP, qK, qN, qD⟩ := q; exact ⟨q0, q1, qP, va_K.moved (u := U) (U := U.calling g mk a) (Vm.Alike.refl U.vm) qK, qN.calling, qD⟩, va_recv hK hP (ci := 11) (q0 := 9) rfl rfl, fun U hU hW => ⟨rfl, by rw [hU], by rw [hU]; exact hPc, va_K.moved hW.alike hK, NN.warm hW hN, hDc.weaken (fun _ _ _ _ => trivial)⟩⟩ rfl rfl hl.1 rfl (lv_room (Nat.le_of_ble_eq_true rfl)) d_DiscMakerModel_lay_40 ⟨hkc, hks⟩) hS (fun q _ h => hFc q h) hFc (fun u t H1 locs ht hvm hp_r82 hB hz1 hk1 hS => ?_)
      obtain ⟨G_83, rfl⟩ : ∃ z, z = u := ⟨_, rfl⟩
      obtain ⟨hP1, hD1⟩ := hB
      rw [ht] at hP1
      obtain ⟨hP, hD⟩ := va_join (wr := [((ma 2), .inl (cI, 40, .inl fP)), ((ma 3), .inl (cI, 40, .inl fM)), ((ma 4), .inl (cI, 40, .inl fO)), ((ma 5), .inl (cI, 40, .inl fG)), ((ma 8), .inl (cB, 1200, .inl fN)), ((ma 1), .inl (cI, 40, .inl fK)), ((ma 9), .inl (cI, 40, .inl fNS)), ((ma 10), .inl (cB, 8000, .inl fT)), ((ma 11), .inl (cI, 40, .inl fTS))]) (w1 := [(h0, .inr (11, MO ma sv_thrown sv_length sv_nodes sv_many sv_directories sv_runsFrom sv_runs sv_read sv_wrong sv_isNamed sv_goes sv_goesSize sv_goesAt sv_targetParts sv_isRoot)), ((ma 16), .inl (cJ, 46080, .inr (.inl G_83)))]) hP hD [9, 10] [0, 1, 2, 3, 4, 5, 6, 7, 8] rfl rfl (by decide +kernel) (by decide +kernel) hk1 hFc hP1 hD1
      clear hPc hDc hFc hP1 hD1 hk1 hz1 hkc hks
      generalize H1 = H at hP hS ⊢
      have hP : va_P D CL [((ma 2), .inl (cI, 40, .inl fP)), ((ma 3), .inl (cI, 40, .inl fM)), ((ma 4), .inl (cI, 40, .inl fO)), ((ma 5), .inl (cI, 40, .inl fG)), ((ma 8), .inl (cB, 1200, .inl fN)), ((ma 1), .inl (cI, 40, .inl fK)), ((ma 9), .inl (cI, 40, .inl fNS)), ((ma 10), .inl (cB, 8000, .inl fT)), ((ma 11), .inl (cI, 40, .inl fTS)), (h0, .inr (11, MO ma sv_thrown sv_length sv_nodes sv_many sv_directories sv_runsFrom sv_runs sv_read sv_wrong sv_isNamed sv_goes sv_goesSize sv_goesAt sv_targetParts sv_isRoot)), ((ma 16), .inl (cJ, 46080, .inr (.inl G_83)))] H := hP
      have hD : va_D A [((ma 2), .inl (cI, 40, .inl fP)), ((ma 3), .inl (cI, 40, .inl fM)), ((ma 4), .inl (cI, 40, .inl fO)), ((ma 5), .inl (cI, 40, .inl fG)), ((ma 8), .inl (cB, 1200, .inl fN)), ((ma 1), .inl (cI, 40, .inl fK)), ((ma 9), .inl (cI, 40, .inl fNS)), ((ma 10), .inl (cB, 8000, .inl fT)), ((ma 11), .inl (cI, 40, .inl fTS)), (h0, .inr (11, MO ma sv_thrown sv_length sv_nodes sv_many sv_directories sv_runsFrom sv_runs sv_read sv_wrong sv_isNamed sv_goes sv_goesSize sv_goesAt sv_targetParts sv_isRoot)), ((ma 16), .inl (cJ, 46080, .inr (.inl G_83)))] := hD
      refine lv_aload_n hx hb d_DiscMakerModel_lay_43 rfl (lv_at hl 1 rfl) ?_
      refine lv_iload hx hb d_DiscMakerModel_lay_44 (lv_at hl 5 rfl) ?_
      refine lv_iconst (v := 5) hx hb d_DiscMakerModel_lay_46 (by decide) ?_
      refine lv_iadd hx hb d_DiscMakerModel_lay_47 ?_
      refine lv_topi (fun v84 e_v84 => ?_)
      have t_v84 : v84.toInt = w.toInt + 5 := by rw [e_v84]; exact i_add rfl (by decide) (by omega) (by omega)
      refine lv_sipush (v := 239) hx hb d_DiscMakerModel_lay_48 (by decide) ?_
      have hPc := hP.sub (ws' := [(h0, .inr (11, MO ma sv_thrown sv_length sv_nodes sv_many sv_directories sv_runsFrom sv_runs sv_read sv_wrong sv_isNamed sv_goes sv_goesSize sv_goesAt sv_targetParts sv_isRoot)), ((ma 16), .inl (cJ, 46080, .inr (.inl G_83)))]) [9, 10] rfl
      have hDc := hD.sub (ws' := [(h0, .inr (11, MO ma sv_thrown sv_length sv_nodes sv_many sv_directories sv_runsFrom sv_runs sv_read sv_wrong sv_isNamed sv_goes sv_goesSize sv_goesAt sv_targetParts sv_isRoot)), ((ma 16), .inl (cJ, 46080, .inr (.inl G_83)))]) [9, 10] (by decide +kernel) rfl
      have hFc := va_free (wc := [(h0, .inr (11, MO ma sv_thrown sv_length sv_nodes sv_many sv_directories sv_runsFrom sv_runs sv_read sv_wrong sv_isNamed sv_goes sv_goesSize sv_goesAt sv_targetParts sv_isRoot)), ((ma 16), .inl (cJ, 46080, .inr (.inl G_83)))]) hD hS hA [9, 10] rfl
      have hkc : 0 ≤ 0 := by decide
      have hks : 0 ≤ 0 := by decide
      refine va_callv (va_runV (C := "DiscMakerModel") (As := [.int v84, .int 239]) (rest := []) ⟨hx, hb, hml, hown, hts⟩ (m_set l D cB cI cJ cZ cN cF H.size h0 ma sv_thrown sv_length sv_nodes sv_many sv_directories sv_runsFrom sv_runs sv_read sv_wrong sv_isNamed sv_goes sv_goesSize sv_goesAt sv_targetParts sv_isRoot G_83 v84 239 (by (try dsimp only); first | assumption | omega | trivial) (by (try dsimp only); first | assumption | omega | trivial)) (cwV 2 hts (lg_goodV k1727 k1729 k79 k125 kc_DiscMakerModel_set) rfl rfl rfl (by decide +kernel) ⟨Nat.le_of_ble_eq_true rfl, Nat.le_of_ble_eq_true rfl⟩) ⟨fun a U g mk q => by obtain ⟨q0, q1, qP, qK, qN, qD⟩ := q; exact ⟨q0, q1, qP, va_K.moved (u := U) (U := U.calling g mk a) (Vm.Alike.refl U.vm) qK, qN.calling, qD⟩, va_recv hK hP (ci := 11) (q0 := 9) rfl rfl, fun U hU hW => ⟨rfl, by rw [hU], by rw [hU]; exact hPc, va_K.moved hW.alike hK, NN.warm hW hN, hDc.weaken (fun _ _ _ _ => trivial)⟩⟩ rfl rfl hl.1 rfl (lv_room (Nat.le_of_ble_eq_true rfl)) d_DiscMakerModel_lay_51 ⟨hkc, hks⟩) hS (fun q _ h => hFc q h) hFc (fun u t H1 locs ht hvm hp_r85 hB hz1 hk1 hS => ?_)
      obtain ⟨G_86, rfl⟩ : ∃ z, z = u := ⟨_, rfl⟩
      obtain ⟨hP1, hD1⟩ := hB
      rw [ht] at hP1
      obtain ⟨hP, hD⟩ := va_join (wr := [((ma 2), .inl (cI, 40, .inl fP)), ((ma 3), .inl (cI, 40, .inl fM)), ((ma 4), .inl (cI, 40, .inl fO)), ((ma 5), .inl (cI, 40, .inl fG)), ((ma 8), .inl (cB, 1200, .inl fN)), ((ma 1), .inl (cI, 40, .inl fK)), ((ma 9), .inl (cI, 40, .inl fNS)), ((ma 10), .inl (cB, 8000, .inl fT)), ((ma 11), .inl (cI, 40, .inl fTS))]) (w1 := [(h0, .inr (11, MO ma sv_thrown sv_length sv_nodes sv_many sv_directories sv_runsFrom sv_runs sv_read sv_wrong sv_isNamed sv_goes sv_goesSize sv_goesAt sv_targetParts sv_isRoot)), ((ma 16), .inl (cJ, 46080, .inr (.inl G_86)))]) hP hD [9, 10] [0, 1, 2, 3, 4, 5, 6, 7, 8] rfl rfl (by decide +kernel) (by decide +kernel) hk1 hFc hP1 hD1
      clear hPc hDc hFc hP1 hD1 hk1 hz1 hkc hks
      generalize H1 = H at hP hS ⊢
      have hP : va_P D CL [((ma 2), .inl (cI, 40, .inl fP)), ((ma 3), .inl (cI, 40, .inl fM)), ((ma 4), .inl (cI, 40, .inl fO)), ((ma 5), .inl (cI, 40, .inl fG)), ((ma 8), .inl (cB, 1200, .inl fN)), ((ma 1), .inl (cI, 40, .inl fK)), ((ma 9), .inl (cI, 40, .inl fNS)), ((ma 10), .inl (cB, 8000, .inl fT)), ((ma 11), .inl (cI, 40, .inl fTS)), (h0, .inr (11, MO ma sv_thrown sv_length sv_nodes sv_many sv_directories sv_runsFrom sv_runs sv_read sv_wrong sv_isNamed sv_goes sv_goesSize sv_goesAt sv_targetParts sv_isRoot)), ((ma 16), .inl (cJ, 46080, .inr (.inl G_86)))] H := hP
      have hD : va_D A [((ma 2), .inl (cI, 40, .inl fP)), ((ma 3), .inl (cI, 40, .inl fM)), ((ma 4), .inl (cI, 40, .inl fO)), ((ma 5), .inl (cI, 40, .inl fG)), ((ma 8), .inl (cB, 1200, .inl fN)), ((ma 1), .inl (cI, 40, .inl fK)), ((ma 9), .inl (cI, 40, .inl fNS)), ((ma 10), .inl (cB, 8000, .inl fT)), ((ma 11), .inl (cI, 40, .inl fTS)), (h0, .inr (11, MO ma sv_thrown sv_length sv_nodes sv_many sv_directories sv_runsFrom sv_runs sv_read sv_wrong sv_isNamed sv_goes sv_goesSize sv_goesAt sv_targetParts sv_isRoot)), ((ma 16), .inl (cJ, 46080, .inr (.inl G_86)))] := hD
      refine lv_goto (tgt := 258) hx hb d_DiscMakerModel_lay_54 (by decide) ?_
      refine lv_iload hx hb d_DiscMakerModel_lay_258 (lv_at hl 0 rfl) ?_
      have hP9 := hP.sub (ws' := [(h0, .inr (11, MO ma sv_thrown sv_length sv_nodes sv_many sv_directories sv_runsFrom sv_runs sv_read sv_wrong sv_isNamed sv_goes sv_goesSize sv_goesAt sv_targetParts sv_isRoot)), ((ma 16), .inl (cJ, 46080, .inr (.inl G_86))), ((ma 1), .inl (cI, 40, .inl fK)), ((ma 2), .inl (cI, 40, .inl fP)), ((ma 3), .inl (cI, 40, .inl fM)), ((ma 4), .inl (cI, 40, .inl fO)), ((ma 5), .inl (cI, 40, .inl fG)), ((ma 8), .inl (cB, 1200, .inl fN)), ((ma 9), .inl (cI, 40, .inl fNS)), ((ma 10), .inl (cB, 8000, .inl fT)), ((ma 11), .inl (cI, 40, .inl fTS))]) [9, 10, 5, 0, 1, 2, 3, 4, 6, 7, 8] rfl
      have hD9 := hD.sub (ws' := [(h0, .inr (11, MO ma sv_thrown sv_length sv_nodes sv_many sv_directories sv_runsFrom sv_runs sv_read sv_wrong sv_isNamed sv_goes sv_goesSize sv_goesAt sv_targetParts sv_isRoot)), ((ma 16), .inl (cJ, 46080, .inr (.inl G_86))), ((ma 1), .inl (cI, 40, .inl fK)), ((ma 2), .inl (cI, 40, .inl fP)), ((ma 3), .inl (cI, 40, .inl fM)), ((ma 4), .inl (cI, 40, .inl fO)), ((ma 5), .inl (cI, 40, .inl fG)), ((ma 8), .inl (cB, 1200, .inl fN)), ((ma 9), .inl (cI, 40, .inl fNS)), ((ma 10), .inl (cB, 8000, .inl fT)), ((ma 11), .inl (cI, 40, .inl fTS))]) [9, 10, 5, 0, 1, 2, 3, 4, 6, 7, 8] (by decide +kernel) rfl
      exact W.iret (v := r1) hx hb hr (fun t ht hW => ⟨⟨r1, G_86, rfl, (by (try dsimp only); first | assumption | omega | trivial), by rw [ht]; exact hP9, hD9⟩, hS.F ht⟩) hS.2.2 d_DiscMakerModel_lay_260
  · skip
    have g11_8 : r1.toInt = 0 := (i_eq rfl (by decide)).mp h_9
    refine lv_iconst (v := 0) hx hb d_DiscMakerModel_lay_14 (by decide) ?_
    have hP9 := hP.sub (ws' := [(h0, .inr (11, MO ma sv_thrown sv_length sv_nodes sv_many sv_directories sv_runsFrom sv_runs sv_read sv_wrong sv_isNamed sv_goes sv_goesSize sv_goesAt sv_targetParts sv_isRoot)), ((ma 16), .inl (cJ, 46080, .inr (.inl G_2))), ((ma 1), .inl (cI, 40, .inl fK)), ((ma 2), .inl (cI, 40, .inl fP)), ((ma 3), .inl (cI, 40, .inl fM)), ((ma 4), .inl (cI, 40, .inl fO)), ((ma 5), .inl (cI, 40, .inl fG)), ((ma 8), .inl (cB, 1200, .inl fN)), ((ma 9), .inl (cI, 40, .inl fNS)), ((ma 10), .inl (cB, 8000, .inl fT)), ((ma 11), .inl (cI, 40, .inl fTS))]) [5, 6, 7, 0, 1, 2, 3, 4, 8, 9, 10] rfl
    have hD9 := hD.sub (ws' := [(h0, .inr (11, MO ma sv_thrown sv_length sv_nodes sv_many sv_directories sv_runsFrom sv_runs sv_read sv_wrong sv_isNamed sv_goes sv_goesSize sv_goesAt sv_targetParts sv_isRoot)), ((ma 16), .inl (cJ, 46080, .inr (.inl G_2))), ((ma 1), .inl (cI, 40, .inl fK)), ((ma 2), .inl (cI, 40, .inl fP)), ((ma 3), .inl (cI, 40, .inl fM)), ((ma 4), .inl (cI, 40, .inl fO)), ((ma 5), .inl (cI, 40, .inl fG)), ((ma 8), .inl (cB, 1200, .inl fN)), ((ma 9), .inl (cI, 40, .inl fNS)), ((ma 10), .inl (cB, 8000, .inl fT)), ((ma 11), .inl (cI, 40, .inl fTS))]) [5, 6, 7, 0, 1, 2, 3, 4, 8, 9, 10] (by decide +kernel) rfl
    exact W.iret (v := 0) hx hb hr (fun t ht hW => ⟨⟨0, G_2, rfl, (by (try dsimp only); first | assumption | omega | trivial), by rw [ht]; exact hP9, hD9⟩, hS.F ht⟩) hS.2.2 d_DiscMakerModel_lay_15
