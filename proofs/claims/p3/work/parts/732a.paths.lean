theorem d_DiscMakerModel_paths_0 : decode b_DiscMakerModel_paths 0 = .ok (.sipush 2048, 3) := by decide +kernel
theorem d_DiscMakerModel_paths_3 : decode b_DiscMakerModel_paths 3 = .ok (.bipush 19, 2) := by decide +kernel
theorem d_DiscMakerModel_paths_5 : decode b_DiscMakerModel_paths 5 = .ok (.iconst 2, 1) := by decide +kernel
theorem d_DiscMakerModel_paths_6 : decode b_DiscMakerModel_paths 6 = .ok (.iload_n 1, 1) := by decide +kernel
theorem d_DiscMakerModel_paths_7 : decode b_DiscMakerModel_paths 7 = .ok (.imul, 1) := by decide +kernel
theorem d_DiscMakerModel_paths_8 : decode b_DiscMakerModel_paths 8 = .ok (.iadd, 1) := by decide +kernel
theorem d_DiscMakerModel_paths_9 : decode b_DiscMakerModel_paths 9 = .ok (.imul, 1) := by decide +kernel
theorem d_DiscMakerModel_paths_10 : decode b_DiscMakerModel_paths 10 = .ok (.istore_n 2, 1) := by decide +kernel
theorem d_DiscMakerModel_paths_11 : decode b_DiscMakerModel_paths 11 = .ok (.iload_n 2, 1) := by decide +kernel
theorem d_DiscMakerModel_paths_12 : decode b_DiscMakerModel_paths 12 = .ok (.sipush 2048, 3) := by decide +kernel
theorem d_DiscMakerModel_paths_15 : decode b_DiscMakerModel_paths 15 = .ok (.iadd, 1) := by decide +kernel
theorem d_DiscMakerModel_paths_16 : decode b_DiscMakerModel_paths 16 = .ok (.istore_n 3, 1) := by decide +kernel
theorem d_DiscMakerModel_paths_17 : decode b_DiscMakerModel_paths 17 = .ok (.iconst 0, 1) := by decide +kernel
theorem d_DiscMakerModel_paths_18 : decode b_DiscMakerModel_paths 18 = .ok (.istore 4, 2) := by decide +kernel
theorem d_DiscMakerModel_paths_20 : decode b_DiscMakerModel_paths 20 = .ok (.iload 4, 2) := by decide +kernel
theorem d_DiscMakerModel_paths_22 : decode b_DiscMakerModel_paths 22 = .ok (.aload_n 0, 1) := by decide +kernel
theorem d_DiscMakerModel_paths_23 : decode b_DiscMakerModel_paths 23 = .ok (.getfield 185, 3) := by decide +kernel
theorem d_DiscMakerModel_paths_26 : decode b_DiscMakerModel_paths 26 = .ok (.if_icmp .ge 225, 3) := by decide +kernel
theorem d_DiscMakerModel_paths_29 : decode b_DiscMakerModel_paths 29 = .ok (.aload_n 0, 1) := by decide +kernel
theorem d_DiscMakerModel_paths_30 : decode b_DiscMakerModel_paths 30 = .ok (.getfield 64, 3) := by decide +kernel
theorem d_DiscMakerModel_paths_33 : decode b_DiscMakerModel_paths 33 = .ok (.bipush 12, 2) := by decide +kernel
theorem d_DiscMakerModel_paths_35 : decode b_DiscMakerModel_paths 35 = .ok (.iload_n 1, 1) := by decide +kernel
theorem d_DiscMakerModel_paths_36 : decode b_DiscMakerModel_paths 36 = .ok (.imul, 1) := by decide +kernel
theorem d_DiscMakerModel_paths_37 : decode b_DiscMakerModel_paths 37 = .ok (.iload 4, 2) := by decide +kernel
theorem d_DiscMakerModel_paths_39 : decode b_DiscMakerModel_paths 39 = .ok (.iadd, 1) := by decide +kernel
theorem d_DiscMakerModel_paths_40 : decode b_DiscMakerModel_paths 40 = .ok (.iaload, 1) := by decide +kernel
theorem d_DiscMakerModel_paths_41 : decode b_DiscMakerModel_paths 41 = .ok (.istore 5, 2) := by decide +kernel
theorem d_DiscMakerModel_paths_43 : decode b_DiscMakerModel_paths 43 = .ok (.iload 5, 2) := by decide +kernel
theorem d_DiscMakerModel_paths_45 : decode b_DiscMakerModel_paths 45 = .ok (.ifCond .ne 7, 3) := by decide +kernel
theorem d_DiscMakerModel_paths_48 : decode b_DiscMakerModel_paths 48 = .ok (.iconst 0, 1) := by decide +kernel
theorem d_DiscMakerModel_paths_49 : decode b_DiscMakerModel_paths 49 = .ok (.goto 4, 3) := by decide +kernel
theorem d_DiscMakerModel_paths_52 : decode b_DiscMakerModel_paths 52 = .ok (.iconst 2, 1) := by decide +kernel
theorem d_DiscMakerModel_paths_53 : decode b_DiscMakerModel_paths 53 = .ok (.istore 6, 2) := by decide +kernel
theorem d_DiscMakerModel_paths_55 : decode b_DiscMakerModel_paths 55 = .ok (.aload_n 0, 1) := by decide +kernel
theorem d_DiscMakerModel_paths_56 : decode b_DiscMakerModel_paths 56 = .ok (.iload_n 1, 1) := by decide +kernel
theorem d_DiscMakerModel_paths_57 : decode b_DiscMakerModel_paths 57 = .ok (.iload 6, 2) := by decide +kernel
theorem d_DiscMakerModel_paths_59 : decode b_DiscMakerModel_paths 59 = .ok (.iload 5, 2) := by decide +kernel
theorem d_DiscMakerModel_paths_61 : decode b_DiscMakerModel_paths 61 = .ok (.invokevirtual 210, 3) := by decide +kernel
theorem d_DiscMakerModel_paths_64 : decode b_DiscMakerModel_paths 64 = .ok (.istore 7, 2) := by decide +kernel
theorem d_DiscMakerModel_paths_66 : decode b_DiscMakerModel_paths 66 = .ok (.iload 5, 2) := by decide +kernel
theorem d_DiscMakerModel_paths_68 : decode b_DiscMakerModel_paths 68 = .ok (.ifCond .ne 7, 3) := by decide +kernel
theorem d_DiscMakerModel_paths_71 : decode b_DiscMakerModel_paths 71 = .ok (.iconst 1, 1) := by decide +kernel
theorem d_DiscMakerModel_paths_72 : decode b_DiscMakerModel_paths 72 = .ok (.goto 15, 3) := by decide +kernel
theorem d_DiscMakerModel_paths_75 : decode b_DiscMakerModel_paths 75 = .ok (.aload_n 0, 1) := by decide +kernel
theorem d_DiscMakerModel_paths_76 : decode b_DiscMakerModel_paths 76 = .ok (.iload_n 1, 1) := by decide +kernel
theorem d_DiscMakerModel_paths_77 : decode b_DiscMakerModel_paths 77 = .ok (.aload_n 0, 1) := by decide +kernel
theorem d_DiscMakerModel_paths_78 : decode b_DiscMakerModel_paths 78 = .ok (.getfield 17, 3) := by decide +kernel
theorem d_DiscMakerModel_paths_81 : decode b_DiscMakerModel_paths 81 = .ok (.iload 5, 2) := by decide +kernel
theorem d_DiscMakerModel_paths_83 : decode b_DiscMakerModel_paths 83 = .ok (.iaload, 1) := by decide +kernel
theorem d_DiscMakerModel_paths_84 : decode b_DiscMakerModel_paths 84 = .ok (.invokevirtual 294, 3) := by decide +kernel
theorem d_DiscMakerModel_paths_87 : decode b_DiscMakerModel_paths 87 = .ok (.istore 8, 2) := by decide +kernel
theorem d_DiscMakerModel_paths_89 : decode b_DiscMakerModel_paths 89 = .ok (.aload_n 0, 1) := by decide +kernel
theorem d_DiscMakerModel_paths_90 : decode b_DiscMakerModel_paths 90 = .ok (.iload_n 2, 1) := by decide +kernel
theorem d_DiscMakerModel_paths_91 : decode b_DiscMakerModel_paths 91 = .ok (.iload 7, 2) := by decide +kernel
theorem d_DiscMakerModel_paths_93 : decode b_DiscMakerModel_paths 93 = .ok (.invokevirtual 192, 3) := by decide +kernel
theorem d_DiscMakerModel_paths_96 : decode b_DiscMakerModel_paths 96 = .ok (.aload_n 0, 1) := by decide +kernel
theorem d_DiscMakerModel_paths_97 : decode b_DiscMakerModel_paths 97 = .ok (.iload_n 3, 1) := by decide +kernel
theorem d_DiscMakerModel_paths_98 : decode b_DiscMakerModel_paths 98 = .ok (.iload 7, 2) := by decide +kernel
theorem d_DiscMakerModel_paths_100 : decode b_DiscMakerModel_paths 100 = .ok (.invokevirtual 192, 3) := by decide +kernel
theorem d_DiscMakerModel_paths_103 : decode b_DiscMakerModel_paths 103 = .ok (.aload_n 0, 1) := by decide +kernel
theorem d_DiscMakerModel_paths_104 : decode b_DiscMakerModel_paths 104 = .ok (.iload_n 2, 1) := by decide +kernel
theorem d_DiscMakerModel_paths_105 : decode b_DiscMakerModel_paths 105 = .ok (.iconst 2, 1) := by decide +kernel
theorem d_DiscMakerModel_paths_106 : decode b_DiscMakerModel_paths 106 = .ok (.iadd, 1) := by decide +kernel
theorem d_DiscMakerModel_paths_107 : decode b_DiscMakerModel_paths 107 = .ok (.iconst 4, 1) := by decide +kernel
theorem d_DiscMakerModel_paths_108 : decode b_DiscMakerModel_paths 108 = .ok (.aload_n 0, 1) := by decide +kernel
theorem d_DiscMakerModel_paths_109 : decode b_DiscMakerModel_paths 109 = .ok (.getfield 67, 3) := by decide +kernel
theorem d_DiscMakerModel_paths_112 : decode b_DiscMakerModel_paths 112 = .ok (.bipush 40, 2) := by decide +kernel
theorem d_DiscMakerModel_paths_114 : decode b_DiscMakerModel_paths 114 = .ok (.iload_n 1, 1) := by decide +kernel
theorem d_DiscMakerModel_paths_115 : decode b_DiscMakerModel_paths 115 = .ok (.imul, 1) := by decide +kernel
theorem d_DiscMakerModel_paths_116 : decode b_DiscMakerModel_paths 116 = .ok (.iload 5, 2) := by decide +kernel
theorem d_DiscMakerModel_paths_118 : decode b_DiscMakerModel_paths 118 = .ok (.iadd, 1) := by decide +kernel
theorem d_DiscMakerModel_paths_119 : decode b_DiscMakerModel_paths 119 = .ok (.iaload, 1) := by decide +kernel
theorem d_DiscMakerModel_paths_120 : decode b_DiscMakerModel_paths 120 = .ok (.invokevirtual 196, 3) := by decide +kernel
theorem d_DiscMakerModel_paths_123 : decode b_DiscMakerModel_paths 123 = .ok (.aload_n 0, 1) := by decide +kernel
theorem d_DiscMakerModel_paths_124 : decode b_DiscMakerModel_paths 124 = .ok (.iload_n 3, 1) := by decide +kernel
theorem d_DiscMakerModel_paths_125 : decode b_DiscMakerModel_paths 125 = .ok (.iconst 2, 1) := by decide +kernel
theorem d_DiscMakerModel_paths_126 : decode b_DiscMakerModel_paths 126 = .ok (.iadd, 1) := by decide +kernel
theorem d_DiscMakerModel_paths_127 : decode b_DiscMakerModel_paths 127 = .ok (.iconst 4, 1) := by decide +kernel
theorem d_DiscMakerModel_paths_128 : decode b_DiscMakerModel_paths 128 = .ok (.aload_n 0, 1) := by decide +kernel
theorem d_DiscMakerModel_paths_129 : decode b_DiscMakerModel_paths 129 = .ok (.getfield 67, 3) := by decide +kernel
theorem d_DiscMakerModel_paths_132 : decode b_DiscMakerModel_paths 132 = .ok (.bipush 40, 2) := by decide +kernel
theorem d_DiscMakerModel_paths_134 : decode b_DiscMakerModel_paths 134 = .ok (.iload_n 1, 1) := by decide +kernel
theorem d_DiscMakerModel_paths_135 : decode b_DiscMakerModel_paths 135 = .ok (.imul, 1) := by decide +kernel
theorem d_DiscMakerModel_paths_136 : decode b_DiscMakerModel_paths 136 = .ok (.iload 5, 2) := by decide +kernel
theorem d_DiscMakerModel_paths_138 : decode b_DiscMakerModel_paths 138 = .ok (.iadd, 1) := by decide +kernel
theorem d_DiscMakerModel_paths_139 : decode b_DiscMakerModel_paths 139 = .ok (.iaload, 1) := by decide +kernel
theorem d_DiscMakerModel_paths_140 : decode b_DiscMakerModel_paths 140 = .ok (.invokevirtual 200, 3) := by decide +kernel
theorem d_DiscMakerModel_paths_143 : decode b_DiscMakerModel_paths 143 = .ok (.aload_n 0, 1) := by decide +kernel
theorem d_DiscMakerModel_paths_144 : decode b_DiscMakerModel_paths 144 = .ok (.iload_n 2, 1) := by decide +kernel
theorem d_DiscMakerModel_paths_145 : decode b_DiscMakerModel_paths 145 = .ok (.bipush 6, 2) := by decide +kernel
theorem d_DiscMakerModel_paths_147 : decode b_DiscMakerModel_paths 147 = .ok (.iadd, 1) := by decide +kernel
theorem d_DiscMakerModel_paths_148 : decode b_DiscMakerModel_paths 148 = .ok (.iconst 2, 1) := by decide +kernel
theorem d_DiscMakerModel_paths_149 : decode b_DiscMakerModel_paths 149 = .ok (.iload 8, 2) := by decide +kernel
theorem d_DiscMakerModel_paths_151 : decode b_DiscMakerModel_paths 151 = .ok (.invokevirtual 196, 3) := by decide +kernel
theorem d_DiscMakerModel_paths_154 : decode b_DiscMakerModel_paths 154 = .ok (.aload_n 0, 1) := by decide +kernel
theorem d_DiscMakerModel_paths_155 : decode b_DiscMakerModel_paths 155 = .ok (.iload_n 3, 1) := by decide +kernel
theorem d_DiscMakerModel_paths_156 : decode b_DiscMakerModel_paths 156 = .ok (.bipush 6, 2) := by decide +kernel
theorem d_DiscMakerModel_paths_158 : decode b_DiscMakerModel_paths 158 = .ok (.iadd, 1) := by decide +kernel
theorem d_DiscMakerModel_paths_159 : decode b_DiscMakerModel_paths 159 = .ok (.iconst 2, 1) := by decide +kernel
theorem d_DiscMakerModel_paths_160 : decode b_DiscMakerModel_paths 160 = .ok (.iload 8, 2) := by decide +kernel
theorem d_DiscMakerModel_paths_162 : decode b_DiscMakerModel_paths 162 = .ok (.invokevirtual 200, 3) := by decide +kernel
theorem d_DiscMakerModel_paths_165 : decode b_DiscMakerModel_paths 165 = .ok (.iconst 0, 1) := by decide +kernel
theorem d_DiscMakerModel_paths_166 : decode b_DiscMakerModel_paths 166 = .ok (.istore 9, 2) := by decide +kernel
theorem d_DiscMakerModel_paths_168 : decode b_DiscMakerModel_paths 168 = .ok (.iload 9, 2) := by decide +kernel
theorem d_DiscMakerModel_paths_170 : decode b_DiscMakerModel_paths 170 = .ok (.iload 7, 2) := by decide +kernel
theorem d_DiscMakerModel_paths_172 : decode b_DiscMakerModel_paths 172 = .ok (.if_icmp .ge 53, 3) := by decide +kernel
theorem d_DiscMakerModel_paths_175 : decode b_DiscMakerModel_paths 175 = .ok (.aload_n 0, 1) := by decide +kernel
theorem d_DiscMakerModel_paths_176 : decode b_DiscMakerModel_paths 176 = .ok (.iload_n 2, 1) := by decide +kernel
theorem d_DiscMakerModel_paths_177 : decode b_DiscMakerModel_paths 177 = .ok (.bipush 8, 2) := by decide +kernel
theorem d_DiscMakerModel_paths_179 : decode b_DiscMakerModel_paths 179 = .ok (.iadd, 1) := by decide +kernel
theorem d_DiscMakerModel_paths_180 : decode b_DiscMakerModel_paths 180 = .ok (.iload 9, 2) := by decide +kernel
theorem d_DiscMakerModel_paths_182 : decode b_DiscMakerModel_paths 182 = .ok (.iadd, 1) := by decide +kernel
theorem d_DiscMakerModel_paths_183 : decode b_DiscMakerModel_paths 183 = .ok (.aload_n 0, 1) := by decide +kernel
theorem d_DiscMakerModel_paths_184 : decode b_DiscMakerModel_paths 184 = .ok (.iload_n 1, 1) := by decide +kernel
theorem d_DiscMakerModel_paths_185 : decode b_DiscMakerModel_paths 185 = .ok (.iload 6, 2) := by decide +kernel
theorem d_DiscMakerModel_paths_187 : decode b_DiscMakerModel_paths 187 = .ok (.iload 5, 2) := by decide +kernel
theorem d_DiscMakerModel_paths_189 : decode b_DiscMakerModel_paths 189 = .ok (.iload 9, 2) := by decide +kernel
theorem d_DiscMakerModel_paths_191 : decode b_DiscMakerModel_paths 191 = .ok (.invokevirtual 251, 3) := by decide +kernel
theorem d_DiscMakerModel_paths_194 : decode b_DiscMakerModel_paths 194 = .ok (.invokevirtual 192, 3) := by decide +kernel
theorem d_DiscMakerModel_paths_197 : decode b_DiscMakerModel_paths 197 = .ok (.aload_n 0, 1) := by decide +kernel
theorem d_DiscMakerModel_paths_198 : decode b_DiscMakerModel_paths 198 = .ok (.iload_n 3, 1) := by decide +kernel
theorem d_DiscMakerModel_paths_199 : decode b_DiscMakerModel_paths 199 = .ok (.bipush 8, 2) := by decide +kernel
theorem d_DiscMakerModel_paths_201 : decode b_DiscMakerModel_paths 201 = .ok (.iadd, 1) := by decide +kernel
theorem d_DiscMakerModel_paths_202 : decode b_DiscMakerModel_paths 202 = .ok (.iload 9, 2) := by decide +kernel
theorem d_DiscMakerModel_paths_204 : decode b_DiscMakerModel_paths 204 = .ok (.iadd, 1) := by decide +kernel
theorem d_DiscMakerModel_paths_205 : decode b_DiscMakerModel_paths 205 = .ok (.aload_n 0, 1) := by decide +kernel
theorem d_DiscMakerModel_paths_206 : decode b_DiscMakerModel_paths 206 = .ok (.iload_n 1, 1) := by decide +kernel
theorem d_DiscMakerModel_paths_207 : decode b_DiscMakerModel_paths 207 = .ok (.iload 6, 2) := by decide +kernel
theorem d_DiscMakerModel_paths_209 : decode b_DiscMakerModel_paths 209 = .ok (.iload 5, 2) := by decide +kernel
theorem d_DiscMakerModel_paths_211 : decode b_DiscMakerModel_paths 211 = .ok (.iload 9, 2) := by decide +kernel
theorem d_DiscMakerModel_paths_213 : decode b_DiscMakerModel_paths 213 = .ok (.invokevirtual 251, 3) := by decide +kernel
theorem d_DiscMakerModel_paths_216 : decode b_DiscMakerModel_paths 216 = .ok (.invokevirtual 192, 3) := by decide +kernel
theorem d_DiscMakerModel_paths_219 : decode b_DiscMakerModel_paths 219 = .ok (.iinc 9 1, 3) := by decide +kernel
theorem d_DiscMakerModel_paths_222 : decode b_DiscMakerModel_paths 222 = .ok (.goto (-54), 3) := by decide +kernel
theorem d_DiscMakerModel_paths_225 : decode b_DiscMakerModel_paths 225 = .ok (.iload_n 2, 1) := by decide +kernel
theorem d_DiscMakerModel_paths_226 : decode b_DiscMakerModel_paths 226 = .ok (.aload_n 0, 1) := by decide +kernel
theorem d_DiscMakerModel_paths_227 : decode b_DiscMakerModel_paths 227 = .ok (.iload_n 1, 1) := by decide +kernel
theorem d_DiscMakerModel_paths_228 : decode b_DiscMakerModel_paths 228 = .ok (.iload 5, 2) := by decide +kernel
theorem d_DiscMakerModel_paths_230 : decode b_DiscMakerModel_paths 230 = .ok (.invokevirtual 291, 3) := by decide +kernel
theorem d_DiscMakerModel_paths_233 : decode b_DiscMakerModel_paths 233 = .ok (.iadd, 1) := by decide +kernel
theorem d_DiscMakerModel_paths_234 : decode b_DiscMakerModel_paths 234 = .ok (.istore_n 2, 1) := by decide +kernel
theorem d_DiscMakerModel_paths_235 : decode b_DiscMakerModel_paths 235 = .ok (.iload_n 3, 1) := by decide +kernel
theorem d_DiscMakerModel_paths_236 : decode b_DiscMakerModel_paths 236 = .ok (.aload_n 0, 1) := by decide +kernel
theorem d_DiscMakerModel_paths_237 : decode b_DiscMakerModel_paths 237 = .ok (.iload_n 1, 1) := by decide +kernel
theorem d_DiscMakerModel_paths_238 : decode b_DiscMakerModel_paths 238 = .ok (.iload 5, 2) := by decide +kernel
theorem d_DiscMakerModel_paths_240 : decode b_DiscMakerModel_paths 240 = .ok (.invokevirtual 291, 3) := by decide +kernel
theorem d_DiscMakerModel_paths_243 : decode b_DiscMakerModel_paths 243 = .ok (.iadd, 1) := by decide +kernel
theorem d_DiscMakerModel_paths_244 : decode b_DiscMakerModel_paths 244 = .ok (.istore_n 3, 1) := by decide +kernel
theorem d_DiscMakerModel_paths_245 : decode b_DiscMakerModel_paths 245 = .ok (.iinc 4 1, 3) := by decide +kernel
theorem d_DiscMakerModel_paths_248 : decode b_DiscMakerModel_paths 248 = .ok (.goto (-228), 3) := by decide +kernel
theorem d_DiscMakerModel_paths_251 : decode b_DiscMakerModel_paths 251 = .ok (.return_, 1) := by decide +kernel
set_option maxHeartbeats 4000000 in
set_option maxRecDepth 100000 in
theorem m_paths (l : Launch) (D : va_G) (cB cI cJ cZ cN cF : ClassId) (sz : Nat) (h0 : Nat) (ma : Nat → Nat) (sv_thrown sv_length sv_nodes sv_many sv_directories sv_runsFrom sv_runs sv_read sv_wrong sv_isNamed sv_goes sv_goesSize sv_goesAt sv_targetParts sv_isRoot : Int32) (F : Nat → Int64) (fK : Nat → Int32) (fP : Nat → Int32) (fN : Nat → Int32) (fNS : Nat → Int32) (fBa : Nat → Int32) (fBs : Nat → Int32) (fEx : Nat → Int32) (fEs : Nat → Int32) (fTb : Nat → Int32) (fSe : Nat → Int32) (x : Int32) (hx0 : 0 ≤ x.toInt ∧ x.toInt ≤ 1) (hn : 1 ≤ sv_nodes.toInt ∧ sv_nodes.toInt ≤ 40) (hdr : 0 ≤ sv_directories.toInt ∧ sv_directories.toInt ≤ 12) (hB : TBi x.toNatClampNeg sv_nodes.toInt fK fP fTb sv_directories.toNatClampNeg sv_directories.toNatClampNeg (fun _ => False) (fun _ => True)) (hKi : Rg 0 2 40 fK) (hNS : Rg 0 30 40 fNS) (hBs : Rg 0 8 40 fBs) (hEs : Rg 0 3 40 fEs) : Met l y_DiscMakerModel_paths w_DiscMakerModel_paths ({ frames := 2, cells := 0, slots := 0, locals := 47 }) (va_Pc [.ref h0, .int x] (fun U => U.heap.size = sz ∧ va_P D CL [(h0, .inr (11, MO ma sv_thrown sv_length sv_nodes sv_many sv_directories sv_runsFrom sv_runs sv_read sv_wrong sv_isNamed sv_goes sv_goesSize sv_goesAt sv_targetParts sv_isRoot)), ((ma 16), .inl (cJ, 46080, .inr (.inl F))), ((ma 1), .inl (cI, 40, .inl fK)), ((ma 2), .inl (cI, 40, .inl fP)), ((ma 8), .inl (cB, 1200, .inl fN)), ((ma 9), .inl (cI, 40, .inl fNS)), ((ma 12), .inl (cB, 320, .inl fBa)), ((ma 13), .inl (cI, 40, .inl fBs)), ((ma 14), .inl (cB, 120, .inl fEx)), ((ma 15), .inl (cI, 40, .inl fEs)), ((ma 17), .inl (cI, 24, .inl fTb)), ((ma 18), .inl (cI, 80, .inl fSe))] U.heap ∧ va_K D CL (TY cB cI cJ cZ cN cF) U ∧ NN U ∧ va_D (fun _ => True) [(h0, .inr (11, MO ma sv_thrown sv_length sv_nodes sv_many sv_directories sv_runsFrom sv_runs sv_read sv_wrong sv_isNamed sv_goes sv_goesSize sv_goesAt sv_targetParts sv_isRoot)), ((ma 16), .inl (cJ, 46080, .inr (.inl F))), ((ma 1), .inl (cI, 40, .inl fK)), ((ma 2), .inl (cI, 40, .inl fP)), ((ma 8), .inl (cB, 1200, .inl fN)), ((ma 9), .inl (cI, 40, .inl fNS)), ((ma 12), .inl (cB, 320, .inl fBa)), ((ma 13), .inl (cI, 40, .inl fBs)), ((ma 14), .inl (cB, 120, .inl fEx)), ((ma 15), .inl (cI, 40, .inl fEs)), ((ma 17), .inl (cI, 24, .inl fTb)), ((ma 18), .inl (cI, 80, .inl fSe))])) (va_Qv (fun (u : (Nat → Int64)) => True) (fun (u : (Nat → Int64)) (t : State) => match u with | G => va_P D CL [(h0, .inr (11, MO ma sv_thrown sv_length sv_nodes sv_many sv_directories sv_runsFrom sv_runs sv_read sv_wrong sv_isNamed sv_goes sv_goesSize sv_goesAt sv_targetParts sv_isRoot)), ((ma 16), .inl (cJ, 46080, .inr (.inl G))), ((ma 1), .inl (cI, 40, .inl fK)), ((ma 2), .inl (cI, 40, .inl fP)), ((ma 8), .inl (cB, 1200, .inl fN)), ((ma 9), .inl (cI, 40, .inl fNS)), ((ma 12), .inl (cB, 320, .inl fBa)), ((ma 13), .inl (cI, 40, .inl fBs)), ((ma 14), .inl (cB, 120, .inl fEx)), ((ma 15), .inl (cI, 40, .inl fEs)), ((ma 17), .inl (cI, 24, .inl fTb)), ((ma 18), .inl (cI, 80, .inl fSe))] t.heap ∧ va_D (va_A [(h0, .inr (11, MO ma sv_thrown sv_length sv_nodes sv_many sv_directories sv_runsFrom sv_runs sv_read sv_wrong sv_isNamed sv_goes sv_goesSize sv_goesAt sv_targetParts sv_isRoot)), ((ma 16), .inl (cJ, 46080, .inr (.inl F))), ((ma 1), .inl (cI, 40, .inl fK)), ((ma 2), .inl (cI, 40, .inl fP)), ((ma 8), .inl (cB, 1200, .inl fN)), ((ma 9), .inl (cI, 40, .inl fNS)), ((ma 12), .inl (cB, 320, .inl fBa)), ((ma 13), .inl (cI, 40, .inl fBs)), ((ma 14), .inl (cB, 120, .inl fEx)), ((ma 15), .inl (cI, 40, .inl fEs)), ((ma 17), .inl (cI, 24, .inl fTb)), ((ma 18), .inl (cI, 80, .inl fSe))] sz) [(h0, .inr (11, MO ma sv_thrown sv_length sv_nodes sv_many sv_directories sv_runsFrom sv_runs sv_read sv_wrong sv_isNamed sv_goes sv_goesSize sv_goesAt sv_targetParts sv_isRoot)), ((ma 16), .inl (cJ, 46080, .inr (.inl G))), ((ma 1), .inl (cI, 40, .inl fK)), ((ma 2), .inl (cI, 40, .inl fP)), ((ma 8), .inl (cB, 1200, .inl fN)), ((ma 9), .inl (cI, 40, .inl fNS)), ((ma 12), .inl (cB, 320, .inl fBa)), ((ma 13), .inl (cI, 40, .inl fBs)), ((ma 14), .inl (cB, 120, .inl fEx)), ((ma 15), .inl (cI, 40, .inl fEs)), ((ma 17), .inl (cI, 24, .inl fTb)), ((ma 18), .inl (cI, 80, .inl fSe))]) (va_A [(h0, .inr (11, MO ma sv_thrown sv_length sv_nodes sv_many sv_directories sv_runsFrom sv_runs sv_read sv_wrong sv_isNamed sv_goes sv_goesSize sv_goesAt sv_targetParts sv_isRoot)), ((ma 16), .inl (cJ, 46080, .inr (.inl F))), ((ma 1), .inl (cI, 40, .inl fK)), ((ma 2), .inl (cI, 40, .inl fP)), ((ma 8), .inl (cB, 1200, .inl fN)), ((ma 9), .inl (cI, 40, .inl fNS)), ((ma 12), .inl (cB, 320, .inl fBa)), ((ma 13), .inl (cI, 40, .inl fBs)), ((ma 14), .inl (cB, 120, .inl fEx)), ((ma 15), .inl (cI, 40, .inl fEs)), ((ma 17), .inl (cI, 24, .inl fTb)), ((ma 18), .inl (cI, 80, .inl fSe))] sz)) 0 0 (va_A [(h0, .inr (11, MO ma sv_thrown sv_length sv_nodes sv_many sv_directories sv_runsFrom sv_runs sv_read sv_wrong sv_isNamed sv_goes sv_goesSize sv_goesAt sv_targetParts sv_isRoot)), ((ma 16), .inl (cJ, 46080, .inr (.inl F))), ((ma 1), .inl (cI, 40, .inl fK)), ((ma 2), .inl (cI, 40, .inl fP)), ((ma 8), .inl (cB, 1200, .inl fN)), ((ma 9), .inl (cI, 40, .inl fNS)), ((ma 12), .inl (cB, 320, .inl fBa)), ((ma 13), .inl (cI, 40, .inl fBs)), ((ma 14), .inl (cB, 120, .inl fEx)), ((ma 15), .inl (cI, 40, .inl fEs)), ((ma 17), .inl (cI, 24, .inl fTb)), ((ma 18), .inl (cI, 80, .inl fSe))] sz) := by
  refine Met.ofW (cc := b_DiscMakerModel_paths) (maxL := 10) (ret := none) (by decide) rfl ?_
  intro p e s m args below meth c s₁ B hml hv
  obtain ⟨rfl, hsz, hP, hK, hN, hD0⟩ := hv
  have hx := B.exec
  have hb := B.bytes
  have hr := B.returns
  have hts := atoms_spec (ws := w_DiscMakerModel_paths) B.pre
  have ht9 := fun (w : Cond) (h : w ∈ lw_g) => hts w (List.mem_cons_of_mem _ h)
  have hown : s.vm.findClass "DiscMakerModel" = some m.cls := findClass_of_methodNamed B.named
  have hlocks := B.notSynchronized
  subst hsz
  have hD := hD0.self (sz := s.heap.size)
  generalize hAe : va_A [(h0, .inr (11, MO ma sv_thrown sv_length sv_nodes sv_many sv_directories sv_runsFrom sv_runs sv_read sv_wrong sv_isNamed sv_goes sv_goesSize sv_goesAt sv_targetParts sv_isRoot)), ((ma 16), .inl (cJ, 46080, .inr (.inl F))), ((ma 1), .inl (cI, 40, .inl fK)), ((ma 2), .inl (cI, 40, .inl fP)), ((ma 8), .inl (cB, 1200, .inl fN)), ((ma 9), .inl (cI, 40, .inl fNS)), ((ma 12), .inl (cB, 320, .inl fBa)), ((ma 13), .inl (cI, 40, .inl fBs)), ((ma 14), .inl (cB, 120, .inl fEx)), ((ma 15), .inl (cI, 40, .inl fEs)), ((ma 17), .inl (cI, 24, .inl fTb)), ((ma 18), .inl (cI, 80, .inl fSe))] s.heap.size = A at hD ⊢
  have hA : ∀ q : Nat, s.heap.size ≤ q → A q := fun q h => by rw [← hAe]; exact Or.inr h
  have hS : va_S A s.heap s.heap [] := va_S.rf
  have hP : va_P D CL [(h0, .inr (11, MO ma sv_thrown sv_length sv_nodes sv_many sv_directories sv_runsFrom sv_runs sv_read sv_wrong sv_isNamed sv_goes sv_goesSize sv_goesAt sv_targetParts sv_isRoot)), ((ma 16), .inl (cJ, 46080, .inr (.inl F))), ((ma 1), .inl (cI, 40, .inl fK)), ((ma 2), .inl (cI, 40, .inl fP)), ((ma 8), .inl (cB, 1200, .inl fN)), ((ma 9), .inl (cI, 40, .inl fNS)), ((ma 12), .inl (cB, 320, .inl fBa)), ((ma 13), .inl (cI, 40, .inl fBs)), ((ma 14), .inl (cB, 120, .inl fEx)), ((ma 15), .inl (cI, 40, .inl fEs)), ((ma 17), .inl (cI, 24, .inl fTb)), ((ma 18), .inl (cI, 80, .inl fSe))] s.heap := hP
  have hl := lv_entry [.ref h0, .int x] (n := 10) (Nat.le_of_ble_eq_true rfl)
  rw [lg_entry_eq]
  generalize (lg_sl [.ref h0, .int x] ++ List.replicate (10 - (lg_sl [.ref h0, .int x]).length) Slot.unset).toArray = ls at hl ⊢
  have hl : lv_has ls 10 [(0, .ref h0), (1, .int x)] := hl
  have L_m1 : ((-1) : Int32).toInt = (-1) := by decide
  have L_0 : (0 : Int32).toInt = 0 := by decide
  have L_1 : (1 : Int32).toInt = 1 := by decide
  have L_2 : (2 : Int32).toInt = 2 := by decide
  have L_4 : (4 : Int32).toInt = 4 := by decide
  have L_6 : (6 : Int32).toInt = 6 := by decide
  have L_8 : (8 : Int32).toInt = 8 := by decide
  have L_12 : (12 : Int32).toInt = 12 := by decide
  have L_19 : (19 : Int32).toInt = 19 := by decide
  have L_40 : (40 : Int32).toInt = 40 := by decide
  have L_2048 : (2048 : Int32).toInt = 2048 := by decide
  have hxc := i_cl (a := x) (by omega)
  have hdc := i_cl (a := sv_directories) (by omega)
  refine lv_sipush (v := 2048) hx hb d_DiscMakerModel_paths_0 (by decide) ?_
  refine lv_bipush (v := 19) hx hb d_DiscMakerModel_paths_3 (by decide) ?_
  refine lv_iconst (v := 2) hx hb d_DiscMakerModel_paths_5 (by decide) ?_
  refine lv_iload_n hx hb d_DiscMakerModel_paths_6 rfl (lv_at hl 1 rfl) ?_
  refine lv_imul hx hb d_DiscMakerModel_paths_7 ?_
  refine lv_topi (fun v1 e_v1 => ?_)
  have t_v1 : v1.toInt = 2 * x.toInt := by rw [e_v1]; exact i_mul (by decide) rfl (by omega) (by omega)
  refine lv_iadd hx hb d_DiscMakerModel_paths_8 ?_
  refine lv_topi (fun v2 e_v2 => ?_)
  have t_v2 : v2.toInt = 19 + v1.toInt := by rw [e_v2]; exact i_add (by decide) rfl (by omega) (by omega)
  refine lv_imul hx hb d_DiscMakerModel_paths_9 ?_
  refine lv_topi (fun v3 e_v3 => ?_)
  have t_v3 : v3.toInt = 2048 * v2.toInt := by rw [e_v3]; exact i_mul (by decide) rfl (by omega) (by omega)
  refine lv_istore_n hx hb d_DiscMakerModel_paths_10 rfl hl (by decide) rfl (fun ls hl => ?_)
  have hl : lv_has ls 10 [(2, .int v3), (0, .ref h0), (1, .int x)] := hl
  refine lv_iload_n hx hb d_DiscMakerModel_paths_11 rfl (lv_at hl 0 rfl) ?_
  refine lv_sipush (v := 2048) hx hb d_DiscMakerModel_paths_12 (by decide) ?_
  refine lv_iadd hx hb d_DiscMakerModel_paths_15 ?_
  refine lv_topi (fun v4 e_v4 => ?_)
  have t_v4 : v4.toInt = v3.toInt + 2048 := by rw [e_v4]; exact i_add rfl (by decide) (by omega) (by omega)
  refine lv_istore_n hx hb d_DiscMakerModel_paths_16 rfl hl (by decide) rfl (fun ls hl => ?_)
  have hl : lv_has ls 10 [(3, .int v4), (2, .int v3), (0, .ref h0), (1, .int x)] := hl
  refine lv_iconst (v := 0) hx hb d_DiscMakerModel_paths_17 (by decide) ?_
  refine lv_istore hx hb d_DiscMakerModel_paths_18 hl (by decide) rfl (fun ls hl => ?_)
  have hl : lv_has ls 10 [(4, .int 0), (3, .int v4), (2, .int v3), (0, .ref h0), (1, .int x)] := hl
  refine zz_labM (B := fun (lk : Nat) (K : Heap → List Loc → Array Slot → List Value → Prop) => ∀ (ll : Int32) (lm : Int32) (ki : Int32) (lF : Nat → Int64) (H : Heap) (locs : List Loc) (ls : Array Slot), lk = (12 - ki.toInt).toNat → (0 ≤ ki.toInt ∧ ki.toInt ≤ sv_directories.toInt) → (0 ≤ ll.toInt ∧ ll.toInt ≤ 43008 + 70 * ki.toInt) → (0 ≤ lm.toInt ∧ lm.toInt ≤ 45056 + 70 * ki.toInt) → va_P D CL [(h0, .inr (11, MO ma sv_thrown sv_length sv_nodes sv_many sv_directories sv_runsFrom sv_runs sv_read sv_wrong sv_isNamed sv_goes sv_goesSize sv_goesAt sv_targetParts sv_isRoot)), ((ma 16), .inl (cJ, 46080, .inr (.inl lF))), ((ma 1), .inl (cI, 40, .inl fK)), ((ma 2), .inl (cI, 40, .inl fP)), ((ma 8), .inl (cB, 1200, .inl fN)), ((ma 9), .inl (cI, 40, .inl fNS)), ((ma 12), .inl (cB, 320, .inl fBa)), ((ma 13), .inl (cI, 40, .inl fBs)), ((ma 14), .inl (cB, 120, .inl fEx)), ((ma 15), .inl (cI, 40, .inl fEs)), ((ma 17), .inl (cI, 24, .inl fTb)), ((ma 18), .inl (cI, 80, .inl fSe))] H → va_D A [(h0, .inr (11, MO ma sv_thrown sv_length sv_nodes sv_many sv_directories sv_runsFrom sv_runs sv_read sv_wrong sv_isNamed sv_goes sv_goesSize sv_goesAt sv_targetParts sv_isRoot)), ((ma 16), .inl (cJ, 46080, .inr (.inl lF))), ((ma 1), .inl (cI, 40, .inl fK)), ((ma 2), .inl (cI, 40, .inl fP)), ((ma 8), .inl (cB, 1200, .inl fN)), ((ma 9), .inl (cI, 40, .inl fNS)), ((ma 12), .inl (cB, 320, .inl fBa)), ((ma 13), .inl (cI, 40, .inl fBs)), ((ma 14), .inl (cB, 120, .inl fEx)), ((ma 15), .inl (cI, 40, .inl fEs)), ((ma 17), .inl (cI, 24, .inl fTb)), ((ma 18), .inl (cI, 80, .inl fSe))] → va_S A s.heap H locs → lv_has ls 10 [(0, .ref h0), (1, .int x), (2, .int ll), (3, .int lm), (4, .int ki)] → K H locs ls []) 20 ?_ ?_
  · skip
    intro lk ih20 ll lm ki lF H locs ls hm20 f1 f2 f3 hP hD hS hl
    have hkc := i_cl (a := ki) (by omega)
    refine lv_iload hx hb d_DiscMakerModel_paths_20 (lv_at hl 4 rfl) ?_
    refine lv_aload_n hx hb d_DiscMakerModel_paths_22 rfl (lv_at hl 0 rfl) ?_
    refine va_get (D := D) (ci := 11) (v := .int sv_directories) (C := "DiscMakerModel") (T := F_DiscMakerModel) (N := 48) hx hb ht9 in_DiscMakerModel hown hK hP 0 rfl rfl 25 (by decide) (ht9 _ k1456) (fun _ h9 => h9) rfl d_DiscMakerModel_paths_23 ?_
    refine lv_icmp_ge (tgt := 251) hx hb d_DiscMakerModel_paths_26 (by decide) (fun h_9 => ?_) (fun h_9 => ?_)
    · skip
      have g26_18 : sv_directories.toInt ≤ ki.toInt := (i_le rfl rfl).mp h_9
      have hP9 := hP.sub (ws' := [(h0, .inr (11, MO ma sv_thrown sv_length sv_nodes sv_many sv_directories sv_runsFrom sv_runs sv_read sv_wrong sv_isNamed sv_goes sv_goesSize sv_goesAt sv_targetParts sv_isRoot)), ((ma 16), .inl (cJ, 46080, .inr (.inl lF))), ((ma 1), .inl (cI, 40, .inl fK)), ((ma 2), .inl (cI, 40, .inl fP)), ((ma 8), .inl (cB, 1200, .inl fN)), ((ma 9), .inl (cI, 40, .inl fNS)), ((ma 12), .inl (cB, 320, .inl fBa)), ((ma 13), .inl (cI, 40, .inl fBs)), ((ma 14), .inl (cB, 120, .inl fEx)), ((ma 15), .inl (cI, 40, .inl fEs)), ((ma 17), .inl (cI, 24, .inl fTb)), ((ma 18), .inl (cI, 80, .inl fSe))]) [0, 1, 2, 3, 4, 5, 6, 7, 8, 9, 10, 11] rfl
      have hD9 := hD.sub (ws' := [(h0, .inr (11, MO ma sv_thrown sv_length sv_nodes sv_many sv_directories sv_runsFrom sv_runs sv_read sv_wrong sv_isNamed sv_goes sv_goesSize sv_goesAt sv_targetParts sv_isRoot)), ((ma 16), .inl (cJ, 46080, .inr (.inl lF))), ((ma 1), .inl (cI, 40, .inl fK)), ((ma 2), .inl (cI, 40, .inl fP)), ((ma 8), .inl (cB, 1200, .inl fN)), ((ma 9), .inl (cI, 40, .inl fNS)), ((ma 12), .inl (cB, 320, .inl fBa)), ((ma 13), .inl (cI, 40, .inl fBs)), ((ma 14), .inl (cB, 120, .inl fEx)), ((ma 15), .inl (cI, 40, .inl fEs)), ((ma 17), .inl (cI, 24, .inl fTb)), ((ma 18), .inl (cI, 80, .inl fSe))]) [0, 1, 2, 3, 4, 5, 6, 7, 8, 9, 10, 11] (by decide +kernel) rfl
      exact W.vret hx hb hr (fun t ht hW => ⟨⟨lF, rfl, trivial, by rw [ht]; exact hP9, hD9⟩, hS.F ht⟩) hS.2.2 d_DiscMakerModel_paths_251
    · skip
      have g26_18 : ¬ sv_directories.toInt ≤ ki.toInt := fun h8 => h_9 ((i_le rfl rfl).mpr h8)
      refine lv_aload_n hx hb d_DiscMakerModel_paths_29 rfl (lv_at hl 0 rfl) ?_
      refine va_get (D := D) (ci := 11) (v := .ref (ma 17)) (C := "DiscMakerModel") (T := F_DiscMakerModel) (N := 48) hx hb ht9 in_DiscMakerModel hown hK hP 0 rfl rfl 21 (by decide) (ht9 _ k1452) (fun _ h9 => h9) rfl d_DiscMakerModel_paths_30 ?_
      refine lv_bipush (v := 12) hx hb d_DiscMakerModel_paths_33 (by decide) ?_
      refine lv_iload_n hx hb d_DiscMakerModel_paths_35 rfl (lv_at hl 1 rfl) ?_
      refine lv_imul hx hb d_DiscMakerModel_paths_36 ?_
      refine lv_topi (fun v5 e_v5 => ?_)
      have t_v5 : v5.toInt = 12 * x.toInt := by rw [e_v5]; exact i_mul (by decide) rfl (by omega) (by omega)
      refine lv_iload hx hb d_DiscMakerModel_paths_37 (lv_at hl 4 rfl) ?_
      refine lv_iadd hx hb d_DiscMakerModel_paths_39 ?_
      refine lv_topi (fun v6 e_v6 => ?_)
      have t_v6 : v6.toInt = v5.toInt + ki.toInt := by rw [e_v6]; exact i_add rfl rfl (by omega) (by omega)
      refine va_iald hx hb hK hP 10 1 rfl rfl (vp_in_iff.mpr ⟨by omega, by omega⟩) d_DiscMakerModel_paths_40 ?_
      refine lv_topi (fun v7 e_v7 => ?_)
      have c_v7 := i_cl (a := v6) (by omega)
      have e2_v7 : v7 = fTb (12 * x.toNatClampNeg + ki.toNatClampNeg) := by rw [e_v7, show v6.toNatClampNeg = 12 * x.toNatClampNeg + ki.toNatClampNeg by omega]
      have qtv7 : tbv fTb x.toNatClampNeg ki.toNatClampNeg = v7.toInt := by unfold tbv; rw [e2_v7]
      have qrv7 := hB.rg ki.toNatClampNeg (by omega)
      rw [qtv7] at qrv7
      have qdv7 := i_cl (a := v7) (by omega)
      refine lv_istore hx hb d_DiscMakerModel_paths_41 hl (by decide) rfl (fun ls hl => ?_)
      have hl : lv_has ls 10 [(5, .int v7), (0, .ref h0), (1, .int x), (2, .int ll), (3, .int lm), (4, .int ki)] := hl
      refine zz_labM (B := fun (lk : Nat) (K : Heap → List Loc → Array Slot → List Value → Prop) => ∀ (so : Int32) (H : Heap) (locs : List Loc) (ls : Array Slot), lk = 0 → (0 ≤ so.toInt ∧ so.toInt ≤ 2) → va_P D CL [(h0, .inr (11, MO ma sv_thrown sv_length sv_nodes sv_many sv_directories sv_runsFrom sv_runs sv_read sv_wrong sv_isNamed sv_goes sv_goesSize sv_goesAt sv_targetParts sv_isRoot)), ((ma 16), .inl (cJ, 46080, .inr (.inl lF))), ((ma 1), .inl (cI, 40, .inl fK)), ((ma 2), .inl (cI, 40, .inl fP)), ((ma 8), .inl (cB, 1200, .inl fN)), ((ma 9), .inl (cI, 40, .inl fNS)), ((ma 12), .inl (cB, 320, .inl fBa)), ((ma 13), .inl (cI, 40, .inl fBs)), ((ma 14), .inl (cB, 120, .inl fEx)), ((ma 15), .inl (cI, 40, .inl fEs)), ((ma 17), .inl (cI, 24, .inl fTb)), ((ma 18), .inl (cI, 80, .inl fSe))] H → va_D A [(h0, .inr (11, MO ma sv_thrown sv_length sv_nodes sv_many sv_directories sv_runsFrom sv_runs sv_read sv_wrong sv_isNamed sv_goes sv_goesSize sv_goesAt sv_targetParts sv_isRoot)), ((ma 16), .inl (cJ, 46080, .inr (.inl lF))), ((ma 1), .inl (cI, 40, .inl fK)), ((ma 2), .inl (cI, 40, .inl fP)), ((ma 8), .inl (cB, 1200, .inl fN)), ((ma 9), .inl (cI, 40, .inl fNS)), ((ma 12), .inl (cB, 320, .inl fBa)), ((ma 13), .inl (cI, 40, .inl fBs)), ((ma 14), .inl (cB, 120, .inl fEx)), ((ma 15), .inl (cI, 40, .inl fEs)), ((ma 17), .inl (cI, 24, .inl fTb)), ((ma 18), .inl (cI, 80, .inl fSe))] → va_S A s.heap H locs → lv_has ls 10 [(0, .ref h0), (1, .int x), (2, .int ll), (3, .int lm), (4, .int ki), (5, .int v7)] → K H locs ls [.int so]) 53 ?_ ?_
      · skip
        intro lk ih53 so H locs ls hm53 f4 hP hD hS hl
        refine lv_istore hx hb d_DiscMakerModel_paths_53 hl (by decide) rfl (fun ls hl => ?_)
        have hl : lv_has ls 10 [(6, .int so), (0, .ref h0), (1, .int x), (2, .int ll), (3, .int lm), (4, .int ki), (5, .int v7)] := hl
        refine lv_aload_n hx hb d_DiscMakerModel_paths_55 rfl (lv_at hl 1 rfl) ?_
        refine lv_iload_n hx hb d_DiscMakerModel_paths_56 rfl (lv_at hl 2 rfl) ?_
        refine lv_iload hx hb d_DiscMakerModel_paths_57 (lv_at hl 0 rfl) ?_
        refine lv_iload hx hb d_DiscMakerModel_paths_59 (lv_at hl 6 rfl) ?_
        have hPc := hP.sub (ws' := [(h0, .inr (11, MO ma sv_thrown sv_length sv_nodes sv_many sv_directories sv_runsFrom sv_runs sv_read sv_wrong sv_isNamed sv_goes sv_goesSize sv_goesAt sv_targetParts sv_isRoot)), ((ma 1), .inl (cI, 40, .inl fK)), ((ma 9), .inl (cI, 40, .inl fNS)), ((ma 13), .inl (cI, 40, .inl fBs)), ((ma 15), .inl (cI, 40, .inl fEs))]) [0, 2, 5, 7, 9] rfl
        have hDc := hD.sub (ws' := [(h0, .inr (11, MO ma sv_thrown sv_length sv_nodes sv_many sv_directories sv_runsFrom sv_runs sv_read sv_wrong sv_isNamed sv_goes sv_goesSize sv_goesAt sv_targetParts sv_isRoot)), ((ma 1), .inl (cI, 40, .inl fK)), ((ma 9), .inl (cI, 40, .inl fNS)), ((ma 13), .inl (cI, 40, .inl fBs)), ((ma 15), .inl (cI, 40, .inl fEs))]) [0, 2, 5, 7, 9] (by decide +kernel) rfl
        have hFc := va_free (wc := [(h0, .inr (11, MO ma sv_thrown sv_length sv_nodes sv_many sv_directories sv_runsFrom sv_runs sv_read sv_wrong sv_isNamed sv_goes sv_goesSize sv_goesAt sv_targetParts sv_isRoot)), ((ma 1), .inl (cI, 40, .inl fK)), ((ma 9), .inl (cI, 40, .inl fNS)), ((ma 13), .inl (cI, 40, .inl fBs)), ((ma 15), .inl (cI, 40, .inl fEs))]) hD hS hA [0, 2, 5, 7, 9] rfl
        have hkc : 0 ≤ 0 := by decide
        have hks : 0 ≤ 0 := by decide
        refine va_calli (va_runV (C := "DiscMakerModel") (As := [.int x, .int so, .int v7]) (rest := []) ⟨hx, hb, hml, hown, hts⟩ (m_idSize l D cB cI cJ cZ cN cF H.size h0 ma sv_thrown sv_length sv_nodes sv_many sv_directories sv_runsFrom sv_runs sv_read sv_wrong sv_isNamed sv_goes sv_goesSize sv_goesAt sv_targetParts sv_isRoot fK fNS fBs fEs x so v7 (by (try dsimp only); first | assumption | omega | trivial) (by (try dsimp only); first | assumption | omega | trivial) (by (try dsimp only); first | assumption | omega | trivial) (by (try dsimp only); first | assumption | omega | trivial) (by (try dsimp only); first | assumption | omega | trivial)) (cwV 3 hts (lg_goodV k1699 k1701 k72 k125 kc_DiscMakerModel_idSize) rfl rfl rfl (by decide +kernel) ⟨Nat.le_of_ble_eq_true rfl, Nat.le_of_ble_eq_true rfl⟩) ⟨fun a U g mk q => by obtain ⟨q0, q1, qP, qK, qN, qD⟩ := q; exact ⟨q0, q1, qP, va_K.moved (u := U) (U := U.calling g mk a) (Vm.Alike.refl U.vm) qK, qN.calling, qD⟩, va_recv hK hP (ci := 11) (q0 := 0) rfl rfl, fun U hU hW => ⟨rfl, by rw [hU], by rw [hU]; exact hPc, va_K.moved hW.alike hK, NN.warm hW hN, hDc.weaken (fun _ _ _ _ => trivial)⟩⟩ rfl rfl hl.1 rfl (lv_room (Nat.le_of_ble_eq_true rfl)) d_DiscMakerModel_paths_61 ⟨hkc, hks⟩) hS (fun q _ h => hFc q h) hFc (fun r8 u t H1 locs ht hvm hp_r8 hB hz1 hk1 hS => ?_)
        obtain ⟨hP1, hD1⟩ := hB
        rw [ht] at hP1
        obtain ⟨hP, hD⟩ := va_join (wr := [((ma 16), .inl (cJ, 46080, .inr (.inl lF))), ((ma 2), .inl (cI, 40, .inl fP)), ((ma 8), .inl (cB, 1200, .inl fN)), ((ma 12), .inl (cB, 320, .inl fBa)), ((ma 14), .inl (cB, 120, .inl fEx)), ((ma 17), .inl (cI, 24, .inl fTb)), ((ma 18), .inl (cI, 80, .inl fSe))]) (w1 := [(h0, .inr (11, MO ma sv_thrown sv_length sv_nodes sv_many sv_directories sv_runsFrom sv_runs sv_read sv_wrong sv_isNamed sv_goes sv_goesSize sv_goesAt sv_targetParts sv_isRoot)), ((ma 1), .inl (cI, 40, .inl fK)), ((ma 9), .inl (cI, 40, .inl fNS)), ((ma 13), .inl (cI, 40, .inl fBs)), ((ma 15), .inl (cI, 40, .inl fEs))]) hP hD [0, 2, 5, 7, 9] [1, 3, 4, 6, 8, 10, 11] rfl rfl (by decide +kernel) (by decide +kernel) hk1 hFc hP1 hD1
        clear hPc hDc hFc hP1 hD1 hk1 hz1 hkc hks
        generalize H1 = H at hP hS ⊢
        have hP : va_P D CL [((ma 16), .inl (cJ, 46080, .inr (.inl lF))), ((ma 2), .inl (cI, 40, .inl fP)), ((ma 8), .inl (cB, 1200, .inl fN)), ((ma 12), .inl (cB, 320, .inl fBa)), ((ma 14), .inl (cB, 120, .inl fEx)), ((ma 17), .inl (cI, 24, .inl fTb)), ((ma 18), .inl (cI, 80, .inl fSe)), (h0, .inr (11, MO ma sv_thrown sv_length sv_nodes sv_many sv_directories sv_runsFrom sv_runs sv_read sv_wrong sv_isNamed sv_goes sv_goesSize sv_goesAt sv_targetParts sv_isRoot)), ((ma 1), .inl (cI, 40, .inl fK)), ((ma 9), .inl (cI, 40, .inl fNS)), ((ma 13), .inl (cI, 40, .inl fBs)), ((ma 15), .inl (cI, 40, .inl fEs))] H := hP
        have hD : va_D A [((ma 16), .inl (cJ, 46080, .inr (.inl lF))), ((ma 2), .inl (cI, 40, .inl fP)), ((ma 8), .inl (cB, 1200, .inl fN)), ((ma 12), .inl (cB, 320, .inl fBa)), ((ma 14), .inl (cB, 120, .inl fEx)), ((ma 17), .inl (cI, 24, .inl fTb)), ((ma 18), .inl (cI, 80, .inl fSe)), (h0, .inr (11, MO ma sv_thrown sv_length sv_nodes sv_many sv_directories sv_runsFrom sv_runs sv_read sv_wrong sv_isNamed sv_goes sv_goesSize sv_goesAt sv_targetParts sv_isRoot)), ((ma 1), .inl (cI, 40, .inl fK)), ((ma 9), .inl (cI, 40, .inl fNS)), ((ma 13), .inl (cI, 40, .inl fBs)), ((ma 15), .inl (cI, 40, .inl fEs))] := hD
        try dsimp only at hp_r8
        obtain ⟨hv_9, hr_10⟩ := hp_r8
        refine lv_istore hx hb d_DiscMakerModel_paths_64 hl (by decide) rfl (fun ls hl => ?_)
        have hl : lv_has ls 10 [(7, .int r8), (6, .int so), (0, .ref h0), (1, .int x), (2, .int ll), (3, .int lm), (4, .int ki), (5, .int v7)] := hl
        refine zz_labM (B := fun (lk : Nat) (K : Heap → List Loc → Array Slot → List Value → Prop) => ∀ (up : Int32) (H : Heap) (locs : List Loc) (ls : Array Slot), lk = 0 → va_P D CL [((ma 16), .inl (cJ, 46080, .inr (.inl lF))), ((ma 2), .inl (cI, 40, .inl fP)), ((ma 8), .inl (cB, 1200, .inl fN)), ((ma 12), .inl (cB, 320, .inl fBa)), ((ma 14), .inl (cB, 120, .inl fEx)), ((ma 17), .inl (cI, 24, .inl fTb)), ((ma 18), .inl (cI, 80, .inl fSe)), (h0, .inr (11, MO ma sv_thrown sv_length sv_nodes sv_many sv_directories sv_runsFrom sv_runs sv_read sv_wrong sv_isNamed sv_goes sv_goesSize sv_goesAt sv_targetParts sv_isRoot)), ((ma 1), .inl (cI, 40, .inl fK)), ((ma 9), .inl (cI, 40, .inl fNS)), ((ma 13), .inl (cI, 40, .inl fBs)), ((ma 15), .inl (cI, 40, .inl fEs))] H → va_D A [((ma 16), .inl (cJ, 46080, .inr (.inl lF))), ((ma 2), .inl (cI, 40, .inl fP)), ((ma 8), .inl (cB, 1200, .inl fN)), ((ma 12), .inl (cB, 320, .inl fBa)), ((ma 14), .inl (cB, 120, .inl fEx)), ((ma 17), .inl (cI, 24, .inl fTb)), ((ma 18), .inl (cI, 80, .inl fSe)), (h0, .inr (11, MO ma sv_thrown sv_length sv_nodes sv_many sv_directories sv_runsFrom sv_runs sv_read sv_wrong sv_isNamed sv_goes sv_goesSize sv_goesAt sv_targetParts sv_isRoot)), ((ma 1), .inl (cI, 40, .inl fK)), ((ma 9), .inl (cI, 40, .inl fNS)), ((ma 13), .inl (cI, 40, .inl fBs)), ((ma 15), .inl (cI, 40, .inl fEs))] → va_S A s.heap H locs → lv_has ls 10 [(0, .ref h0), (1, .int x), (2, .int ll), (3, .int lm), (4, .int ki), (5, .int v7), (6, .int so), (7, .int r8)] → K H locs ls [.int up]) 87 ?_ ?_
        · skip
          intro lk ih87 up H locs ls hm87 hP hD hS hl
          refine lv_istore hx hb d_DiscMakerModel_paths_87 hl (by decide) rfl (fun ls hl => ?_)
          have hl : lv_has ls 10 [(8, .int up), (0, .ref h0), (1, .int x), (2, .int ll), (3, .int lm), (4, .int ki), (5, .int v7), (6, .int so), (7, .int r8)] := hl
          refine lv_aload_n hx hb d_DiscMakerModel_paths_89 rfl (lv_at hl 1 rfl) ?_
          refine lv_iload_n hx hb d_DiscMakerModel_paths_90 rfl (lv_at hl 3 rfl) ?_
          refine lv_iload hx hb d_DiscMakerModel_paths_91 (lv_at hl 8 rfl) ?_
          have hPc := hP.sub (ws' := [(h0, .inr (11, MO ma sv_thrown sv_length sv_nodes sv_many sv_directories sv_runsFrom sv_runs sv_read sv_wrong sv_isNamed sv_goes sv_goesSize sv_goesAt sv_targetParts sv_isRoot)), ((ma 16), .inl (cJ, 46080, .inr (.inl lF)))]) [7, 0] rfl
          have hDc := hD.sub (ws' := [(h0, .inr (11, MO ma sv_thrown sv_length sv_nodes sv_many sv_directories sv_runsFrom sv_runs sv_read sv_wrong sv_isNamed sv_goes sv_goesSize sv_goesAt sv_targetParts sv_isRoot)), ((ma 16), .inl (cJ, 46080, .inr (.inl lF)))]) [7, 0] (by decide +kernel) rfl
          have hFc := va_free (wc := [(h0, .inr (11, MO ma sv_thrown sv_length sv_nodes sv_many sv_directories sv_runsFrom sv_runs sv_read sv_wrong sv_isNamed sv_goes sv_goesSize sv_goesAt sv_targetParts sv_isRoot)), ((ma 16), .inl (cJ, 46080, .inr (.inl lF)))]) hD hS hA [7, 0] rfl
          have hkc : 0 ≤ 0 := by decide
          have hks : 0 ≤ 0 := by decide
          refine va_callv (va_runV (C := "DiscMakerModel") (As := [.int ll, .int r8]) (rest := []) ⟨hx, hb, hml, hown, hts⟩ (m_set l D cB cI cJ cZ cN cF H.size h0 ma sv_thrown sv_length sv_nodes sv_many sv_directories sv_runsFrom sv_runs sv_read sv_wrong sv_isNamed sv_goes sv_goesSize sv_goesAt sv_targetParts sv_isRoot lF ll r8 (by (try dsimp only); first | assumption | omega | trivial) (by (try dsimp only); first | assumption | omega | trivial)) (cwV 2 hts (lg_goodV k1727 k1729 k79 k125 kc_DiscMakerModel_set) rfl rfl rfl (by decide +kernel) ⟨Nat.le_of_ble_eq_true rfl, Nat.le_of_ble_eq_true rfl⟩) ⟨fun a U g mk q => by obtain ⟨q0, q1, qP, qK, qN, qD⟩ := q; exact ⟨q0, q1, qP, va_K.moved (u := U) (U := U.calling g mk a) (Vm.Alike.refl U.vm) qK, qN.calling, qD⟩, va_recv hK hP (ci := 11) (q0 := 7) rfl rfl, fun U hU hW => ⟨rfl, by rw [hU], by rw [hU]; exact hPc, va_K.moved hW.alike hK, NN.warm hW hN, hDc.weaken (fun _ _ _ _ => trivial)⟩⟩ rfl rfl hl.1 rfl (lv_room (Nat.le_of_ble_eq_true rfl)) d_DiscMakerModel_paths_93 ⟨hkc, hks⟩) hS (fun q _ h => hFc q h) hFc (fun u t H1 locs ht hvm hp_r11 hB hz1 hk1 hS => ?_)
          obtain ⟨G_12, rfl⟩ : ∃ z, z = u := ⟨_, rfl⟩
          obtain ⟨hP1, hD1⟩ := hB
          rw [ht] at hP1
          obtain ⟨hP, hD⟩ := va_join (wr := [((ma 2), .inl (cI, 40, .inl fP)), ((ma 8), .inl (cB, 1200, .inl fN)), ((ma 12), .inl (cB, 320, .inl fBa)), ((ma 14), .inl (cB, 120, .inl fEx)), ((ma 17), .inl (cI, 24, .inl fTb)), ((ma 18), .inl (cI, 80, .inl fSe)), ((ma 1), .inl (cI, 40, .inl fK)), ((ma 9), .inl (cI, 40, .inl fNS)), ((ma 13), .inl (cI, 40, .inl fBs)), ((ma 15), .inl (cI, 40, .inl fEs))]) (w1 := [(h0, .inr (11, MO ma sv_thrown sv_length sv_nodes sv_many sv_directories sv_runsFrom sv_runs sv_read sv_wrong sv_isNamed sv_goes sv_goesSize sv_goesAt sv_targetParts sv_isRoot)), ((ma 16), .inl (cJ, 46080, .inr (.inl G_12)))]) hP hD [7, 0] [1, 2, 3, 4, 5, 6, 8, 9, 10, 11] rfl rfl (by decide +kernel) (by decide +kernel) hk1 hFc hP1 hD1
          clear hPc hDc hFc hP1 hD1 hk1 hz1 hkc hks
          generalize H1 = H at hP hS ⊢
          have hP : va_P D CL [((ma 2), .inl (cI, 40, .inl fP)), ((ma 8), .inl (cB, 1200, .inl fN)), ((ma 12), .inl (cB, 320, .inl fBa)), ((ma 14), .inl (cB, 120, .inl fEx)), ((ma 17), .inl (cI, 24, .inl fTb)), ((ma 18), .inl (cI, 80, .inl fSe)), ((ma 1), .inl (cI, 40, .inl fK)), ((ma 9), .inl (cI, 40, .inl fNS)), ((ma 13), .inl (cI, 40, .inl fBs)), ((ma 15), .inl (cI, 40, .inl fEs)), (h0, .inr (11, MO ma sv_thrown sv_length sv_nodes sv_many sv_directories sv_runsFrom sv_runs sv_read sv_wrong sv_isNamed sv_goes sv_goesSize sv_goesAt sv_targetParts sv_isRoot)), ((ma 16), .inl (cJ, 46080, .inr (.inl G_12)))] H := hP
          have hD : va_D A [((ma 2), .inl (cI, 40, .inl fP)), ((ma 8), .inl (cB, 1200, .inl fN)), ((ma 12), .inl (cB, 320, .inl fBa)), ((ma 14), .inl (cB, 120, .inl fEx)), ((ma 17), .inl (cI, 24, .inl fTb)), ((ma 18), .inl (cI, 80, .inl fSe)), ((ma 1), .inl (cI, 40, .inl fK)), ((ma 9), .inl (cI, 40, .inl fNS)), ((ma 13), .inl (cI, 40, .inl fBs)), ((ma 15), .inl (cI, 40, .inl fEs)), (h0, .inr (11, MO ma sv_thrown sv_length sv_nodes sv_many sv_directories sv_runsFrom sv_runs sv_read sv_wrong sv_isNamed sv_goes sv_goesSize sv_goesAt sv_targetParts sv_isRoot)), ((ma 16), .inl (cJ, 46080, .inr (.inl G_12)))] := hD
          refine lv_aload_n hx hb d_DiscMakerModel_paths_96 rfl (lv_at hl 1 rfl) ?_
          refine lv_iload_n hx hb d_DiscMakerModel_paths_97 rfl (lv_at hl 4 rfl) ?_
          refine lv_iload hx hb d_DiscMakerModel_paths_98 (lv_at hl 8 rfl) ?_
          have hPc := hP.sub (ws' := [(h0, .inr (11, MO ma sv_thrown sv_length sv_nodes sv_many sv_directories sv_runsFrom sv_runs sv_read sv_wrong sv_isNamed sv_goes sv_goesSize sv_goesAt sv_targetParts sv_isRoot)), ((ma 16), .inl (cJ, 46080, .inr (.inl G_12)))]) [10, 11] rfl
          have hDc := hD.sub (ws' := [(h0, .inr (11, MO ma sv_thrown sv_length sv_nodes sv_many sv_directories sv_runsFrom sv_runs sv_read sv_wrong sv_isNamed sv_goes sv_goesSize sv_goesAt sv_targetParts sv_isRoot)), ((ma 16), .inl (cJ, 46080, .inr (.inl G_12)))]) [10, 11] (by decide +kernel) rfl
          have hFc := va_free (wc := [(h0, .inr (11, MO ma sv_thrown sv_length sv_nodes sv_many sv_directories sv_runsFrom sv_runs sv_read sv_wrong sv_isNamed sv_goes sv_goesSize sv_goesAt sv_targetParts sv_isRoot)), ((ma 16), .inl (cJ, 46080, .inr (.inl G_12)))]) hD hS hA [10, 11] rfl
          have hkc : 0 ≤ 0 := by decide
          have hks : 0 ≤ 0 := by decide
          refine va_callv (va_runV (C := "DiscMakerModel") (As := [.int lm, .int r8]) (rest := []) ⟨hx, hb, hml, hown, hts⟩ (m_set l D cB cI cJ cZ cN cF H.size h0 ma sv_thrown sv_length sv_nodes sv_many sv_directories sv_runsFrom sv_runs sv_read sv_wrong sv_isNamed sv_goes sv_goesSize sv_goesAt sv_targetParts sv_isRoot G_12 lm r8 (by (try dsimp only); first | assumption | omega | trivial) (by (try dsimp only); first | assumption | omega | trivial)) (cwV 2 hts (lg_goodV k1727 k1729 k79 k125 kc_DiscMakerModel_set) rfl rfl rfl (by decide +kernel) ⟨Nat.le_of_ble_eq_true rfl, Nat.le_of_ble_eq_true rfl⟩) ⟨fun a U g mk q => by obtain ⟨q0, q1, qP, qK, qN, qD⟩ := q; exact ⟨q0, q1, qP, va_K.moved (u := U) (U := U.calling g mk a) (Vm.Alike.refl U.vm) qK, qN.calling, qD⟩, va_recv hK hP (ci := 11) (q0 := 10) rfl rfl, fun U hU hW => ⟨rfl, by rw [hU], by rw [hU]; exact hPc, va_K.moved hW.alike hK, NN.warm hW hN, hDc.weaken (fun _ _ _ _ => trivial)⟩⟩ rfl rfl hl.1 rfl (lv_room (Nat.le_of_ble_eq_true rfl)) d_DiscMakerModel_paths_100 ⟨hkc, hks⟩) hS (fun q _ h => hFc q h) hFc (fun u t H1 locs ht hvm hp_r13 hB hz1 hk1 hS => ?_)
          obtain ⟨G_14, rfl⟩ : ∃ z, z = u := ⟨_, rfl⟩
          obtain ⟨hP1, hD1⟩ := hB
          rw [ht] at hP1
          obtain ⟨hP, hD⟩ := va_join (wr := [((ma 2), .inl (cI, 40, .inl fP)), ((ma 8), .inl (cB, 1200, .inl fN)), ((ma 12), .inl (cB, 320, .inl fBa)), ((ma 14), .inl (cB, 120, .inl fEx)), ((ma 17), .inl (cI, 24, .inl fTb)), ((ma 18), .inl (cI, 80, .inl fSe)), ((ma 1), .inl (cI, 40, .inl fK)), ((ma 9), .inl (cI, 40, .inl fNS)), ((ma 13), .inl (cI, 40, .inl fBs)), ((ma 15), .inl (cI, 40, .inl fEs))]) (w1 := [(h0, .inr (11, MO ma sv_thrown sv_length sv_nodes sv_many sv_directories sv_runsFrom sv_runs sv_read sv_wrong sv_isNamed sv_goes sv_goesSize sv_goesAt sv_targetParts sv_isRoot)), ((ma 16), .inl (cJ, 46080, .inr (.inl G_14)))]) hP hD [10, 11] [0, 1, 2, 3, 4, 5, 6, 7, 8, 9] rfl rfl (by decide +kernel) (by decide +kernel) hk1 hFc hP1 hD1
          clear hPc hDc hFc hP1 hD1 hk1 hz1 hkc hks
          generalize H1 = H at hP hS ⊢
          have hP : va_P D CL [((ma 2), .inl (cI, 40, .inl fP)), ((ma 8), .inl (cB, 1200, .inl fN)), ((ma 12), .inl (cB, 320, .inl fBa)), ((ma 14), .inl (cB, 120, .inl fEx)), ((ma 17), .inl (cI, 24, .inl fTb)), ((ma 18), .inl (cI, 80, .inl fSe)), ((ma 1), .inl (cI, 40, .inl fK)), ((ma 9), .inl (cI, 40, .inl fNS)), ((ma 13), .inl (cI, 40, .inl fBs)), ((ma 15), .inl (cI, 40, .inl fEs)), (h0, .inr (11, MO ma sv_thrown sv_length sv_nodes sv_many sv_directories sv_runsFrom sv_runs sv_read sv_wrong sv_isNamed sv_goes sv_goesSize sv_goesAt sv_targetParts sv_isRoot)), ((ma 16), .inl (cJ, 46080, .inr (.inl G_14)))] H := hP
          have hD : va_D A [((ma 2), .inl (cI, 40, .inl fP)), ((ma 8), .inl (cB, 1200, .inl fN)), ((ma 12), .inl (cB, 320, .inl fBa)), ((ma 14), .inl (cB, 120, .inl fEx)), ((ma 17), .inl (cI, 24, .inl fTb)), ((ma 18), .inl (cI, 80, .inl fSe)), ((ma 1), .inl (cI, 40, .inl fK)), ((ma 9), .inl (cI, 40, .inl fNS)), ((ma 13), .inl (cI, 40, .inl fBs)), ((ma 15), .inl (cI, 40, .inl fEs)), (h0, .inr (11, MO ma sv_thrown sv_length sv_nodes sv_many sv_directories sv_runsFrom sv_runs sv_read sv_wrong sv_isNamed sv_goes sv_goesSize sv_goesAt sv_targetParts sv_isRoot)), ((ma 16), .inl (cJ, 46080, .inr (.inl G_14)))] := hD
          refine lv_aload_n hx hb d_DiscMakerModel_paths_103 rfl (lv_at hl 1 rfl) ?_
          refine lv_iload_n hx hb d_DiscMakerModel_paths_104 rfl (lv_at hl 3 rfl) ?_
          refine lv_iconst (v := 2) hx hb d_DiscMakerModel_paths_105 (by decide) ?_
          refine lv_iadd hx hb d_DiscMakerModel_paths_106 ?_
          refine lv_topi (fun v15 e_v15 => ?_)
          have t_v15 : v15.toInt = ll.toInt + 2 := by rw [e_v15]; exact i_add rfl (by decide) (by omega) (by omega)
          refine lv_iconst (v := 4) hx hb d_DiscMakerModel_paths_107 (by decide) ?_
          refine lv_aload_n hx hb d_DiscMakerModel_paths_108 rfl (lv_at hl 1 rfl) ?_
          refine va_get (D := D) (ci := 11) (v := .ref (ma 18)) (C := "DiscMakerModel") (T := F_DiscMakerModel) (N := 48) hx hb ht9 in_DiscMakerModel hown hK hP 10 rfl rfl 22 (by decide) (ht9 _ k1453) (fun _ h9 => h9) rfl d_DiscMakerModel_paths_109 ?_
          refine lv_bipush (v := 40) hx hb d_DiscMakerModel_paths_112 (by decide) ?_
          refine lv_iload_n hx hb d_DiscMakerModel_paths_114 rfl (lv_at hl 2 rfl) ?_
          refine lv_imul hx hb d_DiscMakerModel_paths_115 ?_
          refine lv_topi (fun v16 e_v16 => ?_)
          have t_v16 : v16.toInt = 40 * x.toInt := by rw [e_v16]; exact i_mul (by decide) rfl (by omega) (by omega)
          refine lv_iload hx hb d_DiscMakerModel_paths_116 (lv_at hl 6 rfl) ?_
          refine lv_iadd hx hb d_DiscMakerModel_paths_118 ?_
          refine lv_topi (fun v17 e_v17 => ?_)
          have t_v17 : v17.toInt = v16.toInt + v7.toInt := by rw [e_v17]; exact i_add rfl rfl (by omega) (by omega)
          refine va_iald hx hb hK hP 5 1 rfl rfl (vp_in_iff.mpr ⟨by omega, by omega⟩) d_DiscMakerModel_paths_119 ?_
          refine lv_topi (fun v18 e_v18 => ?_)
          have hPc := hP.sub (ws' := [(h0, .inr (11, MO ma sv_thrown sv_length sv_nodes sv_many sv_directories sv_runsFrom sv_runs sv_read sv_wrong sv_isNamed sv_goes sv_goesSize sv_goesAt sv_targetParts sv_isRoot)), ((ma 16), .inl (cJ, 46080, .inr (.inl G_14)))]) [10, 11] rfl
          have hDc := hD.sub (ws' := [(h0, .inr (11, MO ma sv_thrown sv_length sv_nodes sv_many sv_directories sv_runsFrom sv_runs sv_read sv_wrong sv_isNamed sv_goes sv_goesSize sv_goesAt sv_targetParts sv_isRoot)), ((ma 16), .inl (cJ, 46080, .inr (.inl G_14)))]) [10, 11] (by decide +kernel) rfl
          have hFc := va_free (wc := [(h0, .inr (11, MO ma sv_thrown sv_length sv_nodes sv_many sv_directories sv_runsFrom sv_runs sv_read sv_wrong sv_isNamed sv_goes sv_goesSize sv_goesAt sv_targetParts sv_isRoot)), ((ma 16), .inl (cJ, 46080, .inr (.inl G_14)))]) hD hS hA [10, 11] rfl
          have hkc : 0 ≤ 0 := by decide
          have hks : 0 ≤ 0 := by decide
          refine va_callv (va_runV (C := "DiscMakerModel") (As := [.int v15, .int 4, .int v18]) (rest := []) ⟨hx, hb, hml, hown, hts⟩ (m_low l D cB cI cJ cZ cN cF H.size h0 ma sv_thrown sv_length sv_nodes sv_many sv_directories sv_runsFrom sv_runs sv_read sv_wrong sv_isNamed sv_goes sv_goesSize sv_goesAt sv_targetParts sv_isRoot G_14 v15 4 v18 (by (try dsimp only); first | assumption | omega | trivial) (by (try dsimp only); first | assumption | omega | trivial) (by (try dsimp only); first | assumption | omega | trivial)) (cwV 3 hts (lg_goodV k1744 k1746 k82 k125 kc_DiscMakerModel_low) rfl rfl rfl (by decide +kernel) ⟨Nat.le_of_ble_eq_true rfl, Nat.le_of_ble_eq_true rfl⟩) ⟨fun a U g mk q => by obtain ⟨q0, q1, qP, qK, qN, qD⟩ := q; exact ⟨q0, q1, qP, va_K.moved (u := U) (U := U.calling g mk a) (Vm.Alike.refl U.vm) qK, qN.calling, qD⟩, va_recv hK hP (ci := 11) (q0 := 10) rfl rfl, fun U hU hW => ⟨rfl, by rw [hU], by rw [hU]; exact hPc, va_K.moved hW.alike hK, NN.warm hW hN, hDc.weaken (fun _ _ _ _ => trivial)⟩⟩ rfl rfl hl.1 rfl (lv_room (Nat.le_of_ble_eq_true rfl)) d_DiscMakerModel_paths_120 ⟨hkc, hks⟩) hS (fun q _ h => hFc q h) hFc (fun u t H1 locs ht hvm hp_r19 hB hz1 hk1 hS => ?_)
          obtain ⟨G_20, rfl⟩ : ∃ z, z = u := ⟨_, rfl⟩
          obtain ⟨hP1, hD1⟩ := hB
          rw [ht] at hP1
          obtain ⟨hP, hD⟩ := va_join (wr := [((ma 2), .inl (cI, 40, .inl fP)), ((ma 8), .inl (cB, 1200, .inl fN)), ((ma 12), .inl (cB, 320, .inl fBa)), ((ma 14), .inl (cB, 120, .inl fEx)), ((ma 17), .inl (cI, 24, .inl fTb)), ((ma 18), .inl (cI, 80, .inl fSe)), ((ma 1), .inl (cI, 40, .inl fK)), ((ma 9), .inl (cI, 40, .inl fNS)), ((ma 13), .inl (cI, 40, .inl fBs)), ((ma 15), .inl (cI, 40, .inl fEs))]) (w1 := [(h0, .inr (11, MO ma sv_thrown sv_length sv_nodes sv_many sv_directories sv_runsFrom sv_runs sv_read sv_wrong sv_isNamed sv_goes sv_goesSize sv_goesAt sv_targetParts sv_isRoot)), ((ma 16), .inl (cJ, 46080, .inr (.inl G_20)))]) hP hD [10, 11] [0, 1, 2, 3, 4, 5, 6, 7, 8, 9] rfl rfl (by decide +kernel) (by decide +kernel) hk1 hFc hP1 hD1
          clear hPc hDc hFc hP1 hD1 hk1 hz1 hkc hks
          generalize H1 = H at hP hS ⊢
          have hP : va_P D CL [((ma 2), .inl (cI, 40, .inl fP)), ((ma 8), .inl (cB, 1200, .inl fN)), ((ma 12), .inl (cB, 320, .inl fBa)), ((ma 14), .inl (cB, 120, .inl fEx)), ((ma 17), .inl (cI, 24, .inl fTb)), ((ma 18), .inl (cI, 80, .inl fSe)), ((ma 1), .inl (cI, 40, .inl fK)), ((ma 9), .inl (cI, 40, .inl fNS)), ((ma 13), .inl (cI, 40, .inl fBs)), ((ma 15), .inl (cI, 40, .inl fEs)), (h0, .inr (11, MO ma sv_thrown sv_length sv_nodes sv_many sv_directories sv_runsFrom sv_runs sv_read sv_wrong sv_isNamed sv_goes sv_goesSize sv_goesAt sv_targetParts sv_isRoot)), ((ma 16), .inl (cJ, 46080, .inr (.inl G_20)))] H := hP
          have hD : va_D A [((ma 2), .inl (cI, 40, .inl fP)), ((ma 8), .inl (cB, 1200, .inl fN)), ((ma 12), .inl (cB, 320, .inl fBa)), ((ma 14), .inl (cB, 120, .inl fEx)), ((ma 17), .inl (cI, 24, .inl fTb)), ((ma 18), .inl (cI, 80, .inl fSe)), ((ma 1), .inl (cI, 40, .inl fK)), ((ma 9), .inl (cI, 40, .inl fNS)), ((ma 13), .inl (cI, 40, .inl fBs)), ((ma 15), .inl (cI, 40, .inl fEs)), (h0, .inr (11, MO ma sv_thrown sv_length sv_nodes sv_many sv_directories sv_runsFrom sv_runs sv_read sv_wrong sv_isNamed sv_goes sv_goesSize sv_goesAt sv_targetParts sv_isRoot)), ((ma 16), .inl (cJ, 46080, .inr (.inl G_20)))] := hD
          refine lv_aload_n hx hb d_DiscMakerModel_paths_123 rfl (lv_at hl 1 rfl) ?_
          refine lv_iload_n hx hb d_DiscMakerModel_paths_124 rfl (lv_at hl 4 rfl) ?_
          refine lv_iconst (v := 2) hx hb d_DiscMakerModel_paths_125 (by decide) ?_
          refine lv_iadd hx hb d_DiscMakerModel_paths_126 ?_
          refine lv_topi (fun v21 e_v21 => ?_)
          have t_v21 : v21.toInt = lm.toInt + 2 := by rw [e_v21]; exact i_add rfl (by decide) (by omega) (by omega)
          refine lv_iconst (v := 4) hx hb d_DiscMakerModel_paths_127 (by decide) ?_
          refine lv_aload_n hx hb d_DiscMakerModel_paths_128 rfl (lv_at hl 1 rfl) ?_
          refine va_get (D := D) (ci := 11) (v := .ref (ma 18)) (C := "DiscMakerModel") (T := F_DiscMakerModel) (N := 48) hx hb ht9 in_DiscMakerModel hown hK hP 10 rfl rfl 22 (by decide) (ht9 _ k1453) (fun _ h9 => h9) rfl d_DiscMakerModel_paths_129 ?_
          refine lv_bipush (v := 40) hx hb d_DiscMakerModel_paths_132 (by decide) ?_
          refine lv_iload_n hx hb d_DiscMakerModel_paths_134 rfl (lv_at hl 2 rfl) ?_
          refine lv_imul hx hb d_DiscMakerModel_paths_135 ?_
          refine lv_topi (fun v22 e_v22 => ?_)
          have t_v22 : v22.toInt = 40 * x.toInt := by rw [e_v22]; exact i_mul (by decide) rfl (by omega) (by omega)
          refine lv_iload hx hb d_DiscMakerModel_paths_136 (lv_at hl 6 rfl) ?_
          refine lv_iadd hx hb d_DiscMakerModel_paths_138 ?_
          refine lv_topi (fun v23 e_v23 => ?_)
          have t_v23 : v23.toInt = v22.toInt + v7.toInt := by rw [e_v23]; exact i_add rfl rfl (by omega) (by omega)
          refine va_iald hx hb hK hP 5 1 rfl rfl (vp_in_iff.mpr ⟨by omega, by omega⟩) d_DiscMakerModel_paths_139 ?_
          refine lv_topi (fun v24 e_v24 => ?_)
          have hPc := hP.sub (ws' := [(h0, .inr (11, MO ma sv_thrown sv_length sv_nodes sv_many sv_directories sv_runsFrom sv_runs sv_read sv_wrong sv_isNamed sv_goes sv_goesSize sv_goesAt sv_targetParts sv_isRoot)), ((ma 16), .inl (cJ, 46080, .inr (.inl G_20)))]) [10, 11] rfl
          have hDc := hD.sub (ws' := [(h0, .inr (11, MO ma sv_thrown sv_length sv_nodes sv_many sv_directories sv_runsFrom sv_runs sv_read sv_wrong sv_isNamed sv_goes sv_goesSize sv_goesAt sv_targetParts sv_isRoot)), ((ma 16), .inl (cJ, 46080, .inr (.inl G_20)))]) [10, 11] (by decide +kernel) rfl
          have hFc := va_free (wc := [(h0, .inr (11, MO ma sv_thrown sv_length sv_nodes sv_many sv_directories sv_runsFrom sv_runs sv_read sv_wrong sv_isNamed sv_goes sv_goesSize sv_goesAt sv_targetParts sv_isRoot)), ((ma 16), .inl (cJ, 46080, .inr (.inl G_20)))]) hD hS hA [10, 11] rfl
          have hkc : 0 ≤ 0 := by decide
          have hks : 0 ≤ 0 := by decide
          refine va_callv (va_runV (C := "DiscMakerModel") (As := [.int v21, .int 4, .int v24]) (rest := []) ⟨hx, hb, hml, hown, hts⟩ (m_high l D cB cI cJ cZ cN cF H.size h0 ma sv_thrown sv_length sv_nodes sv_many sv_directories sv_runsFrom sv_runs sv_read sv_wrong sv_isNamed sv_goes sv_goesSize sv_goesAt sv_targetParts sv_isRoot G_20 v21 4 v24 (by (try dsimp only); first | assumption | omega | trivial) (by (try dsimp only); first | assumption | omega | trivial) (by (try dsimp only); first | assumption | omega | trivial)) (cwV 3 hts (lg_goodV k1748 k1750 k83 k125 kc_DiscMakerModel_high) rfl rfl rfl (by decide +kernel) ⟨Nat.le_of_ble_eq_true rfl, Nat.le_of_ble_eq_true rfl⟩) ⟨fun a U g mk q => by obtain ⟨q0, q1, qP, qK, qN, qD⟩ := q; exact ⟨q0, q1, qP, va_K.moved (u := U) (U := U.calling g mk a) (Vm.Alike.refl U.vm) qK, qN.calling, qD⟩, va_recv hK hP (ci := 11) (q0 := 10) rfl rfl, fun U hU hW => ⟨rfl, by rw [hU], by rw [hU]; exact hPc, va_K.moved hW.alike hK, NN.warm hW hN, hDc.weaken (fun _ _ _ _ => trivial)⟩⟩ rfl rfl hl.1 rfl (lv_room (Nat.le_of_ble_eq_true rfl)) d_DiscMakerModel_paths_140 ⟨hkc, hks⟩) hS (fun q _ h => hFc q h) hFc (fun u t H1 locs ht hvm hp_r25 hB hz1 hk1 hS => ?_)
          obtain ⟨G_26, rfl⟩ : ∃ z, z = u := ⟨_, rfl⟩
          obtain ⟨hP1, hD1⟩ := hB
          rw [ht] at hP1
          obtain ⟨hP, hD⟩ := va_join (wr := [((ma 2), .inl (cI, 40, .inl fP)), ((ma 8), .inl (cB, 1200, .inl fN)), ((ma 12), .inl (cB, 320, .inl fBa)), ((ma 14), .inl (cB, 120, .inl fEx)), ((ma 17), .inl (cI, 24, .inl fTb)), ((ma 18), .inl (cI, 80, .inl fSe)), ((ma 1), .inl (cI, 40, .inl fK)), ((ma 9), .inl (cI, 40, .inl fNS)), ((ma 13), .inl (cI, 40, .inl fBs)), ((ma 15), .inl (cI, 40, .inl fEs))]) (w1 := [(h0, .inr (11, MO ma sv_thrown sv_length sv_nodes sv_many sv_directories sv_runsFrom sv_runs sv_read sv_wrong sv_isNamed sv_goes sv_goesSize sv_goesAt sv_targetParts sv_isRoot)), ((ma 16), .inl (cJ, 46080, .inr (.inl G_26)))]) hP hD [10, 11] [0, 1, 2, 3, 4, 5, 6, 7, 8, 9] rfl rfl (by decide +kernel) (by decide +kernel) hk1 hFc hP1 hD1
          clear hPc hDc hFc hP1 hD1 hk1 hz1 hkc hks
          generalize H1 = H at hP hS ⊢
          have hP : va_P D CL [((ma 2), .inl (cI, 40, .inl fP)), ((ma 8), .inl (cB, 1200, .inl fN)), ((ma 12), .inl (cB, 320, .inl fBa)), ((ma 14), .inl (cB, 120, .inl fEx)), ((ma 17), .inl (cI, 24, .inl fTb)), ((ma 18), .inl (cI, 80, .inl fSe)), ((ma 1), .inl (cI, 40, .inl fK)), ((ma 9), .inl (cI, 40, .inl fNS)), ((ma 13), .inl (cI, 40, .inl fBs)), ((ma 15), .inl (cI, 40, .inl fEs)), (h0, .inr (11, MO ma sv_thrown sv_length sv_nodes sv_many sv_directories sv_runsFrom sv_runs sv_read sv_wrong sv_isNamed sv_goes sv_goesSize sv_goesAt sv_targetParts sv_isRoot)), ((ma 16), .inl (cJ, 46080, .inr (.inl G_26)))] H := hP
          have hD : va_D A [((ma 2), .inl (cI, 40, .inl fP)), ((ma 8), .inl (cB, 1200, .inl fN)), ((ma 12), .inl (cB, 320, .inl fBa)), ((ma 14), .inl (cB, 120, .inl fEx)), ((ma 17), .inl (cI, 24, .inl fTb)), ((ma 18), .inl (cI, 80, .inl fSe)), ((ma 1), .inl (cI, 40, .inl fK)), ((ma 9), .inl (cI, 40, .inl fNS)), ((ma 13), .inl (cI, 40, .inl fBs)), ((ma 15), .inl (cI, 40, .inl fEs)), (h0, .inr (11, MO ma sv_thrown sv_length sv_nodes sv_many sv_directories sv_runsFrom sv_runs sv_read sv_wrong sv_isNamed sv_goes sv_goesSize sv_goesAt sv_targetParts sv_isRoot)), ((ma 16), .inl (cJ, 46080, .inr (.inl G_26)))] := hD
          refine lv_aload_n hx hb d_DiscMakerModel_paths_143 rfl (lv_at hl 1 rfl) ?_
          refine lv_iload_n hx hb d_DiscMakerModel_paths_144 rfl (lv_at hl 3 rfl) ?_
          refine lv_bipush (v := 6) hx hb d_DiscMakerModel_paths_145 (by decide) ?_
          refine lv_iadd hx hb d_DiscMakerModel_paths_147 ?_
          refine lv_topi (fun v27 e_v27 => ?_)
          have t_v27 : v27.toInt = ll.toInt + 6 := by rw [e_v27]; exact i_add rfl (by decide) (by omega) (by omega)
          refine lv_iconst (v := 2) hx hb d_DiscMakerModel_paths_148 (by decide) ?_
          refine lv_iload hx hb d_DiscMakerModel_paths_149 (lv_at hl 0 rfl) ?_
          have hPc := hP.sub (ws' := [(h0, .inr (11, MO ma sv_thrown sv_length sv_nodes sv_many sv_directories sv_runsFrom sv_runs sv_read sv_wrong sv_isNamed sv_goes sv_goesSize sv_goesAt sv_targetParts sv_isRoot)), ((ma 16), .inl (cJ, 46080, .inr (.inl G_26)))]) [10, 11] rfl
          have hDc := hD.sub (ws' := [(h0, .inr (11, MO ma sv_thrown sv_length sv_nodes sv_many sv_directories sv_runsFrom sv_runs sv_read sv_wrong sv_isNamed sv_goes sv_goesSize sv_goesAt sv_targetParts sv_isRoot)), ((ma 16), .inl (cJ, 46080, .inr (.inl G_26)))]) [10, 11] (by decide +kernel) rfl
          have hFc := va_free (wc := [(h0, .inr (11, MO ma sv_thrown sv_length sv_nodes sv_many sv_directories sv_runsFrom sv_runs sv_read sv_wrong sv_isNamed sv_goes sv_goesSize sv_goesAt sv_targetParts sv_isRoot)), ((ma 16), .inl (cJ, 46080, .inr (.inl G_26)))]) hD hS hA [10, 11] rfl
          have hkc : 0 ≤ 0 := by decide
          have hks : 0 ≤ 0 := by decide
          refine va_callv (va_runV (C := "DiscMakerModel") (As := [.int v27, .int 2, .int up]) (rest := []) ⟨hx, hb, hml, hown, hts⟩ (m_low l D cB cI cJ cZ cN cF H.size h0 ma sv_thrown sv_length sv_nodes sv_many sv_directories sv_runsFrom sv_runs sv_read sv_wrong sv_isNamed sv_goes sv_goesSize sv_goesAt sv_targetParts sv_isRoot G_26 v27 2 up (by (try dsimp only); first | assumption | omega | trivial) (by (try dsimp only); first | assumption | omega | trivial) (by (try dsimp only); first | assumption | omega | trivial)) (cwV 3 hts (lg_goodV k1744 k1746 k82 k125 kc_DiscMakerModel_low) rfl rfl rfl (by decide +kernel) ⟨Nat.le_of_ble_eq_true rfl, Nat.le_of_ble_eq_true rfl⟩) ⟨fun a U g mk q => by obtain ⟨q0, q1, qP, qK, qN, qD⟩ := q; exact ⟨q0, q1, qP, va_K.moved (u := U) (U := U.calling g mk a) (Vm.Alike.refl U.vm) qK, qN.calling, qD⟩, va_recv hK hP (ci := 11) (q0 := 10) rfl rfl, fun U hU hW => ⟨rfl, by rw [hU], by rw [hU]; exact hPc, va_K.moved hW.alike hK, NN.warm hW hN, hDc.weaken (fun _ _ _ _ => trivial)⟩⟩ rfl rfl hl.1 rfl (lv_room (Nat.le_of_ble_eq_true rfl)) d_DiscMakerModel_paths_151 ⟨hkc, hks⟩) hS (fun q _ h => hFc q h) hFc (fun u t H1 locs ht hvm hp_r28 hB hz1 hk1 hS => ?_)
          obtain ⟨G_29, rfl⟩ : ∃ z, z = u := ⟨_, rfl⟩
          obtain ⟨hP1, hD1⟩ := hB
          rw [ht] at hP1
          obtain ⟨hP, hD⟩ := va_join (wr := [((ma 2), .inl (cI, 40, .inl fP)), ((ma 8), .inl (cB, 1200, .inl fN)), ((ma 12), .inl (cB, 320, .inl fBa)), ((ma 14), .inl (cB, 120, .inl fEx)), ((ma 17), .inl (cI, 24, .inl fTb)), ((ma 18), .inl (cI, 80, .inl fSe)), ((ma 1), .inl (cI, 40, .inl fK)), ((ma 9), .inl (cI, 40, .inl fNS)), ((ma 13), .inl (cI, 40, .inl fBs)), ((ma 15), .inl (cI, 40, .inl fEs))]) (w1 := [(h0, .inr (11, MO ma sv_thrown sv_length sv_nodes sv_many sv_directories sv_runsFrom sv_runs sv_read sv_wrong sv_isNamed sv_goes sv_goesSize sv_goesAt sv_targetParts sv_isRoot)), ((ma 16), .inl (cJ, 46080, .inr (.inl G_29)))]) hP hD [10, 11] [0, 1, 2, 3, 4, 5, 6, 7, 8, 9] rfl rfl (by decide +kernel) (by decide +kernel) hk1 hFc hP1 hD1
          clear hPc hDc hFc hP1 hD1 hk1 hz1 hkc hks
          generalize H1 = H at hP hS ⊢
          have hP : va_P D CL [((ma 2), .inl (cI, 40, .inl fP)), ((ma 8), .inl (cB, 1200, .inl fN)), ((ma 12), .inl (cB, 320, .inl fBa)), ((ma 14), .inl (cB, 120, .inl fEx)), ((ma 17), .inl (cI, 24, .inl fTb)), ((ma 18), .inl (cI, 80, .inl fSe)), ((ma 1), .inl (cI, 40, .inl fK)), ((ma 9), .inl (cI, 40, .inl fNS)), ((ma 13), .inl (cI, 40, .inl fBs)), ((ma 15), .inl (cI, 40, .inl fEs)), (h0, .inr (11, MO ma sv_thrown sv_length sv_nodes sv_many sv_directories sv_runsFrom sv_runs sv_read sv_wrong sv_isNamed sv_goes sv_goesSize sv_goesAt sv_targetParts sv_isRoot)), ((ma 16), .inl (cJ, 46080, .inr (.inl G_29)))] H := hP
          have hD : va_D A [((ma 2), .inl (cI, 40, .inl fP)), ((ma 8), .inl (cB, 1200, .inl fN)), ((ma 12), .inl (cB, 320, .inl fBa)), ((ma 14), .inl (cB, 120, .inl fEx)), ((ma 17), .inl (cI, 24, .inl fTb)), ((ma 18), .inl (cI, 80, .inl fSe)), ((ma 1), .inl (cI, 40, .inl fK)), ((ma 9), .inl (cI, 40, .inl fNS)), ((ma 13), .inl (cI, 40, .inl fBs)), ((ma 15), .inl (cI, 40, .inl fEs)), (h0, .inr (11, MO ma sv_thrown sv_length sv_nodes sv_many sv_directories sv_runsFrom sv_runs sv_read sv_wrong sv_isNamed sv_goes sv_goesSize sv_goesAt sv_targetParts sv_isRoot)), ((ma 16), .inl (cJ, 46080, .inr (.inl G_29)))] := hD
          refine lv_aload_n hx hb d_DiscMakerModel_paths_154 rfl (lv_at hl 1 rfl) ?_
          refine lv_iload_n hx hb d_DiscMakerModel_paths_155 rfl (lv_at hl 4 rfl) ?_
          refine lv_bipush (v := 6) hx hb d_DiscMakerModel_paths_156 (by decide) ?_
          refine lv_iadd hx hb d_DiscMakerModel_paths_158 ?_
          refine lv_topi (fun v30 e_v30 => ?_)
          have t_v30 : v30.toInt = lm.toInt + 6 := by rw [e_v30]; exact i_add rfl (by decide) (by omega) (by omega)
          refine lv_iconst (v := 2) hx hb d_DiscMakerModel_paths_159 (by decide) ?_
          refine lv_iload hx hb d_DiscMakerModel_paths_160 (lv_at hl 0 rfl) ?_
          have hPc := hP.sub (ws' := [(h0, .inr (11, MO ma sv_thrown sv_length sv_nodes sv_many sv_directories sv_runsFrom sv_runs sv_read sv_wrong sv_isNamed sv_goes sv_goesSize sv_goesAt sv_targetParts sv_isRoot)), ((ma 16), .inl (cJ, 46080, .inr (.inl G_29)))]) [10, 11] rfl
          have hDc := hD.sub (ws' := [(h0, .inr (11, MO ma sv_thrown sv_length sv_nodes sv_many sv_directories sv_runsFrom sv_runs sv_read sv_wrong sv_isNamed sv_goes sv_goesSize sv_goesAt sv_targetParts sv_isRoot)), ((ma 16), .inl (cJ, 46080, .inr (.inl G_29)))]) [10, 11] (by decide +kernel) rfl
          have hFc := va_free (wc := [(h0, .inr (11, MO ma sv_thrown sv_length sv_nodes sv_many sv_directories sv_runsFrom sv_runs sv_read sv_wrong sv_isNamed sv_goes sv_goesSize sv_goesAt sv_targetParts sv_isRoot)), ((ma 16), .inl (cJ, 46080, .inr (.inl G_29)))]) hD hS hA [10, 11] rfl
          have hkc : 0 ≤ 0 := by decide
          have hks : 0 ≤ 0 := by decide
          refine va_callv (va_runV (C := "DiscMakerModel") (As := [.int v30, .int 2, .int up]) (rest := []) ⟨hx, hb, hml, hown, hts⟩ (m_high l D cB cI cJ cZ cN cF H.size h0 ma sv_thrown sv_length sv_nodes sv_many sv_directories sv_runsFrom sv_runs sv_read sv_wrong sv_isNamed sv_goes sv_goesSize sv_goesAt sv_targetParts sv_isRoot G_29 v30 2 up (by (try dsimp only); first | assumption | omega | trivial) (by (try dsimp only); first | assumption | omega | trivial) (by (try dsimp only); first | assumption | omega | trivial)) (cwV 3 hts (lg_goodV k1748 k1750 k83 k125 kc_DiscMakerModel_high) rfl rfl rfl (by decide +kernel) ⟨Nat.le_of_ble_eq_true rfl, Nat.le_of_ble_eq_true rfl⟩) ⟨fun a U g mk q => by obtain ⟨q0, q1, qP, qK, qN, qD⟩ := q; exact ⟨q0, q1, qP, va_K.moved (u := U) (U := U.calling g mk a) (Vm.Alike.refl U.vm) qK, qN.calling, qD⟩, va_recv hK hP (ci := 11) (q0 := 10) rfl rfl, fun U hU hW => ⟨rfl, by rw [hU], by rw [hU]; exact hPc, va_K.moved hW.alike hK, NN.warm hW hN, hDc.weaken (fun _ _ _ _ => trivial)⟩⟩ rfl rfl hl.1 rfl (lv_room (Nat.le_of_ble_eq_true rfl)) d_DiscMakerModel_paths_162 ⟨hkc, hks⟩) hS (fun q _ h => hFc q h) hFc (fun u t H1 locs ht hvm hp_r31 hB hz1 hk1 hS => ?_)
          obtain ⟨G_32, rfl⟩ : ∃ z, z = u := ⟨_, rfl⟩
          obtain ⟨hP1, hD1⟩ := hB
          rw [ht] at hP1
          obtain ⟨hP, hD⟩ := va_join (wr := [((ma 2), .inl (cI, 40, .inl fP)), ((ma 8), .inl (cB, 1200, .inl fN)), ((ma 12), .inl (cB, 320, .inl fBa)), ((ma 14), .inl (cB, 120, .inl fEx)), ((ma 17), .inl (cI, 24, .inl fTb)), ((ma 18), .inl (cI, 80, .inl fSe)), ((ma 1), .inl (cI, 40, .inl fK)), ((ma 9), .inl (cI, 40, .inl fNS)), ((ma 13), .inl (cI, 40, .inl fBs)), ((ma 15), .inl (cI, 40, .inl fEs))]) (w1 := [(h0, .inr (11, MO ma sv_thrown sv_length sv_nodes sv_many sv_directories sv_runsFrom sv_runs sv_read sv_wrong sv_isNamed sv_goes sv_goesSize sv_goesAt sv_targetParts sv_isRoot)), ((ma 16), .inl (cJ, 46080, .inr (.inl G_32)))]) hP hD [10, 11] [0, 1, 2, 3, 4, 5, 6, 7, 8, 9] rfl rfl (by decide +kernel) (by decide +kernel) hk1 hFc hP1 hD1
          clear hPc hDc hFc hP1 hD1 hk1 hz1 hkc hks
          generalize H1 = H at hP hS ⊢
          have hP : va_P D CL [((ma 2), .inl (cI, 40, .inl fP)), ((ma 8), .inl (cB, 1200, .inl fN)), ((ma 12), .inl (cB, 320, .inl fBa)), ((ma 14), .inl (cB, 120, .inl fEx)), ((ma 17), .inl (cI, 24, .inl fTb)), ((ma 18), .inl (cI, 80, .inl fSe)), ((ma 1), .inl (cI, 40, .inl fK)), ((ma 9), .inl (cI, 40, .inl fNS)), ((ma 13), .inl (cI, 40, .inl fBs)), ((ma 15), .inl (cI, 40, .inl fEs)), (h0, .inr (11, MO ma sv_thrown sv_length sv_nodes sv_many sv_directories sv_runsFrom sv_runs sv_read sv_wrong sv_isNamed sv_goes sv_goesSize sv_goesAt sv_targetParts sv_isRoot)), ((ma 16), .inl (cJ, 46080, .inr (.inl G_32)))] H := hP
          have hD : va_D A [((ma 2), .inl (cI, 40, .inl fP)), ((ma 8), .inl (cB, 1200, .inl fN)), ((ma 12), .inl (cB, 320, .inl fBa)), ((ma 14), .inl (cB, 120, .inl fEx)), ((ma 17), .inl (cI, 24, .inl fTb)), ((ma 18), .inl (cI, 80, .inl fSe)), ((ma 1), .inl (cI, 40, .inl fK)), ((ma 9), .inl (cI, 40, .inl fNS)), ((ma 13), .inl (cI, 40, .inl fBs)), ((ma 15), .inl (cI, 40, .inl fEs)), (h0, .inr (11, MO ma sv_thrown sv_length sv_nodes sv_many sv_directories sv_runsFrom sv_runs sv_read sv_wrong sv_isNamed sv_goes sv_goesSize sv_goesAt sv_targetParts sv_isRoot)), ((ma 16), .inl (cJ, 46080, .inr (.inl G_32)))] := hD
          refine lv_iconst (v := 0) hx hb d_DiscMakerModel_paths_165 (by decide) ?_
          refine lv_istore hx hb d_DiscMakerModel_paths_166 hl (by decide) rfl (fun ls hl => ?_)
          have hl : lv_has ls 10 [(9, .int 0), (8, .int up), (0, .ref h0), (1, .int x), (2, .int ll), (3, .int lm), (4, .int ki), (5, .int v7), (6, .int so), (7, .int r8)] := hl
          refine zz_labM (B := fun (lk : Nat) (K : Heap → List Loc → Array Slot → List Value → Prop) => ∀ (k9 : Int32) (nF : Nat → Int64) (H : Heap) (locs : List Loc) (ls : Array Slot), lk = (61 - k9.toInt).toNat → (0 ≤ k9.toInt ∧ k9.toInt ≤ 60) → va_P D CL [((ma 2), .inl (cI, 40, .inl fP)), ((ma 8), .inl (cB, 1200, .inl fN)), ((ma 12), .inl (cB, 320, .inl fBa)), ((ma 14), .inl (cB, 120, .inl fEx)), ((ma 17), .inl (cI, 24, .inl fTb)), ((ma 18), .inl (cI, 80, .inl fSe)), ((ma 1), .inl (cI, 40, .inl fK)), ((ma 9), .inl (cI, 40, .inl fNS)), ((ma 13), .inl (cI, 40, .inl fBs)), ((ma 15), .inl (cI, 40, .inl fEs)), (h0, .inr (11, MO ma sv_thrown sv_length sv_nodes sv_many sv_directories sv_runsFrom sv_runs sv_read sv_wrong sv_isNamed sv_goes sv_goesSize sv_goesAt sv_targetParts sv_isRoot)), ((ma 16), .inl (cJ, 46080, .inr (.inl nF)))] H → va_D A [((ma 2), .inl (cI, 40, .inl fP)), ((ma 8), .inl (cB, 1200, .inl fN)), ((ma 12), .inl (cB, 320, .inl fBa)), ((ma 14), .inl (cB, 120, .inl fEx)), ((ma 17), .inl (cI, 24, .inl fTb)), ((ma 18), .inl (cI, 80, .inl fSe)), ((ma 1), .inl (cI, 40, .inl fK)), ((ma 9), .inl (cI, 40, .inl fNS)), ((ma 13), .inl (cI, 40, .inl fBs)), ((ma 15), .inl (cI, 40, .inl fEs)), (h0, .inr (11, MO ma sv_thrown sv_length sv_nodes sv_many sv_directories sv_runsFrom sv_runs sv_read sv_wrong sv_isNamed sv_goes sv_goesSize sv_goesAt sv_targetParts sv_isRoot)), ((ma 16), .inl (cJ, 46080, .inr (.inl nF)))] → va_S A s.heap H locs → lv_has ls 10 [(0, .ref h0), (1, .int x), (2, .int ll), (3, .int lm), (4, .int ki), (5, .int v7), (6, .int so), (7, .int r8), (8, .int up), (9, .int k9)] → K H locs ls []) 168 ?_ ?_
          · skip
            intro lk ih168 k9 nF H locs ls hm168 f5 hP hD hS hl
            refine lv_iload hx hb d_DiscMakerModel_paths_168 (lv_at hl 9 rfl) ?_
            refine lv_iload hx hb d_DiscMakerModel_paths_170 (lv_at hl 7 rfl) ?_
            refine lv_icmp_ge (tgt := 225) hx hb d_DiscMakerModel_paths_172 (by decide) (fun h_9 => ?_) (fun h_9 => ?_)
            · skip
              have g172_91 : r8.toInt ≤ k9.toInt := (i_le rfl rfl).mp h_9
              refine lv_iload_n hx hb d_DiscMakerModel_paths_225 rfl (lv_at hl 2 rfl) ?_
              refine lv_aload_n hx hb d_DiscMakerModel_paths_226 rfl (lv_at hl 0 rfl) ?_
              refine lv_iload_n hx hb d_DiscMakerModel_paths_227 rfl (lv_at hl 1 rfl) ?_
              refine lv_iload hx hb d_DiscMakerModel_paths_228 (lv_at hl 5 rfl) ?_
              have hPc := hP.sub (ws' := [(h0, .inr (11, MO ma sv_thrown sv_length sv_nodes sv_many sv_directories sv_runsFrom sv_runs sv_read sv_wrong sv_isNamed sv_goes sv_goesSize sv_goesAt sv_targetParts sv_isRoot)), ((ma 1), .inl (cI, 40, .inl fK)), ((ma 9), .inl (cI, 40, .inl fNS)), ((ma 13), .inl (cI, 40, .inl fBs)), ((ma 15), .inl (cI, 40, .inl fEs))]) [10, 6, 7, 8, 9] rfl
              have hDc := hD.sub (ws' := [(h0, .inr (11, MO ma sv_thrown sv_length sv_nodes sv_many sv_directories sv_runsFrom sv_runs sv_read sv_wrong sv_isNamed sv_goes sv_goesSize sv_goesAt sv_targetParts sv_isRoot)), ((ma 1), .inl (cI, 40, .inl fK)), ((ma 9), .inl (cI, 40, .inl fNS)), ((ma 13), .inl (cI, 40, .inl fBs)), ((ma 15), .inl (cI, 40, .inl fEs))]) [10, 6, 7, 8, 9] (by decide +kernel) rfl
              have hFc := va_free (wc := [(h0, .inr (11, MO ma sv_thrown sv_length sv_nodes sv_many sv_directories sv_runsFrom sv_runs sv_read sv_wrong sv_isNamed sv_goes sv_goesSize sv_goesAt sv_targetParts sv_isRoot)), ((ma 1), .inl (cI, 40, .inl fK)), ((ma 9), .inl (cI, 40, .inl fNS)), ((ma 13), .inl (cI, 40, .inl fBs)), ((ma 15), .inl (cI, 40, .inl fEs))]) hD hS hA [10, 6, 7, 8, 9] rfl
              have hkc : 0 ≤ 0 := by decide
              have hks : 0 ≤ 0 := by decide
              refine va_calli (va_runV (C := "DiscMakerModel") (As := [.int x, .int v7]) (rest := [.int ll]) ⟨hx, hb, hml, hown, hts⟩ (m_entrySize l D cB cI cJ cZ cN cF H.size h0 ma sv_thrown sv_length sv_nodes sv_many sv_directories sv_runsFrom sv_runs sv_read sv_wrong sv_isNamed sv_goes sv_goesSize sv_goesAt sv_targetParts sv_isRoot fK fNS fBs fEs x v7 (by (try dsimp only); first | assumption | omega | trivial) (by (try dsimp only); first | assumption | omega | trivial) (by (try dsimp only); first | assumption | omega | trivial) (by (try dsimp only); first | assumption | omega | trivial) (by (try dsimp only); first | assumption | omega | trivial)) (cwV 2 hts (lg_goodV k1785 k1787 k91 k125 kc_DiscMakerModel_entrySize) rfl rfl rfl (by decide +kernel) ⟨Nat.le_of_ble_eq_true rfl, Nat.le_of_ble_eq_true rfl⟩) ⟨fun a U g mk q => by obtain ⟨q0, q1, qP, qK, qN, qD⟩ := q; exact ⟨q0, q1, qP, va_K.moved (u := U) (U := U.calling g mk a) (Vm.Alike.refl U.vm) qK, qN.calling, qD⟩, va_recv hK hP (ci := 11) (q0 := 10) rfl rfl, fun U hU hW => ⟨rfl, by rw [hU], by rw [hU]; exact hPc, va_K.moved hW.alike hK, NN.warm hW hN, hDc.weaken (fun _ _ _ _ => trivial)⟩⟩ rfl rfl hl.1 rfl (lv_room (Nat.le_of_ble_eq_true rfl)) d_DiscMakerModel_paths_230 ⟨hkc, hks⟩) hS (fun q _ h => hFc q h) hFc (fun r33 u t H1 locs ht hvm hp_r33 hB hz1 hk1 hS => ?_)
              obtain ⟨hP1, hD1⟩ := hB
              rw [ht] at hP1
              obtain ⟨hP, hD⟩ := va_join (wr := [((ma 2), .inl (cI, 40, .inl fP)), ((ma 8), .inl (cB, 1200, .inl fN)), ((ma 12), .inl (cB, 320, .inl fBa)), ((ma 14), .inl (cB, 120, .inl fEx)), ((ma 17), .inl (cI, 24, .inl fTb)), ((ma 18), .inl (cI, 80, .inl fSe)), ((ma 16), .inl (cJ, 46080, .inr (.inl nF)))]) (w1 := [(h0, .inr (11, MO ma sv_thrown sv_length sv_nodes sv_many sv_directories sv_runsFrom sv_runs sv_read sv_wrong sv_isNamed sv_goes sv_goesSize sv_goesAt sv_targetParts sv_isRoot)), ((ma 1), .inl (cI, 40, .inl fK)), ((ma 9), .inl (cI, 40, .inl fNS)), ((ma 13), .inl (cI, 40, .inl fBs)), ((ma 15), .inl (cI, 40, .inl fEs))]) hP hD [10, 6, 7, 8, 9] [0, 1, 2, 3, 4, 5, 11] rfl rfl (by decide +kernel) (by decide +kernel) hk1 hFc hP1 hD1
              clear hPc hDc hFc hP1 hD1 hk1 hz1 hkc hks
              generalize H1 = H at hP hS ⊢
              have hP : va_P D CL [((ma 2), .inl (cI, 40, .inl fP)), ((ma 8), .inl (cB, 1200, .inl fN)), ((ma 12), .inl (cB, 320, .inl fBa)), ((ma 14), .inl (cB, 120, .inl fEx)), ((ma 17), .inl (cI, 24, .inl fTb)), ((ma 18), .inl (cI, 80, .inl fSe)), ((ma 16), .inl (cJ, 46080, .inr (.inl nF))), (h0, .inr (11, MO ma sv_thrown sv_length sv_nodes sv_many sv_directories sv_runsFrom sv_runs sv_read sv_wrong sv_isNamed sv_goes sv_goesSize sv_goesAt sv_targetParts sv_isRoot)), ((ma 1), .inl (cI, 40, .inl fK)), ((ma 9), .inl (cI, 40, .inl fNS)), ((ma 13), .inl (cI, 40, .inl fBs)), ((ma 15), .inl (cI, 40, .inl fEs))] H := hP
              have hD : va_D A [((ma 2), .inl (cI, 40, .inl fP)), ((ma 8), .inl (cB, 1200, .inl fN)), ((ma 12), .inl (cB, 320, .inl fBa)), ((ma 14), .inl (cB, 120, .inl fEx)), ((ma 17), .inl (cI, 24, .inl fTb)), ((ma 18), .inl (cI, 80, .inl fSe)), ((ma 16), .inl (cJ, 46080, .inr (.inl nF))), (h0, .inr (11, MO ma sv_thrown sv_length sv_nodes sv_many sv_directories sv_runsFrom sv_runs sv_read sv_wrong sv_isNamed sv_goes sv_goesSize sv_goesAt sv_targetParts sv_isRoot)), ((ma 1), .inl (cI, 40, .inl fK)), ((ma 9), .inl (cI, 40, .inl fNS)), ((ma 13), .inl (cI, 40, .inl fBs)), ((ma 15), .inl (cI, 40, .inl fEs))] := hD
              try dsimp only at hp_r33
              have hr_34 := hp_r33
              refine lv_iadd hx hb d_DiscMakerModel_paths_233 ?_
              refine lv_topi (fun v35 e_v35 => ?_)
              have t_v35 : v35.toInt = ll.toInt + r33.toInt := by rw [e_v35]; exact i_add rfl rfl (by omega) (by omega)
              refine lv_istore_n hx hb d_DiscMakerModel_paths_234 rfl hl (by decide) rfl (fun ls hl => ?_)
              have hl : lv_has ls 10 [(2, .int v35), (0, .ref h0), (1, .int x), (3, .int lm), (4, .int ki), (5, .int v7), (6, .int so), (7, .int r8), (8, .int up), (9, .int k9)] := hl
              refine lv_iload_n hx hb d_DiscMakerModel_paths_235 rfl (lv_at hl 3 rfl) ?_
              refine lv_aload_n hx hb d_DiscMakerModel_paths_236 rfl (lv_at hl 1 rfl) ?_
              refine lv_iload_n hx hb d_DiscMakerModel_paths_237 rfl (lv_at hl 2 rfl) ?_
              refine lv_iload hx hb d_DiscMakerModel_paths_238 (lv_at hl 5 rfl) ?_
              have hPc := hP.sub (ws' := [(h0, .inr (11, MO ma sv_thrown sv_length sv_nodes sv_many sv_directories sv_runsFrom sv_runs sv_read sv_wrong sv_isNamed sv_goes sv_goesSize sv_goesAt sv_targetParts sv_isRoot)), ((ma 1), .inl (cI, 40, .inl fK)), ((ma 9), .inl (cI, 40, .inl fNS)), ((ma 13), .inl (cI, 40, .inl fBs)), ((ma 15), .inl (cI, 40, .inl fEs))]) [7, 8, 9, 10, 11] rfl
              have hDc := hD.sub (ws' := [(h0, .inr (11, MO ma sv_thrown sv_length sv_nodes sv_many sv_directories sv_runsFrom sv_runs sv_read sv_wrong sv_isNamed sv_goes sv_goesSize sv_goesAt sv_targetParts sv_isRoot)), ((ma 1), .inl (cI, 40, .inl fK)), ((ma 9), .inl (cI, 40, .inl fNS)), ((ma 13), .inl (cI, 40, .inl fBs)), ((ma 15), .inl (cI, 40, .inl fEs))]) [7, 8, 9, 10, 11] (by decide +kernel) rfl
              have hFc := va_free (wc := [(h0, .inr (11, MO ma sv_thrown sv_length sv_nodes sv_many sv_directories sv_runsFrom sv_runs sv_read sv_wrong sv_isNamed sv_goes sv_goesSize sv_goesAt sv_targetParts sv_isRoot)), ((ma 1), .inl (cI, 40, .inl fK)), ((ma 9), .inl (cI, 40, .inl fNS)), ((ma 13), .inl (cI, 40, .inl fBs)), ((ma 15), .inl (cI, 40, .inl fEs))]) hD hS hA [7, 8, 9, 10, 11] rfl
              have hkc : 0 ≤ 0 := by decide
              have hks : 0 ≤ 0 := by decide
              refine va_calli (va_runV (C := "DiscMakerModel") (As := [.int x, .int v7]) (rest := [.int lm]) ⟨hx, hb, hml, hown, hts⟩ (m_entrySize l D cB cI cJ cZ cN cF H.size h0 ma sv_thrown sv_length sv_nodes sv_many sv_directories sv_runsFrom sv_runs sv_read sv_wrong sv_isNamed sv_goes sv_goesSize sv_goesAt sv_targetParts sv_isRoot fK fNS fBs fEs x v7 (by (try dsimp only); first | assumption | omega | trivial) (by (try dsimp only); first | assumption | omega | trivial) (by (try dsimp only); first | assumption | omega | trivial) (by (try dsimp only); first | assumption | omega | trivial) (by (try dsimp only); first | assumption | omega | trivial)) (cwV 2 hts (lg_goodV k1785 k1787 k91 k125 kc_DiscMakerModel_entrySize) rfl rfl rfl (by decide +kernel) ⟨Nat.le_of_ble_eq_true rfl, Nat.le_of_ble_eq_true rfl⟩) ⟨fun a U g mk q => by obtain ⟨q0, q1, qP, qK, qN, qD⟩ := q; exact ⟨q0, q1, qP, va_K.moved (u := U) (U := U.calling g mk a) (Vm.Alike.refl U.vm) qK, qN.calling, qD⟩, va_recv hK hP (ci := 11) (q0 := 7) rfl rfl, fun U hU hW => ⟨rfl, by rw [hU], by rw [hU]; exact hPc, va_K.moved hW.alike hK, NN.warm hW hN, hDc.weaken (fun _ _ _ _ => trivial)⟩⟩ rfl rfl hl.1 rfl (lv_room (Nat.le_of_ble_eq_true rfl)) d_DiscMakerModel_paths_240 ⟨hkc, hks⟩) hS (fun q _ h => hFc q h) hFc (fun r36 u t H1 locs ht hvm hp_r36 hB hz1 hk1 hS => ?_)
              obtain ⟨hP1, hD1⟩ := hB
              rw [ht] at hP1
              obtain ⟨hP, hD⟩ := va_join (wr := [((ma 2), .inl (cI, 40, .inl fP)), ((ma 8), .inl (cB, 1200, .inl fN)), ((ma 12), .inl (cB, 320, .inl fBa)), ((ma 14), .inl (cB, 120, .inl fEx)), ((ma 17), .inl (cI, 24, .inl fTb)), ((ma 18), .inl (cI, 80, .inl fSe)), ((ma 16), .inl (cJ, 46080, .inr (.inl nF)))]) (w1 := [(h0, .inr (11, MO ma sv_thrown sv_length sv_nodes sv_many sv_directories sv_runsFrom sv_runs sv_read sv_wrong sv_isNamed sv_goes sv_goesSize sv_goesAt sv_targetParts sv_isRoot)), ((ma 1), .inl (cI, 40, .inl fK)), ((ma 9), .inl (cI, 40, .inl fNS)), ((ma 13), .inl (cI, 40, .inl fBs)), ((ma 15), .inl (cI, 40, .inl fEs))]) hP hD [7, 8, 9, 10, 11] [0, 1, 2, 3, 4, 5, 6] rfl rfl (by decide +kernel) (by decide +kernel) hk1 hFc hP1 hD1
              clear hPc hDc hFc hP1 hD1 hk1 hz1 hkc hks
              generalize H1 = H at hP hS ⊢
              have hP : va_P D CL [((ma 2), .inl (cI, 40, .inl fP)), ((ma 8), .inl (cB, 1200, .inl fN)), ((ma 12), .inl (cB, 320, .inl fBa)), ((ma 14), .inl (cB, 120, .inl fEx)), ((ma 17), .inl (cI, 24, .inl fTb)), ((ma 18), .inl (cI, 80, .inl fSe)), ((ma 16), .inl (cJ, 46080, .inr (.inl nF))), (h0, .inr (11, MO ma sv_thrown sv_length sv_nodes sv_many sv_directories sv_runsFrom sv_runs sv_read sv_wrong sv_isNamed sv_goes sv_goesSize sv_goesAt sv_targetParts sv_isRoot)), ((ma 1), .inl (cI, 40, .inl fK)), ((ma 9), .inl (cI, 40, .inl fNS)), ((ma 13), .inl (cI, 40, .inl fBs)), ((ma 15), .inl (cI, 40, .inl fEs))] H := hP
              have hD : va_D A [((ma 2), .inl (cI, 40, .inl fP)), ((ma 8), .inl (cB, 1200, .inl fN)), ((ma 12), .inl (cB, 320, .inl fBa)), ((ma 14), .inl (cB, 120, .inl fEx)), ((ma 17), .inl (cI, 24, .inl fTb)), ((ma 18), .inl (cI, 80, .inl fSe)), ((ma 16), .inl (cJ, 46080, .inr (.inl nF))), (h0, .inr (11, MO ma sv_thrown sv_length sv_nodes sv_many sv_directories sv_runsFrom sv_runs sv_read sv_wrong sv_isNamed sv_goes sv_goesSize sv_goesAt sv_targetParts sv_isRoot)), ((ma 1), .inl (cI, 40, .inl fK)), ((ma 9), .inl (cI, 40, .inl fNS)), ((ma 13), .inl (cI, 40, .inl fBs)), ((ma 15), .inl (cI, 40, .inl fEs))] := hD
              try dsimp only at hp_r36
              have hr_37 := hp_r36
              refine lv_iadd hx hb d_DiscMakerModel_paths_243 ?_
              refine lv_topi (fun v38 e_v38 => ?_)
              have t_v38 : v38.toInt = lm.toInt + r36.toInt := by rw [e_v38]; exact i_add rfl rfl (by omega) (by omega)
              refine lv_istore_n hx hb d_DiscMakerModel_paths_244 rfl hl (by decide) rfl (fun ls hl => ?_)
              have hl : lv_has ls 10 [(3, .int v38), (2, .int v35), (0, .ref h0), (1, .int x), (4, .int ki), (5, .int v7), (6, .int so), (7, .int r8), (8, .int up), (9, .int k9)] := hl
              obtain ⟨v39, e_v39⟩ : ∃ z : Int32, z = ki + 1 := ⟨_, rfl⟩
              refine lv_iinc (v := v39) hx hb d_DiscMakerModel_paths_245 hl (k := 4) rfl e_v39.symm (by decide +kernel) rfl (fun ls hl => ?_)
              have t_v39 : v39.toInt = ki.toInt + 1 := by rw [e_v39]; exact i_add rfl (by decide) (by omega) (by omega)
              have hl : lv_has ls 10 [(4, .int v39), (3, .int v38), (2, .int v35), (0, .ref h0), (1, .int x), (5, .int v7), (6, .int so), (7, .int r8), (8, .int up), (9, .int k9)] := hl
              refine lv_goto (tgt := 20) hx hb d_DiscMakerModel_paths_248 (by decide) ?_
              have hP := hP.sub (ws' := [(h0, .inr (11, MO ma sv_thrown sv_length sv_nodes sv_many sv_directories sv_runsFrom sv_runs sv_read sv_wrong sv_isNamed sv_goes sv_goesSize sv_goesAt sv_targetParts sv_isRoot)), ((ma 16), .inl (cJ, 46080, .inr (.inl nF))), ((ma 1), .inl (cI, 40, .inl fK)), ((ma 2), .inl (cI, 40, .inl fP)), ((ma 8), .inl (cB, 1200, .inl fN)), ((ma 9), .inl (cI, 40, .inl fNS)), ((ma 12), .inl (cB, 320, .inl fBa)), ((ma 13), .inl (cI, 40, .inl fBs)), ((ma 14), .inl (cB, 120, .inl fEx)), ((ma 15), .inl (cI, 40, .inl fEs)), ((ma 17), .inl (cI, 24, .inl fTb)), ((ma 18), .inl (cI, 80, .inl fSe))]) [7, 6, 8, 0, 1, 9, 2, 10, 3, 11, 4, 5] rfl
              have hD := hD.sub (ws' := [(h0, .inr (11, MO ma sv_thrown sv_length sv_nodes sv_many sv_directories sv_runsFrom sv_runs sv_read sv_wrong sv_isNamed sv_goes sv_goesSize sv_goesAt sv_targetParts sv_isRoot)), ((ma 16), .inl (cJ, 46080, .inr (.inl nF))), ((ma 1), .inl (cI, 40, .inl fK)), ((ma 2), .inl (cI, 40, .inl fP)), ((ma 8), .inl (cB, 1200, .inl fN)), ((ma 9), .inl (cI, 40, .inl fNS)), ((ma 12), .inl (cB, 320, .inl fBa)), ((ma 13), .inl (cI, 40, .inl fBs)), ((ma 14), .inl (cB, 120, .inl fEx)), ((ma 15), .inl (cI, 40, .inl fEs)), ((ma 17), .inl (cI, 24, .inl fTb)), ((ma 18), .inl (cI, 80, .inl fSe))]) [7, 6, 8, 0, 1, 9, 2, 10, 3, 11, 4, 5] (by decide +kernel) rfl
              have hl := lv_sub hl [3, 4, 2, 1, 0] rfl
              exact ih20 _ (by first | omega | (dsimp only; omega)) v35 v38 v39 nF _ _ _ rfl ((by (try dsimp only); first | assumption | omega | trivial)) ((by (try dsimp only); first | assumption | omega | trivial)) ((by (try dsimp only); first | assumption | omega | trivial)) hP hD hS hl
            · skip
              have g172_91 : ¬ r8.toInt ≤ k9.toInt := fun h8 => h_9 ((i_le rfl rfl).mpr h8)
              refine lv_aload_n hx hb d_DiscMakerModel_paths_175 rfl (lv_at hl 0 rfl) ?_
              refine lv_iload_n hx hb d_DiscMakerModel_paths_176 rfl (lv_at hl 2 rfl) ?_
              refine lv_bipush (v := 8) hx hb d_DiscMakerModel_paths_177 (by decide) ?_
              refine lv_iadd hx hb d_DiscMakerModel_paths_179 ?_
              refine lv_topi (fun v40 e_v40 => ?_)
              have t_v40 : v40.toInt = ll.toInt + 8 := by rw [e_v40]; exact i_add rfl (by decide) (by omega) (by omega)
              refine lv_iload hx hb d_DiscMakerModel_paths_180 (lv_at hl 9 rfl) ?_
              refine lv_iadd hx hb d_DiscMakerModel_paths_182 ?_
              refine lv_topi (fun v41 e_v41 => ?_)
              have t_v41 : v41.toInt = v40.toInt + k9.toInt := by rw [e_v41]; exact i_add rfl rfl (by omega) (by omega)
              refine lv_aload_n hx hb d_DiscMakerModel_paths_183 rfl (lv_at hl 0 rfl) ?_
              refine lv_iload_n hx hb d_DiscMakerModel_paths_184 rfl (lv_at hl 1 rfl) ?_
              refine lv_iload hx hb d_DiscMakerModel_paths_185 (lv_at hl 6 rfl) ?_
              refine lv_iload hx hb d_DiscMakerModel_paths_187 (lv_at hl 5 rfl) ?_
              refine lv_iload hx hb d_DiscMakerModel_paths_189 (lv_at hl 9 rfl) ?_
              have hPc := hP.sub (ws' := [(h0, .inr (11, MO ma sv_thrown sv_length sv_nodes sv_many sv_directories sv_runsFrom sv_runs sv_read sv_wrong sv_isNamed sv_goes sv_goesSize sv_goesAt sv_targetParts sv_isRoot)), ((ma 8), .inl (cB, 1200, .inl fN)), ((ma 9), .inl (cI, 40, .inl fNS)), ((ma 12), .inl (cB, 320, .inl fBa)), ((ma 13), .inl (cI, 40, .inl fBs)), ((ma 14), .inl (cB, 120, .inl fEx)), ((ma 15), .inl (cI, 40, .inl fEs))]) [10, 1, 7, 2, 8, 3, 9] rfl
              have hDc := hD.sub (ws' := [(h0, .inr (11, MO ma sv_thrown sv_length sv_nodes sv_many sv_directories sv_runsFrom sv_runs sv_read sv_wrong sv_isNamed sv_goes sv_goesSize sv_goesAt sv_targetParts sv_isRoot)), ((ma 8), .inl (cB, 1200, .inl fN)), ((ma 9), .inl (cI, 40, .inl fNS)), ((ma 12), .inl (cB, 320, .inl fBa)), ((ma 13), .inl (cI, 40, .inl fBs)), ((ma 14), .inl (cB, 120, .inl fEx)), ((ma 15), .inl (cI, 40, .inl fEs))]) [10, 1, 7, 2, 8, 3, 9] (by decide +kernel) rfl
              have hFc := va_free (wc := [(h0, .inr (11, MO ma sv_thrown sv_length sv_nodes sv_many sv_directories sv_runsFrom sv_runs sv_read sv_wrong sv_isNamed sv_goes sv_goesSize sv_goesAt sv_targetParts sv_isRoot)), ((ma 8), .inl (cB, 1200, .inl fN)), ((ma 9), .inl (cI, 40, .inl fNS)), ((ma 12), .inl (cB, 320, .inl fBa)), ((ma 13), .inl (cI, 40, .inl fBs)), ((ma 14), .inl (cB, 120, .inl fEx)), ((ma 15), .inl (cI, 40, .inl fEs))]) hD hS hA [10, 1, 7, 2, 8, 3, 9] rfl
              have hkc : 0 ≤ 0 := by decide
              have hks : 0 ≤ 0 := by decide
              refine va_calli (va_runV (C := "DiscMakerModel") (As := [.int x, .int so, .int v7, .int k9]) (rest := [.int v41, .ref h0]) ⟨hx, hb, hml, hown, hts⟩ (m_idByte l D cB cI cJ cZ cN cF H.size h0 ma sv_thrown sv_length sv_nodes sv_many sv_directories sv_runsFrom sv_runs sv_read sv_wrong sv_isNamed sv_goes sv_goesSize sv_goesAt sv_targetParts sv_isRoot fN fNS fBa fBs fEx fEs x so v7 k9 (by (try dsimp only); first | assumption | omega | trivial) (by (try dsimp only); first | assumption | omega | trivial) (by (try dsimp only); first | assumption | omega | trivial) (by (try dsimp only); first | assumption | omega | trivial) (by (try dsimp only); first | assumption | omega | trivial)) (cwV 4 hts (lg_goodV k1756 k1758 k85 k125 kc_DiscMakerModel_idByte) rfl rfl rfl (by decide +kernel) ⟨Nat.le_of_ble_eq_true rfl, Nat.le_of_ble_eq_true rfl⟩) ⟨fun a U g mk q => by obtain ⟨q0, q1, qP, qK, qN, qD⟩ := q; exact ⟨q0, q1, qP, va_K.moved (u := U) (U := U.calling g mk a) (Vm.Alike.refl U.vm) qK, qN.calling, qD⟩, va_recv hK hP (ci := 11) (q0 := 10) rfl rfl, fun U hU hW => ⟨rfl, by rw [hU], by rw [hU]; exact hPc, va_K.moved hW.alike hK, NN.warm hW hN, hDc.weaken (fun _ _ _ _ => trivial)⟩⟩ rfl rfl hl.1 rfl (lv_room (Nat.le_of_ble_eq_true rfl)) d_DiscMakerModel_paths_191 ⟨hkc, hks⟩) hS (fun q _ h => hFc q h) hFc (fun r42 u t H1 locs ht hvm hp_r42 hB hz1 hk1 hS => ?_)
              obtain ⟨hP1, hD1⟩ := hB
              rw [ht] at hP1
              obtain ⟨hP, hD⟩ := va_join (wr := [((ma 2), .inl (cI, 40, .inl fP)), ((ma 17), .inl (cI, 24, .inl fTb)), ((ma 18), .inl (cI, 80, .inl fSe)), ((ma 1), .inl (cI, 40, .inl fK)), ((ma 16), .inl (cJ, 46080, .inr (.inl nF)))]) (w1 := [(h0, .inr (11, MO ma sv_thrown sv_length sv_nodes sv_many sv_directories sv_runsFrom sv_runs sv_read sv_wrong sv_isNamed sv_goes sv_goesSize sv_goesAt sv_targetParts sv_isRoot)), ((ma 8), .inl (cB, 1200, .inl fN)), ((ma 9), .inl (cI, 40, .inl fNS)), ((ma 12), .inl (cB, 320, .inl fBa)), ((ma 13), .inl (cI, 40, .inl fBs)), ((ma 14), .inl (cB, 120, .inl fEx)), ((ma 15), .inl (cI, 40, .inl fEs))]) hP hD [10, 1, 7, 2, 8, 3, 9] [0, 4, 5, 6, 11] rfl rfl (by decide +kernel) (by decide +kernel) hk1 hFc hP1 hD1
              clear hPc hDc hFc hP1 hD1 hk1 hz1 hkc hks
              generalize H1 = H at hP hS ⊢
              have hP : va_P D CL [((ma 2), .inl (cI, 40, .inl fP)), ((ma 17), .inl (cI, 24, .inl fTb)), ((ma 18), .inl (cI, 80, .inl fSe)), ((ma 1), .inl (cI, 40, .inl fK)), ((ma 16), .inl (cJ, 46080, .inr (.inl nF))), (h0, .inr (11, MO ma sv_thrown sv_length sv_nodes sv_many sv_directories sv_runsFrom sv_runs sv_read sv_wrong sv_isNamed sv_goes sv_goesSize sv_goesAt sv_targetParts sv_isRoot)), ((ma 8), .inl (cB, 1200, .inl fN)), ((ma 9), .inl (cI, 40, .inl fNS)), ((ma 12), .inl (cB, 320, .inl fBa)), ((ma 13), .inl (cI, 40, .inl fBs)), ((ma 14), .inl (cB, 120, .inl fEx)), ((ma 15), .inl (cI, 40, .inl fEs))] H := hP
              have hD : va_D A [((ma 2), .inl (cI, 40, .inl fP)), ((ma 17), .inl (cI, 24, .inl fTb)), ((ma 18), .inl (cI, 80, .inl fSe)), ((ma 1), .inl (cI, 40, .inl fK)), ((ma 16), .inl (cJ, 46080, .inr (.inl nF))), (h0, .inr (11, MO ma sv_thrown sv_length sv_nodes sv_many sv_directories sv_runsFrom sv_runs sv_read sv_wrong sv_isNamed sv_goes sv_goesSize sv_goesAt sv_targetParts sv_isRoot)), ((ma 8), .inl (cB, 1200, .inl fN)), ((ma 9), .inl (cI, 40, .inl fNS)), ((ma 12), .inl (cB, 320, .inl fBa)), ((ma 13), .inl (cI, 40, .inl fBs)), ((ma 14), .inl (cB, 120, .inl fEx)), ((ma 15), .inl (cI, 40, .inl fEs))] := hD
              have hPc := hP.sub (ws' := [(h0, .inr (11, MO ma sv_thrown sv_length sv_nodes sv_many sv_directories sv_runsFrom sv_runs sv_read sv_wrong sv_isNamed sv_goes sv_goesSize sv_goesAt sv_targetParts sv_isRoot)), ((ma 16), .inl (cJ, 46080, .inr (.inl nF)))]) [5, 4] rfl
              have hDc := hD.sub (ws' := [(h0, .inr (11, MO ma sv_thrown sv_length sv_nodes sv_many sv_directories sv_runsFrom sv_runs sv_read sv_wrong sv_isNamed sv_goes sv_goesSize sv_goesAt sv_targetParts sv_isRoot)), ((ma 16), .inl (cJ, 46080, .inr (.inl nF)))]) [5, 4] (by decide +kernel) rfl
              have hFc := va_free (wc := [(h0, .inr (11, MO ma sv_thrown sv_length sv_nodes sv_many sv_directories sv_runsFrom sv_runs sv_read sv_wrong sv_isNamed sv_goes sv_goesSize sv_goesAt sv_targetParts sv_isRoot)), ((ma 16), .inl (cJ, 46080, .inr (.inl nF)))]) hD hS hA [5, 4] rfl
              have hkc : 0 ≤ 0 := by decide
              have hks : 0 ≤ 0 := by decide
              refine va_callv (va_runV (C := "DiscMakerModel") (As := [.int v41, .int r42]) (rest := []) ⟨hx, hb, hml, hown, hts⟩ (m_set l D cB cI cJ cZ cN cF H.size h0 ma sv_thrown sv_length sv_nodes sv_many sv_directories sv_runsFrom sv_runs sv_read sv_wrong sv_isNamed sv_goes sv_goesSize sv_goesAt sv_targetParts sv_isRoot nF v41 r42 (by (try dsimp only); first | assumption | omega | trivial) (by (try dsimp only); first | assumption | omega | trivial)) (cwV 2 hts (lg_goodV k1727 k1729 k79 k125 kc_DiscMakerModel_set) rfl rfl rfl (by decide +kernel) ⟨Nat.le_of_ble_eq_true rfl, Nat.le_of_ble_eq_true rfl⟩) ⟨fun a U g mk q => by obtain ⟨q0, q1, qP, qK, qN, qD⟩ := q; exact ⟨q0, q1, qP, va_K.moved (u := U) (U := U.calling g mk a) (Vm.Alike.refl U.vm) qK, qN.calling, qD⟩, va_recv hK hP (ci := 11) (q0 := 5) rfl rfl, fun U hU hW => ⟨rfl, by rw [hU], by rw [hU]; exact hPc, va_K.moved hW.alike hK, NN.warm hW hN, hDc.weaken (fun _ _ _ _ => trivial)⟩⟩ rfl rfl hl.1 rfl (lv_room (Nat.le_of_ble_eq_true rfl)) d_DiscMakerModel_paths_194 ⟨hkc, hks⟩) hS (fun q _ h => hFc q h) hFc (fun u t H1 locs ht hvm hp_r43 hB hz1 hk1 hS => ?_)
              obtain ⟨G_44, rfl⟩ : ∃ z, z = u := ⟨_, rfl⟩
              obtain ⟨hP1, hD1⟩ := hB
              rw [ht] at hP1
              obtain ⟨hP, hD⟩ := va_join (wr := [((ma 2), .inl (cI, 40, .inl fP)), ((ma 17), .inl (cI, 24, .inl fTb)), ((ma 18), .inl (cI, 80, .inl fSe)), ((ma 1), .inl (cI, 40, .inl fK)), ((ma 8), .inl (cB, 1200, .inl fN)), ((ma 9), .inl (cI, 40, .inl fNS)), ((ma 12), .inl (cB, 320, .inl fBa)), ((ma 13), .inl (cI, 40, .inl fBs)), ((ma 14), .inl (cB, 120, .inl fEx)), ((ma 15), .inl (cI, 40, .inl fEs))]) (w1 := [(h0, .inr (11, MO ma sv_thrown sv_length sv_nodes sv_many sv_directories sv_runsFrom sv_runs sv_read sv_wrong sv_isNamed sv_goes sv_goesSize sv_goesAt sv_targetParts sv_isRoot)), ((ma 16), .inl (cJ, 46080, .inr (.inl G_44)))]) hP hD [5, 4] [0, 1, 2, 3, 6, 7, 8, 9, 10, 11] rfl rfl (by decide +kernel) (by decide +kernel) hk1 hFc hP1 hD1
              clear hPc hDc hFc hP1 hD1 hk1 hz1 hkc hks
              generalize H1 = H at hP hS ⊢
              have hP : va_P D CL [((ma 2), .inl (cI, 40, .inl fP)), ((ma 17), .inl (cI, 24, .inl fTb)), ((ma 18), .inl (cI, 80, .inl fSe)), ((ma 1), .inl (cI, 40, .inl fK)), ((ma 8), .inl (cB, 1200, .inl fN)), ((ma 9), .inl (cI, 40, .inl fNS)), ((ma 12), .inl (cB, 320, .inl fBa)), ((ma 13), .inl (cI, 40, .inl fBs)), ((ma 14), .inl (cB, 120, .inl fEx)), ((ma 15), .inl (cI, 40, .inl fEs)), (h0, .inr (11, MO ma sv_thrown sv_length sv_nodes sv_many sv_directories sv_runsFrom sv_runs sv_read sv_wrong sv_isNamed sv_goes sv_goesSize sv_goesAt sv_targetParts sv_isRoot)), ((ma 16), .inl (cJ, 46080, .inr (.inl G_44)))] H := hP
              have hD : va_D A [((ma 2), .inl (cI, 40, .inl fP)), ((ma 17), .inl (cI, 24, .inl fTb)), ((ma 18), .inl (cI, 80, .inl fSe)), ((ma 1), .inl (cI, 40, .inl fK)), ((ma 8), .inl (cB, 1200, .inl fN)), ((ma 9), .inl (cI, 40, .inl fNS)), ((ma 12), .inl (cB, 320, .inl fBa)), ((ma 13), .inl (cI, 40, .inl fBs)), ((ma 14), .inl (cB, 120, .inl fEx)), ((ma 15), .inl (cI, 40, .inl fEs)), (h0, .inr (11, MO ma sv_thrown sv_length sv_nodes sv_many sv_directories sv_runsFrom sv_runs sv_read sv_wrong sv_isNamed sv_goes sv_goesSize sv_goesAt sv_targetParts sv_isRoot)), ((ma 16), .inl (cJ, 46080, .inr (.inl G_44)))] := hD
              refine lv_aload_n hx hb d_DiscMakerModel_paths_197 rfl (lv_at hl 0 rfl) ?_
              refine lv_iload_n hx hb d_DiscMakerModel_paths_198 rfl (lv_at hl 3 rfl) ?_
              refine lv_bipush (v := 8) hx hb d_DiscMakerModel_paths_199 (by decide) ?_
              refine lv_iadd hx hb d_DiscMakerModel_paths_201 ?_
              refine lv_topi (fun v45 e_v45 => ?_)
              have t_v45 : v45.toInt = lm.toInt + 8 := by rw [e_v45]; exact i_add rfl (by decide) (by omega) (by omega)
              refine lv_iload hx hb d_DiscMakerModel_paths_202 (lv_at hl 9 rfl) ?_
              refine lv_iadd hx hb d_DiscMakerModel_paths_204 ?_
              refine lv_topi (fun v46 e_v46 => ?_)
              have t_v46 : v46.toInt = v45.toInt + k9.toInt := by rw [e_v46]; exact i_add rfl rfl (by omega) (by omega)
              refine lv_aload_n hx hb d_DiscMakerModel_paths_205 rfl (lv_at hl 0 rfl) ?_
              refine lv_iload_n hx hb d_DiscMakerModel_paths_206 rfl (lv_at hl 1 rfl) ?_
              refine lv_iload hx hb d_DiscMakerModel_paths_207 (lv_at hl 6 rfl) ?_
              refine lv_iload hx hb d_DiscMakerModel_paths_209 (lv_at hl 5 rfl) ?_
              refine lv_iload hx hb d_DiscMakerModel_paths_211 (lv_at hl 9 rfl) ?_
              have hPc := hP.sub (ws' := [(h0, .inr (11, MO ma sv_thrown sv_length sv_nodes sv_many sv_directories sv_runsFrom sv_runs sv_read sv_wrong sv_isNamed sv_goes sv_goesSize sv_goesAt sv_targetParts sv_isRoot)), ((ma 8), .inl (cB, 1200, .inl fN)), ((ma 9), .inl (cI, 40, .inl fNS)), ((ma 12), .inl (cB, 320, .inl fBa)), ((ma 13), .inl (cI, 40, .inl fBs)), ((ma 14), .inl (cB, 120, .inl fEx)), ((ma 15), .inl (cI, 40, .inl fEs))]) [10, 4, 5, 6, 7, 8, 9] rfl
              have hDc := hD.sub (ws' := [(h0, .inr (11, MO ma sv_thrown sv_length sv_nodes sv_many sv_directories sv_runsFrom sv_runs sv_read sv_wrong sv_isNamed sv_goes sv_goesSize sv_goesAt sv_targetParts sv_isRoot)), ((ma 8), .inl (cB, 1200, .inl fN)), ((ma 9), .inl (cI, 40, .inl fNS)), ((ma 12), .inl (cB, 320, .inl fBa)), ((ma 13), .inl (cI, 40, .inl fBs)), ((ma 14), .inl (cB, 120, .inl fEx)), ((ma 15), .inl (cI, 40, .inl fEs))]) [10, 4, 5, 6, 7, 8, 9] (by decide +kernel) rfl
              have hFc := va_free (wc := [(h0, .inr (11, MO ma sv_thrown sv_length sv_nodes sv_many sv_directories sv_runsFrom sv_runs sv_read sv_wrong sv_isNamed sv_goes sv_goesSize sv_goesAt sv_targetParts sv_isRoot)), ((ma 8), .inl (cB, 1200, .inl fN)), ((ma 9), .inl (cI, 40, .inl fNS)), ((ma 12), .inl (cB, 320, .inl fBa)), ((ma 13), .inl (cI, 40, .inl fBs)), ((ma 14), .inl (cB, 120, .inl fEx)), ((ma 15), .inl (cI, 40, .inl fEs))]) hD hS hA [10, 4, 5, 6, 7, 8, 9] rfl
              have hkc : 0 ≤ 0 := by decide
              have hks : 0 ≤ 0 := by decide
              refine va_calli (va_runV (C := "DiscMakerModel") (As := [.int x, .int so, .int v7, .int k9]) (rest := [.int v46, .ref h0]) ⟨hx, hb, hml, hown, hts⟩ (m_idByte l D cB cI cJ cZ cN cF H.size h0 ma sv_thrown sv_length sv_nodes sv_many sv_directories sv_runsFrom sv_runs sv_read sv_wrong sv_isNamed sv_goes sv_goesSize sv_goesAt sv_targetParts sv_isRoot fN fNS fBa fBs fEx fEs x so v7 k9 (by (try dsimp only); first | assumption | omega | trivial) (by (try dsimp only); first | assumption | omega | trivial) (by (try dsimp only); first | assumption | omega | trivial) (by (try dsimp only); first | assumption | omega | trivial) (by (try dsimp only); first | assumption | omega | trivial)) (cwV 4 hts (lg_goodV k1756 k1758 k85 k125 kc_DiscMakerModel_idByte) rfl rfl rfl (by decide +kernel) ⟨Nat.le_of_ble_eq_true rfl, Nat.le_of_ble_eq_true rfl⟩) ⟨fun a U g mk q => by obtain ⟨q0, q1, qP, qK, qN, qD⟩ := q; exact ⟨q0, q1, qP, va_K.moved (u := U) (U := U.calling g mk a) (Vm.Alike.refl U.vm) qK, qN.calling, qD⟩, va_recv hK hP (ci := 11) (q0 := 10) rfl rfl, fun U hU hW => ⟨rfl, by rw [hU], by rw [hU]; exact hPc, va_K.moved hW.alike hK, NN.warm hW hN, hDc.weaken (fun _ _ _ _ => trivial)⟩⟩ rfl rfl hl.1 rfl (lv_room (Nat.le_of_ble_eq_true rfl)) d_DiscMakerModel_paths_213 ⟨hkc, hks⟩) hS (fun q _ h => hFc q h) hFc (fun r47 u t H1 locs ht hvm hp_r47 hB hz1 hk1 hS => ?_)
              obtain ⟨hP1, hD1⟩ := hB
              rw [ht] at hP1
              obtain ⟨hP, hD⟩ := va_join (wr := [((ma 2), .inl (cI, 40, .inl fP)), ((ma 17), .inl (cI, 24, .inl fTb)), ((ma 18), .inl (cI, 80, .inl fSe)), ((ma 1), .inl (cI, 40, .inl fK)), ((ma 16), .inl (cJ, 46080, .inr (.inl G_44)))]) (w1 := [(h0, .inr (11, MO ma sv_thrown sv_length sv_nodes sv_many sv_directories sv_runsFrom sv_runs sv_read sv_wrong sv_isNamed sv_goes sv_goesSize sv_goesAt sv_targetParts sv_isRoot)), ((ma 8), .inl (cB, 1200, .inl fN)), ((ma 9), .inl (cI, 40, .inl fNS)), ((ma 12), .inl (cB, 320, .inl fBa)), ((ma 13), .inl (cI, 40, .inl fBs)), ((ma 14), .inl (cB, 120, .inl fEx)), ((ma 15), .inl (cI, 40, .inl fEs))]) hP hD [10, 4, 5, 6, 7, 8, 9] [0, 1, 2, 3, 11] rfl rfl (by decide +kernel) (by decide +kernel) hk1 hFc hP1 hD1
              clear hPc hDc hFc hP1 hD1 hk1 hz1 hkc hks
              generalize H1 = H at hP hS ⊢
              have hP : va_P D CL [((ma 2), .inl (cI, 40, .inl fP)), ((ma 17), .inl (cI, 24, .inl fTb)), ((ma 18), .inl (cI, 80, .inl fSe)), ((ma 1), .inl (cI, 40, .inl fK)), ((ma 16), .inl (cJ, 46080, .inr (.inl G_44))), (h0, .inr (11, MO ma sv_thrown sv_length sv_nodes sv_many sv_directories sv_runsFrom sv_runs sv_read sv_wrong sv_isNamed sv_goes sv_goesSize sv_goesAt sv_targetParts sv_isRoot)), ((ma 8), .inl (cB, 1200, .inl fN)), ((ma 9), .inl (cI, 40, .inl fNS)), ((ma 12), .inl (cB, 320, .inl fBa)), ((ma 13), .inl (cI, 40, .inl fBs)), ((ma 14), .inl (cB, 120, .inl fEx)), ((ma 15), .inl (cI, 40, .inl fEs))] H := hP
              have hD : va_D A [((ma 2), .inl (cI, 40, .inl fP)), ((ma 17), .inl (cI, 24, .inl fTb)), ((ma 18), .inl (cI, 80, .inl fSe)), ((ma 1), .inl (cI, 40, .inl fK)), ((ma 16), .inl (cJ, 46080, .inr (.inl G_44))), (h0, .inr (11, MO ma sv_thrown sv_length sv_nodes sv_many sv_directories sv_runsFrom sv_runs sv_read sv_wrong sv_isNamed sv_goes sv_goesSize sv_goesAt sv_targetParts sv_isRoot)), ((ma 8), .inl (cB, 1200, .inl fN)), ((ma 9), .inl (cI, 40, .inl fNS)), ((ma 12), .inl (cB, 320, .inl fBa)), ((ma 13), .inl (cI, 40, .inl fBs)), ((ma 14), .inl (cB, 120, .inl fEx)), ((ma 15), .inl (cI, 40, .inl fEs))] := hD
              have hPc := hP.sub (ws' := [(h0, .inr (11, MO ma sv_thrown sv_length sv_nodes sv_many sv_directories sv_runsFrom sv_runs sv_read sv_wrong sv_isNamed sv_goes sv_goesSize sv_goesAt sv_targetParts sv_isRoot)), ((ma 16), .inl (cJ, 46080, .inr (.inl G_44)))]) [5, 4] rfl
              have hDc := hD.sub (ws' := [(h0, .inr (11, MO ma sv_thrown sv_length sv_nodes sv_many sv_directories sv_runsFrom sv_runs sv_read sv_wrong sv_isNamed sv_goes sv_goesSize sv_goesAt sv_targetParts sv_isRoot)), ((ma 16), .inl (cJ, 46080, .inr (.inl G_44)))]) [5, 4] (by decide +kernel) rfl
              have hFc := va_free (wc := [(h0, .inr (11, MO ma sv_thrown sv_length sv_nodes sv_many sv_directories sv_runsFrom sv_runs sv_read sv_wrong sv_isNamed sv_goes sv_goesSize sv_goesAt sv_targetParts sv_isRoot)), ((ma 16), .inl (cJ, 46080, .inr (.inl G_44)))]) hD hS hA [5, 4] rfl
              have hkc : 0 ≤ 0 := by decide
              have hks : 0 ≤ 0 := by decide
              refine va_callv (va_runV (C := "DiscMakerModel") (As := [.int v46, .int r47]) (rest := []) ⟨hx, hb, hml, hown, hts⟩ (m_set l D cB cI cJ cZ cN cF H.size h0 ma sv_thrown sv_length sv_nodes sv_many sv_directories sv_runsFrom sv_runs sv_read sv_wrong sv_isNamed sv_goes sv_goesSize sv_goesAt sv_targetParts sv_isRoot G_44 v46 r47 (by (try dsimp only); first | assumption | omega | trivial) (by (try dsimp only); first | assumption | omega | trivial)) (cwV 2 hts (lg_goodV k1727 k1729 k79 k125 kc_DiscMakerModel_set) rfl rfl rfl (by decide +kernel) ⟨Nat.le_of_ble_eq_true rfl, Nat.le_of_ble_eq_true rfl⟩) ⟨fun a U g mk q => by obtain ⟨q0, q1, qP, qK, qN, qD⟩ := q; exact ⟨q0, q1, qP, va_K.moved (u := U) (U := U.calling g mk a) (Vm.Alike.refl U.vm) qK, qN.calling, qD⟩, va_recv hK hP (ci := 11) (q0 := 5) rfl rfl, fun U hU hW => ⟨rfl, by rw [hU], by rw [hU]; exact hPc, va_K.moved hW.alike hK, NN.warm hW hN, hDc.weaken (fun _ _ _ _ => trivial)⟩⟩ rfl rfl hl.1 rfl (lv_room (Nat.le_of_ble_eq_true rfl)) d_DiscMakerModel_paths_216 ⟨hkc, hks⟩) hS (fun q _ h => hFc q h) hFc (fun u t H1 locs ht hvm hp_r48 hB hz1 hk1 hS => ?_)
              obtain ⟨G_49, rfl⟩ : ∃ z, z = u := ⟨_, rfl⟩
              obtain ⟨hP1, hD1⟩ := hB
              rw [ht] at hP1
              obtain ⟨hP, hD⟩ := va_join (wr := [((ma 2), .inl (cI, 40, .inl fP)), ((ma 17), .inl (cI, 24, .inl fTb)), ((ma 18), .inl (cI, 80, .inl fSe)), ((ma 1), .inl (cI, 40, .inl fK)), ((ma 8), .inl (cB, 1200, .inl fN)), ((ma 9), .inl (cI, 40, .inl fNS)), ((ma 12), .inl (cB, 320, .inl fBa)), ((ma 13), .inl (cI, 40, .inl fBs)), ((ma 14), .inl (cB, 120, .inl fEx)), ((ma 15), .inl (cI, 40, .inl fEs))]) (w1 := [(h0, .inr (11, MO ma sv_thrown sv_length sv_nodes sv_many sv_directories sv_runsFrom sv_runs sv_read sv_wrong sv_isNamed sv_goes sv_goesSize sv_goesAt sv_targetParts sv_isRoot)), ((ma 16), .inl (cJ, 46080, .inr (.inl G_49)))]) hP hD [5, 4] [0, 1, 2, 3, 6, 7, 8, 9, 10, 11] rfl rfl (by decide +kernel) (by decide +kernel) hk1 hFc hP1 hD1
              clear hPc hDc hFc hP1 hD1 hk1 hz1 hkc hks
              generalize H1 = H at hP hS ⊢
              have hP : va_P D CL [((ma 2), .inl (cI, 40, .inl fP)), ((ma 17), .inl (cI, 24, .inl fTb)), ((ma 18), .inl (cI, 80, .inl fSe)), ((ma 1), .inl (cI, 40, .inl fK)), ((ma 8), .inl (cB, 1200, .inl fN)), ((ma 9), .inl (cI, 40, .inl fNS)), ((ma 12), .inl (cB, 320, .inl fBa)), ((ma 13), .inl (cI, 40, .inl fBs)), ((ma 14), .inl (cB, 120, .inl fEx)), ((ma 15), .inl (cI, 40, .inl fEs)), (h0, .inr (11, MO ma sv_thrown sv_length sv_nodes sv_many sv_directories sv_runsFrom sv_runs sv_read sv_wrong sv_isNamed sv_goes sv_goesSize sv_goesAt sv_targetParts sv_isRoot)), ((ma 16), .inl (cJ, 46080, .inr (.inl G_49)))] H := hP
              have hD : va_D A [((ma 2), .inl (cI, 40, .inl fP)), ((ma 17), .inl (cI, 24, .inl fTb)), ((ma 18), .inl (cI, 80, .inl fSe)), ((ma 1), .inl (cI, 40, .inl fK)), ((ma 8), .inl (cB, 1200, .inl fN)), ((ma 9), .inl (cI, 40, .inl fNS)), ((ma 12), .inl (cB, 320, .inl fBa)), ((ma 13), .inl (cI, 40, .inl fBs)), ((ma 14), .inl (cB, 120, .inl fEx)), ((ma 15), .inl (cI, 40, .inl fEs)), (h0, .inr (11, MO ma sv_thrown sv_length sv_nodes sv_many sv_directories sv_runsFrom sv_runs sv_read sv_wrong sv_isNamed sv_goes sv_goesSize sv_goesAt sv_targetParts sv_isRoot)), ((ma 16), .inl (cJ, 46080, .inr (.inl G_49)))] := hD
              obtain ⟨v50, e_v50⟩ : ∃ z : Int32, z = k9 + 1 := ⟨_, rfl⟩
              refine lv_iinc (v := v50) hx hb d_DiscMakerModel_paths_219 hl (k := 9) rfl e_v50.symm (by decide +kernel) rfl (fun ls hl => ?_)
              have t_v50 : v50.toInt = k9.toInt + 1 := by rw [e_v50]; exact i_add rfl (by decide) (by omega) (by omega)
              have hl : lv_has ls 10 [(9, .int v50), (0, .ref h0), (1, .int x), (2, .int ll), (3, .int lm), (4, .int ki), (5, .int v7), (6, .int so), (7, .int r8), (8, .int up)] := hl
              refine lv_goto (tgt := 168) hx hb d_DiscMakerModel_paths_222 (by decide) ?_
              have hP := hP.sub (ws' := [((ma 2), .inl (cI, 40, .inl fP)), ((ma 8), .inl (cB, 1200, .inl fN)), ((ma 12), .inl (cB, 320, .inl fBa)), ((ma 14), .inl (cB, 120, .inl fEx)), ((ma 17), .inl (cI, 24, .inl fTb)), ((ma 18), .inl (cI, 80, .inl fSe)), ((ma 1), .inl (cI, 40, .inl fK)), ((ma 9), .inl (cI, 40, .inl fNS)), ((ma 13), .inl (cI, 40, .inl fBs)), ((ma 15), .inl (cI, 40, .inl fEs)), (h0, .inr (11, MO ma sv_thrown sv_length sv_nodes sv_many sv_directories sv_runsFrom sv_runs sv_read sv_wrong sv_isNamed sv_goes sv_goesSize sv_goesAt sv_targetParts sv_isRoot)), ((ma 16), .inl (cJ, 46080, .inr (.inl G_49)))]) [0, 4, 6, 8, 1, 2, 3, 5, 7, 9, 10, 11] rfl
              have hD := hD.sub (ws' := [((ma 2), .inl (cI, 40, .inl fP)), ((ma 8), .inl (cB, 1200, .inl fN)), ((ma 12), .inl (cB, 320, .inl fBa)), ((ma 14), .inl (cB, 120, .inl fEx)), ((ma 17), .inl (cI, 24, .inl fTb)), ((ma 18), .inl (cI, 80, .inl fSe)), ((ma 1), .inl (cI, 40, .inl fK)), ((ma 9), .inl (cI, 40, .inl fNS)), ((ma 13), .inl (cI, 40, .inl fBs)), ((ma 15), .inl (cI, 40, .inl fEs)), (h0, .inr (11, MO ma sv_thrown sv_length sv_nodes sv_many sv_directories sv_runsFrom sv_runs sv_read sv_wrong sv_isNamed sv_goes sv_goesSize sv_goesAt sv_targetParts sv_isRoot)), ((ma 16), .inl (cJ, 46080, .inr (.inl G_49)))]) [0, 4, 6, 8, 1, 2, 3, 5, 7, 9, 10, 11] (by decide +kernel) rfl
              have hl := lv_sub hl [1, 2, 3, 4, 5, 6, 7, 8, 9, 0] rfl
              exact ih168 _ (by first | omega | (dsimp only; omega)) v50 G_49 _ _ _ rfl ((by (try dsimp only); first | assumption | omega | trivial)) hP hD hS hl
          · skip
            intro kk168
            have hP := hP.sub (ws' := [((ma 2), .inl (cI, 40, .inl fP)), ((ma 8), .inl (cB, 1200, .inl fN)), ((ma 12), .inl (cB, 320, .inl fBa)), ((ma 14), .inl (cB, 120, .inl fEx)), ((ma 17), .inl (cI, 24, .inl fTb)), ((ma 18), .inl (cI, 80, .inl fSe)), ((ma 1), .inl (cI, 40, .inl fK)), ((ma 9), .inl (cI, 40, .inl fNS)), ((ma 13), .inl (cI, 40, .inl fBs)), ((ma 15), .inl (cI, 40, .inl fEs)), (h0, .inr (11, MO ma sv_thrown sv_length sv_nodes sv_many sv_directories sv_runsFrom sv_runs sv_read sv_wrong sv_isNamed sv_goes sv_goesSize sv_goesAt sv_targetParts sv_isRoot)), ((ma 16), .inl (cJ, 46080, .inr (.inl G_32)))]) [0, 1, 2, 3, 4, 5, 6, 7, 8, 9, 10, 11] rfl
            have hD := hD.sub (ws' := [((ma 2), .inl (cI, 40, .inl fP)), ((ma 8), .inl (cB, 1200, .inl fN)), ((ma 12), .inl (cB, 320, .inl fBa)), ((ma 14), .inl (cB, 120, .inl fEx)), ((ma 17), .inl (cI, 24, .inl fTb)), ((ma 18), .inl (cI, 80, .inl fSe)), ((ma 1), .inl (cI, 40, .inl fK)), ((ma 9), .inl (cI, 40, .inl fNS)), ((ma 13), .inl (cI, 40, .inl fBs)), ((ma 15), .inl (cI, 40, .inl fEs)), (h0, .inr (11, MO ma sv_thrown sv_length sv_nodes sv_many sv_directories sv_runsFrom sv_runs sv_read sv_wrong sv_isNamed sv_goes sv_goesSize sv_goesAt sv_targetParts sv_isRoot)), ((ma 16), .inl (cJ, 46080, .inr (.inl G_32)))]) [0, 1, 2, 3, 4, 5, 6, 7, 8, 9, 10, 11] (by decide +kernel) rfl
            have hl := lv_sub hl [2, 3, 4, 5, 6, 7, 8, 9, 1, 0] rfl
            exact kk168 _ 0 G_32 _ _ _ rfl ((by (try dsimp only); first | assumption | omega | trivial)) hP hD hS hl
        · skip
          intro kk87
          refine lv_iload hx hb d_DiscMakerModel_paths_66 (lv_at hl 7 rfl) ?_
          refine lv_if_ne (tgt := 75) hx hb d_DiscMakerModel_paths_68 (by decide) (fun h_9 => ?_) (fun h_9 => ?_)
          · skip
            have g68_139 : ¬ v7.toInt = 0 := fun h8 => h_9 ((i_eq rfl (by decide)).mpr h8)
            refine lv_aload_n hx hb d_DiscMakerModel_paths_75 rfl (lv_at hl 2 rfl) ?_
            refine lv_iload_n hx hb d_DiscMakerModel_paths_76 rfl (lv_at hl 3 rfl) ?_
            refine lv_aload_n hx hb d_DiscMakerModel_paths_77 rfl (lv_at hl 2 rfl) ?_
            refine va_get (D := D) (ci := 11) (v := .ref (ma 2)) (C := "DiscMakerModel") (T := F_DiscMakerModel) (N := 48) hx hb ht9 in_DiscMakerModel hown hK hP 7 rfl rfl 5 (by decide) (ht9 _ k1436) (fun _ h9 => h9) rfl d_DiscMakerModel_paths_78 ?_
            refine lv_iload hx hb d_DiscMakerModel_paths_81 (lv_at hl 7 rfl) ?_
            refine va_iald hx hb hK hP 1 1 rfl rfl (vp_in_iff.mpr ⟨by omega, by omega⟩) d_DiscMakerModel_paths_83 ?_
            refine lv_topi (fun v51 e_v51 => ?_)
            have hPc := hP.sub (ws' := [(h0, .inr (11, MO ma sv_thrown sv_length sv_nodes sv_many sv_directories sv_runsFrom sv_runs sv_read sv_wrong sv_isNamed sv_goes sv_goesSize sv_goesAt sv_targetParts sv_isRoot)), ((ma 17), .inl (cI, 24, .inl fTb))]) [7, 5] rfl
            have hDc := hD.sub (ws' := [(h0, .inr (11, MO ma sv_thrown sv_length sv_nodes sv_many sv_directories sv_runsFrom sv_runs sv_read sv_wrong sv_isNamed sv_goes sv_goesSize sv_goesAt sv_targetParts sv_isRoot)), ((ma 17), .inl (cI, 24, .inl fTb))]) [7, 5] (by decide +kernel) rfl
            have hFc := va_free (wc := [(h0, .inr (11, MO ma sv_thrown sv_length sv_nodes sv_many sv_directories sv_runsFrom sv_runs sv_read sv_wrong sv_isNamed sv_goes sv_goesSize sv_goesAt sv_targetParts sv_isRoot)), ((ma 17), .inl (cI, 24, .inl fTb))]) hD hS hA [7, 5] rfl
            have hkc : 0 ≤ 0 := by decide
            have hks : 0 ≤ 0 := by decide
            refine va_calli (va_runV (C := "DiscMakerModel") (As := [.int x, .int v51]) (rest := []) ⟨hx, hb, hml, hown, hts⟩ (m_numberOf l D cB cI cJ cZ cN cF H.size h0 ma sv_thrown sv_length sv_nodes sv_many sv_directories sv_runsFrom sv_runs sv_read sv_wrong sv_isNamed sv_goes sv_goesSize sv_goesAt sv_targetParts sv_isRoot fTb x v51 (by (try dsimp only); first | assumption | omega | trivial) (by have h9 := TBi.par hB (j := ki.toNatClampNeg) (by omega) (by rw [qtv7]; omega); rw [qtv7, show v7.toInt.toNat = v7.toNatClampNeg from rfl, ← e_v51] at h9; exact h9)) (cwV 2 hts (lg_goodV k1797 k1799 k94 k125 kc_DiscMakerModel_numberOf) rfl rfl rfl (by decide +kernel) ⟨Nat.le_of_ble_eq_true rfl, Nat.le_of_ble_eq_true rfl⟩) ⟨fun a U g mk q => by obtain ⟨q0, q1, qP, qK, qN, qD⟩ := q; exact ⟨q0, q1, qP, va_K.moved (u := U) (U := U.calling g mk a) (Vm.Alike.refl U.vm) qK, qN.calling, qD⟩, va_recv hK hP (ci := 11) (q0 := 7) rfl rfl, fun U hU hW => ⟨rfl, by rw [hU], by rw [hU]; exact hPc, va_K.moved hW.alike hK, NN.warm hW hN, hDc.weaken (fun _ _ _ _ => trivial)⟩⟩ rfl rfl hl.1 rfl (lv_room (Nat.le_of_ble_eq_true rfl)) d_DiscMakerModel_paths_84 ⟨hkc, hks⟩) hS (fun q _ h => hFc q h) hFc (fun r52 u t H1 locs ht hvm hp_r52 hB hz1 hk1 hS => ?_)
            obtain ⟨hP1, hD1⟩ := hB
            rw [ht] at hP1
            obtain ⟨hP, hD⟩ := va_join (wr := [((ma 16), .inl (cJ, 46080, .inr (.inl lF))), ((ma 2), .inl (cI, 40, .inl fP)), ((ma 8), .inl (cB, 1200, .inl fN)), ((ma 12), .inl (cB, 320, .inl fBa)), ((ma 14), .inl (cB, 120, .inl fEx)), ((ma 18), .inl (cI, 80, .inl fSe)), ((ma 1), .inl (cI, 40, .inl fK)), ((ma 9), .inl (cI, 40, .inl fNS)), ((ma 13), .inl (cI, 40, .inl fBs)), ((ma 15), .inl (cI, 40, .inl fEs))]) (w1 := [(h0, .inr (11, MO ma sv_thrown sv_length sv_nodes sv_many sv_directories sv_runsFrom sv_runs sv_read sv_wrong sv_isNamed sv_goes sv_goesSize sv_goesAt sv_targetParts sv_isRoot)), ((ma 17), .inl (cI, 24, .inl fTb))]) hP hD [7, 5] [0, 1, 2, 3, 4, 6, 8, 9, 10, 11] rfl rfl (by decide +kernel) (by decide +kernel) hk1 hFc hP1 hD1
            clear hPc hDc hFc hP1 hD1 hk1 hz1 hkc hks
            generalize H1 = H at hP hS ⊢
            have hP : va_P D CL [((ma 16), .inl (cJ, 46080, .inr (.inl lF))), ((ma 2), .inl (cI, 40, .inl fP)), ((ma 8), .inl (cB, 1200, .inl fN)), ((ma 12), .inl (cB, 320, .inl fBa)), ((ma 14), .inl (cB, 120, .inl fEx)), ((ma 18), .inl (cI, 80, .inl fSe)), ((ma 1), .inl (cI, 40, .inl fK)), ((ma 9), .inl (cI, 40, .inl fNS)), ((ma 13), .inl (cI, 40, .inl fBs)), ((ma 15), .inl (cI, 40, .inl fEs)), (h0, .inr (11, MO ma sv_thrown sv_length sv_nodes sv_many sv_directories sv_runsFrom sv_runs sv_read sv_wrong sv_isNamed sv_goes sv_goesSize sv_goesAt sv_targetParts sv_isRoot)), ((ma 17), .inl (cI, 24, .inl fTb))] H := hP
            have hD : va_D A [((ma 16), .inl (cJ, 46080, .inr (.inl lF))), ((ma 2), .inl (cI, 40, .inl fP)), ((ma 8), .inl (cB, 1200, .inl fN)), ((ma 12), .inl (cB, 320, .inl fBa)), ((ma 14), .inl (cB, 120, .inl fEx)), ((ma 18), .inl (cI, 80, .inl fSe)), ((ma 1), .inl (cI, 40, .inl fK)), ((ma 9), .inl (cI, 40, .inl fNS)), ((ma 13), .inl (cI, 40, .inl fBs)), ((ma 15), .inl (cI, 40, .inl fEs)), (h0, .inr (11, MO ma sv_thrown sv_length sv_nodes sv_many sv_directories sv_runsFrom sv_runs sv_read sv_wrong sv_isNamed sv_goes sv_goesSize sv_goesAt sv_targetParts sv_isRoot)), ((ma 17), .inl (cI, 24, .inl fTb))] := hD
            try dsimp only at hp_r52
            have hr_53 := hp_r52
            have hP := hP.sub (ws' := [((ma 16), .inl (cJ, 46080, .inr (.inl lF))), ((ma 2), .inl (cI, 40, .inl fP)), ((ma 8), .inl (cB, 1200, .inl fN)), ((ma 12), .inl (cB, 320, .inl fBa)), ((ma 14), .inl (cB, 120, .inl fEx)), ((ma 17), .inl (cI, 24, .inl fTb)), ((ma 18), .inl (cI, 80, .inl fSe)), (h0, .inr (11, MO ma sv_thrown sv_length sv_nodes sv_many sv_directories sv_runsFrom sv_runs sv_read sv_wrong sv_isNamed sv_goes sv_goesSize sv_goesAt sv_targetParts sv_isRoot)), ((ma 1), .inl (cI, 40, .inl fK)), ((ma 9), .inl (cI, 40, .inl fNS)), ((ma 13), .inl (cI, 40, .inl fBs)), ((ma 15), .inl (cI, 40, .inl fEs))]) [0, 1, 2, 3, 4, 11, 5, 10, 6, 7, 8, 9] rfl
            have hD := hD.sub (ws' := [((ma 16), .inl (cJ, 46080, .inr (.inl lF))), ((ma 2), .inl (cI, 40, .inl fP)), ((ma 8), .inl (cB, 1200, .inl fN)), ((ma 12), .inl (cB, 320, .inl fBa)), ((ma 14), .inl (cB, 120, .inl fEx)), ((ma 17), .inl (cI, 24, .inl fTb)), ((ma 18), .inl (cI, 80, .inl fSe)), (h0, .inr (11, MO ma sv_thrown sv_length sv_nodes sv_many sv_directories sv_runsFrom sv_runs sv_read sv_wrong sv_isNamed sv_goes sv_goesSize sv_goesAt sv_targetParts sv_isRoot)), ((ma 1), .inl (cI, 40, .inl fK)), ((ma 9), .inl (cI, 40, .inl fNS)), ((ma 13), .inl (cI, 40, .inl fBs)), ((ma 15), .inl (cI, 40, .inl fEs))]) [0, 1, 2, 3, 4, 11, 5, 10, 6, 7, 8, 9] (by decide +kernel) rfl
            have hl := lv_sub hl [2, 3, 4, 5, 6, 7, 1, 0] rfl
            exact kk87 _ r52 _ _ _ rfl  hP hD hS hl
          · skip
            have g68_139 : v7.toInt = 0 := (i_eq rfl (by decide)).mp h_9
            refine lv_iconst (v := 1) hx hb d_DiscMakerModel_paths_71 (by decide) ?_
            refine lv_goto (tgt := 87) hx hb d_DiscMakerModel_paths_72 (by decide) ?_
            have hP := hP.sub (ws' := [((ma 16), .inl (cJ, 46080, .inr (.inl lF))), ((ma 2), .inl (cI, 40, .inl fP)), ((ma 8), .inl (cB, 1200, .inl fN)), ((ma 12), .inl (cB, 320, .inl fBa)), ((ma 14), .inl (cB, 120, .inl fEx)), ((ma 17), .inl (cI, 24, .inl fTb)), ((ma 18), .inl (cI, 80, .inl fSe)), (h0, .inr (11, MO ma sv_thrown sv_length sv_nodes sv_many sv_directories sv_runsFrom sv_runs sv_read sv_wrong sv_isNamed sv_goes sv_goesSize sv_goesAt sv_targetParts sv_isRoot)), ((ma 1), .inl (cI, 40, .inl fK)), ((ma 9), .inl (cI, 40, .inl fNS)), ((ma 13), .inl (cI, 40, .inl fBs)), ((ma 15), .inl (cI, 40, .inl fEs))]) [0, 1, 2, 3, 4, 5, 6, 7, 8, 9, 10, 11] rfl
            have hD := hD.sub (ws' := [((ma 16), .inl (cJ, 46080, .inr (.inl lF))), ((ma 2), .inl (cI, 40, .inl fP)), ((ma 8), .inl (cB, 1200, .inl fN)), ((ma 12), .inl (cB, 320, .inl fBa)), ((ma 14), .inl (cB, 120, .inl fEx)), ((ma 17), .inl (cI, 24, .inl fTb)), ((ma 18), .inl (cI, 80, .inl fSe)), (h0, .inr (11, MO ma sv_thrown sv_length sv_nodes sv_many sv_directories sv_runsFrom sv_runs sv_read sv_wrong sv_isNamed sv_goes sv_goesSize sv_goesAt sv_targetParts sv_isRoot)), ((ma 1), .inl (cI, 40, .inl fK)), ((ma 9), .inl (cI, 40, .inl fNS)), ((ma 13), .inl (cI, 40, .inl fBs)), ((ma 15), .inl (cI, 40, .inl fEs))]) [0, 1, 2, 3, 4, 5, 6, 7, 8, 9, 10, 11] (by decide +kernel) rfl
            have hl := lv_sub hl [2, 3, 4, 5, 6, 7, 1, 0] rfl
            exact kk87 _ 1 _ _ _ rfl  hP hD hS hl
      · skip
        intro kk53
        refine lv_iload hx hb d_DiscMakerModel_paths_43 (lv_at hl 0 rfl) ?_
        refine lv_if_ne (tgt := 52) hx hb d_DiscMakerModel_paths_45 (by decide) (fun h_9 => ?_) (fun h_9 => ?_)
        · skip
          have g45_152 : ¬ v7.toInt = 0 := fun h8 => h_9 ((i_eq rfl (by decide)).mpr h8)
          refine lv_iconst (v := 2) hx hb d_DiscMakerModel_paths_52 (by decide) ?_
          have hP := hP.sub (ws' := [(h0, .inr (11, MO ma sv_thrown sv_length sv_nodes sv_many sv_directories sv_runsFrom sv_runs sv_read sv_wrong sv_isNamed sv_goes sv_goesSize sv_goesAt sv_targetParts sv_isRoot)), ((ma 16), .inl (cJ, 46080, .inr (.inl lF))), ((ma 1), .inl (cI, 40, .inl fK)), ((ma 2), .inl (cI, 40, .inl fP)), ((ma 8), .inl (cB, 1200, .inl fN)), ((ma 9), .inl (cI, 40, .inl fNS)), ((ma 12), .inl (cB, 320, .inl fBa)), ((ma 13), .inl (cI, 40, .inl fBs)), ((ma 14), .inl (cB, 120, .inl fEx)), ((ma 15), .inl (cI, 40, .inl fEs)), ((ma 17), .inl (cI, 24, .inl fTb)), ((ma 18), .inl (cI, 80, .inl fSe))]) [0, 1, 2, 3, 4, 5, 6, 7, 8, 9, 10, 11] rfl
          have hD := hD.sub (ws' := [(h0, .inr (11, MO ma sv_thrown sv_length sv_nodes sv_many sv_directories sv_runsFrom sv_runs sv_read sv_wrong sv_isNamed sv_goes sv_goesSize sv_goesAt sv_targetParts sv_isRoot)), ((ma 16), .inl (cJ, 46080, .inr (.inl lF))), ((ma 1), .inl (cI, 40, .inl fK)), ((ma 2), .inl (cI, 40, .inl fP)), ((ma 8), .inl (cB, 1200, .inl fN)), ((ma 9), .inl (cI, 40, .inl fNS)), ((ma 12), .inl (cB, 320, .inl fBa)), ((ma 13), .inl (cI, 40, .inl fBs)), ((ma 14), .inl (cB, 120, .inl fEx)), ((ma 15), .inl (cI, 40, .inl fEs)), ((ma 17), .inl (cI, 24, .inl fTb)), ((ma 18), .inl (cI, 80, .inl fSe))]) [0, 1, 2, 3, 4, 5, 6, 7, 8, 9, 10, 11] (by decide +kernel) rfl
          have hl := lv_sub hl [1, 2, 3, 4, 5, 0] rfl
          exact kk53 _ 2 _ _ _ rfl ((by (try dsimp only); first | assumption | omega | trivial)) hP hD hS hl
        · skip
          have g45_152 : v7.toInt = 0 := (i_eq rfl (by decide)).mp h_9
          refine lv_iconst (v := 0) hx hb d_DiscMakerModel_paths_48 (by decide) ?_
          refine lv_goto (tgt := 53) hx hb d_DiscMakerModel_paths_49 (by decide) ?_
          have hP := hP.sub (ws' := [(h0, .inr (11, MO ma sv_thrown sv_length sv_nodes sv_many sv_directories sv_runsFrom sv_runs sv_read sv_wrong sv_isNamed sv_goes sv_goesSize sv_goesAt sv_targetParts sv_isRoot)), ((ma 16), .inl (cJ, 46080, .inr (.inl lF))), ((ma 1), .inl (cI, 40, .inl fK)), ((ma 2), .inl (cI, 40, .inl fP)), ((ma 8), .inl (cB, 1200, .inl fN)), ((ma 9), .inl (cI, 40, .inl fNS)), ((ma 12), .inl (cB, 320, .inl fBa)), ((ma 13), .inl (cI, 40, .inl fBs)), ((ma 14), .inl (cB, 120, .inl fEx)), ((ma 15), .inl (cI, 40, .inl fEs)), ((ma 17), .inl (cI, 24, .inl fTb)), ((ma 18), .inl (cI, 80, .inl fSe))]) [0, 1, 2, 3, 4, 5, 6, 7, 8, 9, 10, 11] rfl
          have hD := hD.sub (ws' := [(h0, .inr (11, MO ma sv_thrown sv_length sv_nodes sv_many sv_directories sv_runsFrom sv_runs sv_read sv_wrong sv_isNamed sv_goes sv_goesSize sv_goesAt sv_targetParts sv_isRoot)), ((ma 16), .inl (cJ, 46080, .inr (.inl lF))), ((ma 1), .inl (cI, 40, .inl fK)), ((ma 2), .inl (cI, 40, .inl fP)), ((ma 8), .inl (cB, 1200, .inl fN)), ((ma 9), .inl (cI, 40, .inl fNS)), ((ma 12), .inl (cB, 320, .inl fBa)), ((ma 13), .inl (cI, 40, .inl fBs)), ((ma 14), .inl (cB, 120, .inl fEx)), ((ma 15), .inl (cI, 40, .inl fEs)), ((ma 17), .inl (cI, 24, .inl fTb)), ((ma 18), .inl (cI, 80, .inl fSe))]) [0, 1, 2, 3, 4, 5, 6, 7, 8, 9, 10, 11] (by decide +kernel) rfl
          have hl := lv_sub hl [1, 2, 3, 4, 5, 0] rfl
          exact kk53 _ 0 _ _ _ rfl ((by (try dsimp only); first | assumption | omega | trivial)) hP hD hS hl
  · skip
    intro kk20
    have hP := hP.sub (ws' := [(h0, .inr (11, MO ma sv_thrown sv_length sv_nodes sv_many sv_directories sv_runsFrom sv_runs sv_read sv_wrong sv_isNamed sv_goes sv_goesSize sv_goesAt sv_targetParts sv_isRoot)), ((ma 16), .inl (cJ, 46080, .inr (.inl F))), ((ma 1), .inl (cI, 40, .inl fK)), ((ma 2), .inl (cI, 40, .inl fP)), ((ma 8), .inl (cB, 1200, .inl fN)), ((ma 9), .inl (cI, 40, .inl fNS)), ((ma 12), .inl (cB, 320, .inl fBa)), ((ma 13), .inl (cI, 40, .inl fBs)), ((ma 14), .inl (cB, 120, .inl fEx)), ((ma 15), .inl (cI, 40, .inl fEs)), ((ma 17), .inl (cI, 24, .inl fTb)), ((ma 18), .inl (cI, 80, .inl fSe))]) [0, 1, 2, 3, 4, 5, 6, 7, 8, 9, 10, 11] rfl
    have hD := hD.sub (ws' := [(h0, .inr (11, MO ma sv_thrown sv_length sv_nodes sv_many sv_directories sv_runsFrom sv_runs sv_read sv_wrong sv_isNamed sv_goes sv_goesSize sv_goesAt sv_targetParts sv_isRoot)), ((ma 16), .inl (cJ, 46080, .inr (.inl F))), ((ma 1), .inl (cI, 40, .inl fK)), ((ma 2), .inl (cI, 40, .inl fP)), ((ma 8), .inl (cB, 1200, .inl fN)), ((ma 9), .inl (cI, 40, .inl fNS)), ((ma 12), .inl (cB, 320, .inl fBa)), ((ma 13), .inl (cI, 40, .inl fBs)), ((ma 14), .inl (cB, 120, .inl fEx)), ((ma 15), .inl (cI, 40, .inl fEs)), ((ma 17), .inl (cI, 24, .inl fTb)), ((ma 18), .inl (cI, 80, .inl fSe))]) [0, 1, 2, 3, 4, 5, 6, 7, 8, 9, 10, 11] (by decide +kernel) rfl
    have hl := lv_sub hl [3, 4, 2, 1, 0] rfl
    exact kk20 _ v3 v4 0 F _ _ _ rfl ((by (try dsimp only); first | assumption | omega | trivial)) ((by (try dsimp only); first | assumption | omega | trivial)) ((by (try dsimp only); first | assumption | omega | trivial)) hP hD hS hl
