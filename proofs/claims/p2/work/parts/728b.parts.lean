theorem d_DiscMakerModel_components_0 : decode b_DiscMakerModel_components 0 = .ok (.aload_n 0, 1) := by decide +kernel
theorem d_DiscMakerModel_components_1 : decode b_DiscMakerModel_components 1 = .ok (.getfield 44, 3) := by decide +kernel
theorem d_DiscMakerModel_components_4 : decode b_DiscMakerModel_components 4 = .ok (.iload_n 1, 1) := by decide +kernel
theorem d_DiscMakerModel_components_5 : decode b_DiscMakerModel_components 5 = .ok (.iaload, 1) := by decide +kernel
theorem d_DiscMakerModel_components_6 : decode b_DiscMakerModel_components 6 = .ok (.istore_n 3, 1) := by decide +kernel
theorem d_DiscMakerModel_components_7 : decode b_DiscMakerModel_components 7 = .ok (.iconst 0, 1) := by decide +kernel
theorem d_DiscMakerModel_components_8 : decode b_DiscMakerModel_components 8 = .ok (.istore 4, 2) := by decide +kernel
theorem d_DiscMakerModel_components_10 : decode b_DiscMakerModel_components 10 = .ok (.aload_n 0, 1) := by decide +kernel
theorem d_DiscMakerModel_components_11 : decode b_DiscMakerModel_components 11 = .ok (.getfield 41, 3) := by decide +kernel
theorem d_DiscMakerModel_components_14 : decode b_DiscMakerModel_components 14 = .ok (.sipush 200, 3) := by decide +kernel
theorem d_DiscMakerModel_components_17 : decode b_DiscMakerModel_components 17 = .ok (.iload_n 1, 1) := by decide +kernel
theorem d_DiscMakerModel_components_18 : decode b_DiscMakerModel_components 18 = .ok (.imul, 1) := by decide +kernel
theorem d_DiscMakerModel_components_19 : decode b_DiscMakerModel_components 19 = .ok (.baload, 1) := by decide +kernel
theorem d_DiscMakerModel_components_20 : decode b_DiscMakerModel_components 20 = .ok (.bipush 47, 2) := by decide +kernel
theorem d_DiscMakerModel_components_22 : decode b_DiscMakerModel_components 22 = .ok (.if_icmp .ne 16, 3) := by decide +kernel
theorem d_DiscMakerModel_components_25 : decode b_DiscMakerModel_components 25 = .ok (.aload_n 0, 1) := by decide +kernel
theorem d_DiscMakerModel_components_26 : decode b_DiscMakerModel_components 26 = .ok (.iload_n 2, 1) := by decide +kernel
theorem d_DiscMakerModel_components_27 : decode b_DiscMakerModel_components 27 = .ok (.iload 4, 2) := by decide +kernel
theorem d_DiscMakerModel_components_29 : decode b_DiscMakerModel_components 29 = .ok (.bipush 8, 2) := by decide +kernel
theorem d_DiscMakerModel_components_31 : decode b_DiscMakerModel_components 31 = .ok (.iconst 0, 1) := by decide +kernel
theorem d_DiscMakerModel_components_32 : decode b_DiscMakerModel_components 32 = .ok (.invokevirtual 206, 3) := by decide +kernel
theorem d_DiscMakerModel_components_35 : decode b_DiscMakerModel_components 35 = .ok (.iinc 4 2, 3) := by decide +kernel
theorem d_DiscMakerModel_components_38 : decode b_DiscMakerModel_components 38 = .ok (.iconst 0, 1) := by decide +kernel
theorem d_DiscMakerModel_components_39 : decode b_DiscMakerModel_components 39 = .ok (.istore 5, 2) := by decide +kernel
theorem d_DiscMakerModel_components_41 : decode b_DiscMakerModel_components 41 = .ok (.iload 5, 2) := by decide +kernel
theorem d_DiscMakerModel_components_43 : decode b_DiscMakerModel_components 43 = .ok (.iload_n 3, 1) := by decide +kernel
theorem d_DiscMakerModel_components_44 : decode b_DiscMakerModel_components 44 = .ok (.if_icmp .ge 223, 3) := by decide +kernel
theorem d_DiscMakerModel_components_47 : decode b_DiscMakerModel_components 47 = .ok (.iload 5, 2) := by decide +kernel
theorem d_DiscMakerModel_components_49 : decode b_DiscMakerModel_components 49 = .ok (.istore 6, 2) := by decide +kernel
theorem d_DiscMakerModel_components_51 : decode b_DiscMakerModel_components 51 = .ok (.iload 6, 2) := by decide +kernel
theorem d_DiscMakerModel_components_53 : decode b_DiscMakerModel_components 53 = .ok (.iload_n 3, 1) := by decide +kernel
theorem d_DiscMakerModel_components_54 : decode b_DiscMakerModel_components 54 = .ok (.if_icmp .ge 27, 3) := by decide +kernel
theorem d_DiscMakerModel_components_57 : decode b_DiscMakerModel_components 57 = .ok (.aload_n 0, 1) := by decide +kernel
theorem d_DiscMakerModel_components_58 : decode b_DiscMakerModel_components 58 = .ok (.getfield 41, 3) := by decide +kernel
theorem d_DiscMakerModel_components_61 : decode b_DiscMakerModel_components 61 = .ok (.sipush 200, 3) := by decide +kernel
theorem d_DiscMakerModel_components_64 : decode b_DiscMakerModel_components 64 = .ok (.iload_n 1, 1) := by decide +kernel
theorem d_DiscMakerModel_components_65 : decode b_DiscMakerModel_components 65 = .ok (.imul, 1) := by decide +kernel
theorem d_DiscMakerModel_components_66 : decode b_DiscMakerModel_components 66 = .ok (.iload 6, 2) := by decide +kernel
theorem d_DiscMakerModel_components_68 : decode b_DiscMakerModel_components 68 = .ok (.iadd, 1) := by decide +kernel
theorem d_DiscMakerModel_components_69 : decode b_DiscMakerModel_components 69 = .ok (.baload, 1) := by decide +kernel
theorem d_DiscMakerModel_components_70 : decode b_DiscMakerModel_components 70 = .ok (.bipush 47, 2) := by decide +kernel
theorem d_DiscMakerModel_components_72 : decode b_DiscMakerModel_components 72 = .ok (.if_icmp .eq 9, 3) := by decide +kernel
theorem d_DiscMakerModel_components_75 : decode b_DiscMakerModel_components 75 = .ok (.iinc 6 1, 3) := by decide +kernel
theorem d_DiscMakerModel_components_78 : decode b_DiscMakerModel_components 78 = .ok (.goto (-27), 3) := by decide +kernel
theorem d_DiscMakerModel_components_81 : decode b_DiscMakerModel_components 81 = .ok (.iload 6, 2) := by decide +kernel
theorem d_DiscMakerModel_components_83 : decode b_DiscMakerModel_components 83 = .ok (.iload 5, 2) := by decide +kernel
theorem d_DiscMakerModel_components_85 : decode b_DiscMakerModel_components 85 = .ok (.isub, 1) := by decide +kernel
theorem d_DiscMakerModel_components_86 : decode b_DiscMakerModel_components 86 = .ok (.iconst 1, 1) := by decide +kernel
theorem d_DiscMakerModel_components_87 : decode b_DiscMakerModel_components 87 = .ok (.if_icmp .ne 25, 3) := by decide +kernel
theorem d_DiscMakerModel_components_90 : decode b_DiscMakerModel_components 90 = .ok (.aload_n 0, 1) := by decide +kernel
theorem d_DiscMakerModel_components_91 : decode b_DiscMakerModel_components 91 = .ok (.getfield 41, 3) := by decide +kernel
theorem d_DiscMakerModel_components_94 : decode b_DiscMakerModel_components 94 = .ok (.sipush 200, 3) := by decide +kernel
theorem d_DiscMakerModel_components_97 : decode b_DiscMakerModel_components 97 = .ok (.iload_n 1, 1) := by decide +kernel
theorem d_DiscMakerModel_components_98 : decode b_DiscMakerModel_components 98 = .ok (.imul, 1) := by decide +kernel
theorem d_DiscMakerModel_components_99 : decode b_DiscMakerModel_components 99 = .ok (.iload 5, 2) := by decide +kernel
theorem d_DiscMakerModel_components_101 : decode b_DiscMakerModel_components 101 = .ok (.iadd, 1) := by decide +kernel
theorem d_DiscMakerModel_components_102 : decode b_DiscMakerModel_components 102 = .ok (.baload, 1) := by decide +kernel
theorem d_DiscMakerModel_components_103 : decode b_DiscMakerModel_components 103 = .ok (.bipush 46, 2) := by decide +kernel
theorem d_DiscMakerModel_components_105 : decode b_DiscMakerModel_components 105 = .ok (.if_icmp .ne 7, 3) := by decide +kernel
theorem d_DiscMakerModel_components_108 : decode b_DiscMakerModel_components 108 = .ok (.iconst 2, 1) := by decide +kernel
theorem d_DiscMakerModel_components_109 : decode b_DiscMakerModel_components 109 = .ok (.goto 55, 3) := by decide +kernel
theorem d_DiscMakerModel_components_112 : decode b_DiscMakerModel_components 112 = .ok (.iload 6, 2) := by decide +kernel
theorem d_DiscMakerModel_components_114 : decode b_DiscMakerModel_components 114 = .ok (.iload 5, 2) := by decide +kernel
theorem d_DiscMakerModel_components_116 : decode b_DiscMakerModel_components 116 = .ok (.isub, 1) := by decide +kernel
theorem d_DiscMakerModel_components_117 : decode b_DiscMakerModel_components 117 = .ok (.iconst 2, 1) := by decide +kernel
theorem d_DiscMakerModel_components_118 : decode b_DiscMakerModel_components 118 = .ok (.if_icmp .ne 45, 3) := by decide +kernel
theorem d_DiscMakerModel_components_121 : decode b_DiscMakerModel_components 121 = .ok (.aload_n 0, 1) := by decide +kernel
theorem d_DiscMakerModel_components_122 : decode b_DiscMakerModel_components 122 = .ok (.getfield 41, 3) := by decide +kernel
theorem d_DiscMakerModel_components_125 : decode b_DiscMakerModel_components 125 = .ok (.sipush 200, 3) := by decide +kernel
theorem d_DiscMakerModel_components_128 : decode b_DiscMakerModel_components 128 = .ok (.iload_n 1, 1) := by decide +kernel
theorem d_DiscMakerModel_components_129 : decode b_DiscMakerModel_components 129 = .ok (.imul, 1) := by decide +kernel
theorem d_DiscMakerModel_components_130 : decode b_DiscMakerModel_components 130 = .ok (.iload 5, 2) := by decide +kernel
theorem d_DiscMakerModel_components_132 : decode b_DiscMakerModel_components 132 = .ok (.iadd, 1) := by decide +kernel
theorem d_DiscMakerModel_components_133 : decode b_DiscMakerModel_components 133 = .ok (.baload, 1) := by decide +kernel
theorem d_DiscMakerModel_components_134 : decode b_DiscMakerModel_components 134 = .ok (.bipush 46, 2) := by decide +kernel
theorem d_DiscMakerModel_components_136 : decode b_DiscMakerModel_components 136 = .ok (.if_icmp .ne 27, 3) := by decide +kernel
theorem d_DiscMakerModel_components_139 : decode b_DiscMakerModel_components 139 = .ok (.aload_n 0, 1) := by decide +kernel
theorem d_DiscMakerModel_components_140 : decode b_DiscMakerModel_components 140 = .ok (.getfield 41, 3) := by decide +kernel
theorem d_DiscMakerModel_components_143 : decode b_DiscMakerModel_components 143 = .ok (.sipush 200, 3) := by decide +kernel
theorem d_DiscMakerModel_components_146 : decode b_DiscMakerModel_components 146 = .ok (.iload_n 1, 1) := by decide +kernel
theorem d_DiscMakerModel_components_147 : decode b_DiscMakerModel_components 147 = .ok (.imul, 1) := by decide +kernel
theorem d_DiscMakerModel_components_148 : decode b_DiscMakerModel_components 148 = .ok (.iload 5, 2) := by decide +kernel
theorem d_DiscMakerModel_components_150 : decode b_DiscMakerModel_components 150 = .ok (.iadd, 1) := by decide +kernel
theorem d_DiscMakerModel_components_151 : decode b_DiscMakerModel_components 151 = .ok (.iconst 1, 1) := by decide +kernel
theorem d_DiscMakerModel_components_152 : decode b_DiscMakerModel_components 152 = .ok (.iadd, 1) := by decide +kernel
theorem d_DiscMakerModel_components_153 : decode b_DiscMakerModel_components 153 = .ok (.baload, 1) := by decide +kernel
theorem d_DiscMakerModel_components_154 : decode b_DiscMakerModel_components 154 = .ok (.bipush 46, 2) := by decide +kernel
theorem d_DiscMakerModel_components_156 : decode b_DiscMakerModel_components 156 = .ok (.if_icmp .ne 7, 3) := by decide +kernel
theorem d_DiscMakerModel_components_159 : decode b_DiscMakerModel_components 159 = .ok (.iconst 4, 1) := by decide +kernel
theorem d_DiscMakerModel_components_160 : decode b_DiscMakerModel_components 160 = .ok (.goto 4, 3) := by decide +kernel
theorem d_DiscMakerModel_components_163 : decode b_DiscMakerModel_components 163 = .ok (.iconst 0, 1) := by decide +kernel
theorem d_DiscMakerModel_components_164 : decode b_DiscMakerModel_components 164 = .ok (.istore 7, 2) := by decide +kernel
theorem d_DiscMakerModel_components_166 : decode b_DiscMakerModel_components 166 = .ok (.iload 7, 2) := by decide +kernel
theorem d_DiscMakerModel_components_168 : decode b_DiscMakerModel_components 168 = .ok (.ifCond .ne 11, 3) := by decide +kernel
theorem d_DiscMakerModel_components_171 : decode b_DiscMakerModel_components 171 = .ok (.iload 6, 2) := by decide +kernel
theorem d_DiscMakerModel_components_173 : decode b_DiscMakerModel_components 173 = .ok (.iload 5, 2) := by decide +kernel
theorem d_DiscMakerModel_components_175 : decode b_DiscMakerModel_components 175 = .ok (.isub, 1) := by decide +kernel
theorem d_DiscMakerModel_components_176 : decode b_DiscMakerModel_components 176 = .ok (.goto 4, 3) := by decide +kernel
theorem d_DiscMakerModel_components_179 : decode b_DiscMakerModel_components 179 = .ok (.iconst 0, 1) := by decide +kernel
theorem d_DiscMakerModel_components_180 : decode b_DiscMakerModel_components 180 = .ok (.istore 8, 2) := by decide +kernel
theorem d_DiscMakerModel_components_182 : decode b_DiscMakerModel_components 182 = .ok (.iload 6, 2) := by decide +kernel
theorem d_DiscMakerModel_components_184 : decode b_DiscMakerModel_components 184 = .ok (.iload 5, 2) := by decide +kernel
theorem d_DiscMakerModel_components_186 : decode b_DiscMakerModel_components 186 = .ok (.if_icmp .le 72, 3) := by decide +kernel
theorem d_DiscMakerModel_components_189 : decode b_DiscMakerModel_components 189 = .ok (.aload_n 0, 1) := by decide +kernel
theorem d_DiscMakerModel_components_190 : decode b_DiscMakerModel_components 190 = .ok (.iload_n 2, 1) := by decide +kernel
theorem d_DiscMakerModel_components_191 : decode b_DiscMakerModel_components 191 = .ok (.iload 4, 2) := by decide +kernel
theorem d_DiscMakerModel_components_193 : decode b_DiscMakerModel_components 193 = .ok (.iload 7, 2) := by decide +kernel
theorem d_DiscMakerModel_components_195 : decode b_DiscMakerModel_components 195 = .ok (.iload 8, 2) := by decide +kernel
theorem d_DiscMakerModel_components_197 : decode b_DiscMakerModel_components 197 = .ok (.invokevirtual 206, 3) := by decide +kernel
theorem d_DiscMakerModel_components_200 : decode b_DiscMakerModel_components 200 = .ok (.iconst 0, 1) := by decide +kernel
theorem d_DiscMakerModel_components_201 : decode b_DiscMakerModel_components 201 = .ok (.istore 9, 2) := by decide +kernel
theorem d_DiscMakerModel_components_203 : decode b_DiscMakerModel_components 203 = .ok (.iload 9, 2) := by decide +kernel
theorem d_DiscMakerModel_components_205 : decode b_DiscMakerModel_components 205 = .ok (.iload 8, 2) := by decide +kernel
theorem d_DiscMakerModel_components_207 : decode b_DiscMakerModel_components 207 = .ok (.if_icmp .ge 42, 3) := by decide +kernel
theorem d_DiscMakerModel_components_210 : decode b_DiscMakerModel_components 210 = .ok (.iload_n 2, 1) := by decide +kernel
theorem d_DiscMakerModel_components_211 : decode b_DiscMakerModel_components 211 = .ok (.ifCond .lt 38, 3) := by decide +kernel
theorem d_DiscMakerModel_components_214 : decode b_DiscMakerModel_components 214 = .ok (.aload_n 0, 1) := by decide +kernel
theorem d_DiscMakerModel_components_215 : decode b_DiscMakerModel_components 215 = .ok (.iload_n 2, 1) := by decide +kernel
theorem d_DiscMakerModel_components_216 : decode b_DiscMakerModel_components 216 = .ok (.iload 4, 2) := by decide +kernel
theorem d_DiscMakerModel_components_218 : decode b_DiscMakerModel_components 218 = .ok (.iadd, 1) := by decide +kernel
theorem d_DiscMakerModel_components_219 : decode b_DiscMakerModel_components 219 = .ok (.iconst 2, 1) := by decide +kernel
theorem d_DiscMakerModel_components_220 : decode b_DiscMakerModel_components 220 = .ok (.iadd, 1) := by decide +kernel
theorem d_DiscMakerModel_components_221 : decode b_DiscMakerModel_components 221 = .ok (.iload 9, 2) := by decide +kernel
theorem d_DiscMakerModel_components_223 : decode b_DiscMakerModel_components 223 = .ok (.iadd, 1) := by decide +kernel
theorem d_DiscMakerModel_components_224 : decode b_DiscMakerModel_components 224 = .ok (.aload_n 0, 1) := by decide +kernel
theorem d_DiscMakerModel_components_225 : decode b_DiscMakerModel_components 225 = .ok (.getfield 41, 3) := by decide +kernel
theorem d_DiscMakerModel_components_228 : decode b_DiscMakerModel_components 228 = .ok (.sipush 200, 3) := by decide +kernel
theorem d_DiscMakerModel_components_231 : decode b_DiscMakerModel_components 231 = .ok (.iload_n 1, 1) := by decide +kernel
theorem d_DiscMakerModel_components_232 : decode b_DiscMakerModel_components 232 = .ok (.imul, 1) := by decide +kernel
theorem d_DiscMakerModel_components_233 : decode b_DiscMakerModel_components 233 = .ok (.iload 5, 2) := by decide +kernel
theorem d_DiscMakerModel_components_235 : decode b_DiscMakerModel_components 235 = .ok (.iadd, 1) := by decide +kernel
theorem d_DiscMakerModel_components_236 : decode b_DiscMakerModel_components 236 = .ok (.iload 9, 2) := by decide +kernel
theorem d_DiscMakerModel_components_238 : decode b_DiscMakerModel_components 238 = .ok (.iadd, 1) := by decide +kernel
theorem d_DiscMakerModel_components_239 : decode b_DiscMakerModel_components 239 = .ok (.baload, 1) := by decide +kernel
theorem d_DiscMakerModel_components_240 : decode b_DiscMakerModel_components 240 = .ok (.invokevirtual 192, 3) := by decide +kernel
theorem d_DiscMakerModel_components_243 : decode b_DiscMakerModel_components 243 = .ok (.iinc 9 1, 3) := by decide +kernel
theorem d_DiscMakerModel_components_246 : decode b_DiscMakerModel_components 246 = .ok (.goto (-43), 3) := by decide +kernel
theorem d_DiscMakerModel_components_249 : decode b_DiscMakerModel_components 249 = .ok (.iload 4, 2) := by decide +kernel
theorem d_DiscMakerModel_components_251 : decode b_DiscMakerModel_components 251 = .ok (.iconst 2, 1) := by decide +kernel
theorem d_DiscMakerModel_components_252 : decode b_DiscMakerModel_components 252 = .ok (.iload 8, 2) := by decide +kernel
theorem d_DiscMakerModel_components_254 : decode b_DiscMakerModel_components 254 = .ok (.iadd, 1) := by decide +kernel
theorem d_DiscMakerModel_components_255 : decode b_DiscMakerModel_components 255 = .ok (.iadd, 1) := by decide +kernel
theorem d_DiscMakerModel_components_256 : decode b_DiscMakerModel_components 256 = .ok (.istore 4, 2) := by decide +kernel
theorem d_DiscMakerModel_components_258 : decode b_DiscMakerModel_components 258 = .ok (.iload 6, 2) := by decide +kernel
theorem d_DiscMakerModel_components_260 : decode b_DiscMakerModel_components 260 = .ok (.iconst 1, 1) := by decide +kernel
theorem d_DiscMakerModel_components_261 : decode b_DiscMakerModel_components 261 = .ok (.iadd, 1) := by decide +kernel
theorem d_DiscMakerModel_components_262 : decode b_DiscMakerModel_components 262 = .ok (.istore 5, 2) := by decide +kernel
theorem d_DiscMakerModel_components_264 : decode b_DiscMakerModel_components 264 = .ok (.goto (-223), 3) := by decide +kernel
theorem d_DiscMakerModel_components_267 : decode b_DiscMakerModel_components 267 = .ok (.iload 4, 2) := by decide +kernel
theorem d_DiscMakerModel_components_269 : decode b_DiscMakerModel_components 269 = .ok (.ireturn, 1) := by decide +kernel
set_option maxHeartbeats 4000000 in
set_option maxRecDepth 100000 in
theorem m_components (l : Launch) (D : va_G) (cB cI cJ cZ cN cF : ClassId) (sz : Nat) (h0 : Nat) (ma : Nat → Nat) (sv_thrown sv_length sv_nodes sv_many sv_directories sv_runsFrom sv_runs sv_read sv_wrong sv_isNamed sv_goes sv_goesSize sv_goesAt sv_targetParts sv_isRoot : Int32) (F : Nat → Int64) (fT : Nat → Int32) (fTS : Nat → Int32) (x : Int32) (y : Int32) (hx0 : 0 ≤ x.toInt ∧ x.toInt < 40) (hTS : Rg 0 200 40 fTS) (hy0 : y.toInt < 0 ∨ y.toInt + 600 ≤ 368640) : Met l y_DiscMakerModel_components w_DiscMakerModel_components ({ frames := 2, cells := 0, slots := 0, locals := 47 }) (va_Pc [.ref h0, .int x, .int y] (fun U => U.heap.size = sz ∧ va_P D CL [(h0, .inr (11, MO ma sv_thrown sv_length sv_nodes sv_many sv_directories sv_runsFrom sv_runs sv_read sv_wrong sv_isNamed sv_goes sv_goesSize sv_goesAt sv_targetParts sv_isRoot)), ((ma 16), .inl (cJ, 46080, .inr (.inl F))), ((ma 10), .inl (cB, 8000, .inl fT)), ((ma 11), .inl (cI, 40, .inl fTS))] U.heap ∧ va_K D CL (TY cB cI cJ cZ cN cF) U ∧ NN U ∧ va_D (fun _ => True) [(h0, .inr (11, MO ma sv_thrown sv_length sv_nodes sv_many sv_directories sv_runsFrom sv_runs sv_read sv_wrong sv_isNamed sv_goes sv_goesSize sv_goesAt sv_targetParts sv_isRoot)), ((ma 16), .inl (cJ, 46080, .inr (.inl F))), ((ma 10), .inl (cB, 8000, .inl fT)), ((ma 11), .inl (cI, 40, .inl fTS))])) (va_Qi (fun (r : Int32) (u : (Nat → Int64)) => match u with | G => (r.toInt = cmF (tgF fT x.toNatClampNeg) (fTS x.toNatClampNeg).toInt.toNat) ∧ (0 ≤ r.toInt ∧ r.toInt ≤ 303)) (fun (u : (Nat → Int64)) (t : State) => match u with | G => va_P D CL [(h0, .inr (11, MO ma sv_thrown sv_length sv_nodes sv_many sv_directories sv_runsFrom sv_runs sv_read sv_wrong sv_isNamed sv_goes sv_goesSize sv_goesAt sv_targetParts sv_isRoot)), ((ma 16), .inl (cJ, 46080, .inr (.inl G))), ((ma 10), .inl (cB, 8000, .inl fT)), ((ma 11), .inl (cI, 40, .inl fTS))] t.heap ∧ va_D (va_A [(h0, .inr (11, MO ma sv_thrown sv_length sv_nodes sv_many sv_directories sv_runsFrom sv_runs sv_read sv_wrong sv_isNamed sv_goes sv_goesSize sv_goesAt sv_targetParts sv_isRoot)), ((ma 16), .inl (cJ, 46080, .inr (.inl F))), ((ma 10), .inl (cB, 8000, .inl fT)), ((ma 11), .inl (cI, 40, .inl fTS))] sz) [(h0, .inr (11, MO ma sv_thrown sv_length sv_nodes sv_many sv_directories sv_runsFrom sv_runs sv_read sv_wrong sv_isNamed sv_goes sv_goesSize sv_goesAt sv_targetParts sv_isRoot)), ((ma 16), .inl (cJ, 46080, .inr (.inl G))), ((ma 10), .inl (cB, 8000, .inl fT)), ((ma 11), .inl (cI, 40, .inl fTS))]) (va_A [(h0, .inr (11, MO ma sv_thrown sv_length sv_nodes sv_many sv_directories sv_runsFrom sv_runs sv_read sv_wrong sv_isNamed sv_goes sv_goesSize sv_goesAt sv_targetParts sv_isRoot)), ((ma 16), .inl (cJ, 46080, .inr (.inl F))), ((ma 10), .inl (cB, 8000, .inl fT)), ((ma 11), .inl (cI, 40, .inl fTS))] sz)) 0 0 (va_A [(h0, .inr (11, MO ma sv_thrown sv_length sv_nodes sv_many sv_directories sv_runsFrom sv_runs sv_read sv_wrong sv_isNamed sv_goes sv_goesSize sv_goesAt sv_targetParts sv_isRoot)), ((ma 16), .inl (cJ, 46080, .inr (.inl F))), ((ma 10), .inl (cB, 8000, .inl fT)), ((ma 11), .inl (cI, 40, .inl fTS))] sz) := by
  refine Met.ofW (cc := b_DiscMakerModel_components) (maxL := 10) (ret := some .int) (by decide) rfl ?_
  intro p e s m args below meth c s₁ B hml hv
  obtain ⟨rfl, hsz, hP, hK, hN, hD0⟩ := hv
  have hx := B.exec
  have hb := B.bytes
  have hr := B.returns
  have hts := atoms_spec (ws := w_DiscMakerModel_components) B.pre
  have ht9 := fun (w : Cond) (h : w ∈ lw_g) => hts w (List.mem_cons_of_mem _ h)
  have hown : s.vm.findClass "DiscMakerModel" = some m.cls := findClass_of_methodNamed B.named
  have hlocks := B.notSynchronized
  subst hsz
  have hD := hD0.self (sz := s.heap.size)
  generalize hAe : va_A [(h0, .inr (11, MO ma sv_thrown sv_length sv_nodes sv_many sv_directories sv_runsFrom sv_runs sv_read sv_wrong sv_isNamed sv_goes sv_goesSize sv_goesAt sv_targetParts sv_isRoot)), ((ma 16), .inl (cJ, 46080, .inr (.inl F))), ((ma 10), .inl (cB, 8000, .inl fT)), ((ma 11), .inl (cI, 40, .inl fTS))] s.heap.size = A at hD ⊢
  have hA : ∀ q : Nat, s.heap.size ≤ q → A q := fun q h => by rw [← hAe]; exact Or.inr h
  have hS : va_S A s.heap s.heap [] := va_S.rf
  have hP : va_P D CL [(h0, .inr (11, MO ma sv_thrown sv_length sv_nodes sv_many sv_directories sv_runsFrom sv_runs sv_read sv_wrong sv_isNamed sv_goes sv_goesSize sv_goesAt sv_targetParts sv_isRoot)), ((ma 16), .inl (cJ, 46080, .inr (.inl F))), ((ma 10), .inl (cB, 8000, .inl fT)), ((ma 11), .inl (cI, 40, .inl fTS))] s.heap := hP
  have hl := lv_entry [.ref h0, .int x, .int y] (n := 10) (Nat.le_of_ble_eq_true rfl)
  rw [lg_entry_eq]
  generalize (lg_sl [.ref h0, .int x, .int y] ++ List.replicate (10 - (lg_sl [.ref h0, .int x, .int y]).length) Slot.unset).toArray = ls at hl ⊢
  have hl : lv_has ls 10 [(0, .ref h0), (1, .int x), (2, .int y)] := hl
  have L_m1 : ((-1) : Int32).toInt = (-1) := by decide
  have L_0 : (0 : Int32).toInt = 0 := by decide
  have L_1 : (1 : Int32).toInt = 1 := by decide
  have L_2 : (2 : Int32).toInt = 2 := by decide
  have L_4 : (4 : Int32).toInt = 4 := by decide
  have L_8 : (8 : Int32).toInt = 8 := by decide
  have L_46 : (46 : Int32).toInt = 46 := by decide
  have L_47 : (47 : Int32).toInt = 47 := by decide
  have L_200 : (200 : Int32).toInt = 200 := by decide
  have hxc := i_cl (a := x) (by omega)
  have hts := hTS x.toNatClampNeg (by omega)
  have hcf := cmF_le (tgF fT x.toNatClampNeg) (fTS x.toNatClampNeg).toInt.toNat (by omega)
  refine lv_aload_n hx hb d_DiscMakerModel_components_0 rfl (lv_at hl 0 rfl) ?_
  refine va_get (D := D) (ci := 11) (v := .ref (ma 11)) (C := "DiscMakerModel") (T := F_DiscMakerModel) (N := 48) hx hb ht9 in_DiscMakerModel hown hK hP 0 rfl rfl 14 (by decide) (ht9 _ k1445) (fun _ h9 => h9) rfl d_DiscMakerModel_components_1 ?_
  refine lv_iload_n hx hb d_DiscMakerModel_components_4 rfl (lv_at hl 1 rfl) ?_
  refine va_iald hx hb hK hP 3 1 rfl rfl (vp_in_iff.mpr ⟨by omega, by omega⟩) d_DiscMakerModel_components_5 ?_
  refine lv_topi (fun v1 e_v1 => ?_)
  have t_v1 : 0 ≤ v1.toInt ∧ v1.toInt ≤ 200 := by
    rw [e_v1]; exact hTS _ (by have := i_cl (a := x) (by omega); omega)
  have qnv1 : v1.toInt = (fTS x.toNatClampNeg).toInt := by rw [e_v1]
  refine lv_istore_n hx hb d_DiscMakerModel_components_6 rfl hl (by decide) rfl (fun ls hl => ?_)
  have hl : lv_has ls 10 [(3, .int v1), (0, .ref h0), (1, .int x), (2, .int y)] := hl
  refine lv_iconst (v := 0) hx hb d_DiscMakerModel_components_7 (by decide) ?_
  refine lv_istore hx hb d_DiscMakerModel_components_8 hl (by decide) rfl (fun ls hl => ?_)
  have hl : lv_has ls 10 [(4, .int 0), (3, .int v1), (0, .ref h0), (1, .int x), (2, .int y)] := hl
  refine lv_aload_n hx hb d_DiscMakerModel_components_10 rfl (lv_at hl 2 rfl) ?_
  refine va_get (D := D) (ci := 11) (v := .ref (ma 10)) (C := "DiscMakerModel") (T := F_DiscMakerModel) (N := 48) hx hb ht9 in_DiscMakerModel hown hK hP 0 rfl rfl 13 (by decide) (ht9 _ k1444) (fun _ h9 => h9) rfl d_DiscMakerModel_components_11 ?_
  refine lv_sipush (v := 200) hx hb d_DiscMakerModel_components_14 (by decide) ?_
  refine lv_iload_n hx hb d_DiscMakerModel_components_17 rfl (lv_at hl 3 rfl) ?_
  refine lv_imul hx hb d_DiscMakerModel_components_18 ?_
  refine lv_topi (fun v2 e_v2 => ?_)
  have t_v2 : v2.toInt = 200 * x.toInt := by rw [e_v2]; exact i_mul (by decide) rfl (by omega) (by omega)
  refine va_bald hx hb hK hP 2 0 rfl rfl (vp_in_iff.mpr ⟨by omega, by omega⟩) d_DiscMakerModel_components_19 ?_
  refine lv_topi (fun v3 e_v3 => ?_)
  have c_v3 := i_cl (a := v2) (by omega)
  have e2_v3 : v3 = fT (200 * x.toNatClampNeg + 0) := by rw [e_v3, show v2.toNatClampNeg = 200 * x.toNatClampNeg + 0 by omega]
  have qtv3 : (tgF fT x.toNatClampNeg (0)).toInt = v3.toInt := by unfold tgF; rw [e2_v3]
  refine zz_lab (P := fun (lk : Nat) (H : Heap) (locs : List Loc) (ls : Array Slot) (stk : List Value) => ∃ (aj : Int32) (jF : Nat → Int64) , lk = 0 ∧ stk = [] ∧ (0 ≤ aj.toInt ∧ aj.toInt ≤ 2) ∧ (cmL (tgF fT x.toNatClampNeg) (fTS x.toNatClampNeg).toInt.toNat 0 aj.toNatClampNeg = cmF (tgF fT x.toNatClampNeg) (fTS x.toNatClampNeg).toInt.toNat) ∧ va_P D CL [(h0, .inr (11, MO ma sv_thrown sv_length sv_nodes sv_many sv_directories sv_runsFrom sv_runs sv_read sv_wrong sv_isNamed sv_goes sv_goesSize sv_goesAt sv_targetParts sv_isRoot)), ((ma 16), .inl (cJ, 46080, .inr (.inl jF))), ((ma 10), .inl (cB, 8000, .inl fT)), ((ma 11), .inl (cI, 40, .inl fTS))] H ∧ va_D A [(h0, .inr (11, MO ma sv_thrown sv_length sv_nodes sv_many sv_directories sv_runsFrom sv_runs sv_read sv_wrong sv_isNamed sv_goes sv_goesSize sv_goesAt sv_targetParts sv_isRoot)), ((ma 16), .inl (cJ, 46080, .inr (.inl jF))), ((ma 10), .inl (cB, 8000, .inl fT)), ((ma 11), .inl (cI, 40, .inl fTS))] ∧ va_S A s.heap H locs ∧ lv_has ls 10 [(0, .ref h0), (1, .int x), (2, .int y), (3, .int v1), (4, .int aj)]) 38 ?_ ?_
  · skip
    intro lk ih38 H locs ls stk hI
    obtain ⟨aj, jF, hm38, rfl, f0, fj, hP, hD, hS, hl⟩ := hI
    refine lv_iconst (v := 0) hx hb d_DiscMakerModel_components_38 (by decide) ?_
    refine lv_istore hx hb d_DiscMakerModel_components_39 hl (by decide) rfl (fun ls hl => ?_)
    have hl : lv_has ls 10 [(5, .int 0), (0, .ref h0), (1, .int x), (2, .int y), (3, .int v1), (4, .int aj)] := hl
    refine zz_lab (P := fun (lk : Nat) (H : Heap) (locs : List Loc) (ls : Array Slot) (stk : List Value) => ∃ (al : Int32) (lp : Int32) (lF : Nat → Int64) , lk = (201 - lp.toInt).toNat ∧ stk = [] ∧ (0 ≤ lp.toInt ∧ lp.toInt ≤ (fTS x.toNatClampNeg).toInt + 1) ∧ (0 ≤ al.toInt ∧ al.toInt ≤ 303) ∧ (cmL (tgF fT x.toNatClampNeg) (fTS x.toNatClampNeg).toInt.toNat lp.toNatClampNeg al.toNatClampNeg = cmF (tgF fT x.toNatClampNeg) (fTS x.toNatClampNeg).toInt.toNat) ∧ va_P D CL [(h0, .inr (11, MO ma sv_thrown sv_length sv_nodes sv_many sv_directories sv_runsFrom sv_runs sv_read sv_wrong sv_isNamed sv_goes sv_goesSize sv_goesAt sv_targetParts sv_isRoot)), ((ma 16), .inl (cJ, 46080, .inr (.inl lF))), ((ma 10), .inl (cB, 8000, .inl fT)), ((ma 11), .inl (cI, 40, .inl fTS))] H ∧ va_D A [(h0, .inr (11, MO ma sv_thrown sv_length sv_nodes sv_many sv_directories sv_runsFrom sv_runs sv_read sv_wrong sv_isNamed sv_goes sv_goesSize sv_goesAt sv_targetParts sv_isRoot)), ((ma 16), .inl (cJ, 46080, .inr (.inl lF))), ((ma 10), .inl (cB, 8000, .inl fT)), ((ma 11), .inl (cI, 40, .inl fTS))] ∧ va_S A s.heap H locs ∧ lv_has ls 10 [(0, .ref h0), (1, .int x), (2, .int y), (3, .int v1), (4, .int al), (5, .int lp)]) 41 ?_ ?_
    · skip
      intro lk ih41 H locs ls stk hI
      obtain ⟨al, lp, lF, hm41, rfl, f1, f3, f2, hP, hD, hS, hl⟩ := hI
      have hlpc := i_cl (a := lp) (by omega)
      have halc := i_cl (a := al) (by omega)
      refine lv_iload hx hb d_DiscMakerModel_components_41 (lv_at hl 5 rfl) ?_
      refine lv_iload_n hx hb d_DiscMakerModel_components_43 rfl (lv_at hl 3 rfl) ?_
      refine lv_icmp_ge (tgt := 267) hx hb d_DiscMakerModel_components_44 (by decide) (fun h_9 => ?_) (fun h_9 => ?_)
      · skip
        have g44_18 : v1.toInt ≤ lp.toInt := (i_le rfl rfl).mp h_9
        refine lv_iload hx hb d_DiscMakerModel_components_267 (lv_at hl 4 rfl) ?_
        have hP9 := hP.sub (ws' := [(h0, .inr (11, MO ma sv_thrown sv_length sv_nodes sv_many sv_directories sv_runsFrom sv_runs sv_read sv_wrong sv_isNamed sv_goes sv_goesSize sv_goesAt sv_targetParts sv_isRoot)), ((ma 16), .inl (cJ, 46080, .inr (.inl lF))), ((ma 10), .inl (cB, 8000, .inl fT)), ((ma 11), .inl (cI, 40, .inl fTS))]) [0, 1, 2, 3] rfl
        have hD9 := hD.sub (ws' := [(h0, .inr (11, MO ma sv_thrown sv_length sv_nodes sv_many sv_directories sv_runsFrom sv_runs sv_read sv_wrong sv_isNamed sv_goes sv_goesSize sv_goesAt sv_targetParts sv_isRoot)), ((ma 16), .inl (cJ, 46080, .inr (.inl lF))), ((ma 10), .inl (cB, 8000, .inl fT)), ((ma 11), .inl (cI, 40, .inl fTS))]) [0, 1, 2, 3] (by decide) rfl
        exact W.iret (v := al) hx hb hr (fun t ht hW => ⟨⟨al, lF, rfl, ⟨(by (try dsimp only); rw [← f2, cmL_end (by omega)]; omega), (by (try dsimp only); first | assumption | omega | trivial)⟩, by rw [ht]; exact hP9, hD9⟩, hS.F ht⟩) hS.2.2 d_DiscMakerModel_components_269
      · skip
        have g44_18 : ¬ v1.toInt ≤ lp.toInt := fun h8 => h_9 ((i_le rfl rfl).mpr h8)
        refine lv_iload hx hb d_DiscMakerModel_components_47 (lv_at hl 5 rfl) ?_
        refine lv_istore hx hb d_DiscMakerModel_components_49 hl (by decide) rfl (fun ls hl => ?_)
        have hl : lv_has ls 10 [(6, .int lp), (0, .ref h0), (1, .int x), (2, .int y), (3, .int v1), (4, .int al), (5, .int lp)] := hl
        refine zz_lab (P := fun (lk : Nat) (H : Heap) (locs : List Loc) (ls : Array Slot) (stk : List Value) => ∃ (lq : Int32) , lk = (201 - lq.toInt).toNat ∧ stk = [] ∧ (lp.toInt ≤ lq.toInt ∧ lq.toInt ≤ (fTS x.toNatClampNeg).toInt) ∧ (nxS (tgF fT x.toNatClampNeg) (fTS x.toNatClampNeg).toInt.toNat lq.toNatClampNeg = nxS (tgF fT x.toNatClampNeg) (fTS x.toNatClampNeg).toInt.toNat lp.toNatClampNeg) ∧ va_P D CL [(h0, .inr (11, MO ma sv_thrown sv_length sv_nodes sv_many sv_directories sv_runsFrom sv_runs sv_read sv_wrong sv_isNamed sv_goes sv_goesSize sv_goesAt sv_targetParts sv_isRoot)), ((ma 16), .inl (cJ, 46080, .inr (.inl lF))), ((ma 10), .inl (cB, 8000, .inl fT)), ((ma 11), .inl (cI, 40, .inl fTS))] H ∧ va_D A [(h0, .inr (11, MO ma sv_thrown sv_length sv_nodes sv_many sv_directories sv_runsFrom sv_runs sv_read sv_wrong sv_isNamed sv_goes sv_goesSize sv_goesAt sv_targetParts sv_isRoot)), ((ma 16), .inl (cJ, 46080, .inr (.inl lF))), ((ma 10), .inl (cB, 8000, .inl fT)), ((ma 11), .inl (cI, 40, .inl fTS))] ∧ va_S A s.heap H locs ∧ lv_has ls 10 [(0, .ref h0), (1, .int x), (2, .int y), (3, .int v1), (4, .int al), (5, .int lp), (6, .int lq)]) 51 ?_ ?_
        · skip
          intro lk ih51 H locs ls stk hI
          obtain ⟨lq, hm51, rfl, g1, g2, hP, hD, hS, hl⟩ := hI
          have hqc := i_cl (a := lq) (by omega)
          refine lv_iload hx hb d_DiscMakerModel_components_51 (lv_at hl 6 rfl) ?_
          refine zz_lab (P := fun (lk : Nat) (H : Heap) (locs : List Loc) (ls : Array Slot) (stk : List Value) => lk = 0 ∧ stk = [] ∧ (nxS (tgF fT x.toNatClampNeg) (fTS x.toNatClampNeg).toInt.toNat lp.toNatClampNeg = lq.toNatClampNeg) ∧ va_P D CL [(h0, .inr (11, MO ma sv_thrown sv_length sv_nodes sv_many sv_directories sv_runsFrom sv_runs sv_read sv_wrong sv_isNamed sv_goes sv_goesSize sv_goesAt sv_targetParts sv_isRoot)), ((ma 16), .inl (cJ, 46080, .inr (.inl lF))), ((ma 10), .inl (cB, 8000, .inl fT)), ((ma 11), .inl (cI, 40, .inl fTS))] H ∧ va_D A [(h0, .inr (11, MO ma sv_thrown sv_length sv_nodes sv_many sv_directories sv_runsFrom sv_runs sv_read sv_wrong sv_isNamed sv_goes sv_goesSize sv_goesAt sv_targetParts sv_isRoot)), ((ma 16), .inl (cJ, 46080, .inr (.inl lF))), ((ma 10), .inl (cB, 8000, .inl fT)), ((ma 11), .inl (cI, 40, .inl fTS))] ∧ va_S A s.heap H locs ∧ lv_has ls 10 [(0, .ref h0), (1, .int x), (2, .int y), (3, .int v1), (4, .int al), (5, .int lp), (6, .int lq)]) 81 ?_ ?_
          · skip
            intro lk ih81 H locs ls stk hI
            obtain ⟨hm81, rfl, h81, hP, hD, hS, hl⟩ := hI
            refine lv_iload hx hb d_DiscMakerModel_components_81 (lv_at hl 6 rfl) ?_
            refine lv_iload hx hb d_DiscMakerModel_components_83 (lv_at hl 5 rfl) ?_
            refine lv_isub hx hb d_DiscMakerModel_components_85 ?_
            refine lv_topi (fun v4 e_v4 => ?_)
            have t_v4 : v4.toInt = lq.toInt - lp.toInt := by rw [e_v4]; exact i_sub rfl rfl (by omega) (by omega)
            refine lv_iconst (v := 1) hx hb d_DiscMakerModel_components_86 (by decide) ?_
            refine lv_icmp_ne (tgt := 112) hx hb d_DiscMakerModel_components_87 (by decide) (fun h_9 => ?_) (fun h_9 => ?_)
            · skip
              have g87_28 : ¬ v4.toInt = 1 := fun h8 => h_9 ((i_eq rfl (by decide)).mpr h8)
              refine lv_iload hx hb d_DiscMakerModel_components_112 (lv_at hl 6 rfl) ?_
              refine lv_iload hx hb d_DiscMakerModel_components_114 (lv_at hl 5 rfl) ?_
              refine lv_isub hx hb d_DiscMakerModel_components_116 ?_
              refine lv_topi (fun v5 e_v5 => ?_)
              have t_v5 : v5.toInt = lq.toInt - lp.toInt := by rw [e_v5]; exact i_sub rfl rfl (by omega) (by omega)
              refine lv_iconst (v := 2) hx hb d_DiscMakerModel_components_117 (by decide) ?_
              refine lv_icmp_ne (tgt := 163) hx hb d_DiscMakerModel_components_118 (by decide) (fun h_9 => ?_) (fun h_9 => ?_)
              · skip
                have g118_33 : ¬ v5.toInt = 2 := fun h8 => h_9 ((i_eq rfl (by decide)).mpr h8)
                refine lv_iconst (v := 0) hx hb d_DiscMakerModel_components_163 (by decide) ?_
                refine lv_istore hx hb d_DiscMakerModel_components_164 hl (by decide) rfl (fun ls hl => ?_)
                have hl : lv_has ls 10 [(7, .int 0), (0, .ref h0), (1, .int x), (2, .int y), (3, .int v1), (4, .int al), (5, .int lp), (6, .int lq)] := hl
                refine lv_iload hx hb d_DiscMakerModel_components_166 (lv_at hl 0 rfl) ?_
                refine lv_if_ne (tgt := 179) hx hb d_DiscMakerModel_components_168 (by decide) (fun h_9 => absurd (by decide) h_9) (fun _ => ?_)
                refine lv_iload hx hb d_DiscMakerModel_components_171 (lv_at hl 7 rfl) ?_
                refine lv_iload hx hb d_DiscMakerModel_components_173 (lv_at hl 6 rfl) ?_
                refine lv_isub hx hb d_DiscMakerModel_components_175 ?_
                refine lv_topi (fun v6 e_v6 => ?_)
                have t_v6 : v6.toInt = lq.toInt - lp.toInt := by rw [e_v6]; exact i_sub rfl rfl (by omega) (by omega)
                refine lv_goto (tgt := 180) hx hb d_DiscMakerModel_components_176 (by decide) ?_
                refine lv_istore hx hb d_DiscMakerModel_components_180 hl (by decide) rfl (fun ls hl => ?_)
                have hl : lv_has ls 10 [(8, .int v6), (7, .int 0), (0, .ref h0), (1, .int x), (2, .int y), (3, .int v1), (4, .int al), (5, .int lp), (6, .int lq)] := hl
                refine lv_iload hx hb d_DiscMakerModel_components_182 (lv_at hl 8 rfl) ?_
                refine lv_iload hx hb d_DiscMakerModel_components_184 (lv_at hl 7 rfl) ?_
                refine lv_icmp_le (tgt := 258) hx hb d_DiscMakerModel_components_186 (by decide) (fun h_9 => ?_) (fun h_9 => ?_)
                · skip
                  have g186_45 : lq.toInt ≤ lp.toInt := (i_le rfl rfl).mp h_9
                  refine lv_iload hx hb d_DiscMakerModel_components_258 (lv_at hl 8 rfl) ?_
                  refine lv_iconst (v := 1) hx hb d_DiscMakerModel_components_260 (by decide) ?_
                  refine lv_iadd hx hb d_DiscMakerModel_components_261 ?_
                  refine lv_topi (fun v7 e_v7 => ?_)
                  have t_v7 : v7.toInt = lq.toInt + 1 := by rw [e_v7]; exact i_add rfl (by decide) (by omega) (by omega)
                  refine lv_istore hx hb d_DiscMakerModel_components_262 hl (by decide) rfl (fun ls hl => ?_)
                  have hl : lv_has ls 10 [(5, .int v7), (8, .int v6), (7, .int 0), (0, .ref h0), (1, .int x), (2, .int y), (3, .int v1), (4, .int al), (6, .int lq)] := hl
                  refine lv_goto (tgt := 41) hx hb d_DiscMakerModel_components_264 (by decide) ?_
                  have hP := hP.sub (ws' := [(h0, .inr (11, MO ma sv_thrown sv_length sv_nodes sv_many sv_directories sv_runsFrom sv_runs sv_read sv_wrong sv_isNamed sv_goes sv_goesSize sv_goesAt sv_targetParts sv_isRoot)), ((ma 16), .inl (cJ, 46080, .inr (.inl lF))), ((ma 10), .inl (cB, 8000, .inl fT)), ((ma 11), .inl (cI, 40, .inl fTS))]) [0, 1, 2, 3] rfl
                  have hD := hD.sub (ws' := [(h0, .inr (11, MO ma sv_thrown sv_length sv_nodes sv_many sv_directories sv_runsFrom sv_runs sv_read sv_wrong sv_isNamed sv_goes sv_goesSize sv_goesAt sv_targetParts sv_isRoot)), ((ma 16), .inl (cJ, 46080, .inr (.inl lF))), ((ma 10), .inl (cB, 8000, .inl fT)), ((ma 11), .inl (cI, 40, .inl fTS))]) [0, 1, 2, 3] (by decide) rfl
                  have hl := lv_sub hl [3, 4, 5, 6, 7, 0] rfl
                  exact ih41 (_) (by first | omega | (dsimp only; omega)) _ _ _ _ ⟨al, v7, lF, rfl, rfl, (by (try dsimp only); first | assumption | omega | trivial), (by (try dsimp only); first | assumption | omega | trivial), (by have h0 := cmL_go (t := (tgF fT x.toNatClampNeg)) (n := (fTS x.toNatClampNeg).toInt.toNat) (p := lp.toNatClampNeg) (all := al.toNatClampNeg) (by omega); have h1 := i_cl (a := v7) (by omega); have h2 := i_cl (a := al) (by omega); rw [h81, f2] at h0; rw [show v7.toNatClampNeg = lq.toNatClampNeg + 1 by omega, show al.toNatClampNeg = al.toNatClampNeg + cbF (tgF fT x.toNatClampNeg) lp.toNatClampNeg lq.toNatClampNeg by omega]; exact h0.symm), hP, hD, hS, hl⟩
                · skip
                  have g186_45 : ¬ lq.toInt ≤ lp.toInt := fun h8 => h_9 ((i_le rfl rfl).mpr h8)
                  refine lv_aload_n hx hb d_DiscMakerModel_components_189 rfl (lv_at hl 2 rfl) ?_
                  refine lv_iload_n hx hb d_DiscMakerModel_components_190 rfl (lv_at hl 4 rfl) ?_
                  refine lv_iload hx hb d_DiscMakerModel_components_191 (lv_at hl 6 rfl) ?_
                  refine lv_iload hx hb d_DiscMakerModel_components_193 (lv_at hl 1 rfl) ?_
                  refine lv_iload hx hb d_DiscMakerModel_components_195 (lv_at hl 0 rfl) ?_
                  have hPc := hP.sub (ws' := [(h0, .inr (11, MO ma sv_thrown sv_length sv_nodes sv_many sv_directories sv_runsFrom sv_runs sv_read sv_wrong sv_isNamed sv_goes sv_goesSize sv_goesAt sv_targetParts sv_isRoot)), ((ma 16), .inl (cJ, 46080, .inr (.inl lF)))]) [0, 1] rfl
                  have hDc := hD.sub (ws' := [(h0, .inr (11, MO ma sv_thrown sv_length sv_nodes sv_many sv_directories sv_runsFrom sv_runs sv_read sv_wrong sv_isNamed sv_goes sv_goesSize sv_goesAt sv_targetParts sv_isRoot)), ((ma 16), .inl (cJ, 46080, .inr (.inl lF)))]) [0, 1] (by decide) rfl
                  have hFc := va_free (wc := [(h0, .inr (11, MO ma sv_thrown sv_length sv_nodes sv_many sv_directories sv_runsFrom sv_runs sv_read sv_wrong sv_isNamed sv_goes sv_goesSize sv_goesAt sv_targetParts sv_isRoot)), ((ma 16), .inl (cJ, 46080, .inr (.inl lF)))]) hD hS hA [0, 1] rfl
                  have hkc : 0 ≤ 0 := by decide
                  have hks : 0 ≤ 0 := by decide
                  refine va_callv (va_runV (C := "DiscMakerModel") (As := [.int y, .int al, .int 0, .int v6]) (rest := []) ⟨hx, hb, hml, hown, hts⟩ (m_mark l D cB cI cJ cZ cN cF H.size h0 ma sv_thrown sv_length sv_nodes sv_many sv_directories sv_runsFrom sv_runs sv_read sv_wrong sv_isNamed sv_goes sv_goesSize sv_goesAt sv_targetParts sv_isRoot lF y al 0 v6 (by (try dsimp only); first | assumption | omega | trivial)) (cwV 4 hts (lg_goodV k1723 k1725 k78 k125 kc_DiscMakerModel_mark) rfl rfl rfl (by decide +kernel) ⟨Nat.le_of_ble_eq_true rfl, Nat.le_of_ble_eq_true rfl⟩) ⟨fun a U g mk q => by obtain ⟨q0, q1, qP, qK, qN, qD⟩ := q; exact ⟨q0, q1, qP, va_K.moved (u := U) (U := U.calling g mk a) (Vm.Alike.refl U.vm) qK, qN.calling, qD⟩, va_recv hK hP (ci := 11) (q0 := 0) rfl rfl, fun U hU hW => ⟨rfl, by rw [hU], by rw [hU]; exact hPc, va_K.moved hW.alike hK, NN.warm hW hN, hDc.weaken (fun _ _ _ _ => trivial)⟩⟩ rfl rfl hl.1 rfl (lv_room (Nat.le_of_ble_eq_true rfl)) d_DiscMakerModel_components_197 ⟨hkc, hks⟩) hS (fun q _ h => hFc q h) hFc (fun u t H1 locs ht hvm hp_r8 hB hz1 hk1 hS => ?_)
                  obtain ⟨G_9, rfl⟩ : ∃ z, z = u := ⟨_, rfl⟩
                  obtain ⟨hP1, hD1⟩ := hB
                  rw [ht] at hP1
                  obtain ⟨hP, hD⟩ := va_join (wr := [((ma 10), .inl (cB, 8000, .inl fT)), ((ma 11), .inl (cI, 40, .inl fTS))]) (w1 := [(h0, .inr (11, MO ma sv_thrown sv_length sv_nodes sv_many sv_directories sv_runsFrom sv_runs sv_read sv_wrong sv_isNamed sv_goes sv_goesSize sv_goesAt sv_targetParts sv_isRoot)), ((ma 16), .inl (cJ, 46080, .inr (.inl G_9)))]) hP hD [0, 1] [2, 3] rfl rfl (by decide) (by decide) hk1 hFc hP1 hD1
                  clear hPc hDc hFc hP1 hD1 hk1 hz1
                  generalize H1 = H at hP hS ⊢
                  have hP : va_P D CL [((ma 10), .inl (cB, 8000, .inl fT)), ((ma 11), .inl (cI, 40, .inl fTS)), (h0, .inr (11, MO ma sv_thrown sv_length sv_nodes sv_many sv_directories sv_runsFrom sv_runs sv_read sv_wrong sv_isNamed sv_goes sv_goesSize sv_goesAt sv_targetParts sv_isRoot)), ((ma 16), .inl (cJ, 46080, .inr (.inl G_9)))] H := hP
                  have hD : va_D A [((ma 10), .inl (cB, 8000, .inl fT)), ((ma 11), .inl (cI, 40, .inl fTS)), (h0, .inr (11, MO ma sv_thrown sv_length sv_nodes sv_many sv_directories sv_runsFrom sv_runs sv_read sv_wrong sv_isNamed sv_goes sv_goesSize sv_goesAt sv_targetParts sv_isRoot)), ((ma 16), .inl (cJ, 46080, .inr (.inl G_9)))] := hD
                  refine lv_iconst (v := 0) hx hb d_DiscMakerModel_components_200 (by decide) ?_
                  refine lv_istore hx hb d_DiscMakerModel_components_201 hl (by decide) rfl (fun ls hl => ?_)
                  have hl : lv_has ls 10 [(9, .int 0), (8, .int v6), (7, .int 0), (0, .ref h0), (1, .int x), (2, .int y), (3, .int v1), (4, .int al), (5, .int lp), (6, .int lq)] := hl
                  refine zz_lab (P := fun (lk : Nat) (H : Heap) (locs : List Loc) (ls : Array Slot) (stk : List Value) => ∃ (k9 : Int32) (nF : Nat → Int64) , lk = (201 - k9.toInt).toNat ∧ stk = [] ∧ (0 ≤ k9.toInt ∧ k9.toInt ≤ 200) ∧ va_P D CL [((ma 10), .inl (cB, 8000, .inl fT)), ((ma 11), .inl (cI, 40, .inl fTS)), (h0, .inr (11, MO ma sv_thrown sv_length sv_nodes sv_many sv_directories sv_runsFrom sv_runs sv_read sv_wrong sv_isNamed sv_goes sv_goesSize sv_goesAt sv_targetParts sv_isRoot)), ((ma 16), .inl (cJ, 46080, .inr (.inl nF)))] H ∧ va_D A [((ma 10), .inl (cB, 8000, .inl fT)), ((ma 11), .inl (cI, 40, .inl fTS)), (h0, .inr (11, MO ma sv_thrown sv_length sv_nodes sv_many sv_directories sv_runsFrom sv_runs sv_read sv_wrong sv_isNamed sv_goes sv_goesSize sv_goesAt sv_targetParts sv_isRoot)), ((ma 16), .inl (cJ, 46080, .inr (.inl nF)))] ∧ va_S A s.heap H locs ∧ lv_has ls 10 [(0, .ref h0), (1, .int x), (2, .int y), (3, .int v1), (4, .int al), (5, .int lp), (6, .int lq), (7, .int 0), (8, .int v6), (9, .int k9)]) 203 ?_ ?_
                  · skip
                    intro lk ih203 H locs ls stk hI
                    obtain ⟨k9, nF, hm203, rfl, f9, hP, hD, hS, hl⟩ := hI
                    refine lv_iload hx hb d_DiscMakerModel_components_203 (lv_at hl 9 rfl) ?_
                    refine lv_iload hx hb d_DiscMakerModel_components_205 (lv_at hl 8 rfl) ?_
                    refine lv_icmp_ge (tgt := 249) hx hb d_DiscMakerModel_components_207 (by decide) (fun h_9 => ?_) (fun h_9 => ?_)
                    · skip
                      have g207_62 : v6.toInt ≤ k9.toInt := (i_le rfl rfl).mp h_9
                      refine lv_iload hx hb d_DiscMakerModel_components_249 (lv_at hl 4 rfl) ?_
                      refine lv_iconst (v := 2) hx hb d_DiscMakerModel_components_251 (by decide) ?_
                      refine lv_iload hx hb d_DiscMakerModel_components_252 (lv_at hl 8 rfl) ?_
                      refine lv_iadd hx hb d_DiscMakerModel_components_254 ?_
                      refine lv_topi (fun v10 e_v10 => ?_)
                      have t_v10 : v10.toInt = 2 + v6.toInt := by rw [e_v10]; exact i_add (by decide) rfl (by omega) (by omega)
                      refine lv_iadd hx hb d_DiscMakerModel_components_255 ?_
                      refine lv_topi (fun v11 e_v11 => ?_)
                      have t_v11 : v11.toInt = al.toInt + v10.toInt := by rw [e_v11]; exact i_add rfl rfl (by omega) (by omega)
                      refine lv_istore hx hb d_DiscMakerModel_components_256 hl (by decide) rfl (fun ls hl => ?_)
                      have hl : lv_has ls 10 [(4, .int v11), (0, .ref h0), (1, .int x), (2, .int y), (3, .int v1), (5, .int lp), (6, .int lq), (7, .int 0), (8, .int v6), (9, .int k9)] := hl
                      refine lv_iload hx hb d_DiscMakerModel_components_258 (lv_at hl 6 rfl) ?_
                      refine lv_iconst (v := 1) hx hb d_DiscMakerModel_components_260 (by decide) ?_
                      refine lv_iadd hx hb d_DiscMakerModel_components_261 ?_
                      refine lv_topi (fun v12 e_v12 => ?_)
                      have t_v12 : v12.toInt = lq.toInt + 1 := by rw [e_v12]; exact i_add rfl (by decide) (by omega) (by omega)
                      refine lv_istore hx hb d_DiscMakerModel_components_262 hl (by decide) rfl (fun ls hl => ?_)
                      have hl : lv_has ls 10 [(5, .int v12), (4, .int v11), (0, .ref h0), (1, .int x), (2, .int y), (3, .int v1), (6, .int lq), (7, .int 0), (8, .int v6), (9, .int k9)] := hl
                      refine lv_goto (tgt := 41) hx hb d_DiscMakerModel_components_264 (by decide) ?_
                      have hP := hP.sub (ws' := [(h0, .inr (11, MO ma sv_thrown sv_length sv_nodes sv_many sv_directories sv_runsFrom sv_runs sv_read sv_wrong sv_isNamed sv_goes sv_goesSize sv_goesAt sv_targetParts sv_isRoot)), ((ma 16), .inl (cJ, 46080, .inr (.inl nF))), ((ma 10), .inl (cB, 8000, .inl fT)), ((ma 11), .inl (cI, 40, .inl fTS))]) [2, 3, 0, 1] rfl
                      have hD := hD.sub (ws' := [(h0, .inr (11, MO ma sv_thrown sv_length sv_nodes sv_many sv_directories sv_runsFrom sv_runs sv_read sv_wrong sv_isNamed sv_goes sv_goesSize sv_goesAt sv_targetParts sv_isRoot)), ((ma 16), .inl (cJ, 46080, .inr (.inl nF))), ((ma 10), .inl (cB, 8000, .inl fT)), ((ma 11), .inl (cI, 40, .inl fTS))]) [2, 3, 0, 1] (by decide) rfl
                      have hl := lv_sub hl [2, 3, 4, 5, 1, 0] rfl
                      exact ih41 (_) (by first | omega | (dsimp only; omega)) _ _ _ _ ⟨v11, v12, nF, rfl, rfl, (by (try dsimp only); first | assumption | omega | trivial), (by (try dsimp only); first | assumption | omega | trivial), (by have h0 := cmL_go (t := (tgF fT x.toNatClampNeg)) (n := (fTS x.toNatClampNeg).toInt.toNat) (p := lp.toNatClampNeg) (all := al.toNatClampNeg) (by omega); have h1 := i_cl (a := v12) (by omega); have h2 := i_cl (a := v11) (by omega); rw [h81, f2] at h0; rw [show v12.toNatClampNeg = lq.toNatClampNeg + 1 by omega, show v11.toNatClampNeg = al.toNatClampNeg + cbF (tgF fT x.toNatClampNeg) lp.toNatClampNeg lq.toNatClampNeg by omega]; exact h0.symm), hP, hD, hS, hl⟩
                    · skip
                      have g207_62 : ¬ v6.toInt ≤ k9.toInt := fun h8 => h_9 ((i_le rfl rfl).mpr h8)
                      refine lv_iload_n hx hb d_DiscMakerModel_components_210 rfl (lv_at hl 2 rfl) ?_
                      refine lv_if_lt (tgt := 249) hx hb d_DiscMakerModel_components_211 (by decide) (fun h_9 => ?_) (fun h_9 => ?_)
                      · skip
                        have g211_76 : y.toInt < 0 := (i_lt rfl (by decide)).mp h_9
                        refine lv_iload hx hb d_DiscMakerModel_components_249 (lv_at hl 4 rfl) ?_
                        refine lv_iconst (v := 2) hx hb d_DiscMakerModel_components_251 (by decide) ?_
                        refine lv_iload hx hb d_DiscMakerModel_components_252 (lv_at hl 8 rfl) ?_
                        refine lv_iadd hx hb d_DiscMakerModel_components_254 ?_
                        refine lv_topi (fun v13 e_v13 => ?_)
                        have t_v13 : v13.toInt = 2 + v6.toInt := by rw [e_v13]; exact i_add (by decide) rfl (by omega) (by omega)
                        refine lv_iadd hx hb d_DiscMakerModel_components_255 ?_
                        refine lv_topi (fun v14 e_v14 => ?_)
                        have t_v14 : v14.toInt = al.toInt + v13.toInt := by rw [e_v14]; exact i_add rfl rfl (by omega) (by omega)
                        refine lv_istore hx hb d_DiscMakerModel_components_256 hl (by decide) rfl (fun ls hl => ?_)
                        have hl : lv_has ls 10 [(4, .int v14), (0, .ref h0), (1, .int x), (2, .int y), (3, .int v1), (5, .int lp), (6, .int lq), (7, .int 0), (8, .int v6), (9, .int k9)] := hl
                        refine lv_iload hx hb d_DiscMakerModel_components_258 (lv_at hl 6 rfl) ?_
                        refine lv_iconst (v := 1) hx hb d_DiscMakerModel_components_260 (by decide) ?_
                        refine lv_iadd hx hb d_DiscMakerModel_components_261 ?_
                        refine lv_topi (fun v15 e_v15 => ?_)
                        have t_v15 : v15.toInt = lq.toInt + 1 := by rw [e_v15]; exact i_add rfl (by decide) (by omega) (by omega)
                        refine lv_istore hx hb d_DiscMakerModel_components_262 hl (by decide) rfl (fun ls hl => ?_)
                        have hl : lv_has ls 10 [(5, .int v15), (4, .int v14), (0, .ref h0), (1, .int x), (2, .int y), (3, .int v1), (6, .int lq), (7, .int 0), (8, .int v6), (9, .int k9)] := hl
                        refine lv_goto (tgt := 41) hx hb d_DiscMakerModel_components_264 (by decide) ?_
                        have hP := hP.sub (ws' := [(h0, .inr (11, MO ma sv_thrown sv_length sv_nodes sv_many sv_directories sv_runsFrom sv_runs sv_read sv_wrong sv_isNamed sv_goes sv_goesSize sv_goesAt sv_targetParts sv_isRoot)), ((ma 16), .inl (cJ, 46080, .inr (.inl nF))), ((ma 10), .inl (cB, 8000, .inl fT)), ((ma 11), .inl (cI, 40, .inl fTS))]) [2, 3, 0, 1] rfl
                        have hD := hD.sub (ws' := [(h0, .inr (11, MO ma sv_thrown sv_length sv_nodes sv_many sv_directories sv_runsFrom sv_runs sv_read sv_wrong sv_isNamed sv_goes sv_goesSize sv_goesAt sv_targetParts sv_isRoot)), ((ma 16), .inl (cJ, 46080, .inr (.inl nF))), ((ma 10), .inl (cB, 8000, .inl fT)), ((ma 11), .inl (cI, 40, .inl fTS))]) [2, 3, 0, 1] (by decide) rfl
                        have hl := lv_sub hl [2, 3, 4, 5, 1, 0] rfl
                        exact ih41 (_) (by first | omega | (dsimp only; omega)) _ _ _ _ ⟨v14, v15, nF, rfl, rfl, (by (try dsimp only); first | assumption | omega | trivial), (by (try dsimp only); first | assumption | omega | trivial), (by have h0 := cmL_go (t := (tgF fT x.toNatClampNeg)) (n := (fTS x.toNatClampNeg).toInt.toNat) (p := lp.toNatClampNeg) (all := al.toNatClampNeg) (by omega); have h1 := i_cl (a := v15) (by omega); have h2 := i_cl (a := v14) (by omega); rw [h81, f2] at h0; rw [show v15.toNatClampNeg = lq.toNatClampNeg + 1 by omega, show v14.toNatClampNeg = al.toNatClampNeg + cbF (tgF fT x.toNatClampNeg) lp.toNatClampNeg lq.toNatClampNeg by omega]; exact h0.symm), hP, hD, hS, hl⟩
                      · skip
                        have g211_76 : ¬ y.toInt < 0 := fun h8 => h_9 ((i_lt rfl (by decide)).mpr h8)
                        refine lv_aload_n hx hb d_DiscMakerModel_components_214 rfl (lv_at hl 0 rfl) ?_
                        refine lv_iload_n hx hb d_DiscMakerModel_components_215 rfl (lv_at hl 2 rfl) ?_
                        refine lv_iload hx hb d_DiscMakerModel_components_216 (lv_at hl 4 rfl) ?_
                        refine lv_iadd hx hb d_DiscMakerModel_components_218 ?_
                        refine lv_topi (fun v16 e_v16 => ?_)
                        have t_v16 : v16.toInt = y.toInt + al.toInt := by rw [e_v16]; exact i_add rfl rfl (by omega) (by omega)
                        refine lv_iconst (v := 2) hx hb d_DiscMakerModel_components_219 (by decide) ?_
                        refine lv_iadd hx hb d_DiscMakerModel_components_220 ?_
                        refine lv_topi (fun v17 e_v17 => ?_)
                        have t_v17 : v17.toInt = v16.toInt + 2 := by rw [e_v17]; exact i_add rfl (by decide) (by omega) (by omega)
                        refine lv_iload hx hb d_DiscMakerModel_components_221 (lv_at hl 9 rfl) ?_
                        refine lv_iadd hx hb d_DiscMakerModel_components_223 ?_
                        refine lv_topi (fun v18 e_v18 => ?_)
                        have t_v18 : v18.toInt = v17.toInt + k9.toInt := by rw [e_v18]; exact i_add rfl rfl (by omega) (by omega)
                        refine lv_aload_n hx hb d_DiscMakerModel_components_224 rfl (lv_at hl 0 rfl) ?_
                        refine va_get (D := D) (ci := 11) (v := .ref (ma 10)) (C := "DiscMakerModel") (T := F_DiscMakerModel) (N := 48) hx hb ht9 in_DiscMakerModel hown hK hP 2 rfl rfl 13 (by decide) (ht9 _ k1444) (fun _ h9 => h9) rfl d_DiscMakerModel_components_225 ?_
                        refine lv_sipush (v := 200) hx hb d_DiscMakerModel_components_228 (by decide) ?_
                        refine lv_iload_n hx hb d_DiscMakerModel_components_231 rfl (lv_at hl 1 rfl) ?_
                        refine lv_imul hx hb d_DiscMakerModel_components_232 ?_
                        refine lv_topi (fun v19 e_v19 => ?_)
                        have t_v19 : v19.toInt = 200 * x.toInt := by rw [e_v19]; exact i_mul (by decide) rfl (by omega) (by omega)
                        refine lv_iload hx hb d_DiscMakerModel_components_233 (lv_at hl 5 rfl) ?_
                        refine lv_iadd hx hb d_DiscMakerModel_components_235 ?_
                        refine lv_topi (fun v20 e_v20 => ?_)
                        have t_v20 : v20.toInt = v19.toInt + lp.toInt := by rw [e_v20]; exact i_add rfl rfl (by omega) (by omega)
                        refine lv_iload hx hb d_DiscMakerModel_components_236 (lv_at hl 9 rfl) ?_
                        refine lv_iadd hx hb d_DiscMakerModel_components_238 ?_
                        refine lv_topi (fun v21 e_v21 => ?_)
                        have t_v21 : v21.toInt = v20.toInt + k9.toInt := by rw [e_v21]; exact i_add rfl rfl (by omega) (by omega)
                        refine va_bald hx hb hK hP 0 0 rfl rfl (vp_in_iff.mpr ⟨by omega, by omega⟩) d_DiscMakerModel_components_239 ?_
                        refine lv_topi (fun v22 e_v22 => ?_)
                        have hPc := hP.sub (ws' := [(h0, .inr (11, MO ma sv_thrown sv_length sv_nodes sv_many sv_directories sv_runsFrom sv_runs sv_read sv_wrong sv_isNamed sv_goes sv_goesSize sv_goesAt sv_targetParts sv_isRoot)), ((ma 16), .inl (cJ, 46080, .inr (.inl nF)))]) [2, 3] rfl
                        have hDc := hD.sub (ws' := [(h0, .inr (11, MO ma sv_thrown sv_length sv_nodes sv_many sv_directories sv_runsFrom sv_runs sv_read sv_wrong sv_isNamed sv_goes sv_goesSize sv_goesAt sv_targetParts sv_isRoot)), ((ma 16), .inl (cJ, 46080, .inr (.inl nF)))]) [2, 3] (by decide) rfl
                        have hFc := va_free (wc := [(h0, .inr (11, MO ma sv_thrown sv_length sv_nodes sv_many sv_directories sv_runsFrom sv_runs sv_read sv_wrong sv_isNamed sv_goes sv_goesSize sv_goesAt sv_targetParts sv_isRoot)), ((ma 16), .inl (cJ, 46080, .inr (.inl nF)))]) hD hS hA [2, 3] rfl
                        have hkc : 0 ≤ 0 := by decide
                        have hks : 0 ≤ 0 := by decide
                        refine va_callv (va_runV (C := "DiscMakerModel") (As := [.int v18, .int v22]) (rest := []) ⟨hx, hb, hml, hown, hts⟩ (m_set l D cB cI cJ cZ cN cF H.size h0 ma sv_thrown sv_length sv_nodes sv_many sv_directories sv_runsFrom sv_runs sv_read sv_wrong sv_isNamed sv_goes sv_goesSize sv_goesAt sv_targetParts sv_isRoot nF v18 v22 (by (try dsimp only); first | assumption | omega | trivial) (by (try dsimp only); first | assumption | omega | trivial)) (cwV 2 hts (lg_goodV k1727 k1729 k79 k125 kc_DiscMakerModel_set) rfl rfl rfl (by decide +kernel) ⟨Nat.le_of_ble_eq_true rfl, Nat.le_of_ble_eq_true rfl⟩) ⟨fun a U g mk q => by obtain ⟨q0, q1, qP, qK, qN, qD⟩ := q; exact ⟨q0, q1, qP, va_K.moved (u := U) (U := U.calling g mk a) (Vm.Alike.refl U.vm) qK, qN.calling, qD⟩, va_recv hK hP (ci := 11) (q0 := 2) rfl rfl, fun U hU hW => ⟨rfl, by rw [hU], by rw [hU]; exact hPc, va_K.moved hW.alike hK, NN.warm hW hN, hDc.weaken (fun _ _ _ _ => trivial)⟩⟩ rfl rfl hl.1 rfl (lv_room (Nat.le_of_ble_eq_true rfl)) d_DiscMakerModel_components_240 ⟨hkc, hks⟩) hS (fun q _ h => hFc q h) hFc (fun u t H1 locs ht hvm hp_r23 hB hz1 hk1 hS => ?_)
                        obtain ⟨G_24, rfl⟩ : ∃ z, z = u := ⟨_, rfl⟩
                        obtain ⟨hP1, hD1⟩ := hB
                        rw [ht] at hP1
                        obtain ⟨hP, hD⟩ := va_join (wr := [((ma 10), .inl (cB, 8000, .inl fT)), ((ma 11), .inl (cI, 40, .inl fTS))]) (w1 := [(h0, .inr (11, MO ma sv_thrown sv_length sv_nodes sv_many sv_directories sv_runsFrom sv_runs sv_read sv_wrong sv_isNamed sv_goes sv_goesSize sv_goesAt sv_targetParts sv_isRoot)), ((ma 16), .inl (cJ, 46080, .inr (.inl G_24)))]) hP hD [2, 3] [0, 1] rfl rfl (by decide) (by decide) hk1 hFc hP1 hD1
                        clear hPc hDc hFc hP1 hD1 hk1 hz1
                        generalize H1 = H at hP hS ⊢
                        have hP : va_P D CL [((ma 10), .inl (cB, 8000, .inl fT)), ((ma 11), .inl (cI, 40, .inl fTS)), (h0, .inr (11, MO ma sv_thrown sv_length sv_nodes sv_many sv_directories sv_runsFrom sv_runs sv_read sv_wrong sv_isNamed sv_goes sv_goesSize sv_goesAt sv_targetParts sv_isRoot)), ((ma 16), .inl (cJ, 46080, .inr (.inl G_24)))] H := hP
                        have hD : va_D A [((ma 10), .inl (cB, 8000, .inl fT)), ((ma 11), .inl (cI, 40, .inl fTS)), (h0, .inr (11, MO ma sv_thrown sv_length sv_nodes sv_many sv_directories sv_runsFrom sv_runs sv_read sv_wrong sv_isNamed sv_goes sv_goesSize sv_goesAt sv_targetParts sv_isRoot)), ((ma 16), .inl (cJ, 46080, .inr (.inl G_24)))] := hD
                        obtain ⟨v25, e_v25⟩ : ∃ z : Int32, z = k9 + 1 := ⟨_, rfl⟩
                        refine lv_iinc (v := v25) hx hb d_DiscMakerModel_components_243 hl (k := 9) rfl e_v25.symm (by decide) rfl (fun ls hl => ?_)
                        have t_v25 : v25.toInt = k9.toInt + 1 := by rw [e_v25]; exact i_add rfl (by decide) (by omega) (by omega)
                        have hl : lv_has ls 10 [(9, .int v25), (0, .ref h0), (1, .int x), (2, .int y), (3, .int v1), (4, .int al), (5, .int lp), (6, .int lq), (7, .int 0), (8, .int v6)] := hl
                        refine lv_goto (tgt := 203) hx hb d_DiscMakerModel_components_246 (by decide) ?_
                        have hP := hP.sub (ws' := [((ma 10), .inl (cB, 8000, .inl fT)), ((ma 11), .inl (cI, 40, .inl fTS)), (h0, .inr (11, MO ma sv_thrown sv_length sv_nodes sv_many sv_directories sv_runsFrom sv_runs sv_read sv_wrong sv_isNamed sv_goes sv_goesSize sv_goesAt sv_targetParts sv_isRoot)), ((ma 16), .inl (cJ, 46080, .inr (.inl G_24)))]) [0, 1, 2, 3] rfl
                        have hD := hD.sub (ws' := [((ma 10), .inl (cB, 8000, .inl fT)), ((ma 11), .inl (cI, 40, .inl fTS)), (h0, .inr (11, MO ma sv_thrown sv_length sv_nodes sv_many sv_directories sv_runsFrom sv_runs sv_read sv_wrong sv_isNamed sv_goes sv_goesSize sv_goesAt sv_targetParts sv_isRoot)), ((ma 16), .inl (cJ, 46080, .inr (.inl G_24)))]) [0, 1, 2, 3] (by decide) rfl
                        have hl := lv_sub hl [1, 2, 3, 4, 5, 6, 7, 8, 9, 0] rfl
                        exact ih203 (_) (by first | omega | (dsimp only; omega)) _ _ _ _ ⟨v25, G_24, rfl, rfl, (by (try dsimp only); first | assumption | omega | trivial), hP, hD, hS, hl⟩
                  · skip
                    intro kk203
                    have hP := hP.sub (ws' := [((ma 10), .inl (cB, 8000, .inl fT)), ((ma 11), .inl (cI, 40, .inl fTS)), (h0, .inr (11, MO ma sv_thrown sv_length sv_nodes sv_many sv_directories sv_runsFrom sv_runs sv_read sv_wrong sv_isNamed sv_goes sv_goesSize sv_goesAt sv_targetParts sv_isRoot)), ((ma 16), .inl (cJ, 46080, .inr (.inl G_9)))]) [0, 1, 2, 3] rfl
                    have hD := hD.sub (ws' := [((ma 10), .inl (cB, 8000, .inl fT)), ((ma 11), .inl (cI, 40, .inl fTS)), (h0, .inr (11, MO ma sv_thrown sv_length sv_nodes sv_many sv_directories sv_runsFrom sv_runs sv_read sv_wrong sv_isNamed sv_goes sv_goesSize sv_goesAt sv_targetParts sv_isRoot)), ((ma 16), .inl (cJ, 46080, .inr (.inl G_9)))]) [0, 1, 2, 3] (by decide) rfl
                    have hl := lv_sub hl [3, 4, 5, 6, 7, 8, 9, 2, 1, 0] rfl
                    exact kk203 _ _ _ _ _ ⟨0, G_9, rfl, rfl, (by (try dsimp only); first | assumption | omega | trivial), hP, hD, hS, hl⟩
              · skip
                have g118_33 : v5.toInt = 2 := (i_eq rfl (by decide)).mp h_9
                refine lv_aload_n hx hb d_DiscMakerModel_components_121 rfl (lv_at hl 0 rfl) ?_
                refine va_get (D := D) (ci := 11) (v := .ref (ma 10)) (C := "DiscMakerModel") (T := F_DiscMakerModel) (N := 48) hx hb ht9 in_DiscMakerModel hown hK hP 0 rfl rfl 13 (by decide) (ht9 _ k1444) (fun _ h9 => h9) rfl d_DiscMakerModel_components_122 ?_
                refine lv_sipush (v := 200) hx hb d_DiscMakerModel_components_125 (by decide) ?_
                refine lv_iload_n hx hb d_DiscMakerModel_components_128 rfl (lv_at hl 1 rfl) ?_
                refine lv_imul hx hb d_DiscMakerModel_components_129 ?_
                refine lv_topi (fun v26 e_v26 => ?_)
                have t_v26 : v26.toInt = 200 * x.toInt := by rw [e_v26]; exact i_mul (by decide) rfl (by omega) (by omega)
                refine lv_iload hx hb d_DiscMakerModel_components_130 (lv_at hl 5 rfl) ?_
                refine lv_iadd hx hb d_DiscMakerModel_components_132 ?_
                refine lv_topi (fun v27 e_v27 => ?_)
                have t_v27 : v27.toInt = v26.toInt + lp.toInt := by rw [e_v27]; exact i_add rfl rfl (by omega) (by omega)
                refine va_bald hx hb hK hP 2 0 rfl rfl (vp_in_iff.mpr ⟨by omega, by omega⟩) d_DiscMakerModel_components_133 ?_
                refine lv_topi (fun v28 e_v28 => ?_)
                have c_v28 := i_cl (a := v27) (by omega)
                have e2_v28 : v28 = fT (200 * x.toNatClampNeg + lp.toNatClampNeg) := by rw [e_v28, show v27.toNatClampNeg = 200 * x.toNatClampNeg + lp.toNatClampNeg by omega]
                have qtv28 : (tgF fT x.toNatClampNeg (lp.toNatClampNeg)).toInt = v28.toInt := by unfold tgF; rw [e2_v28]
                refine lv_bipush (v := 46) hx hb d_DiscMakerModel_components_134 (by decide) ?_
                refine lv_icmp_ne (tgt := 163) hx hb d_DiscMakerModel_components_136 (by decide) (fun h_9 => ?_) (fun h_9 => ?_)
                · skip
                  have g136_120 : ¬ v28.toInt = 46 := fun h8 => h_9 ((i_eq rfl (by decide)).mpr h8)
                  refine lv_iconst (v := 0) hx hb d_DiscMakerModel_components_163 (by decide) ?_
                  refine lv_istore hx hb d_DiscMakerModel_components_164 hl (by decide) rfl (fun ls hl => ?_)
                  have hl : lv_has ls 10 [(7, .int 0), (0, .ref h0), (1, .int x), (2, .int y), (3, .int v1), (4, .int al), (5, .int lp), (6, .int lq)] := hl
                  refine lv_iload hx hb d_DiscMakerModel_components_166 (lv_at hl 0 rfl) ?_
                  refine lv_if_ne (tgt := 179) hx hb d_DiscMakerModel_components_168 (by decide) (fun h_9 => absurd (by decide) h_9) (fun _ => ?_)
                  refine lv_iload hx hb d_DiscMakerModel_components_171 (lv_at hl 7 rfl) ?_
                  refine lv_iload hx hb d_DiscMakerModel_components_173 (lv_at hl 6 rfl) ?_
                  refine lv_isub hx hb d_DiscMakerModel_components_175 ?_
                  refine lv_topi (fun v29 e_v29 => ?_)
                  have t_v29 : v29.toInt = lq.toInt - lp.toInt := by rw [e_v29]; exact i_sub rfl rfl (by omega) (by omega)
                  refine lv_goto (tgt := 180) hx hb d_DiscMakerModel_components_176 (by decide) ?_
                  refine lv_istore hx hb d_DiscMakerModel_components_180 hl (by decide) rfl (fun ls hl => ?_)
                  have hl : lv_has ls 10 [(8, .int v29), (7, .int 0), (0, .ref h0), (1, .int x), (2, .int y), (3, .int v1), (4, .int al), (5, .int lp), (6, .int lq)] := hl
                  refine lv_iload hx hb d_DiscMakerModel_components_182 (lv_at hl 8 rfl) ?_
                  refine lv_iload hx hb d_DiscMakerModel_components_184 (lv_at hl 7 rfl) ?_
                  refine lv_icmp_le (tgt := 258) hx hb d_DiscMakerModel_components_186 (by decide) (fun h_9 => ?_) (fun h_9 => ?_)
                  · skip
                    have g186_132 : lq.toInt ≤ lp.toInt := (i_le rfl rfl).mp h_9
                    refine lv_iload hx hb d_DiscMakerModel_components_258 (lv_at hl 8 rfl) ?_
                    refine lv_iconst (v := 1) hx hb d_DiscMakerModel_components_260 (by decide) ?_
                    refine lv_iadd hx hb d_DiscMakerModel_components_261 ?_
                    refine lv_topi (fun v30 e_v30 => ?_)
                    have t_v30 : v30.toInt = lq.toInt + 1 := by rw [e_v30]; exact i_add rfl (by decide) (by omega) (by omega)
                    refine lv_istore hx hb d_DiscMakerModel_components_262 hl (by decide) rfl (fun ls hl => ?_)
                    have hl : lv_has ls 10 [(5, .int v30), (8, .int v29), (7, .int 0), (0, .ref h0), (1, .int x), (2, .int y), (3, .int v1), (4, .int al), (6, .int lq)] := hl
                    refine lv_goto (tgt := 41) hx hb d_DiscMakerModel_components_264 (by decide) ?_
                    have hP := hP.sub (ws' := [(h0, .inr (11, MO ma sv_thrown sv_length sv_nodes sv_many sv_directories sv_runsFrom sv_runs sv_read sv_wrong sv_isNamed sv_goes sv_goesSize sv_goesAt sv_targetParts sv_isRoot)), ((ma 16), .inl (cJ, 46080, .inr (.inl lF))), ((ma 10), .inl (cB, 8000, .inl fT)), ((ma 11), .inl (cI, 40, .inl fTS))]) [0, 1, 2, 3] rfl
                    have hD := hD.sub (ws' := [(h0, .inr (11, MO ma sv_thrown sv_length sv_nodes sv_many sv_directories sv_runsFrom sv_runs sv_read sv_wrong sv_isNamed sv_goes sv_goesSize sv_goesAt sv_targetParts sv_isRoot)), ((ma 16), .inl (cJ, 46080, .inr (.inl lF))), ((ma 10), .inl (cB, 8000, .inl fT)), ((ma 11), .inl (cI, 40, .inl fTS))]) [0, 1, 2, 3] (by decide) rfl
                    have hl := lv_sub hl [3, 4, 5, 6, 7, 0] rfl
                    exact ih41 (_) (by first | omega | (dsimp only; omega)) _ _ _ _ ⟨al, v30, lF, rfl, rfl, (by (try dsimp only); first | assumption | omega | trivial), (by (try dsimp only); first | assumption | omega | trivial), (by have h0 := cmL_go (t := (tgF fT x.toNatClampNeg)) (n := (fTS x.toNatClampNeg).toInt.toNat) (p := lp.toNatClampNeg) (all := al.toNatClampNeg) (by omega); have h1 := i_cl (a := v30) (by omega); have h2 := i_cl (a := al) (by omega); rw [h81, f2] at h0; rw [show v30.toNatClampNeg = lq.toNatClampNeg + 1 by omega, show al.toNatClampNeg = al.toNatClampNeg + cbF (tgF fT x.toNatClampNeg) lp.toNatClampNeg lq.toNatClampNeg by omega]; exact h0.symm), hP, hD, hS, hl⟩
                  · skip
                    have g186_132 : ¬ lq.toInt ≤ lp.toInt := fun h8 => h_9 ((i_le rfl rfl).mpr h8)
                    refine lv_aload_n hx hb d_DiscMakerModel_components_189 rfl (lv_at hl 2 rfl) ?_
                    refine lv_iload_n hx hb d_DiscMakerModel_components_190 rfl (lv_at hl 4 rfl) ?_
                    refine lv_iload hx hb d_DiscMakerModel_components_191 (lv_at hl 6 rfl) ?_
                    refine lv_iload hx hb d_DiscMakerModel_components_193 (lv_at hl 1 rfl) ?_
                    refine lv_iload hx hb d_DiscMakerModel_components_195 (lv_at hl 0 rfl) ?_
                    have hPc := hP.sub (ws' := [(h0, .inr (11, MO ma sv_thrown sv_length sv_nodes sv_many sv_directories sv_runsFrom sv_runs sv_read sv_wrong sv_isNamed sv_goes sv_goesSize sv_goesAt sv_targetParts sv_isRoot)), ((ma 16), .inl (cJ, 46080, .inr (.inl lF)))]) [0, 1] rfl
                    have hDc := hD.sub (ws' := [(h0, .inr (11, MO ma sv_thrown sv_length sv_nodes sv_many sv_directories sv_runsFrom sv_runs sv_read sv_wrong sv_isNamed sv_goes sv_goesSize sv_goesAt sv_targetParts sv_isRoot)), ((ma 16), .inl (cJ, 46080, .inr (.inl lF)))]) [0, 1] (by decide) rfl
                    have hFc := va_free (wc := [(h0, .inr (11, MO ma sv_thrown sv_length sv_nodes sv_many sv_directories sv_runsFrom sv_runs sv_read sv_wrong sv_isNamed sv_goes sv_goesSize sv_goesAt sv_targetParts sv_isRoot)), ((ma 16), .inl (cJ, 46080, .inr (.inl lF)))]) hD hS hA [0, 1] rfl
                    have hkc : 0 ≤ 0 := by decide
                    have hks : 0 ≤ 0 := by decide
                    refine va_callv (va_runV (C := "DiscMakerModel") (As := [.int y, .int al, .int 0, .int v29]) (rest := []) ⟨hx, hb, hml, hown, hts⟩ (m_mark l D cB cI cJ cZ cN cF H.size h0 ma sv_thrown sv_length sv_nodes sv_many sv_directories sv_runsFrom sv_runs sv_read sv_wrong sv_isNamed sv_goes sv_goesSize sv_goesAt sv_targetParts sv_isRoot lF y al 0 v29 (by (try dsimp only); first | assumption | omega | trivial)) (cwV 4 hts (lg_goodV k1723 k1725 k78 k125 kc_DiscMakerModel_mark) rfl rfl rfl (by decide +kernel) ⟨Nat.le_of_ble_eq_true rfl, Nat.le_of_ble_eq_true rfl⟩) ⟨fun a U g mk q => by obtain ⟨q0, q1, qP, qK, qN, qD⟩ := q; exact ⟨q0, q1, qP, va_K.moved (u := U) (U := U.calling g mk a) (Vm.Alike.refl U.vm) qK, qN.calling, qD⟩, va_recv hK hP (ci := 11) (q0 := 0) rfl rfl, fun U hU hW => ⟨rfl, by rw [hU], by rw [hU]; exact hPc, va_K.moved hW.alike hK, NN.warm hW hN, hDc.weaken (fun _ _ _ _ => trivial)⟩⟩ rfl rfl hl.1 rfl (lv_room (Nat.le_of_ble_eq_true rfl)) d_DiscMakerModel_components_197 ⟨hkc, hks⟩) hS (fun q _ h => hFc q h) hFc (fun u t H1 locs ht hvm hp_r31 hB hz1 hk1 hS => ?_)
                    obtain ⟨G_32, rfl⟩ : ∃ z, z = u := ⟨_, rfl⟩
                    obtain ⟨hP1, hD1⟩ := hB
                    rw [ht] at hP1
                    obtain ⟨hP, hD⟩ := va_join (wr := [((ma 10), .inl (cB, 8000, .inl fT)), ((ma 11), .inl (cI, 40, .inl fTS))]) (w1 := [(h0, .inr (11, MO ma sv_thrown sv_length sv_nodes sv_many sv_directories sv_runsFrom sv_runs sv_read sv_wrong sv_isNamed sv_goes sv_goesSize sv_goesAt sv_targetParts sv_isRoot)), ((ma 16), .inl (cJ, 46080, .inr (.inl G_32)))]) hP hD [0, 1] [2, 3] rfl rfl (by decide) (by decide) hk1 hFc hP1 hD1
                    clear hPc hDc hFc hP1 hD1 hk1 hz1
                    generalize H1 = H at hP hS ⊢
                    have hP : va_P D CL [((ma 10), .inl (cB, 8000, .inl fT)), ((ma 11), .inl (cI, 40, .inl fTS)), (h0, .inr (11, MO ma sv_thrown sv_length sv_nodes sv_many sv_directories sv_runsFrom sv_runs sv_read sv_wrong sv_isNamed sv_goes sv_goesSize sv_goesAt sv_targetParts sv_isRoot)), ((ma 16), .inl (cJ, 46080, .inr (.inl G_32)))] H := hP
                    have hD : va_D A [((ma 10), .inl (cB, 8000, .inl fT)), ((ma 11), .inl (cI, 40, .inl fTS)), (h0, .inr (11, MO ma sv_thrown sv_length sv_nodes sv_many sv_directories sv_runsFrom sv_runs sv_read sv_wrong sv_isNamed sv_goes sv_goesSize sv_goesAt sv_targetParts sv_isRoot)), ((ma 16), .inl (cJ, 46080, .inr (.inl G_32)))] := hD
                    refine lv_iconst (v := 0) hx hb d_DiscMakerModel_components_200 (by decide) ?_
                    refine lv_istore hx hb d_DiscMakerModel_components_201 hl (by decide) rfl (fun ls hl => ?_)
                    have hl : lv_has ls 10 [(9, .int 0), (8, .int v29), (7, .int 0), (0, .ref h0), (1, .int x), (2, .int y), (3, .int v1), (4, .int al), (5, .int lp), (6, .int lq)] := hl
                    refine zz_lab (P := fun (lk : Nat) (H : Heap) (locs : List Loc) (ls : Array Slot) (stk : List Value) => ∃ (k9 : Int32) (nF : Nat → Int64) , lk = (201 - k9.toInt).toNat ∧ stk = [] ∧ (0 ≤ k9.toInt ∧ k9.toInt ≤ 200) ∧ va_P D CL [((ma 10), .inl (cB, 8000, .inl fT)), ((ma 11), .inl (cI, 40, .inl fTS)), (h0, .inr (11, MO ma sv_thrown sv_length sv_nodes sv_many sv_directories sv_runsFrom sv_runs sv_read sv_wrong sv_isNamed sv_goes sv_goesSize sv_goesAt sv_targetParts sv_isRoot)), ((ma 16), .inl (cJ, 46080, .inr (.inl nF)))] H ∧ va_D A [((ma 10), .inl (cB, 8000, .inl fT)), ((ma 11), .inl (cI, 40, .inl fTS)), (h0, .inr (11, MO ma sv_thrown sv_length sv_nodes sv_many sv_directories sv_runsFrom sv_runs sv_read sv_wrong sv_isNamed sv_goes sv_goesSize sv_goesAt sv_targetParts sv_isRoot)), ((ma 16), .inl (cJ, 46080, .inr (.inl nF)))] ∧ va_S A s.heap H locs ∧ lv_has ls 10 [(0, .ref h0), (1, .int x), (2, .int y), (3, .int v1), (4, .int al), (5, .int lp), (6, .int lq), (7, .int 0), (8, .int v29), (9, .int k9)]) 203 ?_ ?_
                    · skip
                      intro lk ih203 H locs ls stk hI
                      obtain ⟨k9, nF, hm203, rfl, f9, hP, hD, hS, hl⟩ := hI
                      refine lv_iload hx hb d_DiscMakerModel_components_203 (lv_at hl 9 rfl) ?_
                      refine lv_iload hx hb d_DiscMakerModel_components_205 (lv_at hl 8 rfl) ?_
                      refine lv_icmp_ge (tgt := 249) hx hb d_DiscMakerModel_components_207 (by decide) (fun h_9 => ?_) (fun h_9 => ?_)
                      · skip
                        have g207_149 : v29.toInt ≤ k9.toInt := (i_le rfl rfl).mp h_9
                        refine lv_iload hx hb d_DiscMakerModel_components_249 (lv_at hl 4 rfl) ?_
                        refine lv_iconst (v := 2) hx hb d_DiscMakerModel_components_251 (by decide) ?_
                        refine lv_iload hx hb d_DiscMakerModel_components_252 (lv_at hl 8 rfl) ?_
                        refine lv_iadd hx hb d_DiscMakerModel_components_254 ?_
                        refine lv_topi (fun v33 e_v33 => ?_)
                        have t_v33 : v33.toInt = 2 + v29.toInt := by rw [e_v33]; exact i_add (by decide) rfl (by omega) (by omega)
                        refine lv_iadd hx hb d_DiscMakerModel_components_255 ?_
                        refine lv_topi (fun v34 e_v34 => ?_)
                        have t_v34 : v34.toInt = al.toInt + v33.toInt := by rw [e_v34]; exact i_add rfl rfl (by omega) (by omega)
                        refine lv_istore hx hb d_DiscMakerModel_components_256 hl (by decide) rfl (fun ls hl => ?_)
                        have hl : lv_has ls 10 [(4, .int v34), (0, .ref h0), (1, .int x), (2, .int y), (3, .int v1), (5, .int lp), (6, .int lq), (7, .int 0), (8, .int v29), (9, .int k9)] := hl
                        refine lv_iload hx hb d_DiscMakerModel_components_258 (lv_at hl 6 rfl) ?_
                        refine lv_iconst (v := 1) hx hb d_DiscMakerModel_components_260 (by decide) ?_
                        refine lv_iadd hx hb d_DiscMakerModel_components_261 ?_
                        refine lv_topi (fun v35 e_v35 => ?_)
                        have t_v35 : v35.toInt = lq.toInt + 1 := by rw [e_v35]; exact i_add rfl (by decide) (by omega) (by omega)
                        refine lv_istore hx hb d_DiscMakerModel_components_262 hl (by decide) rfl (fun ls hl => ?_)
                        have hl : lv_has ls 10 [(5, .int v35), (4, .int v34), (0, .ref h0), (1, .int x), (2, .int y), (3, .int v1), (6, .int lq), (7, .int 0), (8, .int v29), (9, .int k9)] := hl
                        refine lv_goto (tgt := 41) hx hb d_DiscMakerModel_components_264 (by decide) ?_
                        have hP := hP.sub (ws' := [(h0, .inr (11, MO ma sv_thrown sv_length sv_nodes sv_many sv_directories sv_runsFrom sv_runs sv_read sv_wrong sv_isNamed sv_goes sv_goesSize sv_goesAt sv_targetParts sv_isRoot)), ((ma 16), .inl (cJ, 46080, .inr (.inl nF))), ((ma 10), .inl (cB, 8000, .inl fT)), ((ma 11), .inl (cI, 40, .inl fTS))]) [2, 3, 0, 1] rfl
                        have hD := hD.sub (ws' := [(h0, .inr (11, MO ma sv_thrown sv_length sv_nodes sv_many sv_directories sv_runsFrom sv_runs sv_read sv_wrong sv_isNamed sv_goes sv_goesSize sv_goesAt sv_targetParts sv_isRoot)), ((ma 16), .inl (cJ, 46080, .inr (.inl nF))), ((ma 10), .inl (cB, 8000, .inl fT)), ((ma 11), .inl (cI, 40, .inl fTS))]) [2, 3, 0, 1] (by decide) rfl
                        have hl := lv_sub hl [2, 3, 4, 5, 1, 0] rfl
                        exact ih41 (_) (by first | omega | (dsimp only; omega)) _ _ _ _ ⟨v34, v35, nF, rfl, rfl, (by (try dsimp only); first | assumption | omega | trivial), (by (try dsimp only); first | assumption | omega | trivial), (by have h0 := cmL_go (t := (tgF fT x.toNatClampNeg)) (n := (fTS x.toNatClampNeg).toInt.toNat) (p := lp.toNatClampNeg) (all := al.toNatClampNeg) (by omega); have h1 := i_cl (a := v35) (by omega); have h2 := i_cl (a := v34) (by omega); rw [h81, f2] at h0; rw [show v35.toNatClampNeg = lq.toNatClampNeg + 1 by omega, show v34.toNatClampNeg = al.toNatClampNeg + cbF (tgF fT x.toNatClampNeg) lp.toNatClampNeg lq.toNatClampNeg by omega]; exact h0.symm), hP, hD, hS, hl⟩
                      · skip
                        have g207_149 : ¬ v29.toInt ≤ k9.toInt := fun h8 => h_9 ((i_le rfl rfl).mpr h8)
                        refine lv_iload_n hx hb d_DiscMakerModel_components_210 rfl (lv_at hl 2 rfl) ?_
                        refine lv_if_lt (tgt := 249) hx hb d_DiscMakerModel_components_211 (by decide) (fun h_9 => ?_) (fun h_9 => ?_)
                        · skip
                          have g211_163 : y.toInt < 0 := (i_lt rfl (by decide)).mp h_9
                          refine lv_iload hx hb d_DiscMakerModel_components_249 (lv_at hl 4 rfl) ?_
                          refine lv_iconst (v := 2) hx hb d_DiscMakerModel_components_251 (by decide) ?_
                          refine lv_iload hx hb d_DiscMakerModel_components_252 (lv_at hl 8 rfl) ?_
                          refine lv_iadd hx hb d_DiscMakerModel_components_254 ?_
                          refine lv_topi (fun v36 e_v36 => ?_)
                          have t_v36 : v36.toInt = 2 + v29.toInt := by rw [e_v36]; exact i_add (by decide) rfl (by omega) (by omega)
                          refine lv_iadd hx hb d_DiscMakerModel_components_255 ?_
                          refine lv_topi (fun v37 e_v37 => ?_)
                          have t_v37 : v37.toInt = al.toInt + v36.toInt := by rw [e_v37]; exact i_add rfl rfl (by omega) (by omega)
                          refine lv_istore hx hb d_DiscMakerModel_components_256 hl (by decide) rfl (fun ls hl => ?_)
                          have hl : lv_has ls 10 [(4, .int v37), (0, .ref h0), (1, .int x), (2, .int y), (3, .int v1), (5, .int lp), (6, .int lq), (7, .int 0), (8, .int v29), (9, .int k9)] := hl
                          refine lv_iload hx hb d_DiscMakerModel_components_258 (lv_at hl 6 rfl) ?_
                          refine lv_iconst (v := 1) hx hb d_DiscMakerModel_components_260 (by decide) ?_
                          refine lv_iadd hx hb d_DiscMakerModel_components_261 ?_
                          refine lv_topi (fun v38 e_v38 => ?_)
                          have t_v38 : v38.toInt = lq.toInt + 1 := by rw [e_v38]; exact i_add rfl (by decide) (by omega) (by omega)
                          refine lv_istore hx hb d_DiscMakerModel_components_262 hl (by decide) rfl (fun ls hl => ?_)
                          have hl : lv_has ls 10 [(5, .int v38), (4, .int v37), (0, .ref h0), (1, .int x), (2, .int y), (3, .int v1), (6, .int lq), (7, .int 0), (8, .int v29), (9, .int k9)] := hl
                          refine lv_goto (tgt := 41) hx hb d_DiscMakerModel_components_264 (by decide) ?_
                          have hP := hP.sub (ws' := [(h0, .inr (11, MO ma sv_thrown sv_length sv_nodes sv_many sv_directories sv_runsFrom sv_runs sv_read sv_wrong sv_isNamed sv_goes sv_goesSize sv_goesAt sv_targetParts sv_isRoot)), ((ma 16), .inl (cJ, 46080, .inr (.inl nF))), ((ma 10), .inl (cB, 8000, .inl fT)), ((ma 11), .inl (cI, 40, .inl fTS))]) [2, 3, 0, 1] rfl
                          have hD := hD.sub (ws' := [(h0, .inr (11, MO ma sv_thrown sv_length sv_nodes sv_many sv_directories sv_runsFrom sv_runs sv_read sv_wrong sv_isNamed sv_goes sv_goesSize sv_goesAt sv_targetParts sv_isRoot)), ((ma 16), .inl (cJ, 46080, .inr (.inl nF))), ((ma 10), .inl (cB, 8000, .inl fT)), ((ma 11), .inl (cI, 40, .inl fTS))]) [2, 3, 0, 1] (by decide) rfl
                          have hl := lv_sub hl [2, 3, 4, 5, 1, 0] rfl
                          exact ih41 (_) (by first | omega | (dsimp only; omega)) _ _ _ _ ⟨v37, v38, nF, rfl, rfl, (by (try dsimp only); first | assumption | omega | trivial), (by (try dsimp only); first | assumption | omega | trivial), (by have h0 := cmL_go (t := (tgF fT x.toNatClampNeg)) (n := (fTS x.toNatClampNeg).toInt.toNat) (p := lp.toNatClampNeg) (all := al.toNatClampNeg) (by omega); have h1 := i_cl (a := v38) (by omega); have h2 := i_cl (a := v37) (by omega); rw [h81, f2] at h0; rw [show v38.toNatClampNeg = lq.toNatClampNeg + 1 by omega, show v37.toNatClampNeg = al.toNatClampNeg + cbF (tgF fT x.toNatClampNeg) lp.toNatClampNeg lq.toNatClampNeg by omega]; exact h0.symm), hP, hD, hS, hl⟩
                        · skip
                          have g211_163 : ¬ y.toInt < 0 := fun h8 => h_9 ((i_lt rfl (by decide)).mpr h8)
                          refine lv_aload_n hx hb d_DiscMakerModel_components_214 rfl (lv_at hl 0 rfl) ?_
                          refine lv_iload_n hx hb d_DiscMakerModel_components_215 rfl (lv_at hl 2 rfl) ?_
                          refine lv_iload hx hb d_DiscMakerModel_components_216 (lv_at hl 4 rfl) ?_
                          refine lv_iadd hx hb d_DiscMakerModel_components_218 ?_
                          refine lv_topi (fun v39 e_v39 => ?_)
                          have t_v39 : v39.toInt = y.toInt + al.toInt := by rw [e_v39]; exact i_add rfl rfl (by omega) (by omega)
                          refine lv_iconst (v := 2) hx hb d_DiscMakerModel_components_219 (by decide) ?_
                          refine lv_iadd hx hb d_DiscMakerModel_components_220 ?_
                          refine lv_topi (fun v40 e_v40 => ?_)
                          have t_v40 : v40.toInt = v39.toInt + 2 := by rw [e_v40]; exact i_add rfl (by decide) (by omega) (by omega)
                          refine lv_iload hx hb d_DiscMakerModel_components_221 (lv_at hl 9 rfl) ?_
                          refine lv_iadd hx hb d_DiscMakerModel_components_223 ?_
                          refine lv_topi (fun v41 e_v41 => ?_)
                          have t_v41 : v41.toInt = v40.toInt + k9.toInt := by rw [e_v41]; exact i_add rfl rfl (by omega) (by omega)
                          refine lv_aload_n hx hb d_DiscMakerModel_components_224 rfl (lv_at hl 0 rfl) ?_
                          refine va_get (D := D) (ci := 11) (v := .ref (ma 10)) (C := "DiscMakerModel") (T := F_DiscMakerModel) (N := 48) hx hb ht9 in_DiscMakerModel hown hK hP 2 rfl rfl 13 (by decide) (ht9 _ k1444) (fun _ h9 => h9) rfl d_DiscMakerModel_components_225 ?_
                          refine lv_sipush (v := 200) hx hb d_DiscMakerModel_components_228 (by decide) ?_
                          refine lv_iload_n hx hb d_DiscMakerModel_components_231 rfl (lv_at hl 1 rfl) ?_
                          refine lv_imul hx hb d_DiscMakerModel_components_232 ?_
                          refine lv_topi (fun v42 e_v42 => ?_)
                          have t_v42 : v42.toInt = 200 * x.toInt := by rw [e_v42]; exact i_mul (by decide) rfl (by omega) (by omega)
                          refine lv_iload hx hb d_DiscMakerModel_components_233 (lv_at hl 5 rfl) ?_
                          refine lv_iadd hx hb d_DiscMakerModel_components_235 ?_
                          refine lv_topi (fun v43 e_v43 => ?_)
                          have t_v43 : v43.toInt = v42.toInt + lp.toInt := by rw [e_v43]; exact i_add rfl rfl (by omega) (by omega)
                          refine lv_iload hx hb d_DiscMakerModel_components_236 (lv_at hl 9 rfl) ?_
                          refine lv_iadd hx hb d_DiscMakerModel_components_238 ?_
                          refine lv_topi (fun v44 e_v44 => ?_)
                          have t_v44 : v44.toInt = v43.toInt + k9.toInt := by rw [e_v44]; exact i_add rfl rfl (by omega) (by omega)
                          refine va_bald hx hb hK hP 0 0 rfl rfl (vp_in_iff.mpr ⟨by omega, by omega⟩) d_DiscMakerModel_components_239 ?_
                          refine lv_topi (fun v45 e_v45 => ?_)
                          have hPc := hP.sub (ws' := [(h0, .inr (11, MO ma sv_thrown sv_length sv_nodes sv_many sv_directories sv_runsFrom sv_runs sv_read sv_wrong sv_isNamed sv_goes sv_goesSize sv_goesAt sv_targetParts sv_isRoot)), ((ma 16), .inl (cJ, 46080, .inr (.inl nF)))]) [2, 3] rfl
                          have hDc := hD.sub (ws' := [(h0, .inr (11, MO ma sv_thrown sv_length sv_nodes sv_many sv_directories sv_runsFrom sv_runs sv_read sv_wrong sv_isNamed sv_goes sv_goesSize sv_goesAt sv_targetParts sv_isRoot)), ((ma 16), .inl (cJ, 46080, .inr (.inl nF)))]) [2, 3] (by decide) rfl
                          have hFc := va_free (wc := [(h0, .inr (11, MO ma sv_thrown sv_length sv_nodes sv_many sv_directories sv_runsFrom sv_runs sv_read sv_wrong sv_isNamed sv_goes sv_goesSize sv_goesAt sv_targetParts sv_isRoot)), ((ma 16), .inl (cJ, 46080, .inr (.inl nF)))]) hD hS hA [2, 3] rfl
                          have hkc : 0 ≤ 0 := by decide
                          have hks : 0 ≤ 0 := by decide
                          refine va_callv (va_runV (C := "DiscMakerModel") (As := [.int v41, .int v45]) (rest := []) ⟨hx, hb, hml, hown, hts⟩ (m_set l D cB cI cJ cZ cN cF H.size h0 ma sv_thrown sv_length sv_nodes sv_many sv_directories sv_runsFrom sv_runs sv_read sv_wrong sv_isNamed sv_goes sv_goesSize sv_goesAt sv_targetParts sv_isRoot nF v41 v45 (by (try dsimp only); first | assumption | omega | trivial) (by (try dsimp only); first | assumption | omega | trivial)) (cwV 2 hts (lg_goodV k1727 k1729 k79 k125 kc_DiscMakerModel_set) rfl rfl rfl (by decide +kernel) ⟨Nat.le_of_ble_eq_true rfl, Nat.le_of_ble_eq_true rfl⟩) ⟨fun a U g mk q => by obtain ⟨q0, q1, qP, qK, qN, qD⟩ := q; exact ⟨q0, q1, qP, va_K.moved (u := U) (U := U.calling g mk a) (Vm.Alike.refl U.vm) qK, qN.calling, qD⟩, va_recv hK hP (ci := 11) (q0 := 2) rfl rfl, fun U hU hW => ⟨rfl, by rw [hU], by rw [hU]; exact hPc, va_K.moved hW.alike hK, NN.warm hW hN, hDc.weaken (fun _ _ _ _ => trivial)⟩⟩ rfl rfl hl.1 rfl (lv_room (Nat.le_of_ble_eq_true rfl)) d_DiscMakerModel_components_240 ⟨hkc, hks⟩) hS (fun q _ h => hFc q h) hFc (fun u t H1 locs ht hvm hp_r46 hB hz1 hk1 hS => ?_)
                          obtain ⟨G_47, rfl⟩ : ∃ z, z = u := ⟨_, rfl⟩
                          obtain ⟨hP1, hD1⟩ := hB
                          rw [ht] at hP1
                          obtain ⟨hP, hD⟩ := va_join (wr := [((ma 10), .inl (cB, 8000, .inl fT)), ((ma 11), .inl (cI, 40, .inl fTS))]) (w1 := [(h0, .inr (11, MO ma sv_thrown sv_length sv_nodes sv_many sv_directories sv_runsFrom sv_runs sv_read sv_wrong sv_isNamed sv_goes sv_goesSize sv_goesAt sv_targetParts sv_isRoot)), ((ma 16), .inl (cJ, 46080, .inr (.inl G_47)))]) hP hD [2, 3] [0, 1] rfl rfl (by decide) (by decide) hk1 hFc hP1 hD1
                          clear hPc hDc hFc hP1 hD1 hk1 hz1
                          generalize H1 = H at hP hS ⊢
                          have hP : va_P D CL [((ma 10), .inl (cB, 8000, .inl fT)), ((ma 11), .inl (cI, 40, .inl fTS)), (h0, .inr (11, MO ma sv_thrown sv_length sv_nodes sv_many sv_directories sv_runsFrom sv_runs sv_read sv_wrong sv_isNamed sv_goes sv_goesSize sv_goesAt sv_targetParts sv_isRoot)), ((ma 16), .inl (cJ, 46080, .inr (.inl G_47)))] H := hP
                          have hD : va_D A [((ma 10), .inl (cB, 8000, .inl fT)), ((ma 11), .inl (cI, 40, .inl fTS)), (h0, .inr (11, MO ma sv_thrown sv_length sv_nodes sv_many sv_directories sv_runsFrom sv_runs sv_read sv_wrong sv_isNamed sv_goes sv_goesSize sv_goesAt sv_targetParts sv_isRoot)), ((ma 16), .inl (cJ, 46080, .inr (.inl G_47)))] := hD
                          obtain ⟨v48, e_v48⟩ : ∃ z : Int32, z = k9 + 1 := ⟨_, rfl⟩
                          refine lv_iinc (v := v48) hx hb d_DiscMakerModel_components_243 hl (k := 9) rfl e_v48.symm (by decide) rfl (fun ls hl => ?_)
                          have t_v48 : v48.toInt = k9.toInt + 1 := by rw [e_v48]; exact i_add rfl (by decide) (by omega) (by omega)
                          have hl : lv_has ls 10 [(9, .int v48), (0, .ref h0), (1, .int x), (2, .int y), (3, .int v1), (4, .int al), (5, .int lp), (6, .int lq), (7, .int 0), (8, .int v29)] := hl
                          refine lv_goto (tgt := 203) hx hb d_DiscMakerModel_components_246 (by decide) ?_
                          have hP := hP.sub (ws' := [((ma 10), .inl (cB, 8000, .inl fT)), ((ma 11), .inl (cI, 40, .inl fTS)), (h0, .inr (11, MO ma sv_thrown sv_length sv_nodes sv_many sv_directories sv_runsFrom sv_runs sv_read sv_wrong sv_isNamed sv_goes sv_goesSize sv_goesAt sv_targetParts sv_isRoot)), ((ma 16), .inl (cJ, 46080, .inr (.inl G_47)))]) [0, 1, 2, 3] rfl
                          have hD := hD.sub (ws' := [((ma 10), .inl (cB, 8000, .inl fT)), ((ma 11), .inl (cI, 40, .inl fTS)), (h0, .inr (11, MO ma sv_thrown sv_length sv_nodes sv_many sv_directories sv_runsFrom sv_runs sv_read sv_wrong sv_isNamed sv_goes sv_goesSize sv_goesAt sv_targetParts sv_isRoot)), ((ma 16), .inl (cJ, 46080, .inr (.inl G_47)))]) [0, 1, 2, 3] (by decide) rfl
                          have hl := lv_sub hl [1, 2, 3, 4, 5, 6, 7, 8, 9, 0] rfl
                          exact ih203 (_) (by first | omega | (dsimp only; omega)) _ _ _ _ ⟨v48, G_47, rfl, rfl, (by (try dsimp only); first | assumption | omega | trivial), hP, hD, hS, hl⟩
                    · skip
                      intro kk203
                      have hP := hP.sub (ws' := [((ma 10), .inl (cB, 8000, .inl fT)), ((ma 11), .inl (cI, 40, .inl fTS)), (h0, .inr (11, MO ma sv_thrown sv_length sv_nodes sv_many sv_directories sv_runsFrom sv_runs sv_read sv_wrong sv_isNamed sv_goes sv_goesSize sv_goesAt sv_targetParts sv_isRoot)), ((ma 16), .inl (cJ, 46080, .inr (.inl G_32)))]) [0, 1, 2, 3] rfl
                      have hD := hD.sub (ws' := [((ma 10), .inl (cB, 8000, .inl fT)), ((ma 11), .inl (cI, 40, .inl fTS)), (h0, .inr (11, MO ma sv_thrown sv_length sv_nodes sv_many sv_directories sv_runsFrom sv_runs sv_read sv_wrong sv_isNamed sv_goes sv_goesSize sv_goesAt sv_targetParts sv_isRoot)), ((ma 16), .inl (cJ, 46080, .inr (.inl G_32)))]) [0, 1, 2, 3] (by decide) rfl
                      have hl := lv_sub hl [3, 4, 5, 6, 7, 8, 9, 2, 1, 0] rfl
                      exact kk203 _ _ _ _ _ ⟨0, G_32, rfl, rfl, (by (try dsimp only); first | assumption | omega | trivial), hP, hD, hS, hl⟩
                · skip
                  have g136_120 : v28.toInt = 46 := (i_eq rfl (by decide)).mp h_9
                  refine lv_aload_n hx hb d_DiscMakerModel_components_139 rfl (lv_at hl 0 rfl) ?_
                  refine va_get (D := D) (ci := 11) (v := .ref (ma 10)) (C := "DiscMakerModel") (T := F_DiscMakerModel) (N := 48) hx hb ht9 in_DiscMakerModel hown hK hP 0 rfl rfl 13 (by decide) (ht9 _ k1444) (fun _ h9 => h9) rfl d_DiscMakerModel_components_140 ?_
                  refine lv_sipush (v := 200) hx hb d_DiscMakerModel_components_143 (by decide) ?_
                  refine lv_iload_n hx hb d_DiscMakerModel_components_146 rfl (lv_at hl 1 rfl) ?_
                  refine lv_imul hx hb d_DiscMakerModel_components_147 ?_
                  refine lv_topi (fun v49 e_v49 => ?_)
                  have t_v49 : v49.toInt = 200 * x.toInt := by rw [e_v49]; exact i_mul (by decide) rfl (by omega) (by omega)
                  refine lv_iload hx hb d_DiscMakerModel_components_148 (lv_at hl 5 rfl) ?_
                  refine lv_iadd hx hb d_DiscMakerModel_components_150 ?_
                  refine lv_topi (fun v50 e_v50 => ?_)
                  have t_v50 : v50.toInt = v49.toInt + lp.toInt := by rw [e_v50]; exact i_add rfl rfl (by omega) (by omega)
                  refine lv_iconst (v := 1) hx hb d_DiscMakerModel_components_151 (by decide) ?_
                  refine lv_iadd hx hb d_DiscMakerModel_components_152 ?_
                  refine lv_topi (fun v51 e_v51 => ?_)
                  have t_v51 : v51.toInt = v50.toInt + 1 := by rw [e_v51]; exact i_add rfl (by decide) (by omega) (by omega)
                  refine va_bald hx hb hK hP 2 0 rfl rfl (vp_in_iff.mpr ⟨by omega, by omega⟩) d_DiscMakerModel_components_153 ?_
                  refine lv_topi (fun v52 e_v52 => ?_)
                  have c_v52 := i_cl (a := v51) (by omega)
                  have e2_v52 : v52 = fT (200 * x.toNatClampNeg + (lp.toNatClampNeg + 1)) := by rw [e_v52, show v51.toNatClampNeg = 200 * x.toNatClampNeg + (lp.toNatClampNeg + 1) by omega]
                  have qtv52 : (tgF fT x.toNatClampNeg ((lp.toNatClampNeg + 1))).toInt = v52.toInt := by unfold tgF; rw [e2_v52]
                  refine lv_bipush (v := 46) hx hb d_DiscMakerModel_components_154 (by decide) ?_
                  refine lv_icmp_ne (tgt := 163) hx hb d_DiscMakerModel_components_156 (by decide) (fun h_9 => ?_) (fun h_9 => ?_)
                  · skip
                    have g156_209 : ¬ v52.toInt = 46 := fun h8 => h_9 ((i_eq rfl (by decide)).mpr h8)
                    refine lv_iconst (v := 0) hx hb d_DiscMakerModel_components_163 (by decide) ?_
                    refine lv_istore hx hb d_DiscMakerModel_components_164 hl (by decide) rfl (fun ls hl => ?_)
                    have hl : lv_has ls 10 [(7, .int 0), (0, .ref h0), (1, .int x), (2, .int y), (3, .int v1), (4, .int al), (5, .int lp), (6, .int lq)] := hl
                    refine lv_iload hx hb d_DiscMakerModel_components_166 (lv_at hl 0 rfl) ?_
                    refine lv_if_ne (tgt := 179) hx hb d_DiscMakerModel_components_168 (by decide) (fun h_9 => absurd (by decide) h_9) (fun _ => ?_)
                    refine lv_iload hx hb d_DiscMakerModel_components_171 (lv_at hl 7 rfl) ?_
                    refine lv_iload hx hb d_DiscMakerModel_components_173 (lv_at hl 6 rfl) ?_
                    refine lv_isub hx hb d_DiscMakerModel_components_175 ?_
                    refine lv_topi (fun v53 e_v53 => ?_)
                    have t_v53 : v53.toInt = lq.toInt - lp.toInt := by rw [e_v53]; exact i_sub rfl rfl (by omega) (by omega)
                    refine lv_goto (tgt := 180) hx hb d_DiscMakerModel_components_176 (by decide) ?_
                    refine lv_istore hx hb d_DiscMakerModel_components_180 hl (by decide) rfl (fun ls hl => ?_)
                    have hl : lv_has ls 10 [(8, .int v53), (7, .int 0), (0, .ref h0), (1, .int x), (2, .int y), (3, .int v1), (4, .int al), (5, .int lp), (6, .int lq)] := hl
                    refine lv_iload hx hb d_DiscMakerModel_components_182 (lv_at hl 8 rfl) ?_
                    refine lv_iload hx hb d_DiscMakerModel_components_184 (lv_at hl 7 rfl) ?_
                    refine lv_icmp_le (tgt := 258) hx hb d_DiscMakerModel_components_186 (by decide) (fun h_9 => ?_) (fun h_9 => ?_)
                    · skip
                      have g186_221 : lq.toInt ≤ lp.toInt := (i_le rfl rfl).mp h_9
                      refine lv_iload hx hb d_DiscMakerModel_components_258 (lv_at hl 8 rfl) ?_
                      refine lv_iconst (v := 1) hx hb d_DiscMakerModel_components_260 (by decide) ?_
                      refine lv_iadd hx hb d_DiscMakerModel_components_261 ?_
                      refine lv_topi (fun v54 e_v54 => ?_)
                      have t_v54 : v54.toInt = lq.toInt + 1 := by rw [e_v54]; exact i_add rfl (by decide) (by omega) (by omega)
                      refine lv_istore hx hb d_DiscMakerModel_components_262 hl (by decide) rfl (fun ls hl => ?_)
                      have hl : lv_has ls 10 [(5, .int v54), (8, .int v53), (7, .int 0), (0, .ref h0), (1, .int x), (2, .int y), (3, .int v1), (4, .int al), (6, .int lq)] := hl
                      refine lv_goto (tgt := 41) hx hb d_DiscMakerModel_components_264 (by decide) ?_
                      have hP := hP.sub (ws' := [(h0, .inr (11, MO ma sv_thrown sv_length sv_nodes sv_many sv_directories sv_runsFrom sv_runs sv_read sv_wrong sv_isNamed sv_goes sv_goesSize sv_goesAt sv_targetParts sv_isRoot)), ((ma 16), .inl (cJ, 46080, .inr (.inl lF))), ((ma 10), .inl (cB, 8000, .inl fT)), ((ma 11), .inl (cI, 40, .inl fTS))]) [0, 1, 2, 3] rfl
                      have hD := hD.sub (ws' := [(h0, .inr (11, MO ma sv_thrown sv_length sv_nodes sv_many sv_directories sv_runsFrom sv_runs sv_read sv_wrong sv_isNamed sv_goes sv_goesSize sv_goesAt sv_targetParts sv_isRoot)), ((ma 16), .inl (cJ, 46080, .inr (.inl lF))), ((ma 10), .inl (cB, 8000, .inl fT)), ((ma 11), .inl (cI, 40, .inl fTS))]) [0, 1, 2, 3] (by decide) rfl
                      have hl := lv_sub hl [3, 4, 5, 6, 7, 0] rfl
                      exact ih41 (_) (by first | omega | (dsimp only; omega)) _ _ _ _ ⟨al, v54, lF, rfl, rfl, (by (try dsimp only); first | assumption | omega | trivial), (by (try dsimp only); first | assumption | omega | trivial), (by have h0 := cmL_go (t := (tgF fT x.toNatClampNeg)) (n := (fTS x.toNatClampNeg).toInt.toNat) (p := lp.toNatClampNeg) (all := al.toNatClampNeg) (by omega); have h1 := i_cl (a := v54) (by omega); have h2 := i_cl (a := al) (by omega); rw [h81, f2] at h0; rw [show v54.toNatClampNeg = lq.toNatClampNeg + 1 by omega, show al.toNatClampNeg = al.toNatClampNeg + cbF (tgF fT x.toNatClampNeg) lp.toNatClampNeg lq.toNatClampNeg by omega]; exact h0.symm), hP, hD, hS, hl⟩
                    · skip
                      have g186_221 : ¬ lq.toInt ≤ lp.toInt := fun h8 => h_9 ((i_le rfl rfl).mpr h8)
                      refine lv_aload_n hx hb d_DiscMakerModel_components_189 rfl (lv_at hl 2 rfl) ?_
                      refine lv_iload_n hx hb d_DiscMakerModel_components_190 rfl (lv_at hl 4 rfl) ?_
                      refine lv_iload hx hb d_DiscMakerModel_components_191 (lv_at hl 6 rfl) ?_
                      refine lv_iload hx hb d_DiscMakerModel_components_193 (lv_at hl 1 rfl) ?_
                      refine lv_iload hx hb d_DiscMakerModel_components_195 (lv_at hl 0 rfl) ?_
                      have hPc := hP.sub (ws' := [(h0, .inr (11, MO ma sv_thrown sv_length sv_nodes sv_many sv_directories sv_runsFrom sv_runs sv_read sv_wrong sv_isNamed sv_goes sv_goesSize sv_goesAt sv_targetParts sv_isRoot)), ((ma 16), .inl (cJ, 46080, .inr (.inl lF)))]) [0, 1] rfl
                      have hDc := hD.sub (ws' := [(h0, .inr (11, MO ma sv_thrown sv_length sv_nodes sv_many sv_directories sv_runsFrom sv_runs sv_read sv_wrong sv_isNamed sv_goes sv_goesSize sv_goesAt sv_targetParts sv_isRoot)), ((ma 16), .inl (cJ, 46080, .inr (.inl lF)))]) [0, 1] (by decide) rfl
                      have hFc := va_free (wc := [(h0, .inr (11, MO ma sv_thrown sv_length sv_nodes sv_many sv_directories sv_runsFrom sv_runs sv_read sv_wrong sv_isNamed sv_goes sv_goesSize sv_goesAt sv_targetParts sv_isRoot)), ((ma 16), .inl (cJ, 46080, .inr (.inl lF)))]) hD hS hA [0, 1] rfl
                      have hkc : 0 ≤ 0 := by decide
                      have hks : 0 ≤ 0 := by decide
                      refine va_callv (va_runV (C := "DiscMakerModel") (As := [.int y, .int al, .int 0, .int v53]) (rest := []) ⟨hx, hb, hml, hown, hts⟩ (m_mark l D cB cI cJ cZ cN cF H.size h0 ma sv_thrown sv_length sv_nodes sv_many sv_directories sv_runsFrom sv_runs sv_read sv_wrong sv_isNamed sv_goes sv_goesSize sv_goesAt sv_targetParts sv_isRoot lF y al 0 v53 (by (try dsimp only); first | assumption | omega | trivial)) (cwV 4 hts (lg_goodV k1723 k1725 k78 k125 kc_DiscMakerModel_mark) rfl rfl rfl (by decide +kernel) ⟨Nat.le_of_ble_eq_true rfl, Nat.le_of_ble_eq_true rfl⟩) ⟨fun a U g mk q => by obtain ⟨q0, q1, qP, qK, qN, qD⟩ := q; exact ⟨q0, q1, qP, va_K.moved (u := U) (U := U.calling g mk a) (Vm.Alike.refl U.vm) qK, qN.calling, qD⟩, va_recv hK hP (ci := 11) (q0 := 0) rfl rfl, fun U hU hW => ⟨rfl, by rw [hU], by rw [hU]; exact hPc, va_K.moved hW.alike hK, NN.warm hW hN, hDc.weaken (fun _ _ _ _ => trivial)⟩⟩ rfl rfl hl.1 rfl (lv_room (Nat.le_of_ble_eq_true rfl)) d_DiscMakerModel_components_197 ⟨hkc, hks⟩) hS (fun q _ h => hFc q h) hFc (fun u t H1 locs ht hvm hp_r55 hB hz1 hk1 hS => ?_)
                      obtain ⟨G_56, rfl⟩ : ∃ z, z = u := ⟨_, rfl⟩
                      obtain ⟨hP1, hD1⟩ := hB
                      rw [ht] at hP1
                      obtain ⟨hP, hD⟩ := va_join (wr := [((ma 10), .inl (cB, 8000, .inl fT)), ((ma 11), .inl (cI, 40, .inl fTS))]) (w1 := [(h0, .inr (11, MO ma sv_thrown sv_length sv_nodes sv_many sv_directories sv_runsFrom sv_runs sv_read sv_wrong sv_isNamed sv_goes sv_goesSize sv_goesAt sv_targetParts sv_isRoot)), ((ma 16), .inl (cJ, 46080, .inr (.inl G_56)))]) hP hD [0, 1] [2, 3] rfl rfl (by decide) (by decide) hk1 hFc hP1 hD1
                      clear hPc hDc hFc hP1 hD1 hk1 hz1
                      generalize H1 = H at hP hS ⊢
                      have hP : va_P D CL [((ma 10), .inl (cB, 8000, .inl fT)), ((ma 11), .inl (cI, 40, .inl fTS)), (h0, .inr (11, MO ma sv_thrown sv_length sv_nodes sv_many sv_directories sv_runsFrom sv_runs sv_read sv_wrong sv_isNamed sv_goes sv_goesSize sv_goesAt sv_targetParts sv_isRoot)), ((ma 16), .inl (cJ, 46080, .inr (.inl G_56)))] H := hP
                      have hD : va_D A [((ma 10), .inl (cB, 8000, .inl fT)), ((ma 11), .inl (cI, 40, .inl fTS)), (h0, .inr (11, MO ma sv_thrown sv_length sv_nodes sv_many sv_directories sv_runsFrom sv_runs sv_read sv_wrong sv_isNamed sv_goes sv_goesSize sv_goesAt sv_targetParts sv_isRoot)), ((ma 16), .inl (cJ, 46080, .inr (.inl G_56)))] := hD
                      refine lv_iconst (v := 0) hx hb d_DiscMakerModel_components_200 (by decide) ?_
                      refine lv_istore hx hb d_DiscMakerModel_components_201 hl (by decide) rfl (fun ls hl => ?_)
                      have hl : lv_has ls 10 [(9, .int 0), (8, .int v53), (7, .int 0), (0, .ref h0), (1, .int x), (2, .int y), (3, .int v1), (4, .int al), (5, .int lp), (6, .int lq)] := hl
                      refine zz_lab (P := fun (lk : Nat) (H : Heap) (locs : List Loc) (ls : Array Slot) (stk : List Value) => ∃ (k9 : Int32) (nF : Nat → Int64) , lk = (201 - k9.toInt).toNat ∧ stk = [] ∧ (0 ≤ k9.toInt ∧ k9.toInt ≤ 200) ∧ va_P D CL [((ma 10), .inl (cB, 8000, .inl fT)), ((ma 11), .inl (cI, 40, .inl fTS)), (h0, .inr (11, MO ma sv_thrown sv_length sv_nodes sv_many sv_directories sv_runsFrom sv_runs sv_read sv_wrong sv_isNamed sv_goes sv_goesSize sv_goesAt sv_targetParts sv_isRoot)), ((ma 16), .inl (cJ, 46080, .inr (.inl nF)))] H ∧ va_D A [((ma 10), .inl (cB, 8000, .inl fT)), ((ma 11), .inl (cI, 40, .inl fTS)), (h0, .inr (11, MO ma sv_thrown sv_length sv_nodes sv_many sv_directories sv_runsFrom sv_runs sv_read sv_wrong sv_isNamed sv_goes sv_goesSize sv_goesAt sv_targetParts sv_isRoot)), ((ma 16), .inl (cJ, 46080, .inr (.inl nF)))] ∧ va_S A s.heap H locs ∧ lv_has ls 10 [(0, .ref h0), (1, .int x), (2, .int y), (3, .int v1), (4, .int al), (5, .int lp), (6, .int lq), (7, .int 0), (8, .int v53), (9, .int k9)]) 203 ?_ ?_
                      · skip
                        intro lk ih203 H locs ls stk hI
                        obtain ⟨k9, nF, hm203, rfl, f9, hP, hD, hS, hl⟩ := hI
                        refine lv_iload hx hb d_DiscMakerModel_components_203 (lv_at hl 9 rfl) ?_
                        refine lv_iload hx hb d_DiscMakerModel_components_205 (lv_at hl 8 rfl) ?_
                        refine lv_icmp_ge (tgt := 249) hx hb d_DiscMakerModel_components_207 (by decide) (fun h_9 => ?_) (fun h_9 => ?_)
                        · skip
                          have g207_238 : v53.toInt ≤ k9.toInt := (i_le rfl rfl).mp h_9
                          refine lv_iload hx hb d_DiscMakerModel_components_249 (lv_at hl 4 rfl) ?_
                          refine lv_iconst (v := 2) hx hb d_DiscMakerModel_components_251 (by decide) ?_
                          refine lv_iload hx hb d_DiscMakerModel_components_252 (lv_at hl 8 rfl) ?_
                          refine lv_iadd hx hb d_DiscMakerModel_components_254 ?_
                          refine lv_topi (fun v57 e_v57 => ?_)
                          have t_v57 : v57.toInt = 2 + v53.toInt := by rw [e_v57]; exact i_add (by decide) rfl (by omega) (by omega)
                          refine lv_iadd hx hb d_DiscMakerModel_components_255 ?_
                          refine lv_topi (fun v58 e_v58 => ?_)
                          have t_v58 : v58.toInt = al.toInt + v57.toInt := by rw [e_v58]; exact i_add rfl rfl (by omega) (by omega)
                          refine lv_istore hx hb d_DiscMakerModel_components_256 hl (by decide) rfl (fun ls hl => ?_)
                          have hl : lv_has ls 10 [(4, .int v58), (0, .ref h0), (1, .int x), (2, .int y), (3, .int v1), (5, .int lp), (6, .int lq), (7, .int 0), (8, .int v53), (9, .int k9)] := hl
                          refine lv_iload hx hb d_DiscMakerModel_components_258 (lv_at hl 6 rfl) ?_
                          refine lv_iconst (v := 1) hx hb d_DiscMakerModel_components_260 (by decide) ?_
                          refine lv_iadd hx hb d_DiscMakerModel_components_261 ?_
                          refine lv_topi (fun v59 e_v59 => ?_)
                          have t_v59 : v59.toInt = lq.toInt + 1 := by rw [e_v59]; exact i_add rfl (by decide) (by omega) (by omega)
                          refine lv_istore hx hb d_DiscMakerModel_components_262 hl (by decide) rfl (fun ls hl => ?_)
                          have hl : lv_has ls 10 [(5, .int v59), (4, .int v58), (0, .ref h0), (1, .int x), (2, .int y), (3, .int v1), (6, .int lq), (7, .int 0), (8, .int v53), (9, .int k9)] := hl
                          refine lv_goto (tgt := 41) hx hb d_DiscMakerModel_components_264 (by decide) ?_
                          have hP := hP.sub (ws' := [(h0, .inr (11, MO ma sv_thrown sv_length sv_nodes sv_many sv_directories sv_runsFrom sv_runs sv_read sv_wrong sv_isNamed sv_goes sv_goesSize sv_goesAt sv_targetParts sv_isRoot)), ((ma 16), .inl (cJ, 46080, .inr (.inl nF))), ((ma 10), .inl (cB, 8000, .inl fT)), ((ma 11), .inl (cI, 40, .inl fTS))]) [2, 3, 0, 1] rfl
                          have hD := hD.sub (ws' := [(h0, .inr (11, MO ma sv_thrown sv_length sv_nodes sv_many sv_directories sv_runsFrom sv_runs sv_read sv_wrong sv_isNamed sv_goes sv_goesSize sv_goesAt sv_targetParts sv_isRoot)), ((ma 16), .inl (cJ, 46080, .inr (.inl nF))), ((ma 10), .inl (cB, 8000, .inl fT)), ((ma 11), .inl (cI, 40, .inl fTS))]) [2, 3, 0, 1] (by decide) rfl
                          have hl := lv_sub hl [2, 3, 4, 5, 1, 0] rfl
                          exact ih41 (_) (by first | omega | (dsimp only; omega)) _ _ _ _ ⟨v58, v59, nF, rfl, rfl, (by (try dsimp only); first | assumption | omega | trivial), (by (try dsimp only); first | assumption | omega | trivial), (by have h0 := cmL_go (t := (tgF fT x.toNatClampNeg)) (n := (fTS x.toNatClampNeg).toInt.toNat) (p := lp.toNatClampNeg) (all := al.toNatClampNeg) (by omega); have h1 := i_cl (a := v59) (by omega); have h2 := i_cl (a := v58) (by omega); rw [h81, f2] at h0; rw [show v59.toNatClampNeg = lq.toNatClampNeg + 1 by omega, show v58.toNatClampNeg = al.toNatClampNeg + cbF (tgF fT x.toNatClampNeg) lp.toNatClampNeg lq.toNatClampNeg by omega]; exact h0.symm), hP, hD, hS, hl⟩
                        · skip
                          have g207_238 : ¬ v53.toInt ≤ k9.toInt := fun h8 => h_9 ((i_le rfl rfl).mpr h8)
                          refine lv_iload_n hx hb d_DiscMakerModel_components_210 rfl (lv_at hl 2 rfl) ?_
                          refine lv_if_lt (tgt := 249) hx hb d_DiscMakerModel_components_211 (by decide) (fun h_9 => ?_) (fun h_9 => ?_)
                          · skip
                            have g211_252 : y.toInt < 0 := (i_lt rfl (by decide)).mp h_9
                            refine lv_iload hx hb d_DiscMakerModel_components_249 (lv_at hl 4 rfl) ?_
                            refine lv_iconst (v := 2) hx hb d_DiscMakerModel_components_251 (by decide) ?_
                            refine lv_iload hx hb d_DiscMakerModel_components_252 (lv_at hl 8 rfl) ?_
                            refine lv_iadd hx hb d_DiscMakerModel_components_254 ?_
                            refine lv_topi (fun v60 e_v60 => ?_)
                            have t_v60 : v60.toInt = 2 + v53.toInt := by rw [e_v60]; exact i_add (by decide) rfl (by omega) (by omega)
                            refine lv_iadd hx hb d_DiscMakerModel_components_255 ?_
                            refine lv_topi (fun v61 e_v61 => ?_)
                            have t_v61 : v61.toInt = al.toInt + v60.toInt := by rw [e_v61]; exact i_add rfl rfl (by omega) (by omega)
                            refine lv_istore hx hb d_DiscMakerModel_components_256 hl (by decide) rfl (fun ls hl => ?_)
                            have hl : lv_has ls 10 [(4, .int v61), (0, .ref h0), (1, .int x), (2, .int y), (3, .int v1), (5, .int lp), (6, .int lq), (7, .int 0), (8, .int v53), (9, .int k9)] := hl
                            refine lv_iload hx hb d_DiscMakerModel_components_258 (lv_at hl 6 rfl) ?_
                            refine lv_iconst (v := 1) hx hb d_DiscMakerModel_components_260 (by decide) ?_
                            refine lv_iadd hx hb d_DiscMakerModel_components_261 ?_
                            refine lv_topi (fun v62 e_v62 => ?_)
                            have t_v62 : v62.toInt = lq.toInt + 1 := by rw [e_v62]; exact i_add rfl (by decide) (by omega) (by omega)
                            refine lv_istore hx hb d_DiscMakerModel_components_262 hl (by decide) rfl (fun ls hl => ?_)
                            have hl : lv_has ls 10 [(5, .int v62), (4, .int v61), (0, .ref h0), (1, .int x), (2, .int y), (3, .int v1), (6, .int lq), (7, .int 0), (8, .int v53), (9, .int k9)] := hl
                            refine lv_goto (tgt := 41) hx hb d_DiscMakerModel_components_264 (by decide) ?_
                            have hP := hP.sub (ws' := [(h0, .inr (11, MO ma sv_thrown sv_length sv_nodes sv_many sv_directories sv_runsFrom sv_runs sv_read sv_wrong sv_isNamed sv_goes sv_goesSize sv_goesAt sv_targetParts sv_isRoot)), ((ma 16), .inl (cJ, 46080, .inr (.inl nF))), ((ma 10), .inl (cB, 8000, .inl fT)), ((ma 11), .inl (cI, 40, .inl fTS))]) [2, 3, 0, 1] rfl
                            have hD := hD.sub (ws' := [(h0, .inr (11, MO ma sv_thrown sv_length sv_nodes sv_many sv_directories sv_runsFrom sv_runs sv_read sv_wrong sv_isNamed sv_goes sv_goesSize sv_goesAt sv_targetParts sv_isRoot)), ((ma 16), .inl (cJ, 46080, .inr (.inl nF))), ((ma 10), .inl (cB, 8000, .inl fT)), ((ma 11), .inl (cI, 40, .inl fTS))]) [2, 3, 0, 1] (by decide) rfl
                            have hl := lv_sub hl [2, 3, 4, 5, 1, 0] rfl
                            exact ih41 (_) (by first | omega | (dsimp only; omega)) _ _ _ _ ⟨v61, v62, nF, rfl, rfl, (by (try dsimp only); first | assumption | omega | trivial), (by (try dsimp only); first | assumption | omega | trivial), (by have h0 := cmL_go (t := (tgF fT x.toNatClampNeg)) (n := (fTS x.toNatClampNeg).toInt.toNat) (p := lp.toNatClampNeg) (all := al.toNatClampNeg) (by omega); have h1 := i_cl (a := v62) (by omega); have h2 := i_cl (a := v61) (by omega); rw [h81, f2] at h0; rw [show v62.toNatClampNeg = lq.toNatClampNeg + 1 by omega, show v61.toNatClampNeg = al.toNatClampNeg + cbF (tgF fT x.toNatClampNeg) lp.toNatClampNeg lq.toNatClampNeg by omega]; exact h0.symm), hP, hD, hS, hl⟩
                          · skip
                            have g211_252 : ¬ y.toInt < 0 := fun h8 => h_9 ((i_lt rfl (by decide)).mpr h8)
                            refine lv_aload_n hx hb d_DiscMakerModel_components_214 rfl (lv_at hl 0 rfl) ?_
                            refine lv_iload_n hx hb d_DiscMakerModel_components_215 rfl (lv_at hl 2 rfl) ?_
                            refine lv_iload hx hb d_DiscMakerModel_components_216 (lv_at hl 4 rfl) ?_
                            refine lv_iadd hx hb d_DiscMakerModel_components_218 ?_
                            refine lv_topi (fun v63 e_v63 => ?_)
                            have t_v63 : v63.toInt = y.toInt + al.toInt := by rw [e_v63]; exact i_add rfl rfl (by omega) (by omega)
                            refine lv_iconst (v := 2) hx hb d_DiscMakerModel_components_219 (by decide) ?_
                            refine lv_iadd hx hb d_DiscMakerModel_components_220 ?_
                            refine lv_topi (fun v64 e_v64 => ?_)
                            have t_v64 : v64.toInt = v63.toInt + 2 := by rw [e_v64]; exact i_add rfl (by decide) (by omega) (by omega)
                            refine lv_iload hx hb d_DiscMakerModel_components_221 (lv_at hl 9 rfl) ?_
                            refine lv_iadd hx hb d_DiscMakerModel_components_223 ?_
                            refine lv_topi (fun v65 e_v65 => ?_)
                            have t_v65 : v65.toInt = v64.toInt + k9.toInt := by rw [e_v65]; exact i_add rfl rfl (by omega) (by omega)
                            refine lv_aload_n hx hb d_DiscMakerModel_components_224 rfl (lv_at hl 0 rfl) ?_
                            refine va_get (D := D) (ci := 11) (v := .ref (ma 10)) (C := "DiscMakerModel") (T := F_DiscMakerModel) (N := 48) hx hb ht9 in_DiscMakerModel hown hK hP 2 rfl rfl 13 (by decide) (ht9 _ k1444) (fun _ h9 => h9) rfl d_DiscMakerModel_components_225 ?_
                            refine lv_sipush (v := 200) hx hb d_DiscMakerModel_components_228 (by decide) ?_
                            refine lv_iload_n hx hb d_DiscMakerModel_components_231 rfl (lv_at hl 1 rfl) ?_
                            refine lv_imul hx hb d_DiscMakerModel_components_232 ?_
                            refine lv_topi (fun v66 e_v66 => ?_)
                            have t_v66 : v66.toInt = 200 * x.toInt := by rw [e_v66]; exact i_mul (by decide) rfl (by omega) (by omega)
                            refine lv_iload hx hb d_DiscMakerModel_components_233 (lv_at hl 5 rfl) ?_
                            refine lv_iadd hx hb d_DiscMakerModel_components_235 ?_
                            refine lv_topi (fun v67 e_v67 => ?_)
                            have t_v67 : v67.toInt = v66.toInt + lp.toInt := by rw [e_v67]; exact i_add rfl rfl (by omega) (by omega)
                            refine lv_iload hx hb d_DiscMakerModel_components_236 (lv_at hl 9 rfl) ?_
                            refine lv_iadd hx hb d_DiscMakerModel_components_238 ?_
                            refine lv_topi (fun v68 e_v68 => ?_)
                            have t_v68 : v68.toInt = v67.toInt + k9.toInt := by rw [e_v68]; exact i_add rfl rfl (by omega) (by omega)
                            refine va_bald hx hb hK hP 0 0 rfl rfl (vp_in_iff.mpr ⟨by omega, by omega⟩) d_DiscMakerModel_components_239 ?_
                            refine lv_topi (fun v69 e_v69 => ?_)
                            have hPc := hP.sub (ws' := [(h0, .inr (11, MO ma sv_thrown sv_length sv_nodes sv_many sv_directories sv_runsFrom sv_runs sv_read sv_wrong sv_isNamed sv_goes sv_goesSize sv_goesAt sv_targetParts sv_isRoot)), ((ma 16), .inl (cJ, 46080, .inr (.inl nF)))]) [2, 3] rfl
                            have hDc := hD.sub (ws' := [(h0, .inr (11, MO ma sv_thrown sv_length sv_nodes sv_many sv_directories sv_runsFrom sv_runs sv_read sv_wrong sv_isNamed sv_goes sv_goesSize sv_goesAt sv_targetParts sv_isRoot)), ((ma 16), .inl (cJ, 46080, .inr (.inl nF)))]) [2, 3] (by decide) rfl
                            have hFc := va_free (wc := [(h0, .inr (11, MO ma sv_thrown sv_length sv_nodes sv_many sv_directories sv_runsFrom sv_runs sv_read sv_wrong sv_isNamed sv_goes sv_goesSize sv_goesAt sv_targetParts sv_isRoot)), ((ma 16), .inl (cJ, 46080, .inr (.inl nF)))]) hD hS hA [2, 3] rfl
                            have hkc : 0 ≤ 0 := by decide
                            have hks : 0 ≤ 0 := by decide
                            refine va_callv (va_runV (C := "DiscMakerModel") (As := [.int v65, .int v69]) (rest := []) ⟨hx, hb, hml, hown, hts⟩ (m_set l D cB cI cJ cZ cN cF H.size h0 ma sv_thrown sv_length sv_nodes sv_many sv_directories sv_runsFrom sv_runs sv_read sv_wrong sv_isNamed sv_goes sv_goesSize sv_goesAt sv_targetParts sv_isRoot nF v65 v69 (by (try dsimp only); first | assumption | omega | trivial) (by (try dsimp only); first | assumption | omega | trivial)) (cwV 2 hts (lg_goodV k1727 k1729 k79 k125 kc_DiscMakerModel_set) rfl rfl rfl (by decide +kernel) ⟨Nat.le_of_ble_eq_true rfl, Nat.le_of_ble_eq_true rfl⟩) ⟨fun a U g mk q => by obtain ⟨q0, q1, qP, qK, qN, qD⟩ := q; exact ⟨q0, q1, qP, va_K.moved (u := U) (U := U.calling g mk a) (Vm.Alike.refl U.vm) qK, qN.calling, qD⟩, va_recv hK hP (ci := 11) (q0 := 2) rfl rfl, fun U hU hW => ⟨rfl, by rw [hU], by rw [hU]; exact hPc, va_K.moved hW.alike hK, NN.warm hW hN, hDc.weaken (fun _ _ _ _ => trivial)⟩⟩ rfl rfl hl.1 rfl (lv_room (Nat.le_of_ble_eq_true rfl)) d_DiscMakerModel_components_240 ⟨hkc, hks⟩) hS (fun q _ h => hFc q h) hFc (fun u t H1 locs ht hvm hp_r70 hB hz1 hk1 hS => ?_)
                            obtain ⟨G_71, rfl⟩ : ∃ z, z = u := ⟨_, rfl⟩
                            obtain ⟨hP1, hD1⟩ := hB
                            rw [ht] at hP1
                            obtain ⟨hP, hD⟩ := va_join (wr := [((ma 10), .inl (cB, 8000, .inl fT)), ((ma 11), .inl (cI, 40, .inl fTS))]) (w1 := [(h0, .inr (11, MO ma sv_thrown sv_length sv_nodes sv_many sv_directories sv_runsFrom sv_runs sv_read sv_wrong sv_isNamed sv_goes sv_goesSize sv_goesAt sv_targetParts sv_isRoot)), ((ma 16), .inl (cJ, 46080, .inr (.inl G_71)))]) hP hD [2, 3] [0, 1] rfl rfl (by decide) (by decide) hk1 hFc hP1 hD1
                            clear hPc hDc hFc hP1 hD1 hk1 hz1
                            generalize H1 = H at hP hS ⊢
                            have hP : va_P D CL [((ma 10), .inl (cB, 8000, .inl fT)), ((ma 11), .inl (cI, 40, .inl fTS)), (h0, .inr (11, MO ma sv_thrown sv_length sv_nodes sv_many sv_directories sv_runsFrom sv_runs sv_read sv_wrong sv_isNamed sv_goes sv_goesSize sv_goesAt sv_targetParts sv_isRoot)), ((ma 16), .inl (cJ, 46080, .inr (.inl G_71)))] H := hP
                            have hD : va_D A [((ma 10), .inl (cB, 8000, .inl fT)), ((ma 11), .inl (cI, 40, .inl fTS)), (h0, .inr (11, MO ma sv_thrown sv_length sv_nodes sv_many sv_directories sv_runsFrom sv_runs sv_read sv_wrong sv_isNamed sv_goes sv_goesSize sv_goesAt sv_targetParts sv_isRoot)), ((ma 16), .inl (cJ, 46080, .inr (.inl G_71)))] := hD
                            obtain ⟨v72, e_v72⟩ : ∃ z : Int32, z = k9 + 1 := ⟨_, rfl⟩
                            refine lv_iinc (v := v72) hx hb d_DiscMakerModel_components_243 hl (k := 9) rfl e_v72.symm (by decide) rfl (fun ls hl => ?_)
                            have t_v72 : v72.toInt = k9.toInt + 1 := by rw [e_v72]; exact i_add rfl (by decide) (by omega) (by omega)
                            have hl : lv_has ls 10 [(9, .int v72), (0, .ref h0), (1, .int x), (2, .int y), (3, .int v1), (4, .int al), (5, .int lp), (6, .int lq), (7, .int 0), (8, .int v53)] := hl
                            refine lv_goto (tgt := 203) hx hb d_DiscMakerModel_components_246 (by decide) ?_
                            have hP := hP.sub (ws' := [((ma 10), .inl (cB, 8000, .inl fT)), ((ma 11), .inl (cI, 40, .inl fTS)), (h0, .inr (11, MO ma sv_thrown sv_length sv_nodes sv_many sv_directories sv_runsFrom sv_runs sv_read sv_wrong sv_isNamed sv_goes sv_goesSize sv_goesAt sv_targetParts sv_isRoot)), ((ma 16), .inl (cJ, 46080, .inr (.inl G_71)))]) [0, 1, 2, 3] rfl
                            have hD := hD.sub (ws' := [((ma 10), .inl (cB, 8000, .inl fT)), ((ma 11), .inl (cI, 40, .inl fTS)), (h0, .inr (11, MO ma sv_thrown sv_length sv_nodes sv_many sv_directories sv_runsFrom sv_runs sv_read sv_wrong sv_isNamed sv_goes sv_goesSize sv_goesAt sv_targetParts sv_isRoot)), ((ma 16), .inl (cJ, 46080, .inr (.inl G_71)))]) [0, 1, 2, 3] (by decide) rfl
                            have hl := lv_sub hl [1, 2, 3, 4, 5, 6, 7, 8, 9, 0] rfl
                            exact ih203 (_) (by first | omega | (dsimp only; omega)) _ _ _ _ ⟨v72, G_71, rfl, rfl, (by (try dsimp only); first | assumption | omega | trivial), hP, hD, hS, hl⟩
                      · skip
                        intro kk203
                        have hP := hP.sub (ws' := [((ma 10), .inl (cB, 8000, .inl fT)), ((ma 11), .inl (cI, 40, .inl fTS)), (h0, .inr (11, MO ma sv_thrown sv_length sv_nodes sv_many sv_directories sv_runsFrom sv_runs sv_read sv_wrong sv_isNamed sv_goes sv_goesSize sv_goesAt sv_targetParts sv_isRoot)), ((ma 16), .inl (cJ, 46080, .inr (.inl G_56)))]) [0, 1, 2, 3] rfl
                        have hD := hD.sub (ws' := [((ma 10), .inl (cB, 8000, .inl fT)), ((ma 11), .inl (cI, 40, .inl fTS)), (h0, .inr (11, MO ma sv_thrown sv_length sv_nodes sv_many sv_directories sv_runsFrom sv_runs sv_read sv_wrong sv_isNamed sv_goes sv_goesSize sv_goesAt sv_targetParts sv_isRoot)), ((ma 16), .inl (cJ, 46080, .inr (.inl G_56)))]) [0, 1, 2, 3] (by decide) rfl
                        have hl := lv_sub hl [3, 4, 5, 6, 7, 8, 9, 2, 1, 0] rfl
                        exact kk203 _ _ _ _ _ ⟨0, G_56, rfl, rfl, (by (try dsimp only); first | assumption | omega | trivial), hP, hD, hS, hl⟩
                  · skip
                    have g156_209 : v52.toInt = 46 := (i_eq rfl (by decide)).mp h_9
                    refine lv_iconst (v := 4) hx hb d_DiscMakerModel_components_159 (by decide) ?_
                    refine lv_goto (tgt := 164) hx hb d_DiscMakerModel_components_160 (by decide) ?_
                    refine lv_istore hx hb d_DiscMakerModel_components_164 hl (by decide) rfl (fun ls hl => ?_)
                    have hl : lv_has ls 10 [(7, .int 4), (0, .ref h0), (1, .int x), (2, .int y), (3, .int v1), (4, .int al), (5, .int lp), (6, .int lq)] := hl
                    refine lv_iload hx hb d_DiscMakerModel_components_166 (lv_at hl 0 rfl) ?_
                    refine lv_if_ne (tgt := 179) hx hb d_DiscMakerModel_components_168 (by decide) (fun _ => ?_) (fun h_9 => absurd h_9 (by decide))
                    refine lv_iconst (v := 0) hx hb d_DiscMakerModel_components_179 (by decide) ?_
                    refine lv_istore hx hb d_DiscMakerModel_components_180 hl (by decide) rfl (fun ls hl => ?_)
                    have hl : lv_has ls 10 [(8, .int 0), (7, .int 4), (0, .ref h0), (1, .int x), (2, .int y), (3, .int v1), (4, .int al), (5, .int lp), (6, .int lq)] := hl
                    refine lv_iload hx hb d_DiscMakerModel_components_182 (lv_at hl 8 rfl) ?_
                    refine lv_iload hx hb d_DiscMakerModel_components_184 (lv_at hl 7 rfl) ?_
                    refine lv_icmp_le (tgt := 258) hx hb d_DiscMakerModel_components_186 (by decide) (fun h_9 => ?_) (fun h_9 => ?_)
                    · skip
                      have g186_296 : lq.toInt ≤ lp.toInt := (i_le rfl rfl).mp h_9
                      refine lv_iload hx hb d_DiscMakerModel_components_258 (lv_at hl 8 rfl) ?_
                      refine lv_iconst (v := 1) hx hb d_DiscMakerModel_components_260 (by decide) ?_
                      refine lv_iadd hx hb d_DiscMakerModel_components_261 ?_
                      refine lv_topi (fun v73 e_v73 => ?_)
                      have t_v73 : v73.toInt = lq.toInt + 1 := by rw [e_v73]; exact i_add rfl (by decide) (by omega) (by omega)
                      refine lv_istore hx hb d_DiscMakerModel_components_262 hl (by decide) rfl (fun ls hl => ?_)
                      have hl : lv_has ls 10 [(5, .int v73), (8, .int 0), (7, .int 4), (0, .ref h0), (1, .int x), (2, .int y), (3, .int v1), (4, .int al), (6, .int lq)] := hl
                      refine lv_goto (tgt := 41) hx hb d_DiscMakerModel_components_264 (by decide) ?_
                      have hP := hP.sub (ws' := [(h0, .inr (11, MO ma sv_thrown sv_length sv_nodes sv_many sv_directories sv_runsFrom sv_runs sv_read sv_wrong sv_isNamed sv_goes sv_goesSize sv_goesAt sv_targetParts sv_isRoot)), ((ma 16), .inl (cJ, 46080, .inr (.inl lF))), ((ma 10), .inl (cB, 8000, .inl fT)), ((ma 11), .inl (cI, 40, .inl fTS))]) [0, 1, 2, 3] rfl
                      have hD := hD.sub (ws' := [(h0, .inr (11, MO ma sv_thrown sv_length sv_nodes sv_many sv_directories sv_runsFrom sv_runs sv_read sv_wrong sv_isNamed sv_goes sv_goesSize sv_goesAt sv_targetParts sv_isRoot)), ((ma 16), .inl (cJ, 46080, .inr (.inl lF))), ((ma 10), .inl (cB, 8000, .inl fT)), ((ma 11), .inl (cI, 40, .inl fTS))]) [0, 1, 2, 3] (by decide) rfl
                      have hl := lv_sub hl [3, 4, 5, 6, 7, 0] rfl
                      exact ih41 (_) (by first | omega | (dsimp only; omega)) _ _ _ _ ⟨al, v73, lF, rfl, rfl, (by (try dsimp only); first | assumption | omega | trivial), (by (try dsimp only); first | assumption | omega | trivial), (by have h0 := cmL_go (t := (tgF fT x.toNatClampNeg)) (n := (fTS x.toNatClampNeg).toInt.toNat) (p := lp.toNatClampNeg) (all := al.toNatClampNeg) (by omega); have h1 := i_cl (a := v73) (by omega); have h2 := i_cl (a := al) (by omega); rw [h81, f2] at h0; rw [show v73.toNatClampNeg = lq.toNatClampNeg + 1 by omega, show al.toNatClampNeg = al.toNatClampNeg + cbF (tgF fT x.toNatClampNeg) lp.toNatClampNeg lq.toNatClampNeg by omega]; exact h0.symm), hP, hD, hS, hl⟩
                    · skip
                      have g186_296 : ¬ lq.toInt ≤ lp.toInt := fun h8 => h_9 ((i_le rfl rfl).mpr h8)
                      refine lv_aload_n hx hb d_DiscMakerModel_components_189 rfl (lv_at hl 2 rfl) ?_
                      refine lv_iload_n hx hb d_DiscMakerModel_components_190 rfl (lv_at hl 4 rfl) ?_
                      refine lv_iload hx hb d_DiscMakerModel_components_191 (lv_at hl 6 rfl) ?_
                      refine lv_iload hx hb d_DiscMakerModel_components_193 (lv_at hl 1 rfl) ?_
                      refine lv_iload hx hb d_DiscMakerModel_components_195 (lv_at hl 0 rfl) ?_
                      have hPc := hP.sub (ws' := [(h0, .inr (11, MO ma sv_thrown sv_length sv_nodes sv_many sv_directories sv_runsFrom sv_runs sv_read sv_wrong sv_isNamed sv_goes sv_goesSize sv_goesAt sv_targetParts sv_isRoot)), ((ma 16), .inl (cJ, 46080, .inr (.inl lF)))]) [0, 1] rfl
                      have hDc := hD.sub (ws' := [(h0, .inr (11, MO ma sv_thrown sv_length sv_nodes sv_many sv_directories sv_runsFrom sv_runs sv_read sv_wrong sv_isNamed sv_goes sv_goesSize sv_goesAt sv_targetParts sv_isRoot)), ((ma 16), .inl (cJ, 46080, .inr (.inl lF)))]) [0, 1] (by decide) rfl
                      have hFc := va_free (wc := [(h0, .inr (11, MO ma sv_thrown sv_length sv_nodes sv_many sv_directories sv_runsFrom sv_runs sv_read sv_wrong sv_isNamed sv_goes sv_goesSize sv_goesAt sv_targetParts sv_isRoot)), ((ma 16), .inl (cJ, 46080, .inr (.inl lF)))]) hD hS hA [0, 1] rfl
                      have hkc : 0 ≤ 0 := by decide
                      have hks : 0 ≤ 0 := by decide
                      refine va_callv (va_runV (C := "DiscMakerModel") (As := [.int y, .int al, .int 4, .int 0]) (rest := []) ⟨hx, hb, hml, hown, hts⟩ (m_mark l D cB cI cJ cZ cN cF H.size h0 ma sv_thrown sv_length sv_nodes sv_many sv_directories sv_runsFrom sv_runs sv_read sv_wrong sv_isNamed sv_goes sv_goesSize sv_goesAt sv_targetParts sv_isRoot lF y al 4 0 (by (try dsimp only); first | assumption | omega | trivial)) (cwV 4 hts (lg_goodV k1723 k1725 k78 k125 kc_DiscMakerModel_mark) rfl rfl rfl (by decide +kernel) ⟨Nat.le_of_ble_eq_true rfl, Nat.le_of_ble_eq_true rfl⟩) ⟨fun a U g mk q => by obtain ⟨q0, q1, qP, qK, qN, qD⟩ := q; exact ⟨q0, q1, qP, va_K.moved (u := U) (U := U.calling g mk a) (Vm.Alike.refl U.vm) qK, qN.calling, qD⟩, va_recv hK hP (ci := 11) (q0 := 0) rfl rfl, fun U hU hW => ⟨rfl, by rw [hU], by rw [hU]; exact hPc, va_K.moved hW.alike hK, NN.warm hW hN, hDc.weaken (fun _ _ _ _ => trivial)⟩⟩ rfl rfl hl.1 rfl (lv_room (Nat.le_of_ble_eq_true rfl)) d_DiscMakerModel_components_197 ⟨hkc, hks⟩) hS (fun q _ h => hFc q h) hFc (fun u t H1 locs ht hvm hp_r74 hB hz1 hk1 hS => ?_)
                      obtain ⟨G_75, rfl⟩ : ∃ z, z = u := ⟨_, rfl⟩
                      obtain ⟨hP1, hD1⟩ := hB
                      rw [ht] at hP1
                      obtain ⟨hP, hD⟩ := va_join (wr := [((ma 10), .inl (cB, 8000, .inl fT)), ((ma 11), .inl (cI, 40, .inl fTS))]) (w1 := [(h0, .inr (11, MO ma sv_thrown sv_length sv_nodes sv_many sv_directories sv_runsFrom sv_runs sv_read sv_wrong sv_isNamed sv_goes sv_goesSize sv_goesAt sv_targetParts sv_isRoot)), ((ma 16), .inl (cJ, 46080, .inr (.inl G_75)))]) hP hD [0, 1] [2, 3] rfl rfl (by decide) (by decide) hk1 hFc hP1 hD1
                      clear hPc hDc hFc hP1 hD1 hk1 hz1
                      generalize H1 = H at hP hS ⊢
                      have hP : va_P D CL [((ma 10), .inl (cB, 8000, .inl fT)), ((ma 11), .inl (cI, 40, .inl fTS)), (h0, .inr (11, MO ma sv_thrown sv_length sv_nodes sv_many sv_directories sv_runsFrom sv_runs sv_read sv_wrong sv_isNamed sv_goes sv_goesSize sv_goesAt sv_targetParts sv_isRoot)), ((ma 16), .inl (cJ, 46080, .inr (.inl G_75)))] H := hP
                      have hD : va_D A [((ma 10), .inl (cB, 8000, .inl fT)), ((ma 11), .inl (cI, 40, .inl fTS)), (h0, .inr (11, MO ma sv_thrown sv_length sv_nodes sv_many sv_directories sv_runsFrom sv_runs sv_read sv_wrong sv_isNamed sv_goes sv_goesSize sv_goesAt sv_targetParts sv_isRoot)), ((ma 16), .inl (cJ, 46080, .inr (.inl G_75)))] := hD
                      refine lv_iconst (v := 0) hx hb d_DiscMakerModel_components_200 (by decide) ?_
                      refine lv_istore hx hb d_DiscMakerModel_components_201 hl (by decide) rfl (fun ls hl => ?_)
                      have hl : lv_has ls 10 [(9, .int 0), (8, .int 0), (7, .int 4), (0, .ref h0), (1, .int x), (2, .int y), (3, .int v1), (4, .int al), (5, .int lp), (6, .int lq)] := hl
                      refine zz_lab (P := fun (lk : Nat) (H : Heap) (locs : List Loc) (ls : Array Slot) (stk : List Value) => ∃ (k9 : Int32) (nF : Nat → Int64) , lk = (201 - k9.toInt).toNat ∧ stk = [] ∧ (0 ≤ k9.toInt ∧ k9.toInt ≤ 200) ∧ va_P D CL [((ma 10), .inl (cB, 8000, .inl fT)), ((ma 11), .inl (cI, 40, .inl fTS)), (h0, .inr (11, MO ma sv_thrown sv_length sv_nodes sv_many sv_directories sv_runsFrom sv_runs sv_read sv_wrong sv_isNamed sv_goes sv_goesSize sv_goesAt sv_targetParts sv_isRoot)), ((ma 16), .inl (cJ, 46080, .inr (.inl nF)))] H ∧ va_D A [((ma 10), .inl (cB, 8000, .inl fT)), ((ma 11), .inl (cI, 40, .inl fTS)), (h0, .inr (11, MO ma sv_thrown sv_length sv_nodes sv_many sv_directories sv_runsFrom sv_runs sv_read sv_wrong sv_isNamed sv_goes sv_goesSize sv_goesAt sv_targetParts sv_isRoot)), ((ma 16), .inl (cJ, 46080, .inr (.inl nF)))] ∧ va_S A s.heap H locs ∧ lv_has ls 10 [(0, .ref h0), (1, .int x), (2, .int y), (3, .int v1), (4, .int al), (5, .int lp), (6, .int lq), (7, .int 4), (8, .int 0), (9, .int k9)]) 203 ?_ ?_
                      · skip
                        intro lk ih203 H locs ls stk hI
                        obtain ⟨k9, nF, hm203, rfl, f9, hP, hD, hS, hl⟩ := hI
                        refine lv_iload hx hb d_DiscMakerModel_components_203 (lv_at hl 9 rfl) ?_
                        refine lv_iload hx hb d_DiscMakerModel_components_205 (lv_at hl 8 rfl) ?_
                        refine lv_icmp_ge (tgt := 249) hx hb d_DiscMakerModel_components_207 (by decide) (fun h_9 => ?_) (fun h_9 => ?_)
                        · skip
                          have g207_313 : 0 ≤ k9.toInt := (i_le (by decide) rfl).mp h_9
                          refine lv_iload hx hb d_DiscMakerModel_components_249 (lv_at hl 4 rfl) ?_
                          refine lv_iconst (v := 2) hx hb d_DiscMakerModel_components_251 (by decide) ?_
                          refine lv_iload hx hb d_DiscMakerModel_components_252 (lv_at hl 8 rfl) ?_
                          refine lv_iadd hx hb d_DiscMakerModel_components_254 ?_
                          refine W.eq (g2 := F0 m 255 ls [.int 2, .int al]) (by rw [show ((2 : Int32) + 0) = 2 from by decide]) ?_
                          refine lv_iadd hx hb d_DiscMakerModel_components_255 ?_
                          refine lv_topi (fun v76 e_v76 => ?_)
                          have t_v76 : v76.toInt = al.toInt + 2 := by rw [e_v76]; exact i_add rfl (by decide) (by omega) (by omega)
                          refine lv_istore hx hb d_DiscMakerModel_components_256 hl (by decide) rfl (fun ls hl => ?_)
                          have hl : lv_has ls 10 [(4, .int v76), (0, .ref h0), (1, .int x), (2, .int y), (3, .int v1), (5, .int lp), (6, .int lq), (7, .int 4), (8, .int 0), (9, .int k9)] := hl
                          refine lv_iload hx hb d_DiscMakerModel_components_258 (lv_at hl 6 rfl) ?_
                          refine lv_iconst (v := 1) hx hb d_DiscMakerModel_components_260 (by decide) ?_
                          refine lv_iadd hx hb d_DiscMakerModel_components_261 ?_
                          refine lv_topi (fun v77 e_v77 => ?_)
                          have t_v77 : v77.toInt = lq.toInt + 1 := by rw [e_v77]; exact i_add rfl (by decide) (by omega) (by omega)
                          refine lv_istore hx hb d_DiscMakerModel_components_262 hl (by decide) rfl (fun ls hl => ?_)
                          have hl : lv_has ls 10 [(5, .int v77), (4, .int v76), (0, .ref h0), (1, .int x), (2, .int y), (3, .int v1), (6, .int lq), (7, .int 4), (8, .int 0), (9, .int k9)] := hl
                          refine lv_goto (tgt := 41) hx hb d_DiscMakerModel_components_264 (by decide) ?_
                          have hP := hP.sub (ws' := [(h0, .inr (11, MO ma sv_thrown sv_length sv_nodes sv_many sv_directories sv_runsFrom sv_runs sv_read sv_wrong sv_isNamed sv_goes sv_goesSize sv_goesAt sv_targetParts sv_isRoot)), ((ma 16), .inl (cJ, 46080, .inr (.inl nF))), ((ma 10), .inl (cB, 8000, .inl fT)), ((ma 11), .inl (cI, 40, .inl fTS))]) [2, 3, 0, 1] rfl
                          have hD := hD.sub (ws' := [(h0, .inr (11, MO ma sv_thrown sv_length sv_nodes sv_many sv_directories sv_runsFrom sv_runs sv_read sv_wrong sv_isNamed sv_goes sv_goesSize sv_goesAt sv_targetParts sv_isRoot)), ((ma 16), .inl (cJ, 46080, .inr (.inl nF))), ((ma 10), .inl (cB, 8000, .inl fT)), ((ma 11), .inl (cI, 40, .inl fTS))]) [2, 3, 0, 1] (by decide) rfl
                          have hl := lv_sub hl [2, 3, 4, 5, 1, 0] rfl
                          exact ih41 (_) (by first | omega | (dsimp only; omega)) _ _ _ _ ⟨v76, v77, nF, rfl, rfl, (by (try dsimp only); first | assumption | omega | trivial), (by (try dsimp only); first | assumption | omega | trivial), (by have h0 := cmL_go (t := (tgF fT x.toNatClampNeg)) (n := (fTS x.toNatClampNeg).toInt.toNat) (p := lp.toNatClampNeg) (all := al.toNatClampNeg) (by omega); have h1 := i_cl (a := v77) (by omega); have h2 := i_cl (a := v76) (by omega); rw [h81, f2] at h0; rw [show v77.toNatClampNeg = lq.toNatClampNeg + 1 by omega, show v76.toNatClampNeg = al.toNatClampNeg + cbF (tgF fT x.toNatClampNeg) lp.toNatClampNeg lq.toNatClampNeg by omega]; exact h0.symm), hP, hD, hS, hl⟩
                        · skip
                          have g207_313 : ¬ 0 ≤ k9.toInt := fun h8 => h_9 ((i_le (by decide) rfl).mpr h8)
                          refine lv_iload_n hx hb d_DiscMakerModel_components_210 rfl (lv_at hl 2 rfl) ?_
                          refine lv_if_lt (tgt := 249) hx hb d_DiscMakerModel_components_211 (by decide) (fun h_9 => ?_) (fun h_9 => ?_)
                          · skip
                            have g211_327 : y.toInt < 0 := (i_lt rfl (by decide)).mp h_9
                            refine lv_iload hx hb d_DiscMakerModel_components_249 (lv_at hl 4 rfl) ?_
                            refine lv_iconst (v := 2) hx hb d_DiscMakerModel_components_251 (by decide) ?_
                            refine lv_iload hx hb d_DiscMakerModel_components_252 (lv_at hl 8 rfl) ?_
                            refine lv_iadd hx hb d_DiscMakerModel_components_254 ?_
                            refine W.eq (g2 := F0 m 255 ls [.int 2, .int al]) (by rw [show ((2 : Int32) + 0) = 2 from by decide]) ?_
                            refine lv_iadd hx hb d_DiscMakerModel_components_255 ?_
                            refine lv_topi (fun v78 e_v78 => ?_)
                            have t_v78 : v78.toInt = al.toInt + 2 := by rw [e_v78]; exact i_add rfl (by decide) (by omega) (by omega)
                            refine lv_istore hx hb d_DiscMakerModel_components_256 hl (by decide) rfl (fun ls hl => ?_)
                            have hl : lv_has ls 10 [(4, .int v78), (0, .ref h0), (1, .int x), (2, .int y), (3, .int v1), (5, .int lp), (6, .int lq), (7, .int 4), (8, .int 0), (9, .int k9)] := hl
                            refine lv_iload hx hb d_DiscMakerModel_components_258 (lv_at hl 6 rfl) ?_
                            refine lv_iconst (v := 1) hx hb d_DiscMakerModel_components_260 (by decide) ?_
                            refine lv_iadd hx hb d_DiscMakerModel_components_261 ?_
                            refine lv_topi (fun v79 e_v79 => ?_)
                            have t_v79 : v79.toInt = lq.toInt + 1 := by rw [e_v79]; exact i_add rfl (by decide) (by omega) (by omega)
                            refine lv_istore hx hb d_DiscMakerModel_components_262 hl (by decide) rfl (fun ls hl => ?_)
                            have hl : lv_has ls 10 [(5, .int v79), (4, .int v78), (0, .ref h0), (1, .int x), (2, .int y), (3, .int v1), (6, .int lq), (7, .int 4), (8, .int 0), (9, .int k9)] := hl
                            refine lv_goto (tgt := 41) hx hb d_DiscMakerModel_components_264 (by decide) ?_
                            have hP := hP.sub (ws' := [(h0, .inr (11, MO ma sv_thrown sv_length sv_nodes sv_many sv_directories sv_runsFrom sv_runs sv_read sv_wrong sv_isNamed sv_goes sv_goesSize sv_goesAt sv_targetParts sv_isRoot)), ((ma 16), .inl (cJ, 46080, .inr (.inl nF))), ((ma 10), .inl (cB, 8000, .inl fT)), ((ma 11), .inl (cI, 40, .inl fTS))]) [2, 3, 0, 1] rfl
                            have hD := hD.sub (ws' := [(h0, .inr (11, MO ma sv_thrown sv_length sv_nodes sv_many sv_directories sv_runsFrom sv_runs sv_read sv_wrong sv_isNamed sv_goes sv_goesSize sv_goesAt sv_targetParts sv_isRoot)), ((ma 16), .inl (cJ, 46080, .inr (.inl nF))), ((ma 10), .inl (cB, 8000, .inl fT)), ((ma 11), .inl (cI, 40, .inl fTS))]) [2, 3, 0, 1] (by decide) rfl
                            have hl := lv_sub hl [2, 3, 4, 5, 1, 0] rfl
                            exact ih41 (_) (by first | omega | (dsimp only; omega)) _ _ _ _ ⟨v78, v79, nF, rfl, rfl, (by (try dsimp only); first | assumption | omega | trivial), (by (try dsimp only); first | assumption | omega | trivial), (by have h0 := cmL_go (t := (tgF fT x.toNatClampNeg)) (n := (fTS x.toNatClampNeg).toInt.toNat) (p := lp.toNatClampNeg) (all := al.toNatClampNeg) (by omega); have h1 := i_cl (a := v79) (by omega); have h2 := i_cl (a := v78) (by omega); rw [h81, f2] at h0; rw [show v79.toNatClampNeg = lq.toNatClampNeg + 1 by omega, show v78.toNatClampNeg = al.toNatClampNeg + cbF (tgF fT x.toNatClampNeg) lp.toNatClampNeg lq.toNatClampNeg by omega]; exact h0.symm), hP, hD, hS, hl⟩
                          · skip
                            have g211_327 : ¬ y.toInt < 0 := fun h8 => h_9 ((i_lt rfl (by decide)).mpr h8)
                            refine lv_aload_n hx hb d_DiscMakerModel_components_214 rfl (lv_at hl 0 rfl) ?_
                            refine lv_iload_n hx hb d_DiscMakerModel_components_215 rfl (lv_at hl 2 rfl) ?_
                            refine lv_iload hx hb d_DiscMakerModel_components_216 (lv_at hl 4 rfl) ?_
                            refine lv_iadd hx hb d_DiscMakerModel_components_218 ?_
                            refine lv_topi (fun v80 e_v80 => ?_)
                            have t_v80 : v80.toInt = y.toInt + al.toInt := by rw [e_v80]; exact i_add rfl rfl (by omega) (by omega)
                            refine lv_iconst (v := 2) hx hb d_DiscMakerModel_components_219 (by decide) ?_
                            refine lv_iadd hx hb d_DiscMakerModel_components_220 ?_
                            refine lv_topi (fun v81 e_v81 => ?_)
                            have t_v81 : v81.toInt = v80.toInt + 2 := by rw [e_v81]; exact i_add rfl (by decide) (by omega) (by omega)
                            refine lv_iload hx hb d_DiscMakerModel_components_221 (lv_at hl 9 rfl) ?_
                            refine lv_iadd hx hb d_DiscMakerModel_components_223 ?_
                            refine lv_topi (fun v82 e_v82 => ?_)
                            have t_v82 : v82.toInt = v81.toInt + k9.toInt := by rw [e_v82]; exact i_add rfl rfl (by omega) (by omega)
                            refine lv_aload_n hx hb d_DiscMakerModel_components_224 rfl (lv_at hl 0 rfl) ?_
                            refine va_get (D := D) (ci := 11) (v := .ref (ma 10)) (C := "DiscMakerModel") (T := F_DiscMakerModel) (N := 48) hx hb ht9 in_DiscMakerModel hown hK hP 2 rfl rfl 13 (by decide) (ht9 _ k1444) (fun _ h9 => h9) rfl d_DiscMakerModel_components_225 ?_
                            refine lv_sipush (v := 200) hx hb d_DiscMakerModel_components_228 (by decide) ?_
                            refine lv_iload_n hx hb d_DiscMakerModel_components_231 rfl (lv_at hl 1 rfl) ?_
                            refine lv_imul hx hb d_DiscMakerModel_components_232 ?_
                            refine lv_topi (fun v83 e_v83 => ?_)
                            have t_v83 : v83.toInt = 200 * x.toInt := by rw [e_v83]; exact i_mul (by decide) rfl (by omega) (by omega)
                            refine lv_iload hx hb d_DiscMakerModel_components_233 (lv_at hl 5 rfl) ?_
                            refine lv_iadd hx hb d_DiscMakerModel_components_235 ?_
                            refine lv_topi (fun v84 e_v84 => ?_)
                            have t_v84 : v84.toInt = v83.toInt + lp.toInt := by rw [e_v84]; exact i_add rfl rfl (by omega) (by omega)
                            refine lv_iload hx hb d_DiscMakerModel_components_236 (lv_at hl 9 rfl) ?_
                            refine lv_iadd hx hb d_DiscMakerModel_components_238 ?_
                            refine lv_topi (fun v85 e_v85 => ?_)
                            have t_v85 : v85.toInt = v84.toInt + k9.toInt := by rw [e_v85]; exact i_add rfl rfl (by omega) (by omega)
                            refine va_bald hx hb hK hP 0 0 rfl rfl (vp_in_iff.mpr ⟨by omega, by omega⟩) d_DiscMakerModel_components_239 ?_
                            refine lv_topi (fun v86 e_v86 => ?_)
                            have hPc := hP.sub (ws' := [(h0, .inr (11, MO ma sv_thrown sv_length sv_nodes sv_many sv_directories sv_runsFrom sv_runs sv_read sv_wrong sv_isNamed sv_goes sv_goesSize sv_goesAt sv_targetParts sv_isRoot)), ((ma 16), .inl (cJ, 46080, .inr (.inl nF)))]) [2, 3] rfl
                            have hDc := hD.sub (ws' := [(h0, .inr (11, MO ma sv_thrown sv_length sv_nodes sv_many sv_directories sv_runsFrom sv_runs sv_read sv_wrong sv_isNamed sv_goes sv_goesSize sv_goesAt sv_targetParts sv_isRoot)), ((ma 16), .inl (cJ, 46080, .inr (.inl nF)))]) [2, 3] (by decide) rfl
                            have hFc := va_free (wc := [(h0, .inr (11, MO ma sv_thrown sv_length sv_nodes sv_many sv_directories sv_runsFrom sv_runs sv_read sv_wrong sv_isNamed sv_goes sv_goesSize sv_goesAt sv_targetParts sv_isRoot)), ((ma 16), .inl (cJ, 46080, .inr (.inl nF)))]) hD hS hA [2, 3] rfl
                            have hkc : 0 ≤ 0 := by decide
                            have hks : 0 ≤ 0 := by decide
                            refine va_callv (va_runV (C := "DiscMakerModel") (As := [.int v82, .int v86]) (rest := []) ⟨hx, hb, hml, hown, hts⟩ (m_set l D cB cI cJ cZ cN cF H.size h0 ma sv_thrown sv_length sv_nodes sv_many sv_directories sv_runsFrom sv_runs sv_read sv_wrong sv_isNamed sv_goes sv_goesSize sv_goesAt sv_targetParts sv_isRoot nF v82 v86 (by (try dsimp only); first | assumption | omega | trivial) (by (try dsimp only); first | assumption | omega | trivial)) (cwV 2 hts (lg_goodV k1727 k1729 k79 k125 kc_DiscMakerModel_set) rfl rfl rfl (by decide +kernel) ⟨Nat.le_of_ble_eq_true rfl, Nat.le_of_ble_eq_true rfl⟩) ⟨fun a U g mk q => by obtain ⟨q0, q1, qP, qK, qN, qD⟩ := q; exact ⟨q0, q1, qP, va_K.moved (u := U) (U := U.calling g mk a) (Vm.Alike.refl U.vm) qK, qN.calling, qD⟩, va_recv hK hP (ci := 11) (q0 := 2) rfl rfl, fun U hU hW => ⟨rfl, by rw [hU], by rw [hU]; exact hPc, va_K.moved hW.alike hK, NN.warm hW hN, hDc.weaken (fun _ _ _ _ => trivial)⟩⟩ rfl rfl hl.1 rfl (lv_room (Nat.le_of_ble_eq_true rfl)) d_DiscMakerModel_components_240 ⟨hkc, hks⟩) hS (fun q _ h => hFc q h) hFc (fun u t H1 locs ht hvm hp_r87 hB hz1 hk1 hS => ?_)
                            obtain ⟨G_88, rfl⟩ : ∃ z, z = u := ⟨_, rfl⟩
                            obtain ⟨hP1, hD1⟩ := hB
                            rw [ht] at hP1
                            obtain ⟨hP, hD⟩ := va_join (wr := [((ma 10), .inl (cB, 8000, .inl fT)), ((ma 11), .inl (cI, 40, .inl fTS))]) (w1 := [(h0, .inr (11, MO ma sv_thrown sv_length sv_nodes sv_many sv_directories sv_runsFrom sv_runs sv_read sv_wrong sv_isNamed sv_goes sv_goesSize sv_goesAt sv_targetParts sv_isRoot)), ((ma 16), .inl (cJ, 46080, .inr (.inl G_88)))]) hP hD [2, 3] [0, 1] rfl rfl (by decide) (by decide) hk1 hFc hP1 hD1
                            clear hPc hDc hFc hP1 hD1 hk1 hz1
                            generalize H1 = H at hP hS ⊢
                            have hP : va_P D CL [((ma 10), .inl (cB, 8000, .inl fT)), ((ma 11), .inl (cI, 40, .inl fTS)), (h0, .inr (11, MO ma sv_thrown sv_length sv_nodes sv_many sv_directories sv_runsFrom sv_runs sv_read sv_wrong sv_isNamed sv_goes sv_goesSize sv_goesAt sv_targetParts sv_isRoot)), ((ma 16), .inl (cJ, 46080, .inr (.inl G_88)))] H := hP
                            have hD : va_D A [((ma 10), .inl (cB, 8000, .inl fT)), ((ma 11), .inl (cI, 40, .inl fTS)), (h0, .inr (11, MO ma sv_thrown sv_length sv_nodes sv_many sv_directories sv_runsFrom sv_runs sv_read sv_wrong sv_isNamed sv_goes sv_goesSize sv_goesAt sv_targetParts sv_isRoot)), ((ma 16), .inl (cJ, 46080, .inr (.inl G_88)))] := hD
                            obtain ⟨v89, e_v89⟩ : ∃ z : Int32, z = k9 + 1 := ⟨_, rfl⟩
                            refine lv_iinc (v := v89) hx hb d_DiscMakerModel_components_243 hl (k := 9) rfl e_v89.symm (by decide) rfl (fun ls hl => ?_)
                            have t_v89 : v89.toInt = k9.toInt + 1 := by rw [e_v89]; exact i_add rfl (by decide) (by omega) (by omega)
                            have hl : lv_has ls 10 [(9, .int v89), (0, .ref h0), (1, .int x), (2, .int y), (3, .int v1), (4, .int al), (5, .int lp), (6, .int lq), (7, .int 4), (8, .int 0)] := hl
                            refine lv_goto (tgt := 203) hx hb d_DiscMakerModel_components_246 (by decide) ?_
                            have hP := hP.sub (ws' := [((ma 10), .inl (cB, 8000, .inl fT)), ((ma 11), .inl (cI, 40, .inl fTS)), (h0, .inr (11, MO ma sv_thrown sv_length sv_nodes sv_many sv_directories sv_runsFrom sv_runs sv_read sv_wrong sv_isNamed sv_goes sv_goesSize sv_goesAt sv_targetParts sv_isRoot)), ((ma 16), .inl (cJ, 46080, .inr (.inl G_88)))]) [0, 1, 2, 3] rfl
                            have hD := hD.sub (ws' := [((ma 10), .inl (cB, 8000, .inl fT)), ((ma 11), .inl (cI, 40, .inl fTS)), (h0, .inr (11, MO ma sv_thrown sv_length sv_nodes sv_many sv_directories sv_runsFrom sv_runs sv_read sv_wrong sv_isNamed sv_goes sv_goesSize sv_goesAt sv_targetParts sv_isRoot)), ((ma 16), .inl (cJ, 46080, .inr (.inl G_88)))]) [0, 1, 2, 3] (by decide) rfl
                            have hl := lv_sub hl [1, 2, 3, 4, 5, 6, 7, 8, 9, 0] rfl
                            exact ih203 (_) (by first | omega | (dsimp only; omega)) _ _ _ _ ⟨v89, G_88, rfl, rfl, (by (try dsimp only); first | assumption | omega | trivial), hP, hD, hS, hl⟩
                      · skip
                        intro kk203
                        have hP := hP.sub (ws' := [((ma 10), .inl (cB, 8000, .inl fT)), ((ma 11), .inl (cI, 40, .inl fTS)), (h0, .inr (11, MO ma sv_thrown sv_length sv_nodes sv_many sv_directories sv_runsFrom sv_runs sv_read sv_wrong sv_isNamed sv_goes sv_goesSize sv_goesAt sv_targetParts sv_isRoot)), ((ma 16), .inl (cJ, 46080, .inr (.inl G_75)))]) [0, 1, 2, 3] rfl
                        have hD := hD.sub (ws' := [((ma 10), .inl (cB, 8000, .inl fT)), ((ma 11), .inl (cI, 40, .inl fTS)), (h0, .inr (11, MO ma sv_thrown sv_length sv_nodes sv_many sv_directories sv_runsFrom sv_runs sv_read sv_wrong sv_isNamed sv_goes sv_goesSize sv_goesAt sv_targetParts sv_isRoot)), ((ma 16), .inl (cJ, 46080, .inr (.inl G_75)))]) [0, 1, 2, 3] (by decide) rfl
                        have hl := lv_sub hl [3, 4, 5, 6, 7, 8, 9, 2, 1, 0] rfl
                        exact kk203 _ _ _ _ _ ⟨0, G_75, rfl, rfl, (by (try dsimp only); first | assumption | omega | trivial), hP, hD, hS, hl⟩
            · skip
              have g87_28 : v4.toInt = 1 := (i_eq rfl (by decide)).mp h_9
              refine lv_aload_n hx hb d_DiscMakerModel_components_90 rfl (lv_at hl 0 rfl) ?_
              refine va_get (D := D) (ci := 11) (v := .ref (ma 10)) (C := "DiscMakerModel") (T := F_DiscMakerModel) (N := 48) hx hb ht9 in_DiscMakerModel hown hK hP 0 rfl rfl 13 (by decide) (ht9 _ k1444) (fun _ h9 => h9) rfl d_DiscMakerModel_components_91 ?_
              refine lv_sipush (v := 200) hx hb d_DiscMakerModel_components_94 (by decide) ?_
              refine lv_iload_n hx hb d_DiscMakerModel_components_97 rfl (lv_at hl 1 rfl) ?_
              refine lv_imul hx hb d_DiscMakerModel_components_98 ?_
              refine lv_topi (fun v90 e_v90 => ?_)
              have t_v90 : v90.toInt = 200 * x.toInt := by rw [e_v90]; exact i_mul (by decide) rfl (by omega) (by omega)
              refine lv_iload hx hb d_DiscMakerModel_components_99 (lv_at hl 5 rfl) ?_
              refine lv_iadd hx hb d_DiscMakerModel_components_101 ?_
              refine lv_topi (fun v91 e_v91 => ?_)
              have t_v91 : v91.toInt = v90.toInt + lp.toInt := by rw [e_v91]; exact i_add rfl rfl (by omega) (by omega)
              refine va_bald hx hb hK hP 2 0 rfl rfl (vp_in_iff.mpr ⟨by omega, by omega⟩) d_DiscMakerModel_components_102 ?_
              refine lv_topi (fun v92 e_v92 => ?_)
              have c_v92 := i_cl (a := v91) (by omega)
              have e2_v92 : v92 = fT (200 * x.toNatClampNeg + lp.toNatClampNeg) := by rw [e_v92, show v91.toNatClampNeg = 200 * x.toNatClampNeg + lp.toNatClampNeg by omega]
              have qtv92 : (tgF fT x.toNatClampNeg (lp.toNatClampNeg)).toInt = v92.toInt := by unfold tgF; rw [e2_v92]
              refine lv_bipush (v := 46) hx hb d_DiscMakerModel_components_103 (by decide) ?_
              refine lv_icmp_ne (tgt := 112) hx hb d_DiscMakerModel_components_105 (by decide) (fun h_9 => ?_) (fun h_9 => ?_)
              · skip
                have g105_371 : ¬ v92.toInt = 46 := fun h8 => h_9 ((i_eq rfl (by decide)).mpr h8)
                refine lv_iload hx hb d_DiscMakerModel_components_112 (lv_at hl 6 rfl) ?_
                refine lv_iload hx hb d_DiscMakerModel_components_114 (lv_at hl 5 rfl) ?_
                refine lv_isub hx hb d_DiscMakerModel_components_116 ?_
                refine lv_topi (fun v93 e_v93 => ?_)
                have t_v93 : v93.toInt = lq.toInt - lp.toInt := by rw [e_v93]; exact i_sub rfl rfl (by omega) (by omega)
                refine lv_iconst (v := 2) hx hb d_DiscMakerModel_components_117 (by decide) ?_
                refine lv_icmp_ne (tgt := 163) hx hb d_DiscMakerModel_components_118 (by decide) (fun h_9 => ?_) (fun h_9 => ?_)
                · skip
                  have g118_376 : ¬ v93.toInt = 2 := fun h8 => h_9 ((i_eq rfl (by decide)).mpr h8)
                  refine lv_iconst (v := 0) hx hb d_DiscMakerModel_components_163 (by decide) ?_
                  refine lv_istore hx hb d_DiscMakerModel_components_164 hl (by decide) rfl (fun ls hl => ?_)
                  have hl : lv_has ls 10 [(7, .int 0), (0, .ref h0), (1, .int x), (2, .int y), (3, .int v1), (4, .int al), (5, .int lp), (6, .int lq)] := hl
                  refine lv_iload hx hb d_DiscMakerModel_components_166 (lv_at hl 0 rfl) ?_
                  refine lv_if_ne (tgt := 179) hx hb d_DiscMakerModel_components_168 (by decide) (fun h_9 => absurd (by decide) h_9) (fun _ => ?_)
                  refine lv_iload hx hb d_DiscMakerModel_components_171 (lv_at hl 7 rfl) ?_
                  refine lv_iload hx hb d_DiscMakerModel_components_173 (lv_at hl 6 rfl) ?_
                  refine lv_isub hx hb d_DiscMakerModel_components_175 ?_
                  refine lv_topi (fun v94 e_v94 => ?_)
                  have t_v94 : v94.toInt = lq.toInt - lp.toInt := by rw [e_v94]; exact i_sub rfl rfl (by omega) (by omega)
                  refine lv_goto (tgt := 180) hx hb d_DiscMakerModel_components_176 (by decide) ?_
                  refine lv_istore hx hb d_DiscMakerModel_components_180 hl (by decide) rfl (fun ls hl => ?_)
                  have hl : lv_has ls 10 [(8, .int v94), (7, .int 0), (0, .ref h0), (1, .int x), (2, .int y), (3, .int v1), (4, .int al), (5, .int lp), (6, .int lq)] := hl
                  refine lv_iload hx hb d_DiscMakerModel_components_182 (lv_at hl 8 rfl) ?_
                  refine lv_iload hx hb d_DiscMakerModel_components_184 (lv_at hl 7 rfl) ?_
                  refine lv_icmp_le (tgt := 258) hx hb d_DiscMakerModel_components_186 (by decide) (fun h_9 => ?_) (fun h_9 => ?_)
                  · skip
                    have g186_388 : lq.toInt ≤ lp.toInt := (i_le rfl rfl).mp h_9
                    refine lv_iload hx hb d_DiscMakerModel_components_258 (lv_at hl 8 rfl) ?_
                    refine lv_iconst (v := 1) hx hb d_DiscMakerModel_components_260 (by decide) ?_
                    refine lv_iadd hx hb d_DiscMakerModel_components_261 ?_
                    refine lv_topi (fun v95 e_v95 => ?_)
                    have t_v95 : v95.toInt = lq.toInt + 1 := by rw [e_v95]; exact i_add rfl (by decide) (by omega) (by omega)
                    refine lv_istore hx hb d_DiscMakerModel_components_262 hl (by decide) rfl (fun ls hl => ?_)
                    have hl : lv_has ls 10 [(5, .int v95), (8, .int v94), (7, .int 0), (0, .ref h0), (1, .int x), (2, .int y), (3, .int v1), (4, .int al), (6, .int lq)] := hl
                    refine lv_goto (tgt := 41) hx hb d_DiscMakerModel_components_264 (by decide) ?_
                    have hP := hP.sub (ws' := [(h0, .inr (11, MO ma sv_thrown sv_length sv_nodes sv_many sv_directories sv_runsFrom sv_runs sv_read sv_wrong sv_isNamed sv_goes sv_goesSize sv_goesAt sv_targetParts sv_isRoot)), ((ma 16), .inl (cJ, 46080, .inr (.inl lF))), ((ma 10), .inl (cB, 8000, .inl fT)), ((ma 11), .inl (cI, 40, .inl fTS))]) [0, 1, 2, 3] rfl
                    have hD := hD.sub (ws' := [(h0, .inr (11, MO ma sv_thrown sv_length sv_nodes sv_many sv_directories sv_runsFrom sv_runs sv_read sv_wrong sv_isNamed sv_goes sv_goesSize sv_goesAt sv_targetParts sv_isRoot)), ((ma 16), .inl (cJ, 46080, .inr (.inl lF))), ((ma 10), .inl (cB, 8000, .inl fT)), ((ma 11), .inl (cI, 40, .inl fTS))]) [0, 1, 2, 3] (by decide) rfl
                    have hl := lv_sub hl [3, 4, 5, 6, 7, 0] rfl
                    exact ih41 (_) (by first | omega | (dsimp only; omega)) _ _ _ _ ⟨al, v95, lF, rfl, rfl, (by (try dsimp only); first | assumption | omega | trivial), (by (try dsimp only); first | assumption | omega | trivial), (by have h0 := cmL_go (t := (tgF fT x.toNatClampNeg)) (n := (fTS x.toNatClampNeg).toInt.toNat) (p := lp.toNatClampNeg) (all := al.toNatClampNeg) (by omega); have h1 := i_cl (a := v95) (by omega); have h2 := i_cl (a := al) (by omega); rw [h81, f2] at h0; rw [show v95.toNatClampNeg = lq.toNatClampNeg + 1 by omega, show al.toNatClampNeg = al.toNatClampNeg + cbF (tgF fT x.toNatClampNeg) lp.toNatClampNeg lq.toNatClampNeg by omega]; exact h0.symm), hP, hD, hS, hl⟩
                  · skip
                    have g186_388 : ¬ lq.toInt ≤ lp.toInt := fun h8 => h_9 ((i_le rfl rfl).mpr h8)
                    refine lv_aload_n hx hb d_DiscMakerModel_components_189 rfl (lv_at hl 2 rfl) ?_
                    refine lv_iload_n hx hb d_DiscMakerModel_components_190 rfl (lv_at hl 4 rfl) ?_
                    refine lv_iload hx hb d_DiscMakerModel_components_191 (lv_at hl 6 rfl) ?_
                    refine lv_iload hx hb d_DiscMakerModel_components_193 (lv_at hl 1 rfl) ?_
                    refine lv_iload hx hb d_DiscMakerModel_components_195 (lv_at hl 0 rfl) ?_
                    have hPc := hP.sub (ws' := [(h0, .inr (11, MO ma sv_thrown sv_length sv_nodes sv_many sv_directories sv_runsFrom sv_runs sv_read sv_wrong sv_isNamed sv_goes sv_goesSize sv_goesAt sv_targetParts sv_isRoot)), ((ma 16), .inl (cJ, 46080, .inr (.inl lF)))]) [0, 1] rfl
                    have hDc := hD.sub (ws' := [(h0, .inr (11, MO ma sv_thrown sv_length sv_nodes sv_many sv_directories sv_runsFrom sv_runs sv_read sv_wrong sv_isNamed sv_goes sv_goesSize sv_goesAt sv_targetParts sv_isRoot)), ((ma 16), .inl (cJ, 46080, .inr (.inl lF)))]) [0, 1] (by decide) rfl
                    have hFc := va_free (wc := [(h0, .inr (11, MO ma sv_thrown sv_length sv_nodes sv_many sv_directories sv_runsFrom sv_runs sv_read sv_wrong sv_isNamed sv_goes sv_goesSize sv_goesAt sv_targetParts sv_isRoot)), ((ma 16), .inl (cJ, 46080, .inr (.inl lF)))]) hD hS hA [0, 1] rfl
                    have hkc : 0 ≤ 0 := by decide
                    have hks : 0 ≤ 0 := by decide
                    refine va_callv (va_runV (C := "DiscMakerModel") (As := [.int y, .int al, .int 0, .int v94]) (rest := []) ⟨hx, hb, hml, hown, hts⟩ (m_mark l D cB cI cJ cZ cN cF H.size h0 ma sv_thrown sv_length sv_nodes sv_many sv_directories sv_runsFrom sv_runs sv_read sv_wrong sv_isNamed sv_goes sv_goesSize sv_goesAt sv_targetParts sv_isRoot lF y al 0 v94 (by (try dsimp only); first | assumption | omega | trivial)) (cwV 4 hts (lg_goodV k1723 k1725 k78 k125 kc_DiscMakerModel_mark) rfl rfl rfl (by decide +kernel) ⟨Nat.le_of_ble_eq_true rfl, Nat.le_of_ble_eq_true rfl⟩) ⟨fun a U g mk q => by obtain ⟨q0, q1, qP, qK, qN, qD⟩ := q; exact ⟨q0, q1, qP, va_K.moved (u := U) (U := U.calling g mk a) (Vm.Alike.refl U.vm) qK, qN.calling, qD⟩, va_recv hK hP (ci := 11) (q0 := 0) rfl rfl, fun U hU hW => ⟨rfl, by rw [hU], by rw [hU]; exact hPc, va_K.moved hW.alike hK, NN.warm hW hN, hDc.weaken (fun _ _ _ _ => trivial)⟩⟩ rfl rfl hl.1 rfl (lv_room (Nat.le_of_ble_eq_true rfl)) d_DiscMakerModel_components_197 ⟨hkc, hks⟩) hS (fun q _ h => hFc q h) hFc (fun u t H1 locs ht hvm hp_r96 hB hz1 hk1 hS => ?_)
                    obtain ⟨G_97, rfl⟩ : ∃ z, z = u := ⟨_, rfl⟩
                    obtain ⟨hP1, hD1⟩ := hB
                    rw [ht] at hP1
                    obtain ⟨hP, hD⟩ := va_join (wr := [((ma 10), .inl (cB, 8000, .inl fT)), ((ma 11), .inl (cI, 40, .inl fTS))]) (w1 := [(h0, .inr (11, MO ma sv_thrown sv_length sv_nodes sv_many sv_directories sv_runsFrom sv_runs sv_read sv_wrong sv_isNamed sv_goes sv_goesSize sv_goesAt sv_targetParts sv_isRoot)), ((ma 16), .inl (cJ, 46080, .inr (.inl G_97)))]) hP hD [0, 1] [2, 3] rfl rfl (by decide) (by decide) hk1 hFc hP1 hD1
                    clear hPc hDc hFc hP1 hD1 hk1 hz1
                    generalize H1 = H at hP hS ⊢
                    have hP : va_P D CL [((ma 10), .inl (cB, 8000, .inl fT)), ((ma 11), .inl (cI, 40, .inl fTS)), (h0, .inr (11, MO ma sv_thrown sv_length sv_nodes sv_many sv_directories sv_runsFrom sv_runs sv_read sv_wrong sv_isNamed sv_goes sv_goesSize sv_goesAt sv_targetParts sv_isRoot)), ((ma 16), .inl (cJ, 46080, .inr (.inl G_97)))] H := hP
                    have hD : va_D A [((ma 10), .inl (cB, 8000, .inl fT)), ((ma 11), .inl (cI, 40, .inl fTS)), (h0, .inr (11, MO ma sv_thrown sv_length sv_nodes sv_many sv_directories sv_runsFrom sv_runs sv_read sv_wrong sv_isNamed sv_goes sv_goesSize sv_goesAt sv_targetParts sv_isRoot)), ((ma 16), .inl (cJ, 46080, .inr (.inl G_97)))] := hD
                    refine lv_iconst (v := 0) hx hb d_DiscMakerModel_components_200 (by decide) ?_
                    refine lv_istore hx hb d_DiscMakerModel_components_201 hl (by decide) rfl (fun ls hl => ?_)
                    have hl : lv_has ls 10 [(9, .int 0), (8, .int v94), (7, .int 0), (0, .ref h0), (1, .int x), (2, .int y), (3, .int v1), (4, .int al), (5, .int lp), (6, .int lq)] := hl
                    refine zz_lab (P := fun (lk : Nat) (H : Heap) (locs : List Loc) (ls : Array Slot) (stk : List Value) => ∃ (k9 : Int32) (nF : Nat → Int64) , lk = (201 - k9.toInt).toNat ∧ stk = [] ∧ (0 ≤ k9.toInt ∧ k9.toInt ≤ 200) ∧ va_P D CL [((ma 10), .inl (cB, 8000, .inl fT)), ((ma 11), .inl (cI, 40, .inl fTS)), (h0, .inr (11, MO ma sv_thrown sv_length sv_nodes sv_many sv_directories sv_runsFrom sv_runs sv_read sv_wrong sv_isNamed sv_goes sv_goesSize sv_goesAt sv_targetParts sv_isRoot)), ((ma 16), .inl (cJ, 46080, .inr (.inl nF)))] H ∧ va_D A [((ma 10), .inl (cB, 8000, .inl fT)), ((ma 11), .inl (cI, 40, .inl fTS)), (h0, .inr (11, MO ma sv_thrown sv_length sv_nodes sv_many sv_directories sv_runsFrom sv_runs sv_read sv_wrong sv_isNamed sv_goes sv_goesSize sv_goesAt sv_targetParts sv_isRoot)), ((ma 16), .inl (cJ, 46080, .inr (.inl nF)))] ∧ va_S A s.heap H locs ∧ lv_has ls 10 [(0, .ref h0), (1, .int x), (2, .int y), (3, .int v1), (4, .int al), (5, .int lp), (6, .int lq), (7, .int 0), (8, .int v94), (9, .int k9)]) 203 ?_ ?_
                    · skip
                      intro lk ih203 H locs ls stk hI
                      obtain ⟨k9, nF, hm203, rfl, f9, hP, hD, hS, hl⟩ := hI
                      refine lv_iload hx hb d_DiscMakerModel_components_203 (lv_at hl 9 rfl) ?_
                      refine lv_iload hx hb d_DiscMakerModel_components_205 (lv_at hl 8 rfl) ?_
                      refine lv_icmp_ge (tgt := 249) hx hb d_DiscMakerModel_components_207 (by decide) (fun h_9 => ?_) (fun h_9 => ?_)
                      · skip
                        have g207_405 : v94.toInt ≤ k9.toInt := (i_le rfl rfl).mp h_9
                        refine lv_iload hx hb d_DiscMakerModel_components_249 (lv_at hl 4 rfl) ?_
                        refine lv_iconst (v := 2) hx hb d_DiscMakerModel_components_251 (by decide) ?_
                        refine lv_iload hx hb d_DiscMakerModel_components_252 (lv_at hl 8 rfl) ?_
                        refine lv_iadd hx hb d_DiscMakerModel_components_254 ?_
                        refine lv_topi (fun v98 e_v98 => ?_)
                        have t_v98 : v98.toInt = 2 + v94.toInt := by rw [e_v98]; exact i_add (by decide) rfl (by omega) (by omega)
                        refine lv_iadd hx hb d_DiscMakerModel_components_255 ?_
                        refine lv_topi (fun v99 e_v99 => ?_)
                        have t_v99 : v99.toInt = al.toInt + v98.toInt := by rw [e_v99]; exact i_add rfl rfl (by omega) (by omega)
                        refine lv_istore hx hb d_DiscMakerModel_components_256 hl (by decide) rfl (fun ls hl => ?_)
                        have hl : lv_has ls 10 [(4, .int v99), (0, .ref h0), (1, .int x), (2, .int y), (3, .int v1), (5, .int lp), (6, .int lq), (7, .int 0), (8, .int v94), (9, .int k9)] := hl
                        refine lv_iload hx hb d_DiscMakerModel_components_258 (lv_at hl 6 rfl) ?_
                        refine lv_iconst (v := 1) hx hb d_DiscMakerModel_components_260 (by decide) ?_
                        refine lv_iadd hx hb d_DiscMakerModel_components_261 ?_
                        refine lv_topi (fun v100 e_v100 => ?_)
                        have t_v100 : v100.toInt = lq.toInt + 1 := by rw [e_v100]; exact i_add rfl (by decide) (by omega) (by omega)
                        refine lv_istore hx hb d_DiscMakerModel_components_262 hl (by decide) rfl (fun ls hl => ?_)
                        have hl : lv_has ls 10 [(5, .int v100), (4, .int v99), (0, .ref h0), (1, .int x), (2, .int y), (3, .int v1), (6, .int lq), (7, .int 0), (8, .int v94), (9, .int k9)] := hl
                        refine lv_goto (tgt := 41) hx hb d_DiscMakerModel_components_264 (by decide) ?_
                        have hP := hP.sub (ws' := [(h0, .inr (11, MO ma sv_thrown sv_length sv_nodes sv_many sv_directories sv_runsFrom sv_runs sv_read sv_wrong sv_isNamed sv_goes sv_goesSize sv_goesAt sv_targetParts sv_isRoot)), ((ma 16), .inl (cJ, 46080, .inr (.inl nF))), ((ma 10), .inl (cB, 8000, .inl fT)), ((ma 11), .inl (cI, 40, .inl fTS))]) [2, 3, 0, 1] rfl
                        have hD := hD.sub (ws' := [(h0, .inr (11, MO ma sv_thrown sv_length sv_nodes sv_many sv_directories sv_runsFrom sv_runs sv_read sv_wrong sv_isNamed sv_goes sv_goesSize sv_goesAt sv_targetParts sv_isRoot)), ((ma 16), .inl (cJ, 46080, .inr (.inl nF))), ((ma 10), .inl (cB, 8000, .inl fT)), ((ma 11), .inl (cI, 40, .inl fTS))]) [2, 3, 0, 1] (by decide) rfl
                        have hl := lv_sub hl [2, 3, 4, 5, 1, 0] rfl
                        exact ih41 (_) (by first | omega | (dsimp only; omega)) _ _ _ _ ⟨v99, v100, nF, rfl, rfl, (by (try dsimp only); first | assumption | omega | trivial), (by (try dsimp only); first | assumption | omega | trivial), (by have h0 := cmL_go (t := (tgF fT x.toNatClampNeg)) (n := (fTS x.toNatClampNeg).toInt.toNat) (p := lp.toNatClampNeg) (all := al.toNatClampNeg) (by omega); have h1 := i_cl (a := v100) (by omega); have h2 := i_cl (a := v99) (by omega); rw [h81, f2] at h0; rw [show v100.toNatClampNeg = lq.toNatClampNeg + 1 by omega, show v99.toNatClampNeg = al.toNatClampNeg + cbF (tgF fT x.toNatClampNeg) lp.toNatClampNeg lq.toNatClampNeg by omega]; exact h0.symm), hP, hD, hS, hl⟩
                      · skip
                        have g207_405 : ¬ v94.toInt ≤ k9.toInt := fun h8 => h_9 ((i_le rfl rfl).mpr h8)
                        refine lv_iload_n hx hb d_DiscMakerModel_components_210 rfl (lv_at hl 2 rfl) ?_
                        refine lv_if_lt (tgt := 249) hx hb d_DiscMakerModel_components_211 (by decide) (fun h_9 => ?_) (fun h_9 => ?_)
                        · skip
                          have g211_419 : y.toInt < 0 := (i_lt rfl (by decide)).mp h_9
                          refine lv_iload hx hb d_DiscMakerModel_components_249 (lv_at hl 4 rfl) ?_
                          refine lv_iconst (v := 2) hx hb d_DiscMakerModel_components_251 (by decide) ?_
                          refine lv_iload hx hb d_DiscMakerModel_components_252 (lv_at hl 8 rfl) ?_
                          refine lv_iadd hx hb d_DiscMakerModel_components_254 ?_
                          refine lv_topi (fun v101 e_v101 => ?_)
                          have t_v101 : v101.toInt = 2 + v94.toInt := by rw [e_v101]; exact i_add (by decide) rfl (by omega) (by omega)
                          refine lv_iadd hx hb d_DiscMakerModel_components_255 ?_
                          refine lv_topi (fun v102 e_v102 => ?_)
                          have t_v102 : v102.toInt = al.toInt + v101.toInt := by rw [e_v102]; exact i_add rfl rfl (by omega) (by omega)
                          refine lv_istore hx hb d_DiscMakerModel_components_256 hl (by decide) rfl (fun ls hl => ?_)
                          have hl : lv_has ls 10 [(4, .int v102), (0, .ref h0), (1, .int x), (2, .int y), (3, .int v1), (5, .int lp), (6, .int lq), (7, .int 0), (8, .int v94), (9, .int k9)] := hl
                          refine lv_iload hx hb d_DiscMakerModel_components_258 (lv_at hl 6 rfl) ?_
                          refine lv_iconst (v := 1) hx hb d_DiscMakerModel_components_260 (by decide) ?_
                          refine lv_iadd hx hb d_DiscMakerModel_components_261 ?_
                          refine lv_topi (fun v103 e_v103 => ?_)
                          have t_v103 : v103.toInt = lq.toInt + 1 := by rw [e_v103]; exact i_add rfl (by decide) (by omega) (by omega)
                          refine lv_istore hx hb d_DiscMakerModel_components_262 hl (by decide) rfl (fun ls hl => ?_)
                          have hl : lv_has ls 10 [(5, .int v103), (4, .int v102), (0, .ref h0), (1, .int x), (2, .int y), (3, .int v1), (6, .int lq), (7, .int 0), (8, .int v94), (9, .int k9)] := hl
                          refine lv_goto (tgt := 41) hx hb d_DiscMakerModel_components_264 (by decide) ?_
                          have hP := hP.sub (ws' := [(h0, .inr (11, MO ma sv_thrown sv_length sv_nodes sv_many sv_directories sv_runsFrom sv_runs sv_read sv_wrong sv_isNamed sv_goes sv_goesSize sv_goesAt sv_targetParts sv_isRoot)), ((ma 16), .inl (cJ, 46080, .inr (.inl nF))), ((ma 10), .inl (cB, 8000, .inl fT)), ((ma 11), .inl (cI, 40, .inl fTS))]) [2, 3, 0, 1] rfl
                          have hD := hD.sub (ws' := [(h0, .inr (11, MO ma sv_thrown sv_length sv_nodes sv_many sv_directories sv_runsFrom sv_runs sv_read sv_wrong sv_isNamed sv_goes sv_goesSize sv_goesAt sv_targetParts sv_isRoot)), ((ma 16), .inl (cJ, 46080, .inr (.inl nF))), ((ma 10), .inl (cB, 8000, .inl fT)), ((ma 11), .inl (cI, 40, .inl fTS))]) [2, 3, 0, 1] (by decide) rfl
                          have hl := lv_sub hl [2, 3, 4, 5, 1, 0] rfl
                          exact ih41 (_) (by first | omega | (dsimp only; omega)) _ _ _ _ ⟨v102, v103, nF, rfl, rfl, (by (try dsimp only); first | assumption | omega | trivial), (by (try dsimp only); first | assumption | omega | trivial), (by have h0 := cmL_go (t := (tgF fT x.toNatClampNeg)) (n := (fTS x.toNatClampNeg).toInt.toNat) (p := lp.toNatClampNeg) (all := al.toNatClampNeg) (by omega); have h1 := i_cl (a := v103) (by omega); have h2 := i_cl (a := v102) (by omega); rw [h81, f2] at h0; rw [show v103.toNatClampNeg = lq.toNatClampNeg + 1 by omega, show v102.toNatClampNeg = al.toNatClampNeg + cbF (tgF fT x.toNatClampNeg) lp.toNatClampNeg lq.toNatClampNeg by omega]; exact h0.symm), hP, hD, hS, hl⟩
                        · skip
                          have g211_419 : ¬ y.toInt < 0 := fun h8 => h_9 ((i_lt rfl (by decide)).mpr h8)
                          refine lv_aload_n hx hb d_DiscMakerModel_components_214 rfl (lv_at hl 0 rfl) ?_
                          refine lv_iload_n hx hb d_DiscMakerModel_components_215 rfl (lv_at hl 2 rfl) ?_
                          refine lv_iload hx hb d_DiscMakerModel_components_216 (lv_at hl 4 rfl) ?_
                          refine lv_iadd hx hb d_DiscMakerModel_components_218 ?_
                          refine lv_topi (fun v104 e_v104 => ?_)
                          have t_v104 : v104.toInt = y.toInt + al.toInt := by rw [e_v104]; exact i_add rfl rfl (by omega) (by omega)
                          refine lv_iconst (v := 2) hx hb d_DiscMakerModel_components_219 (by decide) ?_
                          refine lv_iadd hx hb d_DiscMakerModel_components_220 ?_
                          refine lv_topi (fun v105 e_v105 => ?_)
                          have t_v105 : v105.toInt = v104.toInt + 2 := by rw [e_v105]; exact i_add rfl (by decide) (by omega) (by omega)
                          refine lv_iload hx hb d_DiscMakerModel_components_221 (lv_at hl 9 rfl) ?_
                          refine lv_iadd hx hb d_DiscMakerModel_components_223 ?_
                          refine lv_topi (fun v106 e_v106 => ?_)
                          have t_v106 : v106.toInt = v105.toInt + k9.toInt := by rw [e_v106]; exact i_add rfl rfl (by omega) (by omega)
                          refine lv_aload_n hx hb d_DiscMakerModel_components_224 rfl (lv_at hl 0 rfl) ?_
                          refine va_get (D := D) (ci := 11) (v := .ref (ma 10)) (C := "DiscMakerModel") (T := F_DiscMakerModel) (N := 48) hx hb ht9 in_DiscMakerModel hown hK hP 2 rfl rfl 13 (by decide) (ht9 _ k1444) (fun _ h9 => h9) rfl d_DiscMakerModel_components_225 ?_
                          refine lv_sipush (v := 200) hx hb d_DiscMakerModel_components_228 (by decide) ?_
                          refine lv_iload_n hx hb d_DiscMakerModel_components_231 rfl (lv_at hl 1 rfl) ?_
                          refine lv_imul hx hb d_DiscMakerModel_components_232 ?_
                          refine lv_topi (fun v107 e_v107 => ?_)
                          have t_v107 : v107.toInt = 200 * x.toInt := by rw [e_v107]; exact i_mul (by decide) rfl (by omega) (by omega)
                          refine lv_iload hx hb d_DiscMakerModel_components_233 (lv_at hl 5 rfl) ?_
                          refine lv_iadd hx hb d_DiscMakerModel_components_235 ?_
                          refine lv_topi (fun v108 e_v108 => ?_)
                          have t_v108 : v108.toInt = v107.toInt + lp.toInt := by rw [e_v108]; exact i_add rfl rfl (by omega) (by omega)
                          refine lv_iload hx hb d_DiscMakerModel_components_236 (lv_at hl 9 rfl) ?_
                          refine lv_iadd hx hb d_DiscMakerModel_components_238 ?_
                          refine lv_topi (fun v109 e_v109 => ?_)
                          have t_v109 : v109.toInt = v108.toInt + k9.toInt := by rw [e_v109]; exact i_add rfl rfl (by omega) (by omega)
                          refine va_bald hx hb hK hP 0 0 rfl rfl (vp_in_iff.mpr ⟨by omega, by omega⟩) d_DiscMakerModel_components_239 ?_
                          refine lv_topi (fun v110 e_v110 => ?_)
                          have hPc := hP.sub (ws' := [(h0, .inr (11, MO ma sv_thrown sv_length sv_nodes sv_many sv_directories sv_runsFrom sv_runs sv_read sv_wrong sv_isNamed sv_goes sv_goesSize sv_goesAt sv_targetParts sv_isRoot)), ((ma 16), .inl (cJ, 46080, .inr (.inl nF)))]) [2, 3] rfl
                          have hDc := hD.sub (ws' := [(h0, .inr (11, MO ma sv_thrown sv_length sv_nodes sv_many sv_directories sv_runsFrom sv_runs sv_read sv_wrong sv_isNamed sv_goes sv_goesSize sv_goesAt sv_targetParts sv_isRoot)), ((ma 16), .inl (cJ, 46080, .inr (.inl nF)))]) [2, 3] (by decide) rfl
                          have hFc := va_free (wc := [(h0, .inr (11, MO ma sv_thrown sv_length sv_nodes sv_many sv_directories sv_runsFrom sv_runs sv_read sv_wrong sv_isNamed sv_goes sv_goesSize sv_goesAt sv_targetParts sv_isRoot)), ((ma 16), .inl (cJ, 46080, .inr (.inl nF)))]) hD hS hA [2, 3] rfl
                          have hkc : 0 ≤ 0 := by decide
                          have hks : 0 ≤ 0 := by decide
                          refine va_callv (va_runV (C := "DiscMakerModel") (As := [.int v106, .int v110]) (rest := []) ⟨hx, hb, hml, hown, hts⟩ (m_set l D cB cI cJ cZ cN cF H.size h0 ma sv_thrown sv_length sv_nodes sv_many sv_directories sv_runsFrom sv_runs sv_read sv_wrong sv_isNamed sv_goes sv_goesSize sv_goesAt sv_targetParts sv_isRoot nF v106 v110 (by (try dsimp only); first | assumption | omega | trivial) (by (try dsimp only); first | assumption | omega | trivial)) (cwV 2 hts (lg_goodV k1727 k1729 k79 k125 kc_DiscMakerModel_set) rfl rfl rfl (by decide +kernel) ⟨Nat.le_of_ble_eq_true rfl, Nat.le_of_ble_eq_true rfl⟩) ⟨fun a U g mk q => by obtain ⟨q0, q1, qP, qK, qN, qD⟩ := q; exact ⟨q0, q1, qP, va_K.moved (u := U) (U := U.calling g mk a) (Vm.Alike.refl U.vm) qK, qN.calling, qD⟩, va_recv hK hP (ci := 11) (q0 := 2) rfl rfl, fun U hU hW => ⟨rfl, by rw [hU], by rw [hU]; exact hPc, va_K.moved hW.alike hK, NN.warm hW hN, hDc.weaken (fun _ _ _ _ => trivial)⟩⟩ rfl rfl hl.1 rfl (lv_room (Nat.le_of_ble_eq_true rfl)) d_DiscMakerModel_components_240 ⟨hkc, hks⟩) hS (fun q _ h => hFc q h) hFc (fun u t H1 locs ht hvm hp_r111 hB hz1 hk1 hS => ?_)
                          obtain ⟨G_112, rfl⟩ : ∃ z, z = u := ⟨_, rfl⟩
                          obtain ⟨hP1, hD1⟩ := hB
                          rw [ht] at hP1
                          obtain ⟨hP, hD⟩ := va_join (wr := [((ma 10), .inl (cB, 8000, .inl fT)), ((ma 11), .inl (cI, 40, .inl fTS))]) (w1 := [(h0, .inr (11, MO ma sv_thrown sv_length sv_nodes sv_many sv_directories sv_runsFrom sv_runs sv_read sv_wrong sv_isNamed sv_goes sv_goesSize sv_goesAt sv_targetParts sv_isRoot)), ((ma 16), .inl (cJ, 46080, .inr (.inl G_112)))]) hP hD [2, 3] [0, 1] rfl rfl (by decide) (by decide) hk1 hFc hP1 hD1
                          clear hPc hDc hFc hP1 hD1 hk1 hz1
                          generalize H1 = H at hP hS ⊢
                          have hP : va_P D CL [((ma 10), .inl (cB, 8000, .inl fT)), ((ma 11), .inl (cI, 40, .inl fTS)), (h0, .inr (11, MO ma sv_thrown sv_length sv_nodes sv_many sv_directories sv_runsFrom sv_runs sv_read sv_wrong sv_isNamed sv_goes sv_goesSize sv_goesAt sv_targetParts sv_isRoot)), ((ma 16), .inl (cJ, 46080, .inr (.inl G_112)))] H := hP
                          have hD : va_D A [((ma 10), .inl (cB, 8000, .inl fT)), ((ma 11), .inl (cI, 40, .inl fTS)), (h0, .inr (11, MO ma sv_thrown sv_length sv_nodes sv_many sv_directories sv_runsFrom sv_runs sv_read sv_wrong sv_isNamed sv_goes sv_goesSize sv_goesAt sv_targetParts sv_isRoot)), ((ma 16), .inl (cJ, 46080, .inr (.inl G_112)))] := hD
                          obtain ⟨v113, e_v113⟩ : ∃ z : Int32, z = k9 + 1 := ⟨_, rfl⟩
                          refine lv_iinc (v := v113) hx hb d_DiscMakerModel_components_243 hl (k := 9) rfl e_v113.symm (by decide) rfl (fun ls hl => ?_)
                          have t_v113 : v113.toInt = k9.toInt + 1 := by rw [e_v113]; exact i_add rfl (by decide) (by omega) (by omega)
                          have hl : lv_has ls 10 [(9, .int v113), (0, .ref h0), (1, .int x), (2, .int y), (3, .int v1), (4, .int al), (5, .int lp), (6, .int lq), (7, .int 0), (8, .int v94)] := hl
                          refine lv_goto (tgt := 203) hx hb d_DiscMakerModel_components_246 (by decide) ?_
                          have hP := hP.sub (ws' := [((ma 10), .inl (cB, 8000, .inl fT)), ((ma 11), .inl (cI, 40, .inl fTS)), (h0, .inr (11, MO ma sv_thrown sv_length sv_nodes sv_many sv_directories sv_runsFrom sv_runs sv_read sv_wrong sv_isNamed sv_goes sv_goesSize sv_goesAt sv_targetParts sv_isRoot)), ((ma 16), .inl (cJ, 46080, .inr (.inl G_112)))]) [0, 1, 2, 3] rfl
                          have hD := hD.sub (ws' := [((ma 10), .inl (cB, 8000, .inl fT)), ((ma 11), .inl (cI, 40, .inl fTS)), (h0, .inr (11, MO ma sv_thrown sv_length sv_nodes sv_many sv_directories sv_runsFrom sv_runs sv_read sv_wrong sv_isNamed sv_goes sv_goesSize sv_goesAt sv_targetParts sv_isRoot)), ((ma 16), .inl (cJ, 46080, .inr (.inl G_112)))]) [0, 1, 2, 3] (by decide) rfl
                          have hl := lv_sub hl [1, 2, 3, 4, 5, 6, 7, 8, 9, 0] rfl
                          exact ih203 (_) (by first | omega | (dsimp only; omega)) _ _ _ _ ⟨v113, G_112, rfl, rfl, (by (try dsimp only); first | assumption | omega | trivial), hP, hD, hS, hl⟩
                    · skip
                      intro kk203
                      have hP := hP.sub (ws' := [((ma 10), .inl (cB, 8000, .inl fT)), ((ma 11), .inl (cI, 40, .inl fTS)), (h0, .inr (11, MO ma sv_thrown sv_length sv_nodes sv_many sv_directories sv_runsFrom sv_runs sv_read sv_wrong sv_isNamed sv_goes sv_goesSize sv_goesAt sv_targetParts sv_isRoot)), ((ma 16), .inl (cJ, 46080, .inr (.inl G_97)))]) [0, 1, 2, 3] rfl
                      have hD := hD.sub (ws' := [((ma 10), .inl (cB, 8000, .inl fT)), ((ma 11), .inl (cI, 40, .inl fTS)), (h0, .inr (11, MO ma sv_thrown sv_length sv_nodes sv_many sv_directories sv_runsFrom sv_runs sv_read sv_wrong sv_isNamed sv_goes sv_goesSize sv_goesAt sv_targetParts sv_isRoot)), ((ma 16), .inl (cJ, 46080, .inr (.inl G_97)))]) [0, 1, 2, 3] (by decide) rfl
                      have hl := lv_sub hl [3, 4, 5, 6, 7, 8, 9, 2, 1, 0] rfl
                      exact kk203 _ _ _ _ _ ⟨0, G_97, rfl, rfl, (by (try dsimp only); first | assumption | omega | trivial), hP, hD, hS, hl⟩
                · skip
                  have g118_376 : v93.toInt = 2 := (i_eq rfl (by decide)).mp h_9
                  refine lv_aload_n hx hb d_DiscMakerModel_components_121 rfl (lv_at hl 0 rfl) ?_
                  refine va_get (D := D) (ci := 11) (v := .ref (ma 10)) (C := "DiscMakerModel") (T := F_DiscMakerModel) (N := 48) hx hb ht9 in_DiscMakerModel hown hK hP 0 rfl rfl 13 (by decide) (ht9 _ k1444) (fun _ h9 => h9) rfl d_DiscMakerModel_components_122 ?_
                  refine lv_sipush (v := 200) hx hb d_DiscMakerModel_components_125 (by decide) ?_
                  refine lv_iload_n hx hb d_DiscMakerModel_components_128 rfl (lv_at hl 1 rfl) ?_
                  refine lv_imul hx hb d_DiscMakerModel_components_129 ?_
                  refine lv_topi (fun v114 e_v114 => ?_)
                  have t_v114 : v114.toInt = 200 * x.toInt := by rw [e_v114]; exact i_mul (by decide) rfl (by omega) (by omega)
                  refine lv_iload hx hb d_DiscMakerModel_components_130 (lv_at hl 5 rfl) ?_
                  refine lv_iadd hx hb d_DiscMakerModel_components_132 ?_
                  refine lv_topi (fun v115 e_v115 => ?_)
                  have t_v115 : v115.toInt = v114.toInt + lp.toInt := by rw [e_v115]; exact i_add rfl rfl (by omega) (by omega)
                  refine va_bald hx hb hK hP 2 0 rfl rfl (vp_in_iff.mpr ⟨by omega, by omega⟩) d_DiscMakerModel_components_133 ?_
                  refine lv_topi (fun v116 e_v116 => ?_)
                  have c_v116 := i_cl (a := v115) (by omega)
                  have e2_v116 : v116 = fT (200 * x.toNatClampNeg + lp.toNatClampNeg) := by rw [e_v116, show v115.toNatClampNeg = 200 * x.toNatClampNeg + lp.toNatClampNeg by omega]
                  have qtv116 : (tgF fT x.toNatClampNeg (lp.toNatClampNeg)).toInt = v116.toInt := by unfold tgF; rw [e2_v116]
                  refine lv_bipush (v := 46) hx hb d_DiscMakerModel_components_134 (by decide) ?_
                  refine lv_icmp_ne (tgt := 163) hx hb d_DiscMakerModel_components_136 (by decide) (fun h_9 => ?_) (fun h_9 => ?_)
                  · skip
                    have g136_463 : ¬ v116.toInt = 46 := fun h8 => h_9 ((i_eq rfl (by decide)).mpr h8)
                    refine lv_iconst (v := 0) hx hb d_DiscMakerModel_components_163 (by decide) ?_
                    refine lv_istore hx hb d_DiscMakerModel_components_164 hl (by decide) rfl (fun ls hl => ?_)
                    have hl : lv_has ls 10 [(7, .int 0), (0, .ref h0), (1, .int x), (2, .int y), (3, .int v1), (4, .int al), (5, .int lp), (6, .int lq)] := hl
                    refine lv_iload hx hb d_DiscMakerModel_components_166 (lv_at hl 0 rfl) ?_
                    refine lv_if_ne (tgt := 179) hx hb d_DiscMakerModel_components_168 (by decide) (fun h_9 => absurd (by decide) h_9) (fun _ => ?_)
                    refine lv_iload hx hb d_DiscMakerModel_components_171 (lv_at hl 7 rfl) ?_
                    refine lv_iload hx hb d_DiscMakerModel_components_173 (lv_at hl 6 rfl) ?_
                    refine lv_isub hx hb d_DiscMakerModel_components_175 ?_
                    refine lv_topi (fun v117 e_v117 => ?_)
                    have t_v117 : v117.toInt = lq.toInt - lp.toInt := by rw [e_v117]; exact i_sub rfl rfl (by omega) (by omega)
                    refine lv_goto (tgt := 180) hx hb d_DiscMakerModel_components_176 (by decide) ?_
                    refine lv_istore hx hb d_DiscMakerModel_components_180 hl (by decide) rfl (fun ls hl => ?_)
                    have hl : lv_has ls 10 [(8, .int v117), (7, .int 0), (0, .ref h0), (1, .int x), (2, .int y), (3, .int v1), (4, .int al), (5, .int lp), (6, .int lq)] := hl
                    refine lv_iload hx hb d_DiscMakerModel_components_182 (lv_at hl 8 rfl) ?_
                    refine lv_iload hx hb d_DiscMakerModel_components_184 (lv_at hl 7 rfl) ?_
                    refine lv_icmp_le (tgt := 258) hx hb d_DiscMakerModel_components_186 (by decide) (fun h_9 => ?_) (fun h_9 => ?_)
                    · skip
                      have g186_475 : lq.toInt ≤ lp.toInt := (i_le rfl rfl).mp h_9
                      refine lv_iload hx hb d_DiscMakerModel_components_258 (lv_at hl 8 rfl) ?_
                      refine lv_iconst (v := 1) hx hb d_DiscMakerModel_components_260 (by decide) ?_
                      refine lv_iadd hx hb d_DiscMakerModel_components_261 ?_
                      refine lv_topi (fun v118 e_v118 => ?_)
                      have t_v118 : v118.toInt = lq.toInt + 1 := by rw [e_v118]; exact i_add rfl (by decide) (by omega) (by omega)
                      refine lv_istore hx hb d_DiscMakerModel_components_262 hl (by decide) rfl (fun ls hl => ?_)
                      have hl : lv_has ls 10 [(5, .int v118), (8, .int v117), (7, .int 0), (0, .ref h0), (1, .int x), (2, .int y), (3, .int v1), (4, .int al), (6, .int lq)] := hl
                      refine lv_goto (tgt := 41) hx hb d_DiscMakerModel_components_264 (by decide) ?_
                      have hP := hP.sub (ws' := [(h0, .inr (11, MO ma sv_thrown sv_length sv_nodes sv_many sv_directories sv_runsFrom sv_runs sv_read sv_wrong sv_isNamed sv_goes sv_goesSize sv_goesAt sv_targetParts sv_isRoot)), ((ma 16), .inl (cJ, 46080, .inr (.inl lF))), ((ma 10), .inl (cB, 8000, .inl fT)), ((ma 11), .inl (cI, 40, .inl fTS))]) [0, 1, 2, 3] rfl
                      have hD := hD.sub (ws' := [(h0, .inr (11, MO ma sv_thrown sv_length sv_nodes sv_many sv_directories sv_runsFrom sv_runs sv_read sv_wrong sv_isNamed sv_goes sv_goesSize sv_goesAt sv_targetParts sv_isRoot)), ((ma 16), .inl (cJ, 46080, .inr (.inl lF))), ((ma 10), .inl (cB, 8000, .inl fT)), ((ma 11), .inl (cI, 40, .inl fTS))]) [0, 1, 2, 3] (by decide) rfl
                      have hl := lv_sub hl [3, 4, 5, 6, 7, 0] rfl
                      exact ih41 (_) (by first | omega | (dsimp only; omega)) _ _ _ _ ⟨al, v118, lF, rfl, rfl, (by (try dsimp only); first | assumption | omega | trivial), (by (try dsimp only); first | assumption | omega | trivial), (by have h0 := cmL_go (t := (tgF fT x.toNatClampNeg)) (n := (fTS x.toNatClampNeg).toInt.toNat) (p := lp.toNatClampNeg) (all := al.toNatClampNeg) (by omega); have h1 := i_cl (a := v118) (by omega); have h2 := i_cl (a := al) (by omega); rw [h81, f2] at h0; rw [show v118.toNatClampNeg = lq.toNatClampNeg + 1 by omega, show al.toNatClampNeg = al.toNatClampNeg + cbF (tgF fT x.toNatClampNeg) lp.toNatClampNeg lq.toNatClampNeg by omega]; exact h0.symm), hP, hD, hS, hl⟩
                    · skip
                      have g186_475 : ¬ lq.toInt ≤ lp.toInt := fun h8 => h_9 ((i_le rfl rfl).mpr h8)
                      refine lv_aload_n hx hb d_DiscMakerModel_components_189 rfl (lv_at hl 2 rfl) ?_
                      refine lv_iload_n hx hb d_DiscMakerModel_components_190 rfl (lv_at hl 4 rfl) ?_
                      refine lv_iload hx hb d_DiscMakerModel_components_191 (lv_at hl 6 rfl) ?_
                      refine lv_iload hx hb d_DiscMakerModel_components_193 (lv_at hl 1 rfl) ?_
                      refine lv_iload hx hb d_DiscMakerModel_components_195 (lv_at hl 0 rfl) ?_
                      have hPc := hP.sub (ws' := [(h0, .inr (11, MO ma sv_thrown sv_length sv_nodes sv_many sv_directories sv_runsFrom sv_runs sv_read sv_wrong sv_isNamed sv_goes sv_goesSize sv_goesAt sv_targetParts sv_isRoot)), ((ma 16), .inl (cJ, 46080, .inr (.inl lF)))]) [0, 1] rfl
                      have hDc := hD.sub (ws' := [(h0, .inr (11, MO ma sv_thrown sv_length sv_nodes sv_many sv_directories sv_runsFrom sv_runs sv_read sv_wrong sv_isNamed sv_goes sv_goesSize sv_goesAt sv_targetParts sv_isRoot)), ((ma 16), .inl (cJ, 46080, .inr (.inl lF)))]) [0, 1] (by decide) rfl
                      have hFc := va_free (wc := [(h0, .inr (11, MO ma sv_thrown sv_length sv_nodes sv_many sv_directories sv_runsFrom sv_runs sv_read sv_wrong sv_isNamed sv_goes sv_goesSize sv_goesAt sv_targetParts sv_isRoot)), ((ma 16), .inl (cJ, 46080, .inr (.inl lF)))]) hD hS hA [0, 1] rfl
                      have hkc : 0 ≤ 0 := by decide
                      have hks : 0 ≤ 0 := by decide
                      refine va_callv (va_runV (C := "DiscMakerModel") (As := [.int y, .int al, .int 0, .int v117]) (rest := []) ⟨hx, hb, hml, hown, hts⟩ (m_mark l D cB cI cJ cZ cN cF H.size h0 ma sv_thrown sv_length sv_nodes sv_many sv_directories sv_runsFrom sv_runs sv_read sv_wrong sv_isNamed sv_goes sv_goesSize sv_goesAt sv_targetParts sv_isRoot lF y al 0 v117 (by (try dsimp only); first | assumption | omega | trivial)) (cwV 4 hts (lg_goodV k1723 k1725 k78 k125 kc_DiscMakerModel_mark) rfl rfl rfl (by decide +kernel) ⟨Nat.le_of_ble_eq_true rfl, Nat.le_of_ble_eq_true rfl⟩) ⟨fun a U g mk q => by obtain ⟨q0, q1, qP, qK, qN, qD⟩ := q; exact ⟨q0, q1, qP, va_K.moved (u := U) (U := U.calling g mk a) (Vm.Alike.refl U.vm) qK, qN.calling, qD⟩, va_recv hK hP (ci := 11) (q0 := 0) rfl rfl, fun U hU hW => ⟨rfl, by rw [hU], by rw [hU]; exact hPc, va_K.moved hW.alike hK, NN.warm hW hN, hDc.weaken (fun _ _ _ _ => trivial)⟩⟩ rfl rfl hl.1 rfl (lv_room (Nat.le_of_ble_eq_true rfl)) d_DiscMakerModel_components_197 ⟨hkc, hks⟩) hS (fun q _ h => hFc q h) hFc (fun u t H1 locs ht hvm hp_r119 hB hz1 hk1 hS => ?_)
                      obtain ⟨G_120, rfl⟩ : ∃ z, z = u := ⟨_, rfl⟩
                      obtain ⟨hP1, hD1⟩ := hB
                      rw [ht] at hP1
                      obtain ⟨hP, hD⟩ := va_join (wr := [((ma 10), .inl (cB, 8000, .inl fT)), ((ma 11), .inl (cI, 40, .inl fTS))]) (w1 := [(h0, .inr (11, MO ma sv_thrown sv_length sv_nodes sv_many sv_directories sv_runsFrom sv_runs sv_read sv_wrong sv_isNamed sv_goes sv_goesSize sv_goesAt sv_targetParts sv_isRoot)), ((ma 16), .inl (cJ, 46080, .inr (.inl G_120)))]) hP hD [0, 1] [2, 3] rfl rfl (by decide) (by decide) hk1 hFc hP1 hD1
                      clear hPc hDc hFc hP1 hD1 hk1 hz1
                      generalize H1 = H at hP hS ⊢
                      have hP : va_P D CL [((ma 10), .inl (cB, 8000, .inl fT)), ((ma 11), .inl (cI, 40, .inl fTS)), (h0, .inr (11, MO ma sv_thrown sv_length sv_nodes sv_many sv_directories sv_runsFrom sv_runs sv_read sv_wrong sv_isNamed sv_goes sv_goesSize sv_goesAt sv_targetParts sv_isRoot)), ((ma 16), .inl (cJ, 46080, .inr (.inl G_120)))] H := hP
                      have hD : va_D A [((ma 10), .inl (cB, 8000, .inl fT)), ((ma 11), .inl (cI, 40, .inl fTS)), (h0, .inr (11, MO ma sv_thrown sv_length sv_nodes sv_many sv_directories sv_runsFrom sv_runs sv_read sv_wrong sv_isNamed sv_goes sv_goesSize sv_goesAt sv_targetParts sv_isRoot)), ((ma 16), .inl (cJ, 46080, .inr (.inl G_120)))] := hD
                      refine lv_iconst (v := 0) hx hb d_DiscMakerModel_components_200 (by decide) ?_
                      refine lv_istore hx hb d_DiscMakerModel_components_201 hl (by decide) rfl (fun ls hl => ?_)
                      have hl : lv_has ls 10 [(9, .int 0), (8, .int v117), (7, .int 0), (0, .ref h0), (1, .int x), (2, .int y), (3, .int v1), (4, .int al), (5, .int lp), (6, .int lq)] := hl
                      refine zz_lab (P := fun (lk : Nat) (H : Heap) (locs : List Loc) (ls : Array Slot) (stk : List Value) => ∃ (k9 : Int32) (nF : Nat → Int64) , lk = (201 - k9.toInt).toNat ∧ stk = [] ∧ (0 ≤ k9.toInt ∧ k9.toInt ≤ 200) ∧ va_P D CL [((ma 10), .inl (cB, 8000, .inl fT)), ((ma 11), .inl (cI, 40, .inl fTS)), (h0, .inr (11, MO ma sv_thrown sv_length sv_nodes sv_many sv_directories sv_runsFrom sv_runs sv_read sv_wrong sv_isNamed sv_goes sv_goesSize sv_goesAt sv_targetParts sv_isRoot)), ((ma 16), .inl (cJ, 46080, .inr (.inl nF)))] H ∧ va_D A [((ma 10), .inl (cB, 8000, .inl fT)), ((ma 11), .inl (cI, 40, .inl fTS)), (h0, .inr (11, MO ma sv_thrown sv_length sv_nodes sv_many sv_directories sv_runsFrom sv_runs sv_read sv_wrong sv_isNamed sv_goes sv_goesSize sv_goesAt sv_targetParts sv_isRoot)), ((ma 16), .inl (cJ, 46080, .inr (.inl nF)))] ∧ va_S A s.heap H locs ∧ lv_has ls 10 [(0, .ref h0), (1, .int x), (2, .int y), (3, .int v1), (4, .int al), (5, .int lp), (6, .int lq), (7, .int 0), (8, .int v117), (9, .int k9)]) 203 ?_ ?_
                      · skip
                        intro lk ih203 H locs ls stk hI
                        obtain ⟨k9, nF, hm203, rfl, f9, hP, hD, hS, hl⟩ := hI
                        refine lv_iload hx hb d_DiscMakerModel_components_203 (lv_at hl 9 rfl) ?_
                        refine lv_iload hx hb d_DiscMakerModel_components_205 (lv_at hl 8 rfl) ?_
                        refine lv_icmp_ge (tgt := 249) hx hb d_DiscMakerModel_components_207 (by decide) (fun h_9 => ?_) (fun h_9 => ?_)
                        · skip
                          have g207_492 : v117.toInt ≤ k9.toInt := (i_le rfl rfl).mp h_9
                          refine lv_iload hx hb d_DiscMakerModel_components_249 (lv_at hl 4 rfl) ?_
                          refine lv_iconst (v := 2) hx hb d_DiscMakerModel_components_251 (by decide) ?_
                          refine lv_iload hx hb d_DiscMakerModel_components_252 (lv_at hl 8 rfl) ?_
                          refine lv_iadd hx hb d_DiscMakerModel_components_254 ?_
                          refine lv_topi (fun v121 e_v121 => ?_)
                          have t_v121 : v121.toInt = 2 + v117.toInt := by rw [e_v121]; exact i_add (by decide) rfl (by omega) (by omega)
                          refine lv_iadd hx hb d_DiscMakerModel_components_255 ?_
                          refine lv_topi (fun v122 e_v122 => ?_)
                          have t_v122 : v122.toInt = al.toInt + v121.toInt := by rw [e_v122]; exact i_add rfl rfl (by omega) (by omega)
                          refine lv_istore hx hb d_DiscMakerModel_components_256 hl (by decide) rfl (fun ls hl => ?_)
                          have hl : lv_has ls 10 [(4, .int v122), (0, .ref h0), (1, .int x), (2, .int y), (3, .int v1), (5, .int lp), (6, .int lq), (7, .int 0), (8, .int v117), (9, .int k9)] := hl
                          refine lv_iload hx hb d_DiscMakerModel_components_258 (lv_at hl 6 rfl) ?_
                          refine lv_iconst (v := 1) hx hb d_DiscMakerModel_components_260 (by decide) ?_
                          refine lv_iadd hx hb d_DiscMakerModel_components_261 ?_
                          refine lv_topi (fun v123 e_v123 => ?_)
                          have t_v123 : v123.toInt = lq.toInt + 1 := by rw [e_v123]; exact i_add rfl (by decide) (by omega) (by omega)
                          refine lv_istore hx hb d_DiscMakerModel_components_262 hl (by decide) rfl (fun ls hl => ?_)
                          have hl : lv_has ls 10 [(5, .int v123), (4, .int v122), (0, .ref h0), (1, .int x), (2, .int y), (3, .int v1), (6, .int lq), (7, .int 0), (8, .int v117), (9, .int k9)] := hl
                          refine lv_goto (tgt := 41) hx hb d_DiscMakerModel_components_264 (by decide) ?_
                          have hP := hP.sub (ws' := [(h0, .inr (11, MO ma sv_thrown sv_length sv_nodes sv_many sv_directories sv_runsFrom sv_runs sv_read sv_wrong sv_isNamed sv_goes sv_goesSize sv_goesAt sv_targetParts sv_isRoot)), ((ma 16), .inl (cJ, 46080, .inr (.inl nF))), ((ma 10), .inl (cB, 8000, .inl fT)), ((ma 11), .inl (cI, 40, .inl fTS))]) [2, 3, 0, 1] rfl
                          have hD := hD.sub (ws' := [(h0, .inr (11, MO ma sv_thrown sv_length sv_nodes sv_many sv_directories sv_runsFrom sv_runs sv_read sv_wrong sv_isNamed sv_goes sv_goesSize sv_goesAt sv_targetParts sv_isRoot)), ((ma 16), .inl (cJ, 46080, .inr (.inl nF))), ((ma 10), .inl (cB, 8000, .inl fT)), ((ma 11), .inl (cI, 40, .inl fTS))]) [2, 3, 0, 1] (by decide) rfl
                          have hl := lv_sub hl [2, 3, 4, 5, 1, 0] rfl
                          exact ih41 (_) (by first | omega | (dsimp only; omega)) _ _ _ _ ⟨v122, v123, nF, rfl, rfl, (by (try dsimp only); first | assumption | omega | trivial), (by (try dsimp only); first | assumption | omega | trivial), (by have h0 := cmL_go (t := (tgF fT x.toNatClampNeg)) (n := (fTS x.toNatClampNeg).toInt.toNat) (p := lp.toNatClampNeg) (all := al.toNatClampNeg) (by omega); have h1 := i_cl (a := v123) (by omega); have h2 := i_cl (a := v122) (by omega); rw [h81, f2] at h0; rw [show v123.toNatClampNeg = lq.toNatClampNeg + 1 by omega, show v122.toNatClampNeg = al.toNatClampNeg + cbF (tgF fT x.toNatClampNeg) lp.toNatClampNeg lq.toNatClampNeg by omega]; exact h0.symm), hP, hD, hS, hl⟩
                        · skip
                          have g207_492 : ¬ v117.toInt ≤ k9.toInt := fun h8 => h_9 ((i_le rfl rfl).mpr h8)
                          refine lv_iload_n hx hb d_DiscMakerModel_components_210 rfl (lv_at hl 2 rfl) ?_
                          refine lv_if_lt (tgt := 249) hx hb d_DiscMakerModel_components_211 (by decide) (fun h_9 => ?_) (fun h_9 => ?_)
                          · skip
                            have g211_506 : y.toInt < 0 := (i_lt rfl (by decide)).mp h_9
                            refine lv_iload hx hb d_DiscMakerModel_components_249 (lv_at hl 4 rfl) ?_
                            refine lv_iconst (v := 2) hx hb d_DiscMakerModel_components_251 (by decide) ?_
                            refine lv_iload hx hb d_DiscMakerModel_components_252 (lv_at hl 8 rfl) ?_
                            refine lv_iadd hx hb d_DiscMakerModel_components_254 ?_
                            refine lv_topi (fun v124 e_v124 => ?_)
                            have t_v124 : v124.toInt = 2 + v117.toInt := by rw [e_v124]; exact i_add (by decide) rfl (by omega) (by omega)
                            refine lv_iadd hx hb d_DiscMakerModel_components_255 ?_
                            refine lv_topi (fun v125 e_v125 => ?_)
                            have t_v125 : v125.toInt = al.toInt + v124.toInt := by rw [e_v125]; exact i_add rfl rfl (by omega) (by omega)
                            refine lv_istore hx hb d_DiscMakerModel_components_256 hl (by decide) rfl (fun ls hl => ?_)
                            have hl : lv_has ls 10 [(4, .int v125), (0, .ref h0), (1, .int x), (2, .int y), (3, .int v1), (5, .int lp), (6, .int lq), (7, .int 0), (8, .int v117), (9, .int k9)] := hl
                            refine lv_iload hx hb d_DiscMakerModel_components_258 (lv_at hl 6 rfl) ?_
                            refine lv_iconst (v := 1) hx hb d_DiscMakerModel_components_260 (by decide) ?_
                            refine lv_iadd hx hb d_DiscMakerModel_components_261 ?_
                            refine lv_topi (fun v126 e_v126 => ?_)
                            have t_v126 : v126.toInt = lq.toInt + 1 := by rw [e_v126]; exact i_add rfl (by decide) (by omega) (by omega)
                            refine lv_istore hx hb d_DiscMakerModel_components_262 hl (by decide) rfl (fun ls hl => ?_)
                            have hl : lv_has ls 10 [(5, .int v126), (4, .int v125), (0, .ref h0), (1, .int x), (2, .int y), (3, .int v1), (6, .int lq), (7, .int 0), (8, .int v117), (9, .int k9)] := hl
                            refine lv_goto (tgt := 41) hx hb d_DiscMakerModel_components_264 (by decide) ?_
                            have hP := hP.sub (ws' := [(h0, .inr (11, MO ma sv_thrown sv_length sv_nodes sv_many sv_directories sv_runsFrom sv_runs sv_read sv_wrong sv_isNamed sv_goes sv_goesSize sv_goesAt sv_targetParts sv_isRoot)), ((ma 16), .inl (cJ, 46080, .inr (.inl nF))), ((ma 10), .inl (cB, 8000, .inl fT)), ((ma 11), .inl (cI, 40, .inl fTS))]) [2, 3, 0, 1] rfl
                            have hD := hD.sub (ws' := [(h0, .inr (11, MO ma sv_thrown sv_length sv_nodes sv_many sv_directories sv_runsFrom sv_runs sv_read sv_wrong sv_isNamed sv_goes sv_goesSize sv_goesAt sv_targetParts sv_isRoot)), ((ma 16), .inl (cJ, 46080, .inr (.inl nF))), ((ma 10), .inl (cB, 8000, .inl fT)), ((ma 11), .inl (cI, 40, .inl fTS))]) [2, 3, 0, 1] (by decide) rfl
                            have hl := lv_sub hl [2, 3, 4, 5, 1, 0] rfl
                            exact ih41 (_) (by first | omega | (dsimp only; omega)) _ _ _ _ ⟨v125, v126, nF, rfl, rfl, (by (try dsimp only); first | assumption | omega | trivial), (by (try dsimp only); first | assumption | omega | trivial), (by have h0 := cmL_go (t := (tgF fT x.toNatClampNeg)) (n := (fTS x.toNatClampNeg).toInt.toNat) (p := lp.toNatClampNeg) (all := al.toNatClampNeg) (by omega); have h1 := i_cl (a := v126) (by omega); have h2 := i_cl (a := v125) (by omega); rw [h81, f2] at h0; rw [show v126.toNatClampNeg = lq.toNatClampNeg + 1 by omega, show v125.toNatClampNeg = al.toNatClampNeg + cbF (tgF fT x.toNatClampNeg) lp.toNatClampNeg lq.toNatClampNeg by omega]; exact h0.symm), hP, hD, hS, hl⟩
                          · skip
                            have g211_506 : ¬ y.toInt < 0 := fun h8 => h_9 ((i_lt rfl (by decide)).mpr h8)
                            refine lv_aload_n hx hb d_DiscMakerModel_components_214 rfl (lv_at hl 0 rfl) ?_
                            refine lv_iload_n hx hb d_DiscMakerModel_components_215 rfl (lv_at hl 2 rfl) ?_
                            refine lv_iload hx hb d_DiscMakerModel_components_216 (lv_at hl 4 rfl) ?_
                            refine lv_iadd hx hb d_DiscMakerModel_components_218 ?_
                            refine lv_topi (fun v127 e_v127 => ?_)
                            have t_v127 : v127.toInt = y.toInt + al.toInt := by rw [e_v127]; exact i_add rfl rfl (by omega) (by omega)
                            refine lv_iconst (v := 2) hx hb d_DiscMakerModel_components_219 (by decide) ?_
                            refine lv_iadd hx hb d_DiscMakerModel_components_220 ?_
                            refine lv_topi (fun v128 e_v128 => ?_)
                            have t_v128 : v128.toInt = v127.toInt + 2 := by rw [e_v128]; exact i_add rfl (by decide) (by omega) (by omega)
                            refine lv_iload hx hb d_DiscMakerModel_components_221 (lv_at hl 9 rfl) ?_
                            refine lv_iadd hx hb d_DiscMakerModel_components_223 ?_
                            refine lv_topi (fun v129 e_v129 => ?_)
                            have t_v129 : v129.toInt = v128.toInt + k9.toInt := by rw [e_v129]; exact i_add rfl rfl (by omega) (by omega)
                            refine lv_aload_n hx hb d_DiscMakerModel_components_224 rfl (lv_at hl 0 rfl) ?_
                            refine va_get (D := D) (ci := 11) (v := .ref (ma 10)) (C := "DiscMakerModel") (T := F_DiscMakerModel) (N := 48) hx hb ht9 in_DiscMakerModel hown hK hP 2 rfl rfl 13 (by decide) (ht9 _ k1444) (fun _ h9 => h9) rfl d_DiscMakerModel_components_225 ?_
                            refine lv_sipush (v := 200) hx hb d_DiscMakerModel_components_228 (by decide) ?_
                            refine lv_iload_n hx hb d_DiscMakerModel_components_231 rfl (lv_at hl 1 rfl) ?_
                            refine lv_imul hx hb d_DiscMakerModel_components_232 ?_
                            refine lv_topi (fun v130 e_v130 => ?_)
                            have t_v130 : v130.toInt = 200 * x.toInt := by rw [e_v130]; exact i_mul (by decide) rfl (by omega) (by omega)
                            refine lv_iload hx hb d_DiscMakerModel_components_233 (lv_at hl 5 rfl) ?_
                            refine lv_iadd hx hb d_DiscMakerModel_components_235 ?_
                            refine lv_topi (fun v131 e_v131 => ?_)
                            have t_v131 : v131.toInt = v130.toInt + lp.toInt := by rw [e_v131]; exact i_add rfl rfl (by omega) (by omega)
                            refine lv_iload hx hb d_DiscMakerModel_components_236 (lv_at hl 9 rfl) ?_
                            refine lv_iadd hx hb d_DiscMakerModel_components_238 ?_
                            refine lv_topi (fun v132 e_v132 => ?_)
                            have t_v132 : v132.toInt = v131.toInt + k9.toInt := by rw [e_v132]; exact i_add rfl rfl (by omega) (by omega)
                            refine va_bald hx hb hK hP 0 0 rfl rfl (vp_in_iff.mpr ⟨by omega, by omega⟩) d_DiscMakerModel_components_239 ?_
                            refine lv_topi (fun v133 e_v133 => ?_)
                            have hPc := hP.sub (ws' := [(h0, .inr (11, MO ma sv_thrown sv_length sv_nodes sv_many sv_directories sv_runsFrom sv_runs sv_read sv_wrong sv_isNamed sv_goes sv_goesSize sv_goesAt sv_targetParts sv_isRoot)), ((ma 16), .inl (cJ, 46080, .inr (.inl nF)))]) [2, 3] rfl
                            have hDc := hD.sub (ws' := [(h0, .inr (11, MO ma sv_thrown sv_length sv_nodes sv_many sv_directories sv_runsFrom sv_runs sv_read sv_wrong sv_isNamed sv_goes sv_goesSize sv_goesAt sv_targetParts sv_isRoot)), ((ma 16), .inl (cJ, 46080, .inr (.inl nF)))]) [2, 3] (by decide) rfl
                            have hFc := va_free (wc := [(h0, .inr (11, MO ma sv_thrown sv_length sv_nodes sv_many sv_directories sv_runsFrom sv_runs sv_read sv_wrong sv_isNamed sv_goes sv_goesSize sv_goesAt sv_targetParts sv_isRoot)), ((ma 16), .inl (cJ, 46080, .inr (.inl nF)))]) hD hS hA [2, 3] rfl
                            have hkc : 0 ≤ 0 := by decide
                            have hks : 0 ≤ 0 := by decide
                            refine va_callv (va_runV (C := "DiscMakerModel") (As := [.int v129, .int v133]) (rest := []) ⟨hx, hb, hml, hown, hts⟩ (m_set l D cB cI cJ cZ cN cF H.size h0 ma sv_thrown sv_length sv_nodes sv_many sv_directories sv_runsFrom sv_runs sv_read sv_wrong sv_isNamed sv_goes sv_goesSize sv_goesAt sv_targetParts sv_isRoot nF v129 v133 (by (try dsimp only); first | assumption | omega | trivial) (by (try dsimp only); first | assumption | omega | trivial)) (cwV 2 hts (lg_goodV k1727 k1729 k79 k125 kc_DiscMakerModel_set) rfl rfl rfl (by decide +kernel) ⟨Nat.le_of_ble_eq_true rfl, Nat.le_of_ble_eq_true rfl⟩) ⟨fun a U g mk q => by obtain ⟨q0, q1, qP, qK, qN, qD⟩ := q; exact ⟨q0, q1, qP, va_K.moved (u := U) (U := U.calling g mk a) (Vm.Alike.refl U.vm) qK, qN.calling, qD⟩, va_recv hK hP (ci := 11) (q0 := 2) rfl rfl, fun U hU hW => ⟨rfl, by rw [hU], by rw [hU]; exact hPc, va_K.moved hW.alike hK, NN.warm hW hN, hDc.weaken (fun _ _ _ _ => trivial)⟩⟩ rfl rfl hl.1 rfl (lv_room (Nat.le_of_ble_eq_true rfl)) d_DiscMakerModel_components_240 ⟨hkc, hks⟩) hS (fun q _ h => hFc q h) hFc (fun u t H1 locs ht hvm hp_r134 hB hz1 hk1 hS => ?_)
                            obtain ⟨G_135, rfl⟩ : ∃ z, z = u := ⟨_, rfl⟩
                            obtain ⟨hP1, hD1⟩ := hB
                            rw [ht] at hP1
                            obtain ⟨hP, hD⟩ := va_join (wr := [((ma 10), .inl (cB, 8000, .inl fT)), ((ma 11), .inl (cI, 40, .inl fTS))]) (w1 := [(h0, .inr (11, MO ma sv_thrown sv_length sv_nodes sv_many sv_directories sv_runsFrom sv_runs sv_read sv_wrong sv_isNamed sv_goes sv_goesSize sv_goesAt sv_targetParts sv_isRoot)), ((ma 16), .inl (cJ, 46080, .inr (.inl G_135)))]) hP hD [2, 3] [0, 1] rfl rfl (by decide) (by decide) hk1 hFc hP1 hD1
                            clear hPc hDc hFc hP1 hD1 hk1 hz1
                            generalize H1 = H at hP hS ⊢
                            have hP : va_P D CL [((ma 10), .inl (cB, 8000, .inl fT)), ((ma 11), .inl (cI, 40, .inl fTS)), (h0, .inr (11, MO ma sv_thrown sv_length sv_nodes sv_many sv_directories sv_runsFrom sv_runs sv_read sv_wrong sv_isNamed sv_goes sv_goesSize sv_goesAt sv_targetParts sv_isRoot)), ((ma 16), .inl (cJ, 46080, .inr (.inl G_135)))] H := hP
                            have hD : va_D A [((ma 10), .inl (cB, 8000, .inl fT)), ((ma 11), .inl (cI, 40, .inl fTS)), (h0, .inr (11, MO ma sv_thrown sv_length sv_nodes sv_many sv_directories sv_runsFrom sv_runs sv_read sv_wrong sv_isNamed sv_goes sv_goesSize sv_goesAt sv_targetParts sv_isRoot)), ((ma 16), .inl (cJ, 46080, .inr (.inl G_135)))] := hD
                            obtain ⟨v136, e_v136⟩ : ∃ z : Int32, z = k9 + 1 := ⟨_, rfl⟩
                            refine lv_iinc (v := v136) hx hb d_DiscMakerModel_components_243 hl (k := 9) rfl e_v136.symm (by decide) rfl (fun ls hl => ?_)
                            have t_v136 : v136.toInt = k9.toInt + 1 := by rw [e_v136]; exact i_add rfl (by decide) (by omega) (by omega)
                            have hl : lv_has ls 10 [(9, .int v136), (0, .ref h0), (1, .int x), (2, .int y), (3, .int v1), (4, .int al), (5, .int lp), (6, .int lq), (7, .int 0), (8, .int v117)] := hl
                            refine lv_goto (tgt := 203) hx hb d_DiscMakerModel_components_246 (by decide) ?_
                            have hP := hP.sub (ws' := [((ma 10), .inl (cB, 8000, .inl fT)), ((ma 11), .inl (cI, 40, .inl fTS)), (h0, .inr (11, MO ma sv_thrown sv_length sv_nodes sv_many sv_directories sv_runsFrom sv_runs sv_read sv_wrong sv_isNamed sv_goes sv_goesSize sv_goesAt sv_targetParts sv_isRoot)), ((ma 16), .inl (cJ, 46080, .inr (.inl G_135)))]) [0, 1, 2, 3] rfl
                            have hD := hD.sub (ws' := [((ma 10), .inl (cB, 8000, .inl fT)), ((ma 11), .inl (cI, 40, .inl fTS)), (h0, .inr (11, MO ma sv_thrown sv_length sv_nodes sv_many sv_directories sv_runsFrom sv_runs sv_read sv_wrong sv_isNamed sv_goes sv_goesSize sv_goesAt sv_targetParts sv_isRoot)), ((ma 16), .inl (cJ, 46080, .inr (.inl G_135)))]) [0, 1, 2, 3] (by decide) rfl
                            have hl := lv_sub hl [1, 2, 3, 4, 5, 6, 7, 8, 9, 0] rfl
                            exact ih203 (_) (by first | omega | (dsimp only; omega)) _ _ _ _ ⟨v136, G_135, rfl, rfl, (by (try dsimp only); first | assumption | omega | trivial), hP, hD, hS, hl⟩
                      · skip
                        intro kk203
                        have hP := hP.sub (ws' := [((ma 10), .inl (cB, 8000, .inl fT)), ((ma 11), .inl (cI, 40, .inl fTS)), (h0, .inr (11, MO ma sv_thrown sv_length sv_nodes sv_many sv_directories sv_runsFrom sv_runs sv_read sv_wrong sv_isNamed sv_goes sv_goesSize sv_goesAt sv_targetParts sv_isRoot)), ((ma 16), .inl (cJ, 46080, .inr (.inl G_120)))]) [0, 1, 2, 3] rfl
                        have hD := hD.sub (ws' := [((ma 10), .inl (cB, 8000, .inl fT)), ((ma 11), .inl (cI, 40, .inl fTS)), (h0, .inr (11, MO ma sv_thrown sv_length sv_nodes sv_many sv_directories sv_runsFrom sv_runs sv_read sv_wrong sv_isNamed sv_goes sv_goesSize sv_goesAt sv_targetParts sv_isRoot)), ((ma 16), .inl (cJ, 46080, .inr (.inl G_120)))]) [0, 1, 2, 3] (by decide) rfl
                        have hl := lv_sub hl [3, 4, 5, 6, 7, 8, 9, 2, 1, 0] rfl
                        exact kk203 _ _ _ _ _ ⟨0, G_120, rfl, rfl, (by (try dsimp only); first | assumption | omega | trivial), hP, hD, hS, hl⟩
                  · skip
                    have g136_463 : v116.toInt = 46 := (i_eq rfl (by decide)).mp h_9
                    refine lv_aload_n hx hb d_DiscMakerModel_components_139 rfl (lv_at hl 0 rfl) ?_
                    refine va_get (D := D) (ci := 11) (v := .ref (ma 10)) (C := "DiscMakerModel") (T := F_DiscMakerModel) (N := 48) hx hb ht9 in_DiscMakerModel hown hK hP 0 rfl rfl 13 (by decide) (ht9 _ k1444) (fun _ h9 => h9) rfl d_DiscMakerModel_components_140 ?_
                    refine lv_sipush (v := 200) hx hb d_DiscMakerModel_components_143 (by decide) ?_
                    refine lv_iload_n hx hb d_DiscMakerModel_components_146 rfl (lv_at hl 1 rfl) ?_
                    refine lv_imul hx hb d_DiscMakerModel_components_147 ?_
                    refine lv_topi (fun v137 e_v137 => ?_)
                    have t_v137 : v137.toInt = 200 * x.toInt := by rw [e_v137]; exact i_mul (by decide) rfl (by omega) (by omega)
                    refine lv_iload hx hb d_DiscMakerModel_components_148 (lv_at hl 5 rfl) ?_
                    refine lv_iadd hx hb d_DiscMakerModel_components_150 ?_
                    refine lv_topi (fun v138 e_v138 => ?_)
                    have t_v138 : v138.toInt = v137.toInt + lp.toInt := by rw [e_v138]; exact i_add rfl rfl (by omega) (by omega)
                    refine lv_iconst (v := 1) hx hb d_DiscMakerModel_components_151 (by decide) ?_
                    refine lv_iadd hx hb d_DiscMakerModel_components_152 ?_
                    refine lv_topi (fun v139 e_v139 => ?_)
                    have t_v139 : v139.toInt = v138.toInt + 1 := by rw [e_v139]; exact i_add rfl (by decide) (by omega) (by omega)
                    refine va_bald hx hb hK hP 2 0 rfl rfl (vp_in_iff.mpr ⟨by omega, by omega⟩) d_DiscMakerModel_components_153 ?_
                    refine lv_topi (fun v140 e_v140 => ?_)
                    have c_v140 := i_cl (a := v139) (by omega)
                    have e2_v140 : v140 = fT (200 * x.toNatClampNeg + (lp.toNatClampNeg + 1)) := by rw [e_v140, show v139.toNatClampNeg = 200 * x.toNatClampNeg + (lp.toNatClampNeg + 1) by omega]
                    have qtv140 : (tgF fT x.toNatClampNeg ((lp.toNatClampNeg + 1))).toInt = v140.toInt := by unfold tgF; rw [e2_v140]
                    refine lv_bipush (v := 46) hx hb d_DiscMakerModel_components_154 (by decide) ?_
                    refine lv_icmp_ne (tgt := 163) hx hb d_DiscMakerModel_components_156 (by decide) (fun h_9 => ?_) (fun h_9 => ?_)
                    · skip
                      have g156_552 : ¬ v140.toInt = 46 := fun h8 => h_9 ((i_eq rfl (by decide)).mpr h8)
                      refine lv_iconst (v := 0) hx hb d_DiscMakerModel_components_163 (by decide) ?_
                      refine lv_istore hx hb d_DiscMakerModel_components_164 hl (by decide) rfl (fun ls hl => ?_)
                      have hl : lv_has ls 10 [(7, .int 0), (0, .ref h0), (1, .int x), (2, .int y), (3, .int v1), (4, .int al), (5, .int lp), (6, .int lq)] := hl
                      refine lv_iload hx hb d_DiscMakerModel_components_166 (lv_at hl 0 rfl) ?_
                      refine lv_if_ne (tgt := 179) hx hb d_DiscMakerModel_components_168 (by decide) (fun h_9 => absurd (by decide) h_9) (fun _ => ?_)
                      refine lv_iload hx hb d_DiscMakerModel_components_171 (lv_at hl 7 rfl) ?_
                      refine lv_iload hx hb d_DiscMakerModel_components_173 (lv_at hl 6 rfl) ?_
                      refine lv_isub hx hb d_DiscMakerModel_components_175 ?_
                      refine lv_topi (fun v141 e_v141 => ?_)
                      have t_v141 : v141.toInt = lq.toInt - lp.toInt := by rw [e_v141]; exact i_sub rfl rfl (by omega) (by omega)
                      refine lv_goto (tgt := 180) hx hb d_DiscMakerModel_components_176 (by decide) ?_
                      refine lv_istore hx hb d_DiscMakerModel_components_180 hl (by decide) rfl (fun ls hl => ?_)
                      have hl : lv_has ls 10 [(8, .int v141), (7, .int 0), (0, .ref h0), (1, .int x), (2, .int y), (3, .int v1), (4, .int al), (5, .int lp), (6, .int lq)] := hl
                      refine lv_iload hx hb d_DiscMakerModel_components_182 (lv_at hl 8 rfl) ?_
                      refine lv_iload hx hb d_DiscMakerModel_components_184 (lv_at hl 7 rfl) ?_
                      refine lv_icmp_le (tgt := 258) hx hb d_DiscMakerModel_components_186 (by decide) (fun h_9 => ?_) (fun h_9 => ?_)
                      · skip
                        have g186_564 : lq.toInt ≤ lp.toInt := (i_le rfl rfl).mp h_9
                        refine lv_iload hx hb d_DiscMakerModel_components_258 (lv_at hl 8 rfl) ?_
                        refine lv_iconst (v := 1) hx hb d_DiscMakerModel_components_260 (by decide) ?_
                        refine lv_iadd hx hb d_DiscMakerModel_components_261 ?_
                        refine lv_topi (fun v142 e_v142 => ?_)
                        have t_v142 : v142.toInt = lq.toInt + 1 := by rw [e_v142]; exact i_add rfl (by decide) (by omega) (by omega)
                        refine lv_istore hx hb d_DiscMakerModel_components_262 hl (by decide) rfl (fun ls hl => ?_)
                        have hl : lv_has ls 10 [(5, .int v142), (8, .int v141), (7, .int 0), (0, .ref h0), (1, .int x), (2, .int y), (3, .int v1), (4, .int al), (6, .int lq)] := hl
                        refine lv_goto (tgt := 41) hx hb d_DiscMakerModel_components_264 (by decide) ?_
                        have hP := hP.sub (ws' := [(h0, .inr (11, MO ma sv_thrown sv_length sv_nodes sv_many sv_directories sv_runsFrom sv_runs sv_read sv_wrong sv_isNamed sv_goes sv_goesSize sv_goesAt sv_targetParts sv_isRoot)), ((ma 16), .inl (cJ, 46080, .inr (.inl lF))), ((ma 10), .inl (cB, 8000, .inl fT)), ((ma 11), .inl (cI, 40, .inl fTS))]) [0, 1, 2, 3] rfl
                        have hD := hD.sub (ws' := [(h0, .inr (11, MO ma sv_thrown sv_length sv_nodes sv_many sv_directories sv_runsFrom sv_runs sv_read sv_wrong sv_isNamed sv_goes sv_goesSize sv_goesAt sv_targetParts sv_isRoot)), ((ma 16), .inl (cJ, 46080, .inr (.inl lF))), ((ma 10), .inl (cB, 8000, .inl fT)), ((ma 11), .inl (cI, 40, .inl fTS))]) [0, 1, 2, 3] (by decide) rfl
                        have hl := lv_sub hl [3, 4, 5, 6, 7, 0] rfl
                        exact ih41 (_) (by first | omega | (dsimp only; omega)) _ _ _ _ ⟨al, v142, lF, rfl, rfl, (by (try dsimp only); first | assumption | omega | trivial), (by (try dsimp only); first | assumption | omega | trivial), (by have h0 := cmL_go (t := (tgF fT x.toNatClampNeg)) (n := (fTS x.toNatClampNeg).toInt.toNat) (p := lp.toNatClampNeg) (all := al.toNatClampNeg) (by omega); have h1 := i_cl (a := v142) (by omega); have h2 := i_cl (a := al) (by omega); rw [h81, f2] at h0; rw [show v142.toNatClampNeg = lq.toNatClampNeg + 1 by omega, show al.toNatClampNeg = al.toNatClampNeg + cbF (tgF fT x.toNatClampNeg) lp.toNatClampNeg lq.toNatClampNeg by omega]; exact h0.symm), hP, hD, hS, hl⟩
                      · skip
                        have g186_564 : ¬ lq.toInt ≤ lp.toInt := fun h8 => h_9 ((i_le rfl rfl).mpr h8)
                        refine lv_aload_n hx hb d_DiscMakerModel_components_189 rfl (lv_at hl 2 rfl) ?_
                        refine lv_iload_n hx hb d_DiscMakerModel_components_190 rfl (lv_at hl 4 rfl) ?_
                        refine lv_iload hx hb d_DiscMakerModel_components_191 (lv_at hl 6 rfl) ?_
                        refine lv_iload hx hb d_DiscMakerModel_components_193 (lv_at hl 1 rfl) ?_
                        refine lv_iload hx hb d_DiscMakerModel_components_195 (lv_at hl 0 rfl) ?_
                        have hPc := hP.sub (ws' := [(h0, .inr (11, MO ma sv_thrown sv_length sv_nodes sv_many sv_directories sv_runsFrom sv_runs sv_read sv_wrong sv_isNamed sv_goes sv_goesSize sv_goesAt sv_targetParts sv_isRoot)), ((ma 16), .inl (cJ, 46080, .inr (.inl lF)))]) [0, 1] rfl
                        have hDc := hD.sub (ws' := [(h0, .inr (11, MO ma sv_thrown sv_length sv_nodes sv_many sv_directories sv_runsFrom sv_runs sv_read sv_wrong sv_isNamed sv_goes sv_goesSize sv_goesAt sv_targetParts sv_isRoot)), ((ma 16), .inl (cJ, 46080, .inr (.inl lF)))]) [0, 1] (by decide) rfl
                        have hFc := va_free (wc := [(h0, .inr (11, MO ma sv_thrown sv_length sv_nodes sv_many sv_directories sv_runsFrom sv_runs sv_read sv_wrong sv_isNamed sv_goes sv_goesSize sv_goesAt sv_targetParts sv_isRoot)), ((ma 16), .inl (cJ, 46080, .inr (.inl lF)))]) hD hS hA [0, 1] rfl
                        have hkc : 0 ≤ 0 := by decide
                        have hks : 0 ≤ 0 := by decide
                        refine va_callv (va_runV (C := "DiscMakerModel") (As := [.int y, .int al, .int 0, .int v141]) (rest := []) ⟨hx, hb, hml, hown, hts⟩ (m_mark l D cB cI cJ cZ cN cF H.size h0 ma sv_thrown sv_length sv_nodes sv_many sv_directories sv_runsFrom sv_runs sv_read sv_wrong sv_isNamed sv_goes sv_goesSize sv_goesAt sv_targetParts sv_isRoot lF y al 0 v141 (by (try dsimp only); first | assumption | omega | trivial)) (cwV 4 hts (lg_goodV k1723 k1725 k78 k125 kc_DiscMakerModel_mark) rfl rfl rfl (by decide +kernel) ⟨Nat.le_of_ble_eq_true rfl, Nat.le_of_ble_eq_true rfl⟩) ⟨fun a U g mk q => by obtain ⟨q0, q1, qP, qK, qN, qD⟩ := q; exact ⟨q0, q1, qP, va_K.moved (u := U) (U := U.calling g mk a) (Vm.Alike.refl U.vm) qK, qN.calling, qD⟩, va_recv hK hP (ci := 11) (q0 := 0) rfl rfl, fun U hU hW => ⟨rfl, by rw [hU], by rw [hU]; exact hPc, va_K.moved hW.alike hK, NN.warm hW hN, hDc.weaken (fun _ _ _ _ => trivial)⟩⟩ rfl rfl hl.1 rfl (lv_room (Nat.le_of_ble_eq_true rfl)) d_DiscMakerModel_components_197 ⟨hkc, hks⟩) hS (fun q _ h => hFc q h) hFc (fun u t H1 locs ht hvm hp_r143 hB hz1 hk1 hS => ?_)
                        obtain ⟨G_144, rfl⟩ : ∃ z, z = u := ⟨_, rfl⟩
                        obtain ⟨hP1, hD1⟩ := hB
                        rw [ht] at hP1
                        obtain ⟨hP, hD⟩ := va_join (wr := [((ma 10), .inl (cB, 8000, .inl fT)), ((ma 11), .inl (cI, 40, .inl fTS))]) (w1 := [(h0, .inr (11, MO ma sv_thrown sv_length sv_nodes sv_many sv_directories sv_runsFrom sv_runs sv_read sv_wrong sv_isNamed sv_goes sv_goesSize sv_goesAt sv_targetParts sv_isRoot)), ((ma 16), .inl (cJ, 46080, .inr (.inl G_144)))]) hP hD [0, 1] [2, 3] rfl rfl (by decide) (by decide) hk1 hFc hP1 hD1
                        clear hPc hDc hFc hP1 hD1 hk1 hz1
                        generalize H1 = H at hP hS ⊢
                        have hP : va_P D CL [((ma 10), .inl (cB, 8000, .inl fT)), ((ma 11), .inl (cI, 40, .inl fTS)), (h0, .inr (11, MO ma sv_thrown sv_length sv_nodes sv_many sv_directories sv_runsFrom sv_runs sv_read sv_wrong sv_isNamed sv_goes sv_goesSize sv_goesAt sv_targetParts sv_isRoot)), ((ma 16), .inl (cJ, 46080, .inr (.inl G_144)))] H := hP
                        have hD : va_D A [((ma 10), .inl (cB, 8000, .inl fT)), ((ma 11), .inl (cI, 40, .inl fTS)), (h0, .inr (11, MO ma sv_thrown sv_length sv_nodes sv_many sv_directories sv_runsFrom sv_runs sv_read sv_wrong sv_isNamed sv_goes sv_goesSize sv_goesAt sv_targetParts sv_isRoot)), ((ma 16), .inl (cJ, 46080, .inr (.inl G_144)))] := hD
                        refine lv_iconst (v := 0) hx hb d_DiscMakerModel_components_200 (by decide) ?_
                        refine lv_istore hx hb d_DiscMakerModel_components_201 hl (by decide) rfl (fun ls hl => ?_)
                        have hl : lv_has ls 10 [(9, .int 0), (8, .int v141), (7, .int 0), (0, .ref h0), (1, .int x), (2, .int y), (3, .int v1), (4, .int al), (5, .int lp), (6, .int lq)] := hl
                        refine zz_lab (P := fun (lk : Nat) (H : Heap) (locs : List Loc) (ls : Array Slot) (stk : List Value) => ∃ (k9 : Int32) (nF : Nat → Int64) , lk = (201 - k9.toInt).toNat ∧ stk = [] ∧ (0 ≤ k9.toInt ∧ k9.toInt ≤ 200) ∧ va_P D CL [((ma 10), .inl (cB, 8000, .inl fT)), ((ma 11), .inl (cI, 40, .inl fTS)), (h0, .inr (11, MO ma sv_thrown sv_length sv_nodes sv_many sv_directories sv_runsFrom sv_runs sv_read sv_wrong sv_isNamed sv_goes sv_goesSize sv_goesAt sv_targetParts sv_isRoot)), ((ma 16), .inl (cJ, 46080, .inr (.inl nF)))] H ∧ va_D A [((ma 10), .inl (cB, 8000, .inl fT)), ((ma 11), .inl (cI, 40, .inl fTS)), (h0, .inr (11, MO ma sv_thrown sv_length sv_nodes sv_many sv_directories sv_runsFrom sv_runs sv_read sv_wrong sv_isNamed sv_goes sv_goesSize sv_goesAt sv_targetParts sv_isRoot)), ((ma 16), .inl (cJ, 46080, .inr (.inl nF)))] ∧ va_S A s.heap H locs ∧ lv_has ls 10 [(0, .ref h0), (1, .int x), (2, .int y), (3, .int v1), (4, .int al), (5, .int lp), (6, .int lq), (7, .int 0), (8, .int v141), (9, .int k9)]) 203 ?_ ?_
                        · skip
                          intro lk ih203 H locs ls stk hI
                          obtain ⟨k9, nF, hm203, rfl, f9, hP, hD, hS, hl⟩ := hI
                          refine lv_iload hx hb d_DiscMakerModel_components_203 (lv_at hl 9 rfl) ?_
                          refine lv_iload hx hb d_DiscMakerModel_components_205 (lv_at hl 8 rfl) ?_
                          refine lv_icmp_ge (tgt := 249) hx hb d_DiscMakerModel_components_207 (by decide) (fun h_9 => ?_) (fun h_9 => ?_)
                          · skip
                            have g207_581 : v141.toInt ≤ k9.toInt := (i_le rfl rfl).mp h_9
                            refine lv_iload hx hb d_DiscMakerModel_components_249 (lv_at hl 4 rfl) ?_
                            refine lv_iconst (v := 2) hx hb d_DiscMakerModel_components_251 (by decide) ?_
                            refine lv_iload hx hb d_DiscMakerModel_components_252 (lv_at hl 8 rfl) ?_
                            refine lv_iadd hx hb d_DiscMakerModel_components_254 ?_
                            refine lv_topi (fun v145 e_v145 => ?_)
                            have t_v145 : v145.toInt = 2 + v141.toInt := by rw [e_v145]; exact i_add (by decide) rfl (by omega) (by omega)
                            refine lv_iadd hx hb d_DiscMakerModel_components_255 ?_
                            refine lv_topi (fun v146 e_v146 => ?_)
                            have t_v146 : v146.toInt = al.toInt + v145.toInt := by rw [e_v146]; exact i_add rfl rfl (by omega) (by omega)
                            refine lv_istore hx hb d_DiscMakerModel_components_256 hl (by decide) rfl (fun ls hl => ?_)
                            have hl : lv_has ls 10 [(4, .int v146), (0, .ref h0), (1, .int x), (2, .int y), (3, .int v1), (5, .int lp), (6, .int lq), (7, .int 0), (8, .int v141), (9, .int k9)] := hl
                            refine lv_iload hx hb d_DiscMakerModel_components_258 (lv_at hl 6 rfl) ?_
                            refine lv_iconst (v := 1) hx hb d_DiscMakerModel_components_260 (by decide) ?_
                            refine lv_iadd hx hb d_DiscMakerModel_components_261 ?_
                            refine lv_topi (fun v147 e_v147 => ?_)
                            have t_v147 : v147.toInt = lq.toInt + 1 := by rw [e_v147]; exact i_add rfl (by decide) (by omega) (by omega)
                            refine lv_istore hx hb d_DiscMakerModel_components_262 hl (by decide) rfl (fun ls hl => ?_)
                            have hl : lv_has ls 10 [(5, .int v147), (4, .int v146), (0, .ref h0), (1, .int x), (2, .int y), (3, .int v1), (6, .int lq), (7, .int 0), (8, .int v141), (9, .int k9)] := hl
                            refine lv_goto (tgt := 41) hx hb d_DiscMakerModel_components_264 (by decide) ?_
                            have hP := hP.sub (ws' := [(h0, .inr (11, MO ma sv_thrown sv_length sv_nodes sv_many sv_directories sv_runsFrom sv_runs sv_read sv_wrong sv_isNamed sv_goes sv_goesSize sv_goesAt sv_targetParts sv_isRoot)), ((ma 16), .inl (cJ, 46080, .inr (.inl nF))), ((ma 10), .inl (cB, 8000, .inl fT)), ((ma 11), .inl (cI, 40, .inl fTS))]) [2, 3, 0, 1] rfl
                            have hD := hD.sub (ws' := [(h0, .inr (11, MO ma sv_thrown sv_length sv_nodes sv_many sv_directories sv_runsFrom sv_runs sv_read sv_wrong sv_isNamed sv_goes sv_goesSize sv_goesAt sv_targetParts sv_isRoot)), ((ma 16), .inl (cJ, 46080, .inr (.inl nF))), ((ma 10), .inl (cB, 8000, .inl fT)), ((ma 11), .inl (cI, 40, .inl fTS))]) [2, 3, 0, 1] (by decide) rfl
                            have hl := lv_sub hl [2, 3, 4, 5, 1, 0] rfl
                            exact ih41 (_) (by first | omega | (dsimp only; omega)) _ _ _ _ ⟨v146, v147, nF, rfl, rfl, (by (try dsimp only); first | assumption | omega | trivial), (by (try dsimp only); first | assumption | omega | trivial), (by have h0 := cmL_go (t := (tgF fT x.toNatClampNeg)) (n := (fTS x.toNatClampNeg).toInt.toNat) (p := lp.toNatClampNeg) (all := al.toNatClampNeg) (by omega); have h1 := i_cl (a := v147) (by omega); have h2 := i_cl (a := v146) (by omega); rw [h81, f2] at h0; rw [show v147.toNatClampNeg = lq.toNatClampNeg + 1 by omega, show v146.toNatClampNeg = al.toNatClampNeg + cbF (tgF fT x.toNatClampNeg) lp.toNatClampNeg lq.toNatClampNeg by omega]; exact h0.symm), hP, hD, hS, hl⟩
                          · skip
                            have g207_581 : ¬ v141.toInt ≤ k9.toInt := fun h8 => h_9 ((i_le rfl rfl).mpr h8)
                            refine lv_iload_n hx hb d_DiscMakerModel_components_210 rfl (lv_at hl 2 rfl) ?_
                            refine lv_if_lt (tgt := 249) hx hb d_DiscMakerModel_components_211 (by decide) (fun h_9 => ?_) (fun h_9 => ?_)
                            · skip
                              have g211_595 : y.toInt < 0 := (i_lt rfl (by decide)).mp h_9
                              refine lv_iload hx hb d_DiscMakerModel_components_249 (lv_at hl 4 rfl) ?_
                              refine lv_iconst (v := 2) hx hb d_DiscMakerModel_components_251 (by decide) ?_
                              refine lv_iload hx hb d_DiscMakerModel_components_252 (lv_at hl 8 rfl) ?_
                              refine lv_iadd hx hb d_DiscMakerModel_components_254 ?_
                              refine lv_topi (fun v148 e_v148 => ?_)
                              have t_v148 : v148.toInt = 2 + v141.toInt := by rw [e_v148]; exact i_add (by decide) rfl (by omega) (by omega)
                              refine lv_iadd hx hb d_DiscMakerModel_components_255 ?_
                              refine lv_topi (fun v149 e_v149 => ?_)
                              have t_v149 : v149.toInt = al.toInt + v148.toInt := by rw [e_v149]; exact i_add rfl rfl (by omega) (by omega)
                              refine lv_istore hx hb d_DiscMakerModel_components_256 hl (by decide) rfl (fun ls hl => ?_)
                              have hl : lv_has ls 10 [(4, .int v149), (0, .ref h0), (1, .int x), (2, .int y), (3, .int v1), (5, .int lp), (6, .int lq), (7, .int 0), (8, .int v141), (9, .int k9)] := hl
                              refine lv_iload hx hb d_DiscMakerModel_components_258 (lv_at hl 6 rfl) ?_
                              refine lv_iconst (v := 1) hx hb d_DiscMakerModel_components_260 (by decide) ?_
                              refine lv_iadd hx hb d_DiscMakerModel_components_261 ?_
                              refine lv_topi (fun v150 e_v150 => ?_)
                              have t_v150 : v150.toInt = lq.toInt + 1 := by rw [e_v150]; exact i_add rfl (by decide) (by omega) (by omega)
                              refine lv_istore hx hb d_DiscMakerModel_components_262 hl (by decide) rfl (fun ls hl => ?_)
                              have hl : lv_has ls 10 [(5, .int v150), (4, .int v149), (0, .ref h0), (1, .int x), (2, .int y), (3, .int v1), (6, .int lq), (7, .int 0), (8, .int v141), (9, .int k9)] := hl
                              refine lv_goto (tgt := 41) hx hb d_DiscMakerModel_components_264 (by decide) ?_
                              have hP := hP.sub (ws' := [(h0, .inr (11, MO ma sv_thrown sv_length sv_nodes sv_many sv_directories sv_runsFrom sv_runs sv_read sv_wrong sv_isNamed sv_goes sv_goesSize sv_goesAt sv_targetParts sv_isRoot)), ((ma 16), .inl (cJ, 46080, .inr (.inl nF))), ((ma 10), .inl (cB, 8000, .inl fT)), ((ma 11), .inl (cI, 40, .inl fTS))]) [2, 3, 0, 1] rfl
                              have hD := hD.sub (ws' := [(h0, .inr (11, MO ma sv_thrown sv_length sv_nodes sv_many sv_directories sv_runsFrom sv_runs sv_read sv_wrong sv_isNamed sv_goes sv_goesSize sv_goesAt sv_targetParts sv_isRoot)), ((ma 16), .inl (cJ, 46080, .inr (.inl nF))), ((ma 10), .inl (cB, 8000, .inl fT)), ((ma 11), .inl (cI, 40, .inl fTS))]) [2, 3, 0, 1] (by decide) rfl
                              have hl := lv_sub hl [2, 3, 4, 5, 1, 0] rfl
                              exact ih41 (_) (by first | omega | (dsimp only; omega)) _ _ _ _ ⟨v149, v150, nF, rfl, rfl, (by (try dsimp only); first | assumption | omega | trivial), (by (try dsimp only); first | assumption | omega | trivial), (by have h0 := cmL_go (t := (tgF fT x.toNatClampNeg)) (n := (fTS x.toNatClampNeg).toInt.toNat) (p := lp.toNatClampNeg) (all := al.toNatClampNeg) (by omega); have h1 := i_cl (a := v150) (by omega); have h2 := i_cl (a := v149) (by omega); rw [h81, f2] at h0; rw [show v150.toNatClampNeg = lq.toNatClampNeg + 1 by omega, show v149.toNatClampNeg = al.toNatClampNeg + cbF (tgF fT x.toNatClampNeg) lp.toNatClampNeg lq.toNatClampNeg by omega]; exact h0.symm), hP, hD, hS, hl⟩
                            · skip
                              have g211_595 : ¬ y.toInt < 0 := fun h8 => h_9 ((i_lt rfl (by decide)).mpr h8)
                              refine lv_aload_n hx hb d_DiscMakerModel_components_214 rfl (lv_at hl 0 rfl) ?_
                              refine lv_iload_n hx hb d_DiscMakerModel_components_215 rfl (lv_at hl 2 rfl) ?_
                              refine lv_iload hx hb d_DiscMakerModel_components_216 (lv_at hl 4 rfl) ?_
                              refine lv_iadd hx hb d_DiscMakerModel_components_218 ?_
                              refine lv_topi (fun v151 e_v151 => ?_)
                              have t_v151 : v151.toInt = y.toInt + al.toInt := by rw [e_v151]; exact i_add rfl rfl (by omega) (by omega)
                              refine lv_iconst (v := 2) hx hb d_DiscMakerModel_components_219 (by decide) ?_
                              refine lv_iadd hx hb d_DiscMakerModel_components_220 ?_
                              refine lv_topi (fun v152 e_v152 => ?_)
                              have t_v152 : v152.toInt = v151.toInt + 2 := by rw [e_v152]; exact i_add rfl (by decide) (by omega) (by omega)
                              refine lv_iload hx hb d_DiscMakerModel_components_221 (lv_at hl 9 rfl) ?_
                              refine lv_iadd hx hb d_DiscMakerModel_components_223 ?_
                              refine lv_topi (fun v153 e_v153 => ?_)
                              have t_v153 : v153.toInt = v152.toInt + k9.toInt := by rw [e_v153]; exact i_add rfl rfl (by omega) (by omega)
                              refine lv_aload_n hx hb d_DiscMakerModel_components_224 rfl (lv_at hl 0 rfl) ?_
                              refine va_get (D := D) (ci := 11) (v := .ref (ma 10)) (C := "DiscMakerModel") (T := F_DiscMakerModel) (N := 48) hx hb ht9 in_DiscMakerModel hown hK hP 2 rfl rfl 13 (by decide) (ht9 _ k1444) (fun _ h9 => h9) rfl d_DiscMakerModel_components_225 ?_
                              refine lv_sipush (v := 200) hx hb d_DiscMakerModel_components_228 (by decide) ?_
                              refine lv_iload_n hx hb d_DiscMakerModel_components_231 rfl (lv_at hl 1 rfl) ?_
                              refine lv_imul hx hb d_DiscMakerModel_components_232 ?_
                              refine lv_topi (fun v154 e_v154 => ?_)
                              have t_v154 : v154.toInt = 200 * x.toInt := by rw [e_v154]; exact i_mul (by decide) rfl (by omega) (by omega)
                              refine lv_iload hx hb d_DiscMakerModel_components_233 (lv_at hl 5 rfl) ?_
                              refine lv_iadd hx hb d_DiscMakerModel_components_235 ?_
                              refine lv_topi (fun v155 e_v155 => ?_)
                              have t_v155 : v155.toInt = v154.toInt + lp.toInt := by rw [e_v155]; exact i_add rfl rfl (by omega) (by omega)
                              refine lv_iload hx hb d_DiscMakerModel_components_236 (lv_at hl 9 rfl) ?_
                              refine lv_iadd hx hb d_DiscMakerModel_components_238 ?_
                              refine lv_topi (fun v156 e_v156 => ?_)
                              have t_v156 : v156.toInt = v155.toInt + k9.toInt := by rw [e_v156]; exact i_add rfl rfl (by omega) (by omega)
                              refine va_bald hx hb hK hP 0 0 rfl rfl (vp_in_iff.mpr ⟨by omega, by omega⟩) d_DiscMakerModel_components_239 ?_
                              refine lv_topi (fun v157 e_v157 => ?_)
                              have hPc := hP.sub (ws' := [(h0, .inr (11, MO ma sv_thrown sv_length sv_nodes sv_many sv_directories sv_runsFrom sv_runs sv_read sv_wrong sv_isNamed sv_goes sv_goesSize sv_goesAt sv_targetParts sv_isRoot)), ((ma 16), .inl (cJ, 46080, .inr (.inl nF)))]) [2, 3] rfl
                              have hDc := hD.sub (ws' := [(h0, .inr (11, MO ma sv_thrown sv_length sv_nodes sv_many sv_directories sv_runsFrom sv_runs sv_read sv_wrong sv_isNamed sv_goes sv_goesSize sv_goesAt sv_targetParts sv_isRoot)), ((ma 16), .inl (cJ, 46080, .inr (.inl nF)))]) [2, 3] (by decide) rfl
                              have hFc := va_free (wc := [(h0, .inr (11, MO ma sv_thrown sv_length sv_nodes sv_many sv_directories sv_runsFrom sv_runs sv_read sv_wrong sv_isNamed sv_goes sv_goesSize sv_goesAt sv_targetParts sv_isRoot)), ((ma 16), .inl (cJ, 46080, .inr (.inl nF)))]) hD hS hA [2, 3] rfl
                              have hkc : 0 ≤ 0 := by decide
                              have hks : 0 ≤ 0 := by decide
                              refine va_callv (va_runV (C := "DiscMakerModel") (As := [.int v153, .int v157]) (rest := []) ⟨hx, hb, hml, hown, hts⟩ (m_set l D cB cI cJ cZ cN cF H.size h0 ma sv_thrown sv_length sv_nodes sv_many sv_directories sv_runsFrom sv_runs sv_read sv_wrong sv_isNamed sv_goes sv_goesSize sv_goesAt sv_targetParts sv_isRoot nF v153 v157 (by (try dsimp only); first | assumption | omega | trivial) (by (try dsimp only); first | assumption | omega | trivial)) (cwV 2 hts (lg_goodV k1727 k1729 k79 k125 kc_DiscMakerModel_set) rfl rfl rfl (by decide +kernel) ⟨Nat.le_of_ble_eq_true rfl, Nat.le_of_ble_eq_true rfl⟩) ⟨fun a U g mk q => by obtain ⟨q0, q1, qP, qK, qN, qD⟩ := q; exact ⟨q0, q1, qP, va_K.moved (u := U) (U := U.calling g mk a) (Vm.Alike.refl U.vm) qK, qN.calling, qD⟩, va_recv hK hP (ci := 11) (q0 := 2) rfl rfl, fun U hU hW => ⟨rfl, by rw [hU], by rw [hU]; exact hPc, va_K.moved hW.alike hK, NN.warm hW hN, hDc.weaken (fun _ _ _ _ => trivial)⟩⟩ rfl rfl hl.1 rfl (lv_room (Nat.le_of_ble_eq_true rfl)) d_DiscMakerModel_components_240 ⟨hkc, hks⟩) hS (fun q _ h => hFc q h) hFc (fun u t H1 locs ht hvm hp_r158 hB hz1 hk1 hS => ?_)
                              obtain ⟨G_159, rfl⟩ : ∃ z, z = u := ⟨_, rfl⟩
                              obtain ⟨hP1, hD1⟩ := hB
                              rw [ht] at hP1
                              obtain ⟨hP, hD⟩ := va_join (wr := [((ma 10), .inl (cB, 8000, .inl fT)), ((ma 11), .inl (cI, 40, .inl fTS))]) (w1 := [(h0, .inr (11, MO ma sv_thrown sv_length sv_nodes sv_many sv_directories sv_runsFrom sv_runs sv_read sv_wrong sv_isNamed sv_goes sv_goesSize sv_goesAt sv_targetParts sv_isRoot)), ((ma 16), .inl (cJ, 46080, .inr (.inl G_159)))]) hP hD [2, 3] [0, 1] rfl rfl (by decide) (by decide) hk1 hFc hP1 hD1
                              clear hPc hDc hFc hP1 hD1 hk1 hz1
                              generalize H1 = H at hP hS ⊢
                              have hP : va_P D CL [((ma 10), .inl (cB, 8000, .inl fT)), ((ma 11), .inl (cI, 40, .inl fTS)), (h0, .inr (11, MO ma sv_thrown sv_length sv_nodes sv_many sv_directories sv_runsFrom sv_runs sv_read sv_wrong sv_isNamed sv_goes sv_goesSize sv_goesAt sv_targetParts sv_isRoot)), ((ma 16), .inl (cJ, 46080, .inr (.inl G_159)))] H := hP
                              have hD : va_D A [((ma 10), .inl (cB, 8000, .inl fT)), ((ma 11), .inl (cI, 40, .inl fTS)), (h0, .inr (11, MO ma sv_thrown sv_length sv_nodes sv_many sv_directories sv_runsFrom sv_runs sv_read sv_wrong sv_isNamed sv_goes sv_goesSize sv_goesAt sv_targetParts sv_isRoot)), ((ma 16), .inl (cJ, 46080, .inr (.inl G_159)))] := hD
                              obtain ⟨v160, e_v160⟩ : ∃ z : Int32, z = k9 + 1 := ⟨_, rfl⟩
                              refine lv_iinc (v := v160) hx hb d_DiscMakerModel_components_243 hl (k := 9) rfl e_v160.symm (by decide) rfl (fun ls hl => ?_)
                              have t_v160 : v160.toInt = k9.toInt + 1 := by rw [e_v160]; exact i_add rfl (by decide) (by omega) (by omega)
                              have hl : lv_has ls 10 [(9, .int v160), (0, .ref h0), (1, .int x), (2, .int y), (3, .int v1), (4, .int al), (5, .int lp), (6, .int lq), (7, .int 0), (8, .int v141)] := hl
                              refine lv_goto (tgt := 203) hx hb d_DiscMakerModel_components_246 (by decide) ?_
                              have hP := hP.sub (ws' := [((ma 10), .inl (cB, 8000, .inl fT)), ((ma 11), .inl (cI, 40, .inl fTS)), (h0, .inr (11, MO ma sv_thrown sv_length sv_nodes sv_many sv_directories sv_runsFrom sv_runs sv_read sv_wrong sv_isNamed sv_goes sv_goesSize sv_goesAt sv_targetParts sv_isRoot)), ((ma 16), .inl (cJ, 46080, .inr (.inl G_159)))]) [0, 1, 2, 3] rfl
                              have hD := hD.sub (ws' := [((ma 10), .inl (cB, 8000, .inl fT)), ((ma 11), .inl (cI, 40, .inl fTS)), (h0, .inr (11, MO ma sv_thrown sv_length sv_nodes sv_many sv_directories sv_runsFrom sv_runs sv_read sv_wrong sv_isNamed sv_goes sv_goesSize sv_goesAt sv_targetParts sv_isRoot)), ((ma 16), .inl (cJ, 46080, .inr (.inl G_159)))]) [0, 1, 2, 3] (by decide) rfl
                              have hl := lv_sub hl [1, 2, 3, 4, 5, 6, 7, 8, 9, 0] rfl
                              exact ih203 (_) (by first | omega | (dsimp only; omega)) _ _ _ _ ⟨v160, G_159, rfl, rfl, (by (try dsimp only); first | assumption | omega | trivial), hP, hD, hS, hl⟩
                        · skip
                          intro kk203
                          have hP := hP.sub (ws' := [((ma 10), .inl (cB, 8000, .inl fT)), ((ma 11), .inl (cI, 40, .inl fTS)), (h0, .inr (11, MO ma sv_thrown sv_length sv_nodes sv_many sv_directories sv_runsFrom sv_runs sv_read sv_wrong sv_isNamed sv_goes sv_goesSize sv_goesAt sv_targetParts sv_isRoot)), ((ma 16), .inl (cJ, 46080, .inr (.inl G_144)))]) [0, 1, 2, 3] rfl
                          have hD := hD.sub (ws' := [((ma 10), .inl (cB, 8000, .inl fT)), ((ma 11), .inl (cI, 40, .inl fTS)), (h0, .inr (11, MO ma sv_thrown sv_length sv_nodes sv_many sv_directories sv_runsFrom sv_runs sv_read sv_wrong sv_isNamed sv_goes sv_goesSize sv_goesAt sv_targetParts sv_isRoot)), ((ma 16), .inl (cJ, 46080, .inr (.inl G_144)))]) [0, 1, 2, 3] (by decide) rfl
                          have hl := lv_sub hl [3, 4, 5, 6, 7, 8, 9, 2, 1, 0] rfl
                          exact kk203 _ _ _ _ _ ⟨0, G_144, rfl, rfl, (by (try dsimp only); first | assumption | omega | trivial), hP, hD, hS, hl⟩
                    · skip
                      have g156_552 : v140.toInt = 46 := (i_eq rfl (by decide)).mp h_9
                      refine lv_iconst (v := 4) hx hb d_DiscMakerModel_components_159 (by decide) ?_
                      refine lv_goto (tgt := 164) hx hb d_DiscMakerModel_components_160 (by decide) ?_
                      refine lv_istore hx hb d_DiscMakerModel_components_164 hl (by decide) rfl (fun ls hl => ?_)
                      have hl : lv_has ls 10 [(7, .int 4), (0, .ref h0), (1, .int x), (2, .int y), (3, .int v1), (4, .int al), (5, .int lp), (6, .int lq)] := hl
                      refine lv_iload hx hb d_DiscMakerModel_components_166 (lv_at hl 0 rfl) ?_
                      refine lv_if_ne (tgt := 179) hx hb d_DiscMakerModel_components_168 (by decide) (fun _ => ?_) (fun h_9 => absurd h_9 (by decide))
                      refine lv_iconst (v := 0) hx hb d_DiscMakerModel_components_179 (by decide) ?_
                      refine lv_istore hx hb d_DiscMakerModel_components_180 hl (by decide) rfl (fun ls hl => ?_)
                      have hl : lv_has ls 10 [(8, .int 0), (7, .int 4), (0, .ref h0), (1, .int x), (2, .int y), (3, .int v1), (4, .int al), (5, .int lp), (6, .int lq)] := hl
                      refine lv_iload hx hb d_DiscMakerModel_components_182 (lv_at hl 8 rfl) ?_
                      refine lv_iload hx hb d_DiscMakerModel_components_184 (lv_at hl 7 rfl) ?_
                      refine lv_icmp_le (tgt := 258) hx hb d_DiscMakerModel_components_186 (by decide) (fun h_9 => ?_) (fun h_9 => ?_)
                      · skip
                        have g186_639 : lq.toInt ≤ lp.toInt := (i_le rfl rfl).mp h_9
                        refine lv_iload hx hb d_DiscMakerModel_components_258 (lv_at hl 8 rfl) ?_
                        refine lv_iconst (v := 1) hx hb d_DiscMakerModel_components_260 (by decide) ?_
                        refine lv_iadd hx hb d_DiscMakerModel_components_261 ?_
                        refine lv_topi (fun v161 e_v161 => ?_)
                        have t_v161 : v161.toInt = lq.toInt + 1 := by rw [e_v161]; exact i_add rfl (by decide) (by omega) (by omega)
                        refine lv_istore hx hb d_DiscMakerModel_components_262 hl (by decide) rfl (fun ls hl => ?_)
                        have hl : lv_has ls 10 [(5, .int v161), (8, .int 0), (7, .int 4), (0, .ref h0), (1, .int x), (2, .int y), (3, .int v1), (4, .int al), (6, .int lq)] := hl
                        refine lv_goto (tgt := 41) hx hb d_DiscMakerModel_components_264 (by decide) ?_
                        have hP := hP.sub (ws' := [(h0, .inr (11, MO ma sv_thrown sv_length sv_nodes sv_many sv_directories sv_runsFrom sv_runs sv_read sv_wrong sv_isNamed sv_goes sv_goesSize sv_goesAt sv_targetParts sv_isRoot)), ((ma 16), .inl (cJ, 46080, .inr (.inl lF))), ((ma 10), .inl (cB, 8000, .inl fT)), ((ma 11), .inl (cI, 40, .inl fTS))]) [0, 1, 2, 3] rfl
                        have hD := hD.sub (ws' := [(h0, .inr (11, MO ma sv_thrown sv_length sv_nodes sv_many sv_directories sv_runsFrom sv_runs sv_read sv_wrong sv_isNamed sv_goes sv_goesSize sv_goesAt sv_targetParts sv_isRoot)), ((ma 16), .inl (cJ, 46080, .inr (.inl lF))), ((ma 10), .inl (cB, 8000, .inl fT)), ((ma 11), .inl (cI, 40, .inl fTS))]) [0, 1, 2, 3] (by decide) rfl
                        have hl := lv_sub hl [3, 4, 5, 6, 7, 0] rfl
                        exact ih41 (_) (by first | omega | (dsimp only; omega)) _ _ _ _ ⟨al, v161, lF, rfl, rfl, (by (try dsimp only); first | assumption | omega | trivial), (by (try dsimp only); first | assumption | omega | trivial), (by have h0 := cmL_go (t := (tgF fT x.toNatClampNeg)) (n := (fTS x.toNatClampNeg).toInt.toNat) (p := lp.toNatClampNeg) (all := al.toNatClampNeg) (by omega); have h1 := i_cl (a := v161) (by omega); have h2 := i_cl (a := al) (by omega); rw [h81, f2] at h0; rw [show v161.toNatClampNeg = lq.toNatClampNeg + 1 by omega, show al.toNatClampNeg = al.toNatClampNeg + cbF (tgF fT x.toNatClampNeg) lp.toNatClampNeg lq.toNatClampNeg by omega]; exact h0.symm), hP, hD, hS, hl⟩
                      · skip
                        have g186_639 : ¬ lq.toInt ≤ lp.toInt := fun h8 => h_9 ((i_le rfl rfl).mpr h8)
                        refine lv_aload_n hx hb d_DiscMakerModel_components_189 rfl (lv_at hl 2 rfl) ?_
                        refine lv_iload_n hx hb d_DiscMakerModel_components_190 rfl (lv_at hl 4 rfl) ?_
                        refine lv_iload hx hb d_DiscMakerModel_components_191 (lv_at hl 6 rfl) ?_
                        refine lv_iload hx hb d_DiscMakerModel_components_193 (lv_at hl 1 rfl) ?_
                        refine lv_iload hx hb d_DiscMakerModel_components_195 (lv_at hl 0 rfl) ?_
                        have hPc := hP.sub (ws' := [(h0, .inr (11, MO ma sv_thrown sv_length sv_nodes sv_many sv_directories sv_runsFrom sv_runs sv_read sv_wrong sv_isNamed sv_goes sv_goesSize sv_goesAt sv_targetParts sv_isRoot)), ((ma 16), .inl (cJ, 46080, .inr (.inl lF)))]) [0, 1] rfl
                        have hDc := hD.sub (ws' := [(h0, .inr (11, MO ma sv_thrown sv_length sv_nodes sv_many sv_directories sv_runsFrom sv_runs sv_read sv_wrong sv_isNamed sv_goes sv_goesSize sv_goesAt sv_targetParts sv_isRoot)), ((ma 16), .inl (cJ, 46080, .inr (.inl lF)))]) [0, 1] (by decide) rfl
                        have hFc := va_free (wc := [(h0, .inr (11, MO ma sv_thrown sv_length sv_nodes sv_many sv_directories sv_runsFrom sv_runs sv_read sv_wrong sv_isNamed sv_goes sv_goesSize sv_goesAt sv_targetParts sv_isRoot)), ((ma 16), .inl (cJ, 46080, .inr (.inl lF)))]) hD hS hA [0, 1] rfl
                        have hkc : 0 ≤ 0 := by decide
                        have hks : 0 ≤ 0 := by decide
                        refine va_callv (va_runV (C := "DiscMakerModel") (As := [.int y, .int al, .int 4, .int 0]) (rest := []) ⟨hx, hb, hml, hown, hts⟩ (m_mark l D cB cI cJ cZ cN cF H.size h0 ma sv_thrown sv_length sv_nodes sv_many sv_directories sv_runsFrom sv_runs sv_read sv_wrong sv_isNamed sv_goes sv_goesSize sv_goesAt sv_targetParts sv_isRoot lF y al 4 0 (by (try dsimp only); first | assumption | omega | trivial)) (cwV 4 hts (lg_goodV k1723 k1725 k78 k125 kc_DiscMakerModel_mark) rfl rfl rfl (by decide +kernel) ⟨Nat.le_of_ble_eq_true rfl, Nat.le_of_ble_eq_true rfl⟩) ⟨fun a U g mk q => by obtain ⟨q0, q1, qP, qK, qN, qD⟩ := q; exact ⟨q0, q1, qP, va_K.moved (u := U) (U := U.calling g mk a) (Vm.Alike.refl U.vm) qK, qN.calling, qD⟩, va_recv hK hP (ci := 11) (q0 := 0) rfl rfl, fun U hU hW => ⟨rfl, by rw [hU], by rw [hU]; exact hPc, va_K.moved hW.alike hK, NN.warm hW hN, hDc.weaken (fun _ _ _ _ => trivial)⟩⟩ rfl rfl hl.1 rfl (lv_room (Nat.le_of_ble_eq_true rfl)) d_DiscMakerModel_components_197 ⟨hkc, hks⟩) hS (fun q _ h => hFc q h) hFc (fun u t H1 locs ht hvm hp_r162 hB hz1 hk1 hS => ?_)
                        obtain ⟨G_163, rfl⟩ : ∃ z, z = u := ⟨_, rfl⟩
                        obtain ⟨hP1, hD1⟩ := hB
                        rw [ht] at hP1
                        obtain ⟨hP, hD⟩ := va_join (wr := [((ma 10), .inl (cB, 8000, .inl fT)), ((ma 11), .inl (cI, 40, .inl fTS))]) (w1 := [(h0, .inr (11, MO ma sv_thrown sv_length sv_nodes sv_many sv_directories sv_runsFrom sv_runs sv_read sv_wrong sv_isNamed sv_goes sv_goesSize sv_goesAt sv_targetParts sv_isRoot)), ((ma 16), .inl (cJ, 46080, .inr (.inl G_163)))]) hP hD [0, 1] [2, 3] rfl rfl (by decide) (by decide) hk1 hFc hP1 hD1
                        clear hPc hDc hFc hP1 hD1 hk1 hz1
                        generalize H1 = H at hP hS ⊢
                        have hP : va_P D CL [((ma 10), .inl (cB, 8000, .inl fT)), ((ma 11), .inl (cI, 40, .inl fTS)), (h0, .inr (11, MO ma sv_thrown sv_length sv_nodes sv_many sv_directories sv_runsFrom sv_runs sv_read sv_wrong sv_isNamed sv_goes sv_goesSize sv_goesAt sv_targetParts sv_isRoot)), ((ma 16), .inl (cJ, 46080, .inr (.inl G_163)))] H := hP
                        have hD : va_D A [((ma 10), .inl (cB, 8000, .inl fT)), ((ma 11), .inl (cI, 40, .inl fTS)), (h0, .inr (11, MO ma sv_thrown sv_length sv_nodes sv_many sv_directories sv_runsFrom sv_runs sv_read sv_wrong sv_isNamed sv_goes sv_goesSize sv_goesAt sv_targetParts sv_isRoot)), ((ma 16), .inl (cJ, 46080, .inr (.inl G_163)))] := hD
                        refine lv_iconst (v := 0) hx hb d_DiscMakerModel_components_200 (by decide) ?_
                        refine lv_istore hx hb d_DiscMakerModel_components_201 hl (by decide) rfl (fun ls hl => ?_)
                        have hl : lv_has ls 10 [(9, .int 0), (8, .int 0), (7, .int 4), (0, .ref h0), (1, .int x), (2, .int y), (3, .int v1), (4, .int al), (5, .int lp), (6, .int lq)] := hl
                        refine zz_lab (P := fun (lk : Nat) (H : Heap) (locs : List Loc) (ls : Array Slot) (stk : List Value) => ∃ (k9 : Int32) (nF : Nat → Int64) , lk = (201 - k9.toInt).toNat ∧ stk = [] ∧ (0 ≤ k9.toInt ∧ k9.toInt ≤ 200) ∧ va_P D CL [((ma 10), .inl (cB, 8000, .inl fT)), ((ma 11), .inl (cI, 40, .inl fTS)), (h0, .inr (11, MO ma sv_thrown sv_length sv_nodes sv_many sv_directories sv_runsFrom sv_runs sv_read sv_wrong sv_isNamed sv_goes sv_goesSize sv_goesAt sv_targetParts sv_isRoot)), ((ma 16), .inl (cJ, 46080, .inr (.inl nF)))] H ∧ va_D A [((ma 10), .inl (cB, 8000, .inl fT)), ((ma 11), .inl (cI, 40, .inl fTS)), (h0, .inr (11, MO ma sv_thrown sv_length sv_nodes sv_many sv_directories sv_runsFrom sv_runs sv_read sv_wrong sv_isNamed sv_goes sv_goesSize sv_goesAt sv_targetParts sv_isRoot)), ((ma 16), .inl (cJ, 46080, .inr (.inl nF)))] ∧ va_S A s.heap H locs ∧ lv_has ls 10 [(0, .ref h0), (1, .int x), (2, .int y), (3, .int v1), (4, .int al), (5, .int lp), (6, .int lq), (7, .int 4), (8, .int 0), (9, .int k9)]) 203 ?_ ?_
                        · skip
                          intro lk ih203 H locs ls stk hI
                          obtain ⟨k9, nF, hm203, rfl, f9, hP, hD, hS, hl⟩ := hI
                          refine lv_iload hx hb d_DiscMakerModel_components_203 (lv_at hl 9 rfl) ?_
                          refine lv_iload hx hb d_DiscMakerModel_components_205 (lv_at hl 8 rfl) ?_
                          refine lv_icmp_ge (tgt := 249) hx hb d_DiscMakerModel_components_207 (by decide) (fun h_9 => ?_) (fun h_9 => ?_)
                          · skip
                            have g207_656 : 0 ≤ k9.toInt := (i_le (by decide) rfl).mp h_9
                            refine lv_iload hx hb d_DiscMakerModel_components_249 (lv_at hl 4 rfl) ?_
                            refine lv_iconst (v := 2) hx hb d_DiscMakerModel_components_251 (by decide) ?_
                            refine lv_iload hx hb d_DiscMakerModel_components_252 (lv_at hl 8 rfl) ?_
                            refine lv_iadd hx hb d_DiscMakerModel_components_254 ?_
                            refine W.eq (g2 := F0 m 255 ls [.int 2, .int al]) (by rw [show ((2 : Int32) + 0) = 2 from by decide]) ?_
                            refine lv_iadd hx hb d_DiscMakerModel_components_255 ?_
                            refine lv_topi (fun v164 e_v164 => ?_)
                            have t_v164 : v164.toInt = al.toInt + 2 := by rw [e_v164]; exact i_add rfl (by decide) (by omega) (by omega)
                            refine lv_istore hx hb d_DiscMakerModel_components_256 hl (by decide) rfl (fun ls hl => ?_)
                            have hl : lv_has ls 10 [(4, .int v164), (0, .ref h0), (1, .int x), (2, .int y), (3, .int v1), (5, .int lp), (6, .int lq), (7, .int 4), (8, .int 0), (9, .int k9)] := hl
                            refine lv_iload hx hb d_DiscMakerModel_components_258 (lv_at hl 6 rfl) ?_
                            refine lv_iconst (v := 1) hx hb d_DiscMakerModel_components_260 (by decide) ?_
                            refine lv_iadd hx hb d_DiscMakerModel_components_261 ?_
                            refine lv_topi (fun v165 e_v165 => ?_)
                            have t_v165 : v165.toInt = lq.toInt + 1 := by rw [e_v165]; exact i_add rfl (by decide) (by omega) (by omega)
                            refine lv_istore hx hb d_DiscMakerModel_components_262 hl (by decide) rfl (fun ls hl => ?_)
                            have hl : lv_has ls 10 [(5, .int v165), (4, .int v164), (0, .ref h0), (1, .int x), (2, .int y), (3, .int v1), (6, .int lq), (7, .int 4), (8, .int 0), (9, .int k9)] := hl
                            refine lv_goto (tgt := 41) hx hb d_DiscMakerModel_components_264 (by decide) ?_
                            have hP := hP.sub (ws' := [(h0, .inr (11, MO ma sv_thrown sv_length sv_nodes sv_many sv_directories sv_runsFrom sv_runs sv_read sv_wrong sv_isNamed sv_goes sv_goesSize sv_goesAt sv_targetParts sv_isRoot)), ((ma 16), .inl (cJ, 46080, .inr (.inl nF))), ((ma 10), .inl (cB, 8000, .inl fT)), ((ma 11), .inl (cI, 40, .inl fTS))]) [2, 3, 0, 1] rfl
                            have hD := hD.sub (ws' := [(h0, .inr (11, MO ma sv_thrown sv_length sv_nodes sv_many sv_directories sv_runsFrom sv_runs sv_read sv_wrong sv_isNamed sv_goes sv_goesSize sv_goesAt sv_targetParts sv_isRoot)), ((ma 16), .inl (cJ, 46080, .inr (.inl nF))), ((ma 10), .inl (cB, 8000, .inl fT)), ((ma 11), .inl (cI, 40, .inl fTS))]) [2, 3, 0, 1] (by decide) rfl
                            have hl := lv_sub hl [2, 3, 4, 5, 1, 0] rfl
                            exact ih41 (_) (by first | omega | (dsimp only; omega)) _ _ _ _ ⟨v164, v165, nF, rfl, rfl, (by (try dsimp only); first | assumption | omega | trivial), (by (try dsimp only); first | assumption | omega | trivial), (by have h0 := cmL_go (t := (tgF fT x.toNatClampNeg)) (n := (fTS x.toNatClampNeg).toInt.toNat) (p := lp.toNatClampNeg) (all := al.toNatClampNeg) (by omega); have h1 := i_cl (a := v165) (by omega); have h2 := i_cl (a := v164) (by omega); rw [h81, f2] at h0; rw [show v165.toNatClampNeg = lq.toNatClampNeg + 1 by omega, show v164.toNatClampNeg = al.toNatClampNeg + cbF (tgF fT x.toNatClampNeg) lp.toNatClampNeg lq.toNatClampNeg by omega]; exact h0.symm), hP, hD, hS, hl⟩
                          · skip
                            have g207_656 : ¬ 0 ≤ k9.toInt := fun h8 => h_9 ((i_le (by decide) rfl).mpr h8)
                            refine lv_iload_n hx hb d_DiscMakerModel_components_210 rfl (lv_at hl 2 rfl) ?_
                            refine lv_if_lt (tgt := 249) hx hb d_DiscMakerModel_components_211 (by decide) (fun h_9 => ?_) (fun h_9 => ?_)
                            · skip
                              have g211_670 : y.toInt < 0 := (i_lt rfl (by decide)).mp h_9
                              refine lv_iload hx hb d_DiscMakerModel_components_249 (lv_at hl 4 rfl) ?_
                              refine lv_iconst (v := 2) hx hb d_DiscMakerModel_components_251 (by decide) ?_
                              refine lv_iload hx hb d_DiscMakerModel_components_252 (lv_at hl 8 rfl) ?_
                              refine lv_iadd hx hb d_DiscMakerModel_components_254 ?_
                              refine W.eq (g2 := F0 m 255 ls [.int 2, .int al]) (by rw [show ((2 : Int32) + 0) = 2 from by decide]) ?_
                              refine lv_iadd hx hb d_DiscMakerModel_components_255 ?_
                              refine lv_topi (fun v166 e_v166 => ?_)
                              have t_v166 : v166.toInt = al.toInt + 2 := by rw [e_v166]; exact i_add rfl (by decide) (by omega) (by omega)
                              refine lv_istore hx hb d_DiscMakerModel_components_256 hl (by decide) rfl (fun ls hl => ?_)
                              have hl : lv_has ls 10 [(4, .int v166), (0, .ref h0), (1, .int x), (2, .int y), (3, .int v1), (5, .int lp), (6, .int lq), (7, .int 4), (8, .int 0), (9, .int k9)] := hl
                              refine lv_iload hx hb d_DiscMakerModel_components_258 (lv_at hl 6 rfl) ?_
                              refine lv_iconst (v := 1) hx hb d_DiscMakerModel_components_260 (by decide) ?_
                              refine lv_iadd hx hb d_DiscMakerModel_components_261 ?_
                              refine lv_topi (fun v167 e_v167 => ?_)
                              have t_v167 : v167.toInt = lq.toInt + 1 := by rw [e_v167]; exact i_add rfl (by decide) (by omega) (by omega)
                              refine lv_istore hx hb d_DiscMakerModel_components_262 hl (by decide) rfl (fun ls hl => ?_)
                              have hl : lv_has ls 10 [(5, .int v167), (4, .int v166), (0, .ref h0), (1, .int x), (2, .int y), (3, .int v1), (6, .int lq), (7, .int 4), (8, .int 0), (9, .int k9)] := hl
                              refine lv_goto (tgt := 41) hx hb d_DiscMakerModel_components_264 (by decide) ?_
                              have hP := hP.sub (ws' := [(h0, .inr (11, MO ma sv_thrown sv_length sv_nodes sv_many sv_directories sv_runsFrom sv_runs sv_read sv_wrong sv_isNamed sv_goes sv_goesSize sv_goesAt sv_targetParts sv_isRoot)), ((ma 16), .inl (cJ, 46080, .inr (.inl nF))), ((ma 10), .inl (cB, 8000, .inl fT)), ((ma 11), .inl (cI, 40, .inl fTS))]) [2, 3, 0, 1] rfl
                              have hD := hD.sub (ws' := [(h0, .inr (11, MO ma sv_thrown sv_length sv_nodes sv_many sv_directories sv_runsFrom sv_runs sv_read sv_wrong sv_isNamed sv_goes sv_goesSize sv_goesAt sv_targetParts sv_isRoot)), ((ma 16), .inl (cJ, 46080, .inr (.inl nF))), ((ma 10), .inl (cB, 8000, .inl fT)), ((ma 11), .inl (cI, 40, .inl fTS))]) [2, 3, 0, 1] (by decide) rfl
                              have hl := lv_sub hl [2, 3, 4, 5, 1, 0] rfl
                              exact ih41 (_) (by first | omega | (dsimp only; omega)) _ _ _ _ ⟨v166, v167, nF, rfl, rfl, (by (try dsimp only); first | assumption | omega | trivial), (by (try dsimp only); first | assumption | omega | trivial), (by have h0 := cmL_go (t := (tgF fT x.toNatClampNeg)) (n := (fTS x.toNatClampNeg).toInt.toNat) (p := lp.toNatClampNeg) (all := al.toNatClampNeg) (by omega); have h1 := i_cl (a := v167) (by omega); have h2 := i_cl (a := v166) (by omega); rw [h81, f2] at h0; rw [show v167.toNatClampNeg = lq.toNatClampNeg + 1 by omega, show v166.toNatClampNeg = al.toNatClampNeg + cbF (tgF fT x.toNatClampNeg) lp.toNatClampNeg lq.toNatClampNeg by omega]; exact h0.symm), hP, hD, hS, hl⟩
                            · skip
                              have g211_670 : ¬ y.toInt < 0 := fun h8 => h_9 ((i_lt rfl (by decide)).mpr h8)
                              refine lv_aload_n hx hb d_DiscMakerModel_components_214 rfl (lv_at hl 0 rfl) ?_
                              refine lv_iload_n hx hb d_DiscMakerModel_components_215 rfl (lv_at hl 2 rfl) ?_
                              refine lv_iload hx hb d_DiscMakerModel_components_216 (lv_at hl 4 rfl) ?_
                              refine lv_iadd hx hb d_DiscMakerModel_components_218 ?_
                              refine lv_topi (fun v168 e_v168 => ?_)
                              have t_v168 : v168.toInt = y.toInt + al.toInt := by rw [e_v168]; exact i_add rfl rfl (by omega) (by omega)
                              refine lv_iconst (v := 2) hx hb d_DiscMakerModel_components_219 (by decide) ?_
                              refine lv_iadd hx hb d_DiscMakerModel_components_220 ?_
                              refine lv_topi (fun v169 e_v169 => ?_)
                              have t_v169 : v169.toInt = v168.toInt + 2 := by rw [e_v169]; exact i_add rfl (by decide) (by omega) (by omega)
                              refine lv_iload hx hb d_DiscMakerModel_components_221 (lv_at hl 9 rfl) ?_
                              refine lv_iadd hx hb d_DiscMakerModel_components_223 ?_
                              refine lv_topi (fun v170 e_v170 => ?_)
                              have t_v170 : v170.toInt = v169.toInt + k9.toInt := by rw [e_v170]; exact i_add rfl rfl (by omega) (by omega)
                              refine lv_aload_n hx hb d_DiscMakerModel_components_224 rfl (lv_at hl 0 rfl) ?_
                              refine va_get (D := D) (ci := 11) (v := .ref (ma 10)) (C := "DiscMakerModel") (T := F_DiscMakerModel) (N := 48) hx hb ht9 in_DiscMakerModel hown hK hP 2 rfl rfl 13 (by decide) (ht9 _ k1444) (fun _ h9 => h9) rfl d_DiscMakerModel_components_225 ?_
                              refine lv_sipush (v := 200) hx hb d_DiscMakerModel_components_228 (by decide) ?_
                              refine lv_iload_n hx hb d_DiscMakerModel_components_231 rfl (lv_at hl 1 rfl) ?_
                              refine lv_imul hx hb d_DiscMakerModel_components_232 ?_
                              refine lv_topi (fun v171 e_v171 => ?_)
                              have t_v171 : v171.toInt = 200 * x.toInt := by rw [e_v171]; exact i_mul (by decide) rfl (by omega) (by omega)
                              refine lv_iload hx hb d_DiscMakerModel_components_233 (lv_at hl 5 rfl) ?_
                              refine lv_iadd hx hb d_DiscMakerModel_components_235 ?_
                              refine lv_topi (fun v172 e_v172 => ?_)
                              have t_v172 : v172.toInt = v171.toInt + lp.toInt := by rw [e_v172]; exact i_add rfl rfl (by omega) (by omega)
                              refine lv_iload hx hb d_DiscMakerModel_components_236 (lv_at hl 9 rfl) ?_
                              refine lv_iadd hx hb d_DiscMakerModel_components_238 ?_
                              refine lv_topi (fun v173 e_v173 => ?_)
                              have t_v173 : v173.toInt = v172.toInt + k9.toInt := by rw [e_v173]; exact i_add rfl rfl (by omega) (by omega)
                              refine va_bald hx hb hK hP 0 0 rfl rfl (vp_in_iff.mpr ⟨by omega, by omega⟩) d_DiscMakerModel_components_239 ?_
                              refine lv_topi (fun v174 e_v174 => ?_)
                              have hPc := hP.sub (ws' := [(h0, .inr (11, MO ma sv_thrown sv_length sv_nodes sv_many sv_directories sv_runsFrom sv_runs sv_read sv_wrong sv_isNamed sv_goes sv_goesSize sv_goesAt sv_targetParts sv_isRoot)), ((ma 16), .inl (cJ, 46080, .inr (.inl nF)))]) [2, 3] rfl
                              have hDc := hD.sub (ws' := [(h0, .inr (11, MO ma sv_thrown sv_length sv_nodes sv_many sv_directories sv_runsFrom sv_runs sv_read sv_wrong sv_isNamed sv_goes sv_goesSize sv_goesAt sv_targetParts sv_isRoot)), ((ma 16), .inl (cJ, 46080, .inr (.inl nF)))]) [2, 3] (by decide) rfl
                              have hFc := va_free (wc := [(h0, .inr (11, MO ma sv_thrown sv_length sv_nodes sv_many sv_directories sv_runsFrom sv_runs sv_read sv_wrong sv_isNamed sv_goes sv_goesSize sv_goesAt sv_targetParts sv_isRoot)), ((ma 16), .inl (cJ, 46080, .inr (.inl nF)))]) hD hS hA [2, 3] rfl
                              have hkc : 0 ≤ 0 := by decide
                              have hks : 0 ≤ 0 := by decide
                              refine va_callv (va_runV (C := "DiscMakerModel") (As := [.int v170, .int v174]) (rest := []) ⟨hx, hb, hml, hown, hts⟩ (m_set l D cB cI cJ cZ cN cF H.size h0 ma sv_thrown sv_length sv_nodes sv_many sv_directories sv_runsFrom sv_runs sv_read sv_wrong sv_isNamed sv_goes sv_goesSize sv_goesAt sv_targetParts sv_isRoot nF v170 v174 (by (try dsimp only); first | assumption | omega | trivial) (by (try dsimp only); first | assumption | omega | trivial)) (cwV 2 hts (lg_goodV k1727 k1729 k79 k125 kc_DiscMakerModel_set) rfl rfl rfl (by decide +kernel) ⟨Nat.le_of_ble_eq_true rfl, Nat.le_of_ble_eq_true rfl⟩) ⟨fun a U g mk q => by obtain ⟨q0, q1, qP, qK, qN, qD⟩ := q; exact ⟨q0, q1, qP, va_K.moved (u := U) (U := U.calling g mk a) (Vm.Alike.refl U.vm) qK, qN.calling, qD⟩, va_recv hK hP (ci := 11) (q0 := 2) rfl rfl, fun U hU hW => ⟨rfl, by rw [hU], by rw [hU]; exact hPc, va_K.moved hW.alike hK, NN.warm hW hN, hDc.weaken (fun _ _ _ _ => trivial)⟩⟩ rfl rfl hl.1 rfl (lv_room (Nat.le_of_ble_eq_true rfl)) d_DiscMakerModel_components_240 ⟨hkc, hks⟩) hS (fun q _ h => hFc q h) hFc (fun u t H1 locs ht hvm hp_r175 hB hz1 hk1 hS => ?_)
                              obtain ⟨G_176, rfl⟩ : ∃ z, z = u := ⟨_, rfl⟩
                              obtain ⟨hP1, hD1⟩ := hB
                              rw [ht] at hP1
                              obtain ⟨hP, hD⟩ := va_join (wr := [((ma 10), .inl (cB, 8000, .inl fT)), ((ma 11), .inl (cI, 40, .inl fTS))]) (w1 := [(h0, .inr (11, MO ma sv_thrown sv_length sv_nodes sv_many sv_directories sv_runsFrom sv_runs sv_read sv_wrong sv_isNamed sv_goes sv_goesSize sv_goesAt sv_targetParts sv_isRoot)), ((ma 16), .inl (cJ, 46080, .inr (.inl G_176)))]) hP hD [2, 3] [0, 1] rfl rfl (by decide) (by decide) hk1 hFc hP1 hD1
                              clear hPc hDc hFc hP1 hD1 hk1 hz1
                              generalize H1 = H at hP hS ⊢
                              have hP : va_P D CL [((ma 10), .inl (cB, 8000, .inl fT)), ((ma 11), .inl (cI, 40, .inl fTS)), (h0, .inr (11, MO ma sv_thrown sv_length sv_nodes sv_many sv_directories sv_runsFrom sv_runs sv_read sv_wrong sv_isNamed sv_goes sv_goesSize sv_goesAt sv_targetParts sv_isRoot)), ((ma 16), .inl (cJ, 46080, .inr (.inl G_176)))] H := hP
                              have hD : va_D A [((ma 10), .inl (cB, 8000, .inl fT)), ((ma 11), .inl (cI, 40, .inl fTS)), (h0, .inr (11, MO ma sv_thrown sv_length sv_nodes sv_many sv_directories sv_runsFrom sv_runs sv_read sv_wrong sv_isNamed sv_goes sv_goesSize sv_goesAt sv_targetParts sv_isRoot)), ((ma 16), .inl (cJ, 46080, .inr (.inl G_176)))] := hD
                              obtain ⟨v177, e_v177⟩ : ∃ z : Int32, z = k9 + 1 := ⟨_, rfl⟩
                              refine lv_iinc (v := v177) hx hb d_DiscMakerModel_components_243 hl (k := 9) rfl e_v177.symm (by decide) rfl (fun ls hl => ?_)
                              have t_v177 : v177.toInt = k9.toInt + 1 := by rw [e_v177]; exact i_add rfl (by decide) (by omega) (by omega)
                              have hl : lv_has ls 10 [(9, .int v177), (0, .ref h0), (1, .int x), (2, .int y), (3, .int v1), (4, .int al), (5, .int lp), (6, .int lq), (7, .int 4), (8, .int 0)] := hl
                              refine lv_goto (tgt := 203) hx hb d_DiscMakerModel_components_246 (by decide) ?_
                              have hP := hP.sub (ws' := [((ma 10), .inl (cB, 8000, .inl fT)), ((ma 11), .inl (cI, 40, .inl fTS)), (h0, .inr (11, MO ma sv_thrown sv_length sv_nodes sv_many sv_directories sv_runsFrom sv_runs sv_read sv_wrong sv_isNamed sv_goes sv_goesSize sv_goesAt sv_targetParts sv_isRoot)), ((ma 16), .inl (cJ, 46080, .inr (.inl G_176)))]) [0, 1, 2, 3] rfl
                              have hD := hD.sub (ws' := [((ma 10), .inl (cB, 8000, .inl fT)), ((ma 11), .inl (cI, 40, .inl fTS)), (h0, .inr (11, MO ma sv_thrown sv_length sv_nodes sv_many sv_directories sv_runsFrom sv_runs sv_read sv_wrong sv_isNamed sv_goes sv_goesSize sv_goesAt sv_targetParts sv_isRoot)), ((ma 16), .inl (cJ, 46080, .inr (.inl G_176)))]) [0, 1, 2, 3] (by decide) rfl
                              have hl := lv_sub hl [1, 2, 3, 4, 5, 6, 7, 8, 9, 0] rfl
                              exact ih203 (_) (by first | omega | (dsimp only; omega)) _ _ _ _ ⟨v177, G_176, rfl, rfl, (by (try dsimp only); first | assumption | omega | trivial), hP, hD, hS, hl⟩
                        · skip
                          intro kk203
                          have hP := hP.sub (ws' := [((ma 10), .inl (cB, 8000, .inl fT)), ((ma 11), .inl (cI, 40, .inl fTS)), (h0, .inr (11, MO ma sv_thrown sv_length sv_nodes sv_many sv_directories sv_runsFrom sv_runs sv_read sv_wrong sv_isNamed sv_goes sv_goesSize sv_goesAt sv_targetParts sv_isRoot)), ((ma 16), .inl (cJ, 46080, .inr (.inl G_163)))]) [0, 1, 2, 3] rfl
                          have hD := hD.sub (ws' := [((ma 10), .inl (cB, 8000, .inl fT)), ((ma 11), .inl (cI, 40, .inl fTS)), (h0, .inr (11, MO ma sv_thrown sv_length sv_nodes sv_many sv_directories sv_runsFrom sv_runs sv_read sv_wrong sv_isNamed sv_goes sv_goesSize sv_goesAt sv_targetParts sv_isRoot)), ((ma 16), .inl (cJ, 46080, .inr (.inl G_163)))]) [0, 1, 2, 3] (by decide) rfl
                          have hl := lv_sub hl [3, 4, 5, 6, 7, 8, 9, 2, 1, 0] rfl
                          exact kk203 _ _ _ _ _ ⟨0, G_163, rfl, rfl, (by (try dsimp only); first | assumption | omega | trivial), hP, hD, hS, hl⟩
              · skip
                have g105_371 : v92.toInt = 46 := (i_eq rfl (by decide)).mp h_9
                refine lv_iconst (v := 2) hx hb d_DiscMakerModel_components_108 (by decide) ?_
                refine lv_goto (tgt := 164) hx hb d_DiscMakerModel_components_109 (by decide) ?_
                refine lv_istore hx hb d_DiscMakerModel_components_164 hl (by decide) rfl (fun ls hl => ?_)
                have hl : lv_has ls 10 [(7, .int 2), (0, .ref h0), (1, .int x), (2, .int y), (3, .int v1), (4, .int al), (5, .int lp), (6, .int lq)] := hl
                refine lv_iload hx hb d_DiscMakerModel_components_166 (lv_at hl 0 rfl) ?_
                refine lv_if_ne (tgt := 179) hx hb d_DiscMakerModel_components_168 (by decide) (fun _ => ?_) (fun h_9 => absurd h_9 (by decide))
                refine lv_iconst (v := 0) hx hb d_DiscMakerModel_components_179 (by decide) ?_
                refine lv_istore hx hb d_DiscMakerModel_components_180 hl (by decide) rfl (fun ls hl => ?_)
                have hl : lv_has ls 10 [(8, .int 0), (7, .int 2), (0, .ref h0), (1, .int x), (2, .int y), (3, .int v1), (4, .int al), (5, .int lp), (6, .int lq)] := hl
                refine lv_iload hx hb d_DiscMakerModel_components_182 (lv_at hl 8 rfl) ?_
                refine lv_iload hx hb d_DiscMakerModel_components_184 (lv_at hl 7 rfl) ?_
                refine lv_icmp_le (tgt := 258) hx hb d_DiscMakerModel_components_186 (by decide) (fun h_9 => ?_) (fun h_9 => ?_)
                · skip
                  have g186_714 : lq.toInt ≤ lp.toInt := (i_le rfl rfl).mp h_9
                  refine lv_iload hx hb d_DiscMakerModel_components_258 (lv_at hl 8 rfl) ?_
                  refine lv_iconst (v := 1) hx hb d_DiscMakerModel_components_260 (by decide) ?_
                  refine lv_iadd hx hb d_DiscMakerModel_components_261 ?_
                  refine lv_topi (fun v178 e_v178 => ?_)
                  have t_v178 : v178.toInt = lq.toInt + 1 := by rw [e_v178]; exact i_add rfl (by decide) (by omega) (by omega)
                  refine lv_istore hx hb d_DiscMakerModel_components_262 hl (by decide) rfl (fun ls hl => ?_)
                  have hl : lv_has ls 10 [(5, .int v178), (8, .int 0), (7, .int 2), (0, .ref h0), (1, .int x), (2, .int y), (3, .int v1), (4, .int al), (6, .int lq)] := hl
                  refine lv_goto (tgt := 41) hx hb d_DiscMakerModel_components_264 (by decide) ?_
                  have hP := hP.sub (ws' := [(h0, .inr (11, MO ma sv_thrown sv_length sv_nodes sv_many sv_directories sv_runsFrom sv_runs sv_read sv_wrong sv_isNamed sv_goes sv_goesSize sv_goesAt sv_targetParts sv_isRoot)), ((ma 16), .inl (cJ, 46080, .inr (.inl lF))), ((ma 10), .inl (cB, 8000, .inl fT)), ((ma 11), .inl (cI, 40, .inl fTS))]) [0, 1, 2, 3] rfl
                  have hD := hD.sub (ws' := [(h0, .inr (11, MO ma sv_thrown sv_length sv_nodes sv_many sv_directories sv_runsFrom sv_runs sv_read sv_wrong sv_isNamed sv_goes sv_goesSize sv_goesAt sv_targetParts sv_isRoot)), ((ma 16), .inl (cJ, 46080, .inr (.inl lF))), ((ma 10), .inl (cB, 8000, .inl fT)), ((ma 11), .inl (cI, 40, .inl fTS))]) [0, 1, 2, 3] (by decide) rfl
                  have hl := lv_sub hl [3, 4, 5, 6, 7, 0] rfl
                  exact ih41 (_) (by first | omega | (dsimp only; omega)) _ _ _ _ ⟨al, v178, lF, rfl, rfl, (by (try dsimp only); first | assumption | omega | trivial), (by (try dsimp only); first | assumption | omega | trivial), (by have h0 := cmL_go (t := (tgF fT x.toNatClampNeg)) (n := (fTS x.toNatClampNeg).toInt.toNat) (p := lp.toNatClampNeg) (all := al.toNatClampNeg) (by omega); have h1 := i_cl (a := v178) (by omega); have h2 := i_cl (a := al) (by omega); rw [h81, f2] at h0; rw [show v178.toNatClampNeg = lq.toNatClampNeg + 1 by omega, show al.toNatClampNeg = al.toNatClampNeg + cbF (tgF fT x.toNatClampNeg) lp.toNatClampNeg lq.toNatClampNeg by omega]; exact h0.symm), hP, hD, hS, hl⟩
                · skip
                  have g186_714 : ¬ lq.toInt ≤ lp.toInt := fun h8 => h_9 ((i_le rfl rfl).mpr h8)
                  refine lv_aload_n hx hb d_DiscMakerModel_components_189 rfl (lv_at hl 2 rfl) ?_
                  refine lv_iload_n hx hb d_DiscMakerModel_components_190 rfl (lv_at hl 4 rfl) ?_
                  refine lv_iload hx hb d_DiscMakerModel_components_191 (lv_at hl 6 rfl) ?_
                  refine lv_iload hx hb d_DiscMakerModel_components_193 (lv_at hl 1 rfl) ?_
                  refine lv_iload hx hb d_DiscMakerModel_components_195 (lv_at hl 0 rfl) ?_
                  have hPc := hP.sub (ws' := [(h0, .inr (11, MO ma sv_thrown sv_length sv_nodes sv_many sv_directories sv_runsFrom sv_runs sv_read sv_wrong sv_isNamed sv_goes sv_goesSize sv_goesAt sv_targetParts sv_isRoot)), ((ma 16), .inl (cJ, 46080, .inr (.inl lF)))]) [0, 1] rfl
                  have hDc := hD.sub (ws' := [(h0, .inr (11, MO ma sv_thrown sv_length sv_nodes sv_many sv_directories sv_runsFrom sv_runs sv_read sv_wrong sv_isNamed sv_goes sv_goesSize sv_goesAt sv_targetParts sv_isRoot)), ((ma 16), .inl (cJ, 46080, .inr (.inl lF)))]) [0, 1] (by decide) rfl
                  have hFc := va_free (wc := [(h0, .inr (11, MO ma sv_thrown sv_length sv_nodes sv_many sv_directories sv_runsFrom sv_runs sv_read sv_wrong sv_isNamed sv_goes sv_goesSize sv_goesAt sv_targetParts sv_isRoot)), ((ma 16), .inl (cJ, 46080, .inr (.inl lF)))]) hD hS hA [0, 1] rfl
                  have hkc : 0 ≤ 0 := by decide
                  have hks : 0 ≤ 0 := by decide
                  refine va_callv (va_runV (C := "DiscMakerModel") (As := [.int y, .int al, .int 2, .int 0]) (rest := []) ⟨hx, hb, hml, hown, hts⟩ (m_mark l D cB cI cJ cZ cN cF H.size h0 ma sv_thrown sv_length sv_nodes sv_many sv_directories sv_runsFrom sv_runs sv_read sv_wrong sv_isNamed sv_goes sv_goesSize sv_goesAt sv_targetParts sv_isRoot lF y al 2 0 (by (try dsimp only); first | assumption | omega | trivial)) (cwV 4 hts (lg_goodV k1723 k1725 k78 k125 kc_DiscMakerModel_mark) rfl rfl rfl (by decide +kernel) ⟨Nat.le_of_ble_eq_true rfl, Nat.le_of_ble_eq_true rfl⟩) ⟨fun a U g mk q => by obtain ⟨q0, q1, qP, qK, qN, qD⟩ := q; exact ⟨q0, q1, qP, va_K.moved (u := U) (U := U.calling g mk a) (Vm.Alike.refl U.vm) qK, qN.calling, qD⟩, va_recv hK hP (ci := 11) (q0 := 0) rfl rfl, fun U hU hW => ⟨rfl, by rw [hU], by rw [hU]; exact hPc, va_K.moved hW.alike hK, NN.warm hW hN, hDc.weaken (fun _ _ _ _ => trivial)⟩⟩ rfl rfl hl.1 rfl (lv_room (Nat.le_of_ble_eq_true rfl)) d_DiscMakerModel_components_197 ⟨hkc, hks⟩) hS (fun q _ h => hFc q h) hFc (fun u t H1 locs ht hvm hp_r179 hB hz1 hk1 hS => ?_)
                  obtain ⟨G_180, rfl⟩ : ∃ z, z = u := ⟨_, rfl⟩
                  obtain ⟨hP1, hD1⟩ := hB
                  rw [ht] at hP1
                  obtain ⟨hP, hD⟩ := va_join (wr := [((ma 10), .inl (cB, 8000, .inl fT)), ((ma 11), .inl (cI, 40, .inl fTS))]) (w1 := [(h0, .inr (11, MO ma sv_thrown sv_length sv_nodes sv_many sv_directories sv_runsFrom sv_runs sv_read sv_wrong sv_isNamed sv_goes sv_goesSize sv_goesAt sv_targetParts sv_isRoot)), ((ma 16), .inl (cJ, 46080, .inr (.inl G_180)))]) hP hD [0, 1] [2, 3] rfl rfl (by decide) (by decide) hk1 hFc hP1 hD1
                  clear hPc hDc hFc hP1 hD1 hk1 hz1
                  generalize H1 = H at hP hS ⊢
                  have hP : va_P D CL [((ma 10), .inl (cB, 8000, .inl fT)), ((ma 11), .inl (cI, 40, .inl fTS)), (h0, .inr (11, MO ma sv_thrown sv_length sv_nodes sv_many sv_directories sv_runsFrom sv_runs sv_read sv_wrong sv_isNamed sv_goes sv_goesSize sv_goesAt sv_targetParts sv_isRoot)), ((ma 16), .inl (cJ, 46080, .inr (.inl G_180)))] H := hP
                  have hD : va_D A [((ma 10), .inl (cB, 8000, .inl fT)), ((ma 11), .inl (cI, 40, .inl fTS)), (h0, .inr (11, MO ma sv_thrown sv_length sv_nodes sv_many sv_directories sv_runsFrom sv_runs sv_read sv_wrong sv_isNamed sv_goes sv_goesSize sv_goesAt sv_targetParts sv_isRoot)), ((ma 16), .inl (cJ, 46080, .inr (.inl G_180)))] := hD
                  refine lv_iconst (v := 0) hx hb d_DiscMakerModel_components_200 (by decide) ?_
                  refine lv_istore hx hb d_DiscMakerModel_components_201 hl (by decide) rfl (fun ls hl => ?_)
                  have hl : lv_has ls 10 [(9, .int 0), (8, .int 0), (7, .int 2), (0, .ref h0), (1, .int x), (2, .int y), (3, .int v1), (4, .int al), (5, .int lp), (6, .int lq)] := hl
                  refine zz_lab (P := fun (lk : Nat) (H : Heap) (locs : List Loc) (ls : Array Slot) (stk : List Value) => ∃ (k9 : Int32) (nF : Nat → Int64) , lk = (201 - k9.toInt).toNat ∧ stk = [] ∧ (0 ≤ k9.toInt ∧ k9.toInt ≤ 200) ∧ va_P D CL [((ma 10), .inl (cB, 8000, .inl fT)), ((ma 11), .inl (cI, 40, .inl fTS)), (h0, .inr (11, MO ma sv_thrown sv_length sv_nodes sv_many sv_directories sv_runsFrom sv_runs sv_read sv_wrong sv_isNamed sv_goes sv_goesSize sv_goesAt sv_targetParts sv_isRoot)), ((ma 16), .inl (cJ, 46080, .inr (.inl nF)))] H ∧ va_D A [((ma 10), .inl (cB, 8000, .inl fT)), ((ma 11), .inl (cI, 40, .inl fTS)), (h0, .inr (11, MO ma sv_thrown sv_length sv_nodes sv_many sv_directories sv_runsFrom sv_runs sv_read sv_wrong sv_isNamed sv_goes sv_goesSize sv_goesAt sv_targetParts sv_isRoot)), ((ma 16), .inl (cJ, 46080, .inr (.inl nF)))] ∧ va_S A s.heap H locs ∧ lv_has ls 10 [(0, .ref h0), (1, .int x), (2, .int y), (3, .int v1), (4, .int al), (5, .int lp), (6, .int lq), (7, .int 2), (8, .int 0), (9, .int k9)]) 203 ?_ ?_
                  · skip
                    intro lk ih203 H locs ls stk hI
                    obtain ⟨k9, nF, hm203, rfl, f9, hP, hD, hS, hl⟩ := hI
                    refine lv_iload hx hb d_DiscMakerModel_components_203 (lv_at hl 9 rfl) ?_
                    refine lv_iload hx hb d_DiscMakerModel_components_205 (lv_at hl 8 rfl) ?_
                    refine lv_icmp_ge (tgt := 249) hx hb d_DiscMakerModel_components_207 (by decide) (fun h_9 => ?_) (fun h_9 => ?_)
                    · skip
                      have g207_731 : 0 ≤ k9.toInt := (i_le (by decide) rfl).mp h_9
                      refine lv_iload hx hb d_DiscMakerModel_components_249 (lv_at hl 4 rfl) ?_
                      refine lv_iconst (v := 2) hx hb d_DiscMakerModel_components_251 (by decide) ?_
                      refine lv_iload hx hb d_DiscMakerModel_components_252 (lv_at hl 8 rfl) ?_
                      refine lv_iadd hx hb d_DiscMakerModel_components_254 ?_
                      refine W.eq (g2 := F0 m 255 ls [.int 2, .int al]) (by rw [show ((2 : Int32) + 0) = 2 from by decide]) ?_
                      refine lv_iadd hx hb d_DiscMakerModel_components_255 ?_
                      refine lv_topi (fun v181 e_v181 => ?_)
                      have t_v181 : v181.toInt = al.toInt + 2 := by rw [e_v181]; exact i_add rfl (by decide) (by omega) (by omega)
                      refine lv_istore hx hb d_DiscMakerModel_components_256 hl (by decide) rfl (fun ls hl => ?_)
                      have hl : lv_has ls 10 [(4, .int v181), (0, .ref h0), (1, .int x), (2, .int y), (3, .int v1), (5, .int lp), (6, .int lq), (7, .int 2), (8, .int 0), (9, .int k9)] := hl
                      refine lv_iload hx hb d_DiscMakerModel_components_258 (lv_at hl 6 rfl) ?_
                      refine lv_iconst (v := 1) hx hb d_DiscMakerModel_components_260 (by decide) ?_
                      refine lv_iadd hx hb d_DiscMakerModel_components_261 ?_
                      refine lv_topi (fun v182 e_v182 => ?_)
                      have t_v182 : v182.toInt = lq.toInt + 1 := by rw [e_v182]; exact i_add rfl (by decide) (by omega) (by omega)
                      refine lv_istore hx hb d_DiscMakerModel_components_262 hl (by decide) rfl (fun ls hl => ?_)
                      have hl : lv_has ls 10 [(5, .int v182), (4, .int v181), (0, .ref h0), (1, .int x), (2, .int y), (3, .int v1), (6, .int lq), (7, .int 2), (8, .int 0), (9, .int k9)] := hl
                      refine lv_goto (tgt := 41) hx hb d_DiscMakerModel_components_264 (by decide) ?_
                      have hP := hP.sub (ws' := [(h0, .inr (11, MO ma sv_thrown sv_length sv_nodes sv_many sv_directories sv_runsFrom sv_runs sv_read sv_wrong sv_isNamed sv_goes sv_goesSize sv_goesAt sv_targetParts sv_isRoot)), ((ma 16), .inl (cJ, 46080, .inr (.inl nF))), ((ma 10), .inl (cB, 8000, .inl fT)), ((ma 11), .inl (cI, 40, .inl fTS))]) [2, 3, 0, 1] rfl
                      have hD := hD.sub (ws' := [(h0, .inr (11, MO ma sv_thrown sv_length sv_nodes sv_many sv_directories sv_runsFrom sv_runs sv_read sv_wrong sv_isNamed sv_goes sv_goesSize sv_goesAt sv_targetParts sv_isRoot)), ((ma 16), .inl (cJ, 46080, .inr (.inl nF))), ((ma 10), .inl (cB, 8000, .inl fT)), ((ma 11), .inl (cI, 40, .inl fTS))]) [2, 3, 0, 1] (by decide) rfl
                      have hl := lv_sub hl [2, 3, 4, 5, 1, 0] rfl
                      exact ih41 (_) (by first | omega | (dsimp only; omega)) _ _ _ _ ⟨v181, v182, nF, rfl, rfl, (by (try dsimp only); first | assumption | omega | trivial), (by (try dsimp only); first | assumption | omega | trivial), (by have h0 := cmL_go (t := (tgF fT x.toNatClampNeg)) (n := (fTS x.toNatClampNeg).toInt.toNat) (p := lp.toNatClampNeg) (all := al.toNatClampNeg) (by omega); have h1 := i_cl (a := v182) (by omega); have h2 := i_cl (a := v181) (by omega); rw [h81, f2] at h0; rw [show v182.toNatClampNeg = lq.toNatClampNeg + 1 by omega, show v181.toNatClampNeg = al.toNatClampNeg + cbF (tgF fT x.toNatClampNeg) lp.toNatClampNeg lq.toNatClampNeg by omega]; exact h0.symm), hP, hD, hS, hl⟩
                    · skip
                      have g207_731 : ¬ 0 ≤ k9.toInt := fun h8 => h_9 ((i_le (by decide) rfl).mpr h8)
                      refine lv_iload_n hx hb d_DiscMakerModel_components_210 rfl (lv_at hl 2 rfl) ?_
                      refine lv_if_lt (tgt := 249) hx hb d_DiscMakerModel_components_211 (by decide) (fun h_9 => ?_) (fun h_9 => ?_)
                      · skip
                        have g211_745 : y.toInt < 0 := (i_lt rfl (by decide)).mp h_9
                        refine lv_iload hx hb d_DiscMakerModel_components_249 (lv_at hl 4 rfl) ?_
                        refine lv_iconst (v := 2) hx hb d_DiscMakerModel_components_251 (by decide) ?_
                        refine lv_iload hx hb d_DiscMakerModel_components_252 (lv_at hl 8 rfl) ?_
                        refine lv_iadd hx hb d_DiscMakerModel_components_254 ?_
                        refine W.eq (g2 := F0 m 255 ls [.int 2, .int al]) (by rw [show ((2 : Int32) + 0) = 2 from by decide]) ?_
                        refine lv_iadd hx hb d_DiscMakerModel_components_255 ?_
                        refine lv_topi (fun v183 e_v183 => ?_)
                        have t_v183 : v183.toInt = al.toInt + 2 := by rw [e_v183]; exact i_add rfl (by decide) (by omega) (by omega)
                        refine lv_istore hx hb d_DiscMakerModel_components_256 hl (by decide) rfl (fun ls hl => ?_)
                        have hl : lv_has ls 10 [(4, .int v183), (0, .ref h0), (1, .int x), (2, .int y), (3, .int v1), (5, .int lp), (6, .int lq), (7, .int 2), (8, .int 0), (9, .int k9)] := hl
                        refine lv_iload hx hb d_DiscMakerModel_components_258 (lv_at hl 6 rfl) ?_
                        refine lv_iconst (v := 1) hx hb d_DiscMakerModel_components_260 (by decide) ?_
                        refine lv_iadd hx hb d_DiscMakerModel_components_261 ?_
                        refine lv_topi (fun v184 e_v184 => ?_)
                        have t_v184 : v184.toInt = lq.toInt + 1 := by rw [e_v184]; exact i_add rfl (by decide) (by omega) (by omega)
                        refine lv_istore hx hb d_DiscMakerModel_components_262 hl (by decide) rfl (fun ls hl => ?_)
                        have hl : lv_has ls 10 [(5, .int v184), (4, .int v183), (0, .ref h0), (1, .int x), (2, .int y), (3, .int v1), (6, .int lq), (7, .int 2), (8, .int 0), (9, .int k9)] := hl
                        refine lv_goto (tgt := 41) hx hb d_DiscMakerModel_components_264 (by decide) ?_
                        have hP := hP.sub (ws' := [(h0, .inr (11, MO ma sv_thrown sv_length sv_nodes sv_many sv_directories sv_runsFrom sv_runs sv_read sv_wrong sv_isNamed sv_goes sv_goesSize sv_goesAt sv_targetParts sv_isRoot)), ((ma 16), .inl (cJ, 46080, .inr (.inl nF))), ((ma 10), .inl (cB, 8000, .inl fT)), ((ma 11), .inl (cI, 40, .inl fTS))]) [2, 3, 0, 1] rfl
                        have hD := hD.sub (ws' := [(h0, .inr (11, MO ma sv_thrown sv_length sv_nodes sv_many sv_directories sv_runsFrom sv_runs sv_read sv_wrong sv_isNamed sv_goes sv_goesSize sv_goesAt sv_targetParts sv_isRoot)), ((ma 16), .inl (cJ, 46080, .inr (.inl nF))), ((ma 10), .inl (cB, 8000, .inl fT)), ((ma 11), .inl (cI, 40, .inl fTS))]) [2, 3, 0, 1] (by decide) rfl
                        have hl := lv_sub hl [2, 3, 4, 5, 1, 0] rfl
                        exact ih41 (_) (by first | omega | (dsimp only; omega)) _ _ _ _ ⟨v183, v184, nF, rfl, rfl, (by (try dsimp only); first | assumption | omega | trivial), (by (try dsimp only); first | assumption | omega | trivial), (by have h0 := cmL_go (t := (tgF fT x.toNatClampNeg)) (n := (fTS x.toNatClampNeg).toInt.toNat) (p := lp.toNatClampNeg) (all := al.toNatClampNeg) (by omega); have h1 := i_cl (a := v184) (by omega); have h2 := i_cl (a := v183) (by omega); rw [h81, f2] at h0; rw [show v184.toNatClampNeg = lq.toNatClampNeg + 1 by omega, show v183.toNatClampNeg = al.toNatClampNeg + cbF (tgF fT x.toNatClampNeg) lp.toNatClampNeg lq.toNatClampNeg by omega]; exact h0.symm), hP, hD, hS, hl⟩
                      · skip
                        have g211_745 : ¬ y.toInt < 0 := fun h8 => h_9 ((i_lt rfl (by decide)).mpr h8)
                        refine lv_aload_n hx hb d_DiscMakerModel_components_214 rfl (lv_at hl 0 rfl) ?_
                        refine lv_iload_n hx hb d_DiscMakerModel_components_215 rfl (lv_at hl 2 rfl) ?_
                        refine lv_iload hx hb d_DiscMakerModel_components_216 (lv_at hl 4 rfl) ?_
                        refine lv_iadd hx hb d_DiscMakerModel_components_218 ?_
                        refine lv_topi (fun v185 e_v185 => ?_)
                        have t_v185 : v185.toInt = y.toInt + al.toInt := by rw [e_v185]; exact i_add rfl rfl (by omega) (by omega)
                        refine lv_iconst (v := 2) hx hb d_DiscMakerModel_components_219 (by decide) ?_
                        refine lv_iadd hx hb d_DiscMakerModel_components_220 ?_
                        refine lv_topi (fun v186 e_v186 => ?_)
                        have t_v186 : v186.toInt = v185.toInt + 2 := by rw [e_v186]; exact i_add rfl (by decide) (by omega) (by omega)
                        refine lv_iload hx hb d_DiscMakerModel_components_221 (lv_at hl 9 rfl) ?_
                        refine lv_iadd hx hb d_DiscMakerModel_components_223 ?_
                        refine lv_topi (fun v187 e_v187 => ?_)
                        have t_v187 : v187.toInt = v186.toInt + k9.toInt := by rw [e_v187]; exact i_add rfl rfl (by omega) (by omega)
                        refine lv_aload_n hx hb d_DiscMakerModel_components_224 rfl (lv_at hl 0 rfl) ?_
                        refine va_get (D := D) (ci := 11) (v := .ref (ma 10)) (C := "DiscMakerModel") (T := F_DiscMakerModel) (N := 48) hx hb ht9 in_DiscMakerModel hown hK hP 2 rfl rfl 13 (by decide) (ht9 _ k1444) (fun _ h9 => h9) rfl d_DiscMakerModel_components_225 ?_
                        refine lv_sipush (v := 200) hx hb d_DiscMakerModel_components_228 (by decide) ?_
                        refine lv_iload_n hx hb d_DiscMakerModel_components_231 rfl (lv_at hl 1 rfl) ?_
                        refine lv_imul hx hb d_DiscMakerModel_components_232 ?_
                        refine lv_topi (fun v188 e_v188 => ?_)
                        have t_v188 : v188.toInt = 200 * x.toInt := by rw [e_v188]; exact i_mul (by decide) rfl (by omega) (by omega)
                        refine lv_iload hx hb d_DiscMakerModel_components_233 (lv_at hl 5 rfl) ?_
                        refine lv_iadd hx hb d_DiscMakerModel_components_235 ?_
                        refine lv_topi (fun v189 e_v189 => ?_)
                        have t_v189 : v189.toInt = v188.toInt + lp.toInt := by rw [e_v189]; exact i_add rfl rfl (by omega) (by omega)
                        refine lv_iload hx hb d_DiscMakerModel_components_236 (lv_at hl 9 rfl) ?_
                        refine lv_iadd hx hb d_DiscMakerModel_components_238 ?_
                        refine lv_topi (fun v190 e_v190 => ?_)
                        have t_v190 : v190.toInt = v189.toInt + k9.toInt := by rw [e_v190]; exact i_add rfl rfl (by omega) (by omega)
                        refine va_bald hx hb hK hP 0 0 rfl rfl (vp_in_iff.mpr ⟨by omega, by omega⟩) d_DiscMakerModel_components_239 ?_
                        refine lv_topi (fun v191 e_v191 => ?_)
                        have hPc := hP.sub (ws' := [(h0, .inr (11, MO ma sv_thrown sv_length sv_nodes sv_many sv_directories sv_runsFrom sv_runs sv_read sv_wrong sv_isNamed sv_goes sv_goesSize sv_goesAt sv_targetParts sv_isRoot)), ((ma 16), .inl (cJ, 46080, .inr (.inl nF)))]) [2, 3] rfl
                        have hDc := hD.sub (ws' := [(h0, .inr (11, MO ma sv_thrown sv_length sv_nodes sv_many sv_directories sv_runsFrom sv_runs sv_read sv_wrong sv_isNamed sv_goes sv_goesSize sv_goesAt sv_targetParts sv_isRoot)), ((ma 16), .inl (cJ, 46080, .inr (.inl nF)))]) [2, 3] (by decide) rfl
                        have hFc := va_free (wc := [(h0, .inr (11, MO ma sv_thrown sv_length sv_nodes sv_many sv_directories sv_runsFrom sv_runs sv_read sv_wrong sv_isNamed sv_goes sv_goesSize sv_goesAt sv_targetParts sv_isRoot)), ((ma 16), .inl (cJ, 46080, .inr (.inl nF)))]) hD hS hA [2, 3] rfl
                        have hkc : 0 ≤ 0 := by decide
                        have hks : 0 ≤ 0 := by decide
                        refine va_callv (va_runV (C := "DiscMakerModel") (As := [.int v187, .int v191]) (rest := []) ⟨hx, hb, hml, hown, hts⟩ (m_set l D cB cI cJ cZ cN cF H.size h0 ma sv_thrown sv_length sv_nodes sv_many sv_directories sv_runsFrom sv_runs sv_read sv_wrong sv_isNamed sv_goes sv_goesSize sv_goesAt sv_targetParts sv_isRoot nF v187 v191 (by (try dsimp only); first | assumption | omega | trivial) (by (try dsimp only); first | assumption | omega | trivial)) (cwV 2 hts (lg_goodV k1727 k1729 k79 k125 kc_DiscMakerModel_set) rfl rfl rfl (by decide +kernel) ⟨Nat.le_of_ble_eq_true rfl, Nat.le_of_ble_eq_true rfl⟩) ⟨fun a U g mk q => by obtain ⟨q0, q1, qP, qK, qN, qD⟩ := q; exact ⟨q0, q1, qP, va_K.moved (u := U) (U := U.calling g mk a) (Vm.Alike.refl U.vm) qK, qN.calling, qD⟩, va_recv hK hP (ci := 11) (q0 := 2) rfl rfl, fun U hU hW => ⟨rfl, by rw [hU], by rw [hU]; exact hPc, va_K.moved hW.alike hK, NN.warm hW hN, hDc.weaken (fun _ _ _ _ => trivial)⟩⟩ rfl rfl hl.1 rfl (lv_room (Nat.le_of_ble_eq_true rfl)) d_DiscMakerModel_components_240 ⟨hkc, hks⟩) hS (fun q _ h => hFc q h) hFc (fun u t H1 locs ht hvm hp_r192 hB hz1 hk1 hS => ?_)
                        obtain ⟨G_193, rfl⟩ : ∃ z, z = u := ⟨_, rfl⟩
                        obtain ⟨hP1, hD1⟩ := hB
                        rw [ht] at hP1
                        obtain ⟨hP, hD⟩ := va_join (wr := [((ma 10), .inl (cB, 8000, .inl fT)), ((ma 11), .inl (cI, 40, .inl fTS))]) (w1 := [(h0, .inr (11, MO ma sv_thrown sv_length sv_nodes sv_many sv_directories sv_runsFrom sv_runs sv_read sv_wrong sv_isNamed sv_goes sv_goesSize sv_goesAt sv_targetParts sv_isRoot)), ((ma 16), .inl (cJ, 46080, .inr (.inl G_193)))]) hP hD [2, 3] [0, 1] rfl rfl (by decide) (by decide) hk1 hFc hP1 hD1
                        clear hPc hDc hFc hP1 hD1 hk1 hz1
                        generalize H1 = H at hP hS ⊢
                        have hP : va_P D CL [((ma 10), .inl (cB, 8000, .inl fT)), ((ma 11), .inl (cI, 40, .inl fTS)), (h0, .inr (11, MO ma sv_thrown sv_length sv_nodes sv_many sv_directories sv_runsFrom sv_runs sv_read sv_wrong sv_isNamed sv_goes sv_goesSize sv_goesAt sv_targetParts sv_isRoot)), ((ma 16), .inl (cJ, 46080, .inr (.inl G_193)))] H := hP
                        have hD : va_D A [((ma 10), .inl (cB, 8000, .inl fT)), ((ma 11), .inl (cI, 40, .inl fTS)), (h0, .inr (11, MO ma sv_thrown sv_length sv_nodes sv_many sv_directories sv_runsFrom sv_runs sv_read sv_wrong sv_isNamed sv_goes sv_goesSize sv_goesAt sv_targetParts sv_isRoot)), ((ma 16), .inl (cJ, 46080, .inr (.inl G_193)))] := hD
                        obtain ⟨v194, e_v194⟩ : ∃ z : Int32, z = k9 + 1 := ⟨_, rfl⟩
                        refine lv_iinc (v := v194) hx hb d_DiscMakerModel_components_243 hl (k := 9) rfl e_v194.symm (by decide) rfl (fun ls hl => ?_)
                        have t_v194 : v194.toInt = k9.toInt + 1 := by rw [e_v194]; exact i_add rfl (by decide) (by omega) (by omega)
                        have hl : lv_has ls 10 [(9, .int v194), (0, .ref h0), (1, .int x), (2, .int y), (3, .int v1), (4, .int al), (5, .int lp), (6, .int lq), (7, .int 2), (8, .int 0)] := hl
                        refine lv_goto (tgt := 203) hx hb d_DiscMakerModel_components_246 (by decide) ?_
                        have hP := hP.sub (ws' := [((ma 10), .inl (cB, 8000, .inl fT)), ((ma 11), .inl (cI, 40, .inl fTS)), (h0, .inr (11, MO ma sv_thrown sv_length sv_nodes sv_many sv_directories sv_runsFrom sv_runs sv_read sv_wrong sv_isNamed sv_goes sv_goesSize sv_goesAt sv_targetParts sv_isRoot)), ((ma 16), .inl (cJ, 46080, .inr (.inl G_193)))]) [0, 1, 2, 3] rfl
                        have hD := hD.sub (ws' := [((ma 10), .inl (cB, 8000, .inl fT)), ((ma 11), .inl (cI, 40, .inl fTS)), (h0, .inr (11, MO ma sv_thrown sv_length sv_nodes sv_many sv_directories sv_runsFrom sv_runs sv_read sv_wrong sv_isNamed sv_goes sv_goesSize sv_goesAt sv_targetParts sv_isRoot)), ((ma 16), .inl (cJ, 46080, .inr (.inl G_193)))]) [0, 1, 2, 3] (by decide) rfl
                        have hl := lv_sub hl [1, 2, 3, 4, 5, 6, 7, 8, 9, 0] rfl
                        exact ih203 (_) (by first | omega | (dsimp only; omega)) _ _ _ _ ⟨v194, G_193, rfl, rfl, (by (try dsimp only); first | assumption | omega | trivial), hP, hD, hS, hl⟩
                  · skip
                    intro kk203
                    have hP := hP.sub (ws' := [((ma 10), .inl (cB, 8000, .inl fT)), ((ma 11), .inl (cI, 40, .inl fTS)), (h0, .inr (11, MO ma sv_thrown sv_length sv_nodes sv_many sv_directories sv_runsFrom sv_runs sv_read sv_wrong sv_isNamed sv_goes sv_goesSize sv_goesAt sv_targetParts sv_isRoot)), ((ma 16), .inl (cJ, 46080, .inr (.inl G_180)))]) [0, 1, 2, 3] rfl
                    have hD := hD.sub (ws' := [((ma 10), .inl (cB, 8000, .inl fT)), ((ma 11), .inl (cI, 40, .inl fTS)), (h0, .inr (11, MO ma sv_thrown sv_length sv_nodes sv_many sv_directories sv_runsFrom sv_runs sv_read sv_wrong sv_isNamed sv_goes sv_goesSize sv_goesAt sv_targetParts sv_isRoot)), ((ma 16), .inl (cJ, 46080, .inr (.inl G_180)))]) [0, 1, 2, 3] (by decide) rfl
                    have hl := lv_sub hl [3, 4, 5, 6, 7, 8, 9, 2, 1, 0] rfl
                    exact kk203 _ _ _ _ _ ⟨0, G_180, rfl, rfl, (by (try dsimp only); first | assumption | omega | trivial), hP, hD, hS, hl⟩
          · skip
            intro kk81
            refine lv_iload_n hx hb d_DiscMakerModel_components_53 rfl (lv_at hl 3 rfl) ?_
            refine lv_icmp_ge (tgt := 81) hx hb d_DiscMakerModel_components_54 (by decide) (fun h_9 => ?_) (fun h_9 => ?_)
            · skip
              have g54_781 : v1.toInt ≤ lq.toInt := (i_le rfl rfl).mp h_9
              have hP := hP.sub (ws' := [(h0, .inr (11, MO ma sv_thrown sv_length sv_nodes sv_many sv_directories sv_runsFrom sv_runs sv_read sv_wrong sv_isNamed sv_goes sv_goesSize sv_goesAt sv_targetParts sv_isRoot)), ((ma 16), .inl (cJ, 46080, .inr (.inl lF))), ((ma 10), .inl (cB, 8000, .inl fT)), ((ma 11), .inl (cI, 40, .inl fTS))]) [0, 1, 2, 3] rfl
              have hD := hD.sub (ws' := [(h0, .inr (11, MO ma sv_thrown sv_length sv_nodes sv_many sv_directories sv_runsFrom sv_runs sv_read sv_wrong sv_isNamed sv_goes sv_goesSize sv_goesAt sv_targetParts sv_isRoot)), ((ma 16), .inl (cJ, 46080, .inr (.inl lF))), ((ma 10), .inl (cB, 8000, .inl fT)), ((ma 11), .inl (cI, 40, .inl fTS))]) [0, 1, 2, 3] (by decide) rfl
              have hl := lv_sub hl [0, 1, 2, 3, 4, 5, 6] rfl
              exact kk81 _ _ _ _ _ ⟨rfl, rfl, (by rw [← g2]; exact nxS_end (by first | exact Or.inl (by omega) | exact Or.inr (by omega))), hP, hD, hS, hl⟩
            · skip
              have g54_781 : ¬ v1.toInt ≤ lq.toInt := fun h8 => h_9 ((i_le rfl rfl).mpr h8)
              refine lv_aload_n hx hb d_DiscMakerModel_components_57 rfl (lv_at hl 0 rfl) ?_
              refine va_get (D := D) (ci := 11) (v := .ref (ma 10)) (C := "DiscMakerModel") (T := F_DiscMakerModel) (N := 48) hx hb ht9 in_DiscMakerModel hown hK hP 0 rfl rfl 13 (by decide) (ht9 _ k1444) (fun _ h9 => h9) rfl d_DiscMakerModel_components_58 ?_
              refine lv_sipush (v := 200) hx hb d_DiscMakerModel_components_61 (by decide) ?_
              refine lv_iload_n hx hb d_DiscMakerModel_components_64 rfl (lv_at hl 1 rfl) ?_
              refine lv_imul hx hb d_DiscMakerModel_components_65 ?_
              refine lv_topi (fun v195 e_v195 => ?_)
              have t_v195 : v195.toInt = 200 * x.toInt := by rw [e_v195]; exact i_mul (by decide) rfl (by omega) (by omega)
              refine lv_iload hx hb d_DiscMakerModel_components_66 (lv_at hl 6 rfl) ?_
              refine lv_iadd hx hb d_DiscMakerModel_components_68 ?_
              refine lv_topi (fun v196 e_v196 => ?_)
              have t_v196 : v196.toInt = v195.toInt + lq.toInt := by rw [e_v196]; exact i_add rfl rfl (by omega) (by omega)
              refine va_bald hx hb hK hP 2 0 rfl rfl (vp_in_iff.mpr ⟨by omega, by omega⟩) d_DiscMakerModel_components_69 ?_
              refine lv_topi (fun v197 e_v197 => ?_)
              have c_v197 := i_cl (a := v196) (by omega)
              have e2_v197 : v197 = fT (200 * x.toNatClampNeg + lq.toNatClampNeg) := by rw [e_v197, show v196.toNatClampNeg = 200 * x.toNatClampNeg + lq.toNatClampNeg by omega]
              have qtv197 : (tgF fT x.toNatClampNeg (lq.toNatClampNeg)).toInt = v197.toInt := by unfold tgF; rw [e2_v197]
              refine lv_bipush (v := 47) hx hb d_DiscMakerModel_components_70 (by decide) ?_
              refine lv_icmp_eq (tgt := 81) hx hb d_DiscMakerModel_components_72 (by decide) (fun h_9 => ?_) (fun h_9 => ?_)
              · skip
                have g72_792 : v197.toInt = 47 := (i_eq rfl (by decide)).mp h_9
                have hP := hP.sub (ws' := [(h0, .inr (11, MO ma sv_thrown sv_length sv_nodes sv_many sv_directories sv_runsFrom sv_runs sv_read sv_wrong sv_isNamed sv_goes sv_goesSize sv_goesAt sv_targetParts sv_isRoot)), ((ma 16), .inl (cJ, 46080, .inr (.inl lF))), ((ma 10), .inl (cB, 8000, .inl fT)), ((ma 11), .inl (cI, 40, .inl fTS))]) [0, 1, 2, 3] rfl
                have hD := hD.sub (ws' := [(h0, .inr (11, MO ma sv_thrown sv_length sv_nodes sv_many sv_directories sv_runsFrom sv_runs sv_read sv_wrong sv_isNamed sv_goes sv_goesSize sv_goesAt sv_targetParts sv_isRoot)), ((ma 16), .inl (cJ, 46080, .inr (.inl lF))), ((ma 10), .inl (cB, 8000, .inl fT)), ((ma 11), .inl (cI, 40, .inl fTS))]) [0, 1, 2, 3] (by decide) rfl
                have hl := lv_sub hl [0, 1, 2, 3, 4, 5, 6] rfl
                exact kk81 _ _ _ _ _ ⟨rfl, rfl, (by rw [← g2]; exact nxS_end (by first | exact Or.inl (by omega) | exact Or.inr (by omega))), hP, hD, hS, hl⟩
              · skip
                have g72_792 : ¬ v197.toInt = 47 := fun h8 => h_9 ((i_eq rfl (by decide)).mpr h8)
                obtain ⟨v198, e_v198⟩ : ∃ z : Int32, z = lq + 1 := ⟨_, rfl⟩
                refine lv_iinc (v := v198) hx hb d_DiscMakerModel_components_75 hl (k := 6) rfl e_v198.symm (by decide) rfl (fun ls hl => ?_)
                have t_v198 : v198.toInt = lq.toInt + 1 := by rw [e_v198]; exact i_add rfl (by decide) (by omega) (by omega)
                have hl : lv_has ls 10 [(6, .int v198), (0, .ref h0), (1, .int x), (2, .int y), (3, .int v1), (4, .int al), (5, .int lp)] := hl
                refine lv_goto (tgt := 51) hx hb d_DiscMakerModel_components_78 (by decide) ?_
                have hP := hP.sub (ws' := [(h0, .inr (11, MO ma sv_thrown sv_length sv_nodes sv_many sv_directories sv_runsFrom sv_runs sv_read sv_wrong sv_isNamed sv_goes sv_goesSize sv_goesAt sv_targetParts sv_isRoot)), ((ma 16), .inl (cJ, 46080, .inr (.inl lF))), ((ma 10), .inl (cB, 8000, .inl fT)), ((ma 11), .inl (cI, 40, .inl fTS))]) [0, 1, 2, 3] rfl
                have hD := hD.sub (ws' := [(h0, .inr (11, MO ma sv_thrown sv_length sv_nodes sv_many sv_directories sv_runsFrom sv_runs sv_read sv_wrong sv_isNamed sv_goes sv_goesSize sv_goesAt sv_targetParts sv_isRoot)), ((ma 16), .inl (cJ, 46080, .inr (.inl lF))), ((ma 10), .inl (cB, 8000, .inl fT)), ((ma 11), .inl (cI, 40, .inl fTS))]) [0, 1, 2, 3] (by decide) rfl
                have hl := lv_sub hl [1, 2, 3, 4, 5, 6, 0] rfl
                exact ih51 (_) (by first | omega | (dsimp only; omega)) _ _ _ _ ⟨v198, rfl, rfl, (by (try dsimp only); first | assumption | omega | trivial), (by have h1 := i_cl (a := v198) (by omega); rw [show v198.toNatClampNeg = lq.toNatClampNeg + 1 by omega, ← nxS_go (by omega) (by omega)]; exact g2), hP, hD, hS, hl⟩
        · skip
          intro kk51
          have hP := hP.sub (ws' := [(h0, .inr (11, MO ma sv_thrown sv_length sv_nodes sv_many sv_directories sv_runsFrom sv_runs sv_read sv_wrong sv_isNamed sv_goes sv_goesSize sv_goesAt sv_targetParts sv_isRoot)), ((ma 16), .inl (cJ, 46080, .inr (.inl lF))), ((ma 10), .inl (cB, 8000, .inl fT)), ((ma 11), .inl (cI, 40, .inl fTS))]) [0, 1, 2, 3] rfl
          have hD := hD.sub (ws' := [(h0, .inr (11, MO ma sv_thrown sv_length sv_nodes sv_many sv_directories sv_runsFrom sv_runs sv_read sv_wrong sv_isNamed sv_goes sv_goesSize sv_goesAt sv_targetParts sv_isRoot)), ((ma 16), .inl (cJ, 46080, .inr (.inl lF))), ((ma 10), .inl (cB, 8000, .inl fT)), ((ma 11), .inl (cI, 40, .inl fTS))]) [0, 1, 2, 3] (by decide) rfl
          have hl := lv_sub hl [1, 2, 3, 4, 5, 6, 0] rfl
          exact kk51 _ _ _ _ _ ⟨lp, rfl, rfl, (by (try dsimp only); first | assumption | omega | trivial), rfl, hP, hD, hS, hl⟩
    · skip
      intro kk41
      have hP := hP.sub (ws' := [(h0, .inr (11, MO ma sv_thrown sv_length sv_nodes sv_many sv_directories sv_runsFrom sv_runs sv_read sv_wrong sv_isNamed sv_goes sv_goesSize sv_goesAt sv_targetParts sv_isRoot)), ((ma 16), .inl (cJ, 46080, .inr (.inl jF))), ((ma 10), .inl (cB, 8000, .inl fT)), ((ma 11), .inl (cI, 40, .inl fTS))]) [0, 1, 2, 3] rfl
      have hD := hD.sub (ws' := [(h0, .inr (11, MO ma sv_thrown sv_length sv_nodes sv_many sv_directories sv_runsFrom sv_runs sv_read sv_wrong sv_isNamed sv_goes sv_goesSize sv_goesAt sv_targetParts sv_isRoot)), ((ma 16), .inl (cJ, 46080, .inr (.inl jF))), ((ma 10), .inl (cB, 8000, .inl fT)), ((ma 11), .inl (cI, 40, .inl fTS))]) [0, 1, 2, 3] (by decide) rfl
      have hl := lv_sub hl [1, 2, 3, 4, 5, 0] rfl
      exact kk41 _ _ _ _ _ ⟨aj, 0, jF, rfl, rfl, (by (try dsimp only); first | assumption | omega | trivial), (by (try dsimp only); first | assumption | omega | trivial), (by rw [show (0 : Int32).toNatClampNeg = 0 by decide]; exact fj), hP, hD, hS, hl⟩
  · skip
    intro kk38
    refine lv_bipush (v := 47) hx hb d_DiscMakerModel_components_20 (by decide) ?_
    refine lv_icmp_ne (tgt := 38) hx hb d_DiscMakerModel_components_22 (by decide) (fun h_9 => ?_) (fun h_9 => ?_)
    · skip
      have g22_798 : ¬ v3.toInt = 47 := fun h8 => h_9 ((i_eq rfl (by decide)).mpr h8)
      have hP := hP.sub (ws' := [(h0, .inr (11, MO ma sv_thrown sv_length sv_nodes sv_many sv_directories sv_runsFrom sv_runs sv_read sv_wrong sv_isNamed sv_goes sv_goesSize sv_goesAt sv_targetParts sv_isRoot)), ((ma 16), .inl (cJ, 46080, .inr (.inl F))), ((ma 10), .inl (cB, 8000, .inl fT)), ((ma 11), .inl (cI, 40, .inl fTS))]) [0, 1, 2, 3] rfl
      have hD := hD.sub (ws' := [(h0, .inr (11, MO ma sv_thrown sv_length sv_nodes sv_many sv_directories sv_runsFrom sv_runs sv_read sv_wrong sv_isNamed sv_goes sv_goesSize sv_goesAt sv_targetParts sv_isRoot)), ((ma 16), .inl (cJ, 46080, .inr (.inl F))), ((ma 10), .inl (cB, 8000, .inl fT)), ((ma 11), .inl (cI, 40, .inl fTS))]) [0, 1, 2, 3] (by decide) rfl
      have hl := lv_sub hl [2, 3, 4, 1, 0] rfl
      exact kk38 _ _ _ _ _ ⟨0, F, rfl, rfl, (by (try dsimp only); first | assumption | omega | trivial), (by unfold cmF; rw [if_neg (by omega)]; rfl), hP, hD, hS, hl⟩
    · skip
      have g22_798 : v3.toInt = 47 := (i_eq rfl (by decide)).mp h_9
      refine lv_aload_n hx hb d_DiscMakerModel_components_25 rfl (lv_at hl 2 rfl) ?_
      refine lv_iload_n hx hb d_DiscMakerModel_components_26 rfl (lv_at hl 4 rfl) ?_
      refine lv_iload hx hb d_DiscMakerModel_components_27 (lv_at hl 0 rfl) ?_
      refine lv_bipush (v := 8) hx hb d_DiscMakerModel_components_29 (by decide) ?_
      refine lv_iconst (v := 0) hx hb d_DiscMakerModel_components_31 (by decide) ?_
      have hPc := hP.sub (ws' := [(h0, .inr (11, MO ma sv_thrown sv_length sv_nodes sv_many sv_directories sv_runsFrom sv_runs sv_read sv_wrong sv_isNamed sv_goes sv_goesSize sv_goesAt sv_targetParts sv_isRoot)), ((ma 16), .inl (cJ, 46080, .inr (.inl F)))]) [0, 1] rfl
      have hDc := hD.sub (ws' := [(h0, .inr (11, MO ma sv_thrown sv_length sv_nodes sv_many sv_directories sv_runsFrom sv_runs sv_read sv_wrong sv_isNamed sv_goes sv_goesSize sv_goesAt sv_targetParts sv_isRoot)), ((ma 16), .inl (cJ, 46080, .inr (.inl F)))]) [0, 1] (by decide) rfl
      have hFc := va_free (wc := [(h0, .inr (11, MO ma sv_thrown sv_length sv_nodes sv_many sv_directories sv_runsFrom sv_runs sv_read sv_wrong sv_isNamed sv_goes sv_goesSize sv_goesAt sv_targetParts sv_isRoot)), ((ma 16), .inl (cJ, 46080, .inr (.inl F)))]) hD hS hA [0, 1] rfl
      have hkc : 0 ≤ 0 := by decide
      have hks : 0 ≤ 0 := by decide
      refine va_callv (va_runV (C := "DiscMakerModel") (As := [.int y, .int 0, .int 8, .int 0]) (rest := []) ⟨hx, hb, hml, hown, hts⟩ (m_mark l D cB cI cJ cZ cN cF s.heap.size h0 ma sv_thrown sv_length sv_nodes sv_many sv_directories sv_runsFrom sv_runs sv_read sv_wrong sv_isNamed sv_goes sv_goesSize sv_goesAt sv_targetParts sv_isRoot F y 0 8 0 (by (try dsimp only); first | assumption | omega | trivial)) (cwV 4 hts (lg_goodV k1723 k1725 k78 k125 kc_DiscMakerModel_mark) rfl rfl rfl (by decide +kernel) ⟨Nat.le_of_ble_eq_true rfl, Nat.le_of_ble_eq_true rfl⟩) ⟨fun a U g mk q => by obtain ⟨q0, q1, qP, qK, qN, qD⟩ := q; exact ⟨q0, q1, qP, va_K.moved (u := U) (U := U.calling g mk a) (Vm.Alike.refl U.vm) qK, qN.calling, qD⟩, va_recv hK hP (ci := 11) (q0 := 0) rfl rfl, fun U hU hW => ⟨rfl, by rw [hU], by rw [hU]; exact hPc, va_K.moved hW.alike hK, NN.warm hW hN, hDc.weaken (fun _ _ _ _ => trivial)⟩⟩ rfl rfl hl.1 rfl (lv_room (Nat.le_of_ble_eq_true rfl)) d_DiscMakerModel_components_32 ⟨hkc, hks⟩) hS (fun q _ h => hFc q h) hFc (fun u t H1 locs ht hvm hp_r199 hB hz1 hk1 hS => ?_)
      obtain ⟨G_200, rfl⟩ : ∃ z, z = u := ⟨_, rfl⟩
      obtain ⟨hP1, hD1⟩ := hB
      rw [ht] at hP1
      obtain ⟨hP, hD⟩ := va_join (wr := [((ma 10), .inl (cB, 8000, .inl fT)), ((ma 11), .inl (cI, 40, .inl fTS))]) (w1 := [(h0, .inr (11, MO ma sv_thrown sv_length sv_nodes sv_many sv_directories sv_runsFrom sv_runs sv_read sv_wrong sv_isNamed sv_goes sv_goesSize sv_goesAt sv_targetParts sv_isRoot)), ((ma 16), .inl (cJ, 46080, .inr (.inl G_200)))]) hP hD [0, 1] [2, 3] rfl rfl (by decide) (by decide) hk1 hFc hP1 hD1
      clear hPc hDc hFc hP1 hD1 hk1 hz1
      generalize H1 = H at hP hS ⊢
      have hP : va_P D CL [((ma 10), .inl (cB, 8000, .inl fT)), ((ma 11), .inl (cI, 40, .inl fTS)), (h0, .inr (11, MO ma sv_thrown sv_length sv_nodes sv_many sv_directories sv_runsFrom sv_runs sv_read sv_wrong sv_isNamed sv_goes sv_goesSize sv_goesAt sv_targetParts sv_isRoot)), ((ma 16), .inl (cJ, 46080, .inr (.inl G_200)))] H := hP
      have hD : va_D A [((ma 10), .inl (cB, 8000, .inl fT)), ((ma 11), .inl (cI, 40, .inl fTS)), (h0, .inr (11, MO ma sv_thrown sv_length sv_nodes sv_many sv_directories sv_runsFrom sv_runs sv_read sv_wrong sv_isNamed sv_goes sv_goesSize sv_goesAt sv_targetParts sv_isRoot)), ((ma 16), .inl (cJ, 46080, .inr (.inl G_200)))] := hD
      refine lv_iinc (v := 2) hx hb d_DiscMakerModel_components_35 hl (k := 0) rfl (by decide) (by decide) rfl (fun ls hl => ?_)
      have hl : lv_has ls 10 [(4, .int 2), (3, .int v1), (0, .ref h0), (1, .int x), (2, .int y)] := hl
      have hP := hP.sub (ws' := [(h0, .inr (11, MO ma sv_thrown sv_length sv_nodes sv_many sv_directories sv_runsFrom sv_runs sv_read sv_wrong sv_isNamed sv_goes sv_goesSize sv_goesAt sv_targetParts sv_isRoot)), ((ma 16), .inl (cJ, 46080, .inr (.inl G_200))), ((ma 10), .inl (cB, 8000, .inl fT)), ((ma 11), .inl (cI, 40, .inl fTS))]) [2, 3, 0, 1] rfl
      have hD := hD.sub (ws' := [(h0, .inr (11, MO ma sv_thrown sv_length sv_nodes sv_many sv_directories sv_runsFrom sv_runs sv_read sv_wrong sv_isNamed sv_goes sv_goesSize sv_goesAt sv_targetParts sv_isRoot)), ((ma 16), .inl (cJ, 46080, .inr (.inl G_200))), ((ma 10), .inl (cB, 8000, .inl fT)), ((ma 11), .inl (cI, 40, .inl fTS))]) [2, 3, 0, 1] (by decide) rfl
      have hl := lv_sub hl [2, 3, 4, 1, 0] rfl
      exact kk38 _ _ _ _ _ ⟨2, G_200, rfl, rfl, (by (try dsimp only); first | assumption | omega | trivial), (by unfold cmF; rw [if_pos (by omega)]; rfl), hP, hD, hS, hl⟩
